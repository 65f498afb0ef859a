set_option maxRecDepth 8000 in
theorem st184_0 (kz : am_Z) (d : Nat) (x0 : Int) (U : Nat → Nat → Int) (R : Option am_V × am_M) (h : (((x0 < 97 : Prop)) → R = (some (.inl 0), (am_sh, am_mm U))) ∧ (¬ (x0 < 97) → (((122 < x0 : Prop)) → R = (some (.inl 0), (am_sh, am_mm U))) ∧ (¬ (122 < x0) → R = (some (.inl 1), (am_sh, am_mm U))))) : Ev kz (d, 184, 0, [some (.inl x0)], [], (am_sh, am_mm U)) R := by
  refine ev_br (P := x0 < 97) (σ1 := (d, 184, 16, [some (.inl x0)], [], (am_sh, am_mm U))) (σ2 := (d, 184, 6, [some (.inl x0)], [], (am_sh, am_mm U))) 3 (fun _ => rfl) (fun hc => ?_) (fun hc => ?_)
  · have h1 := h.1 hc
    subst h1
    exact ev_end 2 (fun _ => rfl)
  · have h2 := h.2 hc
    refine ev_br (P := 122 < x0) (σ1 := (d, 184, 16, [some (.inl x0)], [], (am_sh, am_mm U))) (σ2 := (d, 184, 12, [some (.inl x0)], [], (am_sh, am_mm U))) 3 (fun _ => rfl) (fun hc => ?_) (fun hc => ?_)
    · have h21 := h2.1 hc
      subst h21
      exact ev_end 2 (fun _ => rfl)
    · have h22 := h2.2 hc
      subst h22
      exact ev_end 3 (fun _ => rfl)
set_option maxRecDepth 8000 in
theorem st185_0 (kz : am_Z) (d : Nat) (x0 : Int) (U : Nat → Nat → Int) (R : Option am_V × am_M) (h : (((x0 < 48 : Prop)) → R = (some (.inl 0), (am_sh, am_mm U))) ∧ (¬ (x0 < 48) → (((57 < x0 : Prop)) → R = (some (.inl 0), (am_sh, am_mm U))) ∧ (¬ (57 < x0) → R = (some (.inl 1), (am_sh, am_mm U))))) : Ev kz (d, 185, 0, [some (.inl x0)], [], (am_sh, am_mm U)) R := by
  refine ev_br (P := x0 < 48) (σ1 := (d, 185, 16, [some (.inl x0)], [], (am_sh, am_mm U))) (σ2 := (d, 185, 6, [some (.inl x0)], [], (am_sh, am_mm U))) 3 (fun _ => rfl) (fun hc => ?_) (fun hc => ?_)
  · have h1 := h.1 hc
    subst h1
    exact ev_end 2 (fun _ => rfl)
  · have h2 := h.2 hc
    refine ev_br (P := 57 < x0) (σ1 := (d, 185, 16, [some (.inl x0)], [], (am_sh, am_mm U))) (σ2 := (d, 185, 12, [some (.inl x0)], [], (am_sh, am_mm U))) 3 (fun _ => rfl) (fun hc => ?_) (fun hc => ?_)
    · have h21 := h2.1 hc
      subst h21
      exact ev_end 2 (fun _ => rfl)
    · have h22 := h2.2 hc
      subst h22
      exact ev_end 3 (fun _ => rfl)
set_option maxRecDepth 8000 in
theorem st198_86_0 (kz : am_Z) (d : Nat) (x1 : Int) (U : Nat → Nat → Int) (R : Option am_V × am_M) (h : ∃ U1 : Nat → Nat → Int, Ev kz (d, 186, 0, [some (.inr (.inr 86))], [], (am_sh, am_mm U)) (none, (am_sh, am_mm U1)) ∧ ∃ (r2 : Int) (U2 : Nat → Nat → Int), Ev kz (d, 197, 0, [some (.inr (.inr 86)), some (.inl x1)], [], (am_sh, am_mm U1)) (some (.inl r2), (am_sh, am_mm U2)) ∧ (((¬ r2 = 0 : Prop)) → (((¬ (U2 86 8) = 0 : Prop)) → R = (none, (am_sh, am_mm U2))) ∧ (¬ (¬ (U2 86 8) = 0) → ∃ U3 : Nat → Nat → Int, Ev kz (d, 93, 0, [some (.inr (.inr 86)), none, none, none, none, none], [], (am_sh, am_mm U2)) (none, (am_sh, am_mm U3)) ∧ R = (none, (am_sh, am_mm U3)))) ∧ (¬ (¬ r2 = 0) → ∃ U4 : Nat → Nat → Int, Ev kz (d, 196, 0, [some (.inr (.inr 86)), some (.inl 1), some (.inl (U2 86 4))], [], (am_sh, am_mm U2)) (none, (am_sh, am_mm U4)) ∧ (((¬ (U4 86 8) = 0 : Prop)) → R = (none, (am_sh, am_mm U4))) ∧ (¬ (¬ (U4 86 8) = 0) → ∃ U5 : Nat → Nat → Int, Ev kz (d, 93, 0, [some (.inr (.inr 86)), none, none, none, none, none], [], (am_sh, am_mm U4)) (none, (am_sh, am_mm U5)) ∧ R = (none, (am_sh, am_mm U5))))) : Ev kz ((d + 1), 198, 0, [some (.inr (.inr 86)), some (.inl x1)], [], (am_sh, am_mm U)) R := by
  refine ev_seg (σ1 := ((d + 1), 198, 1, [some (.inr (.inr 86)), some (.inl x1)], [.inr (.inr 86)], (am_sh, am_mm U))) 1 (fun _ => rfl) ?_
  obtain ⟨U1, hc, ha⟩ := h
  refine ev_cal (σc := (d, 186, 0, [some (.inr (.inr 86))], [], (am_sh, am_mm U))) (fun _ => rfl) hc ?_
  show Ev kz ((d + 1), 198, 4, [some (.inr (.inr 86)), some (.inl x1)], [], (am_sh, am_mm U1)) R
  refine ev_seg (σ1 := ((d + 1), 198, 6, [some (.inr (.inr 86)), some (.inl x1)], [.inl x1, .inr (.inr 86)], (am_sh, am_mm U1))) 2 (fun _ => rfl) ?_
  obtain ⟨r2, U2, hac, haa⟩ := ha
  refine ev_cal (σc := (d, 197, 0, [some (.inr (.inr 86)), some (.inl x1)], [], (am_sh, am_mm U1))) (fun _ => rfl) hac ?_
  show Ev kz ((d + 1), 198, 9, [some (.inr (.inr 86)), some (.inl x1)], [.inl r2], (am_sh, am_mm U2)) R
  refine ev_br (P := ¬ r2 = 0) (σ1 := ((d + 1), 198, 21, [some (.inr (.inr 86)), some (.inl x1)], [], (am_sh, am_mm U2))) (σ2 := ((d + 1), 198, 12, [some (.inr (.inr 86)), some (.inl x1)], [], (am_sh, am_mm U2))) 1 (fun _ => rfl) (fun hc => ?_) (fun hc => ?_)
  · have haa1 := haa.1 hc
    refine ev_br (P := ¬ (U2 86 8) = 0) (σ1 := ((d + 1), 198, 32, [some (.inr (.inr 86)), some (.inl x1)], [], (am_sh, am_mm U2))) (σ2 := ((d + 1), 198, 28, [some (.inr (.inr 86)), some (.inl x1)], [], (am_sh, am_mm U2))) 3 (fun _ => rfl) (fun hc => ?_) (fun hc => ?_)
    · have haa11 := haa1.1 hc
      subst haa11
      exact ev_end 1 (fun _ => rfl)
    · have haa12 := haa1.2 hc
      refine ev_seg (σ1 := ((d + 1), 198, 29, [some (.inr (.inr 86)), some (.inl x1)], [.inr (.inr 86)], (am_sh, am_mm U2))) 1 (fun _ => rfl) ?_
      obtain ⟨U3, haa12c, haa12a⟩ := haa12
      refine ev_cal (σc := (d, 93, 0, [some (.inr (.inr 86)), none, none, none, none, none], [], (am_sh, am_mm U2))) (fun _ => rfl) haa12c ?_
      show Ev kz ((d + 1), 198, 32, [some (.inr (.inr 86)), some (.inl x1)], [], (am_sh, am_mm U3)) R
      subst haa12a
      exact ev_end 1 (fun _ => rfl)
  · have haa2 := haa.2 hc
    refine ev_seg (σ1 := ((d + 1), 198, 18, [some (.inr (.inr 86)), some (.inl x1)], [.inl (U2 86 4), .inl 1, .inr (.inr 86)], (am_sh, am_mm U2))) 4 (fun _ => rfl) ?_
    obtain ⟨U4, haa2c, haa2a⟩ := haa2
    refine ev_cal (σc := (d, 196, 0, [some (.inr (.inr 86)), some (.inl 1), some (.inl (U2 86 4))], [], (am_sh, am_mm U2))) (fun _ => rfl) haa2c ?_
    show Ev kz ((d + 1), 198, 21, [some (.inr (.inr 86)), some (.inl x1)], [], (am_sh, am_mm U4)) R
    refine ev_br (P := ¬ (U4 86 8) = 0) (σ1 := ((d + 1), 198, 32, [some (.inr (.inr 86)), some (.inl x1)], [], (am_sh, am_mm U4))) (σ2 := ((d + 1), 198, 28, [some (.inr (.inr 86)), some (.inl x1)], [], (am_sh, am_mm U4))) 3 (fun _ => rfl) (fun hc => ?_) (fun hc => ?_)
    · have haa2a1 := haa2a.1 hc
      subst haa2a1
      exact ev_end 1 (fun _ => rfl)
    · have haa2a2 := haa2a.2 hc
      refine ev_seg (σ1 := ((d + 1), 198, 29, [some (.inr (.inr 86)), some (.inl x1)], [.inr (.inr 86)], (am_sh, am_mm U4))) 1 (fun _ => rfl) ?_
      obtain ⟨U5, haa2a2c, haa2a2a⟩ := haa2a2
      refine ev_cal (σc := (d, 93, 0, [some (.inr (.inr 86)), none, none, none, none, none], [], (am_sh, am_mm U4))) (fun _ => rfl) haa2a2c ?_
      show Ev kz ((d + 1), 198, 32, [some (.inr (.inr 86)), some (.inl x1)], [], (am_sh, am_mm U5)) R
      subst haa2a2a
      exact ev_end 1 (fun _ => rfl)
set_option maxRecDepth 8000 in
theorem st197_86_0 (kz : am_Z) (d : Nat) (x1 : Int) (U : Nat → Nat → Int) (R : Option am_V × am_M) (h : (((¬ (U 86 3) = 3 : Prop)) → R = (some (.inl 0), (am_sh, am_mm U))) ∧ (¬ (¬ (U 86 3) = 3) → (((¬ (U 86 6) = x1 : Prop)) → R = (some (.inl 0), (am_sh, am_mm U))) ∧ (¬ (¬ (U 86 6) = x1) → R = (some (.inl 1), (am_sh, am_mm U))))) : Ev kz (d, 197, 0, [some (.inr (.inr 86)), some (.inl x1)], [], (am_sh, am_mm U)) R := by
  refine ev_br (P := ¬ (U 86 3) = 3) (σ1 := (d, 197, 20, [some (.inr (.inr 86)), some (.inl x1)], [], (am_sh, am_mm U))) (σ2 := (d, 197, 8, [some (.inr (.inr 86)), some (.inl x1)], [], (am_sh, am_mm U))) 4 (fun _ => rfl) (fun hc => ?_) (fun hc => ?_)
  · have h1 := h.1 hc
    subst h1
    exact ev_end 2 (fun _ => rfl)
  · have h2 := h.2 hc
    refine ev_br (P := ¬ (U 86 6) = x1) (σ1 := (d, 197, 20, [some (.inr (.inr 86)), some (.inl x1)], [], (am_sh, am_mm U))) (σ2 := (d, 197, 16, [some (.inr (.inr 86)), some (.inl x1)], [], (am_sh, am_mm U))) 4 (fun _ => rfl) (fun hc => ?_) (fun hc => ?_)
    · have h21 := h2.1 hc
      subst h21
      exact ev_end 2 (fun _ => rfl)
    · have h22 := h2.2 hc
      subst h22
      exact ev_end 3 (fun _ => rfl)
set_option maxRecDepth 8000 in
theorem st202_86_0 (kz : am_Z) (d : Nat) (x1 x2 x3 x4 : Int) (U : Nat → Nat → Int) (R : Option am_V × am_M) (h : ∃ (r1 : Int) (U1 : Nat → Nat → Int), Ev kz (d, 200, 0, [some (.inr (.inr 86)), some (.inl x1), some (.inl x3)], [], (am_sh, am_mm U)) (some (.inl r1), (am_sh, am_mm U1)) ∧ ∃ (r2 : Int) (U2 : Nat → Nat → Int), Ev kz (d, 200, 0, [some (.inr (.inr 86)), some (.inl x1), some (.inl x4)], [], (am_sh, am_mm U1)) (some (.inl r2), (am_sh, am_mm U2)) ∧ (((x3 = x4 : Prop)) → R = (some (.inl 0), (am_sh, am_mm U2))) ∧ (¬ (x3 = x4) → (((r1 = (-1) : Prop)) → R = (some (.inl 0), (am_sh, am_mm U2))) ∧ (¬ (r1 = (-1)) → (((¬ r2 = (-1) : Prop)) → (((¬ x2 = 2 : Prop)) → ∃ (r3 : Int) (U3 : Nat → Nat → Int), Ev kz (d, 113, 0, [some (.inr (.inr 86)), some (.inl (U2 86 13)), some (.inl r1), some (.inl r2), none, none], [], (am_sh, am_mm U2)) (some (.inl r3), (am_sh, am_mm U3)) ∧ (r3 = 0 ∨ r3 = 1) ∧ R = (some (.inl r3), (am_sh, am_mm U3))) ∧ (¬ (¬ x2 = 2) → (((¬ r1 = r2 : Prop)) → R = (some (.inl 0), (am_sh, am_mm U2))) ∧ (¬ (¬ r1 = r2) → R = (some (.inl 1), (am_sh, am_mm U2))))) ∧ (¬ (¬ r2 = (-1)) → R = (some (.inl 0), (am_sh, am_mm U2)))))) : Ev kz ((d + 1), 202, 0, [some (.inr (.inr 86)), some (.inl x1), some (.inl x2), some (.inl x3), some (.inl x4), none, none], [], (am_sh, am_mm U)) R := by
  refine ev_seg (σ1 := ((d + 1), 202, 3, [some (.inr (.inr 86)), some (.inl x1), some (.inl x2), some (.inl x3), some (.inl x4), none, none], [.inl x3, .inl x1, .inr (.inr 86)], (am_sh, am_mm U))) 3 (fun _ => rfl) ?_
  obtain ⟨r1, U1, hc, ha⟩ := h
  refine ev_cal (σc := (d, 200, 0, [some (.inr (.inr 86)), some (.inl x1), some (.inl x3)], [], (am_sh, am_mm U))) (fun _ => rfl) hc ?_
  show Ev kz ((d + 1), 202, 6, [some (.inr (.inr 86)), some (.inl x1), some (.inl x2), some (.inl x3), some (.inl x4), none, none], [.inl r1], (am_sh, am_mm U1)) R
  refine ev_seg (σ1 := ((d + 1), 202, 12, [some (.inr (.inr 86)), some (.inl x1), some (.inl x2), some (.inl x3), some (.inl x4), some (.inl r1), none], [.inl x4, .inl x1, .inr (.inr 86)], (am_sh, am_mm U1))) 4 (fun _ => rfl) ?_
  obtain ⟨r2, U2, hac, haa⟩ := ha
  refine ev_cal (σc := (d, 200, 0, [some (.inr (.inr 86)), some (.inl x1), some (.inl x4)], [], (am_sh, am_mm U1))) (fun _ => rfl) hac ?_
  show Ev kz ((d + 1), 202, 15, [some (.inr (.inr 86)), some (.inl x1), some (.inl x2), some (.inl x3), some (.inl x4), some (.inl r1), none], [.inl r2], (am_sh, am_mm U2)) R
  refine ev_br (P := x3 = x4) (σ1 := ((d + 1), 202, 35, [some (.inr (.inr 86)), some (.inl x1), some (.inl x2), some (.inl x3), some (.inl x4), some (.inl r1), some (.inl r2)], [], (am_sh, am_mm U2))) (σ2 := ((d + 1), 202, 23, [some (.inr (.inr 86)), some (.inl x1), some (.inl x2), some (.inl x3), some (.inl x4), some (.inl r1), some (.inl r2)], [], (am_sh, am_mm U2))) 4 (fun _ => rfl) (fun hc => ?_) (fun hc => ?_)
  · have haa1 := haa.1 hc
    subst haa1
    exact ev_end 2 (fun _ => rfl)
  · have haa2 := haa.2 hc
    refine ev_br (P := r1 = (-1)) (σ1 := ((d + 1), 202, 35, [some (.inr (.inr 86)), some (.inl x1), some (.inl x2), some (.inl x3), some (.inl x4), some (.inl r1), some (.inl r2)], [], (am_sh, am_mm U2))) (σ2 := ((d + 1), 202, 29, [some (.inr (.inr 86)), some (.inl x1), some (.inl x2), some (.inl x3), some (.inl x4), some (.inl r1), some (.inl r2)], [], (am_sh, am_mm U2))) 3 (fun _ => rfl) (fun hc => ?_) (fun hc => ?_)
    · have haa21 := haa2.1 hc
      subst haa21
      exact ev_end 2 (fun _ => rfl)
    · have haa22 := haa2.2 hc
      refine ev_br (P := ¬ r2 = (-1)) (σ1 := ((d + 1), 202, 37, [some (.inr (.inr 86)), some (.inl x1), some (.inl x2), some (.inl x3), some (.inl x4), some (.inl r1), some (.inl r2)], [], (am_sh, am_mm U2))) (σ2 := ((d + 1), 202, 35, [some (.inr (.inr 86)), some (.inl x1), some (.inl x2), some (.inl x3), some (.inl x4), some (.inl r1), some (.inl r2)], [], (am_sh, am_mm U2))) 3 (fun _ => rfl) (fun hc => ?_) (fun hc => ?_)
      · have haa221 := haa22.1 hc
        refine ev_br (P := ¬ x2 = 2) (σ1 := ((d + 1), 202, 57, [some (.inr (.inr 86)), some (.inl x1), some (.inl x2), some (.inl x3), some (.inl x4), some (.inl r1), some (.inl r2)], [], (am_sh, am_mm U2))) (σ2 := ((d + 1), 202, 42, [some (.inr (.inr 86)), some (.inl x1), some (.inl x2), some (.inl x3), some (.inl x4), some (.inl r1), some (.inl r2)], [], (am_sh, am_mm U2))) 3 (fun _ => rfl) (fun hc => ?_) (fun hc => ?_)
        · have haa2211 := haa221.1 hc
          refine ev_seg (σ1 := ((d + 1), 202, 66, [some (.inr (.inr 86)), some (.inl x1), some (.inl x2), some (.inl x3), some (.inl x4), some (.inl r1), some (.inl r2)], [.inl r2, .inl r1, .inl (U2 86 13), .inr (.inr 86)], (am_sh, am_mm U2))) 5 (fun _ => rfl) ?_
          obtain ⟨r3, U3, haa2211c, haa2211a⟩ := haa2211
          refine ev_cal (σc := (d, 113, 0, [some (.inr (.inr 86)), some (.inl (U2 86 13)), some (.inl r1), some (.inl r2), none, none], [], (am_sh, am_mm U2))) (fun _ => rfl) haa2211c ?_
          show Ev kz ((d + 1), 202, 69, [some (.inr (.inr 86)), some (.inl x1), some (.inl x2), some (.inl x3), some (.inl x4), some (.inl r1), some (.inl r2)], [.inl r3], (am_sh, am_mm U3)) R
          rw [haa2211a.2]
          exact ev_retz rfl rfl haa2211a.1
        · have haa2212 := haa221.2 hc
          refine ev_br (P := ¬ r1 = r2) (σ1 := ((d + 1), 202, 53, [some (.inr (.inr 86)), some (.inl x1), some (.inl x2), some (.inl x3), some (.inl x4), some (.inl r1), some (.inl r2)], [], (am_sh, am_mm U2))) (σ2 := ((d + 1), 202, 49, [some (.inr (.inr 86)), some (.inl x1), some (.inl x2), some (.inl x3), some (.inl x4), some (.inl r1), some (.inl r2)], [], (am_sh, am_mm U2))) 3 (fun _ => rfl) (fun hc => ?_) (fun hc => ?_)
          · have haa22121 := haa2212.1 hc
            subst haa22121
            exact ev_end 3 (fun _ => rfl)
          · have haa22122 := haa2212.2 hc
            subst haa22122
            exact ev_end 3 (fun _ => rfl)
      · have haa222 := haa22.2 hc
        subst haa222
        exact ev_end 2 (fun _ => rfl)
set_option maxRecDepth 8000 in
theorem st203_86_0 (kz : am_Z) (d : Nat) (x1 x2 : Int) (U : Nat → Nat → Int) (R : Option am_V × am_M) (h : (0 ≤ (w32 ((w32 (16 * x1)) + x2)) ∧ (w32 ((w32 (16 * x1)) + x2)) < 352) ∧ R = (some (.inl (U 123 (w32 ((w32 (16 * x1)) + x2)).toNat)), (am_sh, am_mm U))) : Ev kz (d, 203, 0, [some (.inr (.inr 86)), some (.inl x1), some (.inl x2)], [], (am_sh, am_mm U)) R := by
  refine ev_seg (σ1 := (d, 203, 10, [some (.inr (.inr 86)), some (.inl x1), some (.inl x2)], [.inl (w32 ((w32 (16 * x1)) + x2)), .inr (.inr 123)], (am_sh, am_mm U))) 7 (fun _ => rfl) ?_
  refine eu_iald 123 (n := 352) rfl (by decide) rfl (fun _ => rfl) h.1 ?_
  have ha := h.2
  subst ha
  exact ev_end 1 (fun _ => rfl)
set_option maxRecDepth 8000 in
theorem st200_86_0 (kz : am_Z) (d : Nat) (x1 x2 : Int) (U : Nat → Nat → Int) (R : Option am_V × am_M) (h : (0 ≤ (w32 ((w32 (16 * x1)) + x2)) ∧ (w32 ((w32 (16 * x1)) + x2)) < 352) ∧ R = (some (.inl (U 124 (w32 ((w32 (16 * x1)) + x2)).toNat)), (am_sh, am_mm U))) : Ev kz (d, 200, 0, [some (.inr (.inr 86)), some (.inl x1), some (.inl x2)], [], (am_sh, am_mm U)) R := by
  refine ev_seg (σ1 := (d, 200, 10, [some (.inr (.inr 86)), some (.inl x1), some (.inl x2)], [.inl (w32 ((w32 (16 * x1)) + x2)), .inr (.inr 124)], (am_sh, am_mm U))) 7 (fun _ => rfl) ?_
  refine eu_iald 124 (n := 352) rfl (by decide) rfl (fun _ => rfl) h.1 ?_
  have ha := h.2
  subst ha
  exact ev_end 1 (fun _ => rfl)
set_option maxRecDepth 8000 in
theorem st201_86_0 (kz : am_Z) (d : Nat) (x1 x2 x3 x4 : Int) (U : Nat → Nat → Int) (R : Option am_V × am_M) (h : (((¬ (U 86 67) = x4 : Prop)) → R = (none, (am_sh, am_mm (am_upd U 86 67 (w32 ((U 86 67) + 1)))))) ∧ (¬ (¬ (U 86 67) = x4) → R = (none, (am_sh, am_mm (am_upd (am_upd (am_upd (am_upd U 86 64 x1) 86 65 x2) 86 66 x3) 86 67 (w32 (((am_upd (am_upd (am_upd U 86 64 x1) 86 65 x2) 86 66 x3) 86 67) + 1))))))) : Ev kz (d, 201, 0, [some (.inr (.inr 86)), some (.inl x1), some (.inl x2), some (.inl x3), some (.inl x4)], [], (am_sh, am_mm U)) R := by
  refine ev_br (P := ¬ (U 86 67) = x4) (σ1 := (d, 201, 24, [some (.inr (.inr 86)), some (.inl x1), some (.inl x2), some (.inl x3), some (.inl x4)], [], (am_sh, am_mm U))) (σ2 := (d, 201, 9, [some (.inr (.inr 86)), some (.inl x1), some (.inl x2), some (.inl x3), some (.inl x4)], [], (am_sh, am_mm U))) 4 (fun _ => rfl) (fun hc => ?_) (fun hc => ?_)
  · have h1 := h.1 hc
    refine ev_seg (σ1 := (d, 201, 31, [some (.inr (.inr 86)), some (.inl x1), some (.inl x2), some (.inl x3), some (.inl x4)], [.inl (w32 ((U 86 67) + 1)), .inr (.inr 86)], (am_sh, am_mm U))) 5 (fun _ => rfl) ?_
    refine eu_puti 86 (n := 90) rfl (by decide) rfl rfl ?_
    subst h1
    exact ev_end 1 (fun _ => rfl)
  · have h2 := h.2 hc
    refine ev_seg (σ1 := (d, 201, 11, [some (.inr (.inr 86)), some (.inl x1), some (.inl x2), some (.inl x3), some (.inl x4)], [.inl x1, .inr (.inr 86)], (am_sh, am_mm U))) 2 (fun _ => rfl) ?_
    refine eu_puti 86 (n := 90) rfl (by decide) rfl rfl ?_
    refine ev_seg (σ1 := (d, 201, 16, [some (.inr (.inr 86)), some (.inl x1), some (.inl x2), some (.inl x3), some (.inl x4)], [.inl x2, .inr (.inr 86)], (am_sh, am_mm (am_upd U 86 64 x1)))) 2 (fun _ => rfl) ?_
    refine eu_puti 86 (n := 90) rfl (by decide) rfl rfl ?_
    refine ev_seg (σ1 := (d, 201, 21, [some (.inr (.inr 86)), some (.inl x1), some (.inl x2), some (.inl x3), some (.inl x4)], [.inl x3, .inr (.inr 86)], (am_sh, am_mm (am_upd (am_upd U 86 64 x1) 86 65 x2)))) 2 (fun _ => rfl) ?_
    refine eu_puti 86 (n := 90) rfl (by decide) rfl rfl ?_
    refine ev_seg (σ1 := (d, 201, 31, [some (.inr (.inr 86)), some (.inl x1), some (.inl x2), some (.inl x3), some (.inl x4)], [.inl (w32 (((am_upd (am_upd (am_upd U 86 64 x1) 86 65 x2) 86 66 x3) 86 67) + 1)), .inr (.inr 86)], (am_sh, am_mm (am_upd (am_upd (am_upd U 86 64 x1) 86 65 x2) 86 66 x3)))) 5 (fun _ => rfl) ?_
    refine eu_puti 86 (n := 90) rfl (by decide) rfl rfl ?_
    subst h2
    exact ev_end 1 (fun _ => rfl)
set_option maxRecDepth 8000 in
theorem st210_45_0 (kz : am_Z) (d : Nat) (x1 : Int) (U : Nat → Nat → Int) (R : Option am_V × am_M) (h : ∃ (r1 : Int) (U1 : Nat → Nat → Int), Ev kz (d, 204, 0, [some (.inr (.inr 45)), some (.inl x1), none], [], (am_sh, am_mm U)) (some (.inl r1), (am_sh, am_mm U1)) ∧ ∃ (r2 : Int) (U2 : Nat → Nat → Int), Ev kz (d, 205, 0, [some (.inr (.inr 45)), some (.inl x1), none, none, none], [], (am_sh, am_mm U1)) (some (.inl r2), (am_sh, am_mm U2)) ∧ Ev kz ((d + 1), 210, 14, [some (.inr (.inr 45)), some (.inl x1), some (.inl (am_or r1 r2)), some (.inl 0), none], [], (am_sh, am_mm U2)) R) : Ev kz ((d + 1), 210, 0, [some (.inr (.inr 45)), some (.inl x1), none, none, none], [], (am_sh, am_mm U)) R := by
  refine ev_seg (σ1 := ((d + 1), 210, 2, [some (.inr (.inr 45)), some (.inl x1), none, none, none], [.inl x1, .inr (.inr 45)], (am_sh, am_mm U))) 2 (fun _ => rfl) ?_
  obtain ⟨r1, U1, hc, ha⟩ := h
  refine ev_cal (σc := (d, 204, 0, [some (.inr (.inr 45)), some (.inl x1), none], [], (am_sh, am_mm U))) (fun _ => rfl) hc ?_
  show Ev kz ((d + 1), 210, 5, [some (.inr (.inr 45)), some (.inl x1), none, none, none], [.inl r1], (am_sh, am_mm U1)) R
  refine ev_seg (σ1 := ((d + 1), 210, 7, [some (.inr (.inr 45)), some (.inl x1), none, none, none], [.inl x1, .inr (.inr 45), .inl r1], (am_sh, am_mm U1))) 2 (fun _ => rfl) ?_
  obtain ⟨r2, U2, hac, haa⟩ := ha
  refine ev_cal (σc := (d, 205, 0, [some (.inr (.inr 45)), some (.inl x1), none, none, none], [], (am_sh, am_mm U1))) (fun _ => rfl) hac ?_
  show Ev kz ((d + 1), 210, 10, [some (.inr (.inr 45)), some (.inl x1), none, none, none], [.inl r2, .inl r1], (am_sh, am_mm U2)) R
  refine ev_seg (σ1 := ((d + 1), 210, 14, [some (.inr (.inr 45)), some (.inl x1), some (.inl (am_or r1 r2)), some (.inl 0), none], [], (am_sh, am_mm U2))) 4 (fun _ => rfl) ?_
  exact haa
set_option maxRecDepth 8000 in
theorem st210_45_14 (kz : am_Z) (d : Nat) (x1 x2 x3 : Int) (U : Nat → Nat → Int) (R : Option am_V × am_M) (h : ((((U 3 4) ≤ x3 : Prop)) → R = (some (.inl 0), (am_sh, am_mm U))) ∧ (¬ ((U 3 4) ≤ x3) → ∃ (r1 : Int) (U1 : Nat → Nat → Int), Ev kz (d, 272, 0, [some (.inr (.inr 45)), some (.inl x3), some (.inl x1), some (.inl (-1)), none, none, none, none], [], (am_sh, am_mm U)) (some (.inl r1), (am_sh, am_mm U1)) ∧ (((r1 = 0 : Prop)) → Ev kz ((d + 1), 210, 40, [some (.inr (.inr 45)), some (.inl x1), some (.inl x2), some (.inl x3), some (.inl 0)], [], (am_sh, am_mm U1)) R) ∧ (¬ (r1 = 0) → R = (some (.inl 1), (am_sh, am_mm U1))))) : Ev kz ((d + 1), 210, 14, [some (.inr (.inr 45)), some (.inl x1), some (.inl x2), some (.inl x3), none], [], (am_sh, am_mm U)) R := by
  refine ev_br (P := (U 3 4) ≤ x3) (σ1 := ((d + 1), 210, 89, [some (.inr (.inr 45)), some (.inl x1), some (.inl x2), some (.inl x3), none], [], (am_sh, am_mm U))) (σ2 := ((d + 1), 210, 25, [some (.inr (.inr 45)), some (.inl x1), some (.inl x2), some (.inl x3), none], [], (am_sh, am_mm U))) 5 (fun _ => rfl) (fun hc => ?_) (fun hc => ?_)
  · have h1 := h.1 hc
    subst h1
    exact ev_end 2 (fun _ => rfl)
  · have h2 := h.2 hc
    refine ev_seg (σ1 := ((d + 1), 210, 29, [some (.inr (.inr 45)), some (.inl x1), some (.inl x2), some (.inl x3), none], [.inl (-1), .inl x1, .inl x3, .inr (.inr 45)], (am_sh, am_mm U))) 4 (fun _ => rfl) ?_
    obtain ⟨r1, U1, h2c, h2a⟩ := h2
    refine ev_cal (σc := (d, 272, 0, [some (.inr (.inr 45)), some (.inl x3), some (.inl x1), some (.inl (-1)), none, none, none, none], [], (am_sh, am_mm U))) (fun _ => rfl) h2c ?_
    show Ev kz ((d + 1), 210, 32, [some (.inr (.inr 45)), some (.inl x1), some (.inl x2), some (.inl x3), none], [.inl r1], (am_sh, am_mm U1)) R
    refine ev_br (P := r1 = 0) (σ1 := ((d + 1), 210, 37, [some (.inr (.inr 45)), some (.inl x1), some (.inl x2), some (.inl x3), none], [], (am_sh, am_mm U1))) (σ2 := ((d + 1), 210, 35, [some (.inr (.inr 45)), some (.inl x1), some (.inl x2), some (.inl x3), none], [], (am_sh, am_mm U1))) 1 (fun _ => rfl) (fun hc => ?_) (fun hc => ?_)
    · have h2a1 := h2a.1 hc
      refine ev_seg (σ1 := ((d + 1), 210, 40, [some (.inr (.inr 45)), some (.inl x1), some (.inl x2), some (.inl x3), some (.inl 0)], [], (am_sh, am_mm U1))) 2 (fun _ => rfl) ?_
      exact h2a1
    · have h2a2 := h2a.2 hc
      subst h2a2
      exact ev_end 2 (fun _ => rfl)
set_option maxRecDepth 8000 in
theorem st210_45_40 (kz : am_Z) (d : Nat) (x1 x2 x3 x4 : Int) (U : Nat → Nat → Int) (R : Option am_V × am_M) (h : ((((U 16 0) ≤ x4 : Prop)) → Ev kz ((d + 1), 210, 14, [some (.inr (.inr 45)), some (.inl x1), some (.inl x2), some (.inl (w32 (x3 + 1))), some (.inl x4)], [], (am_sh, am_mm U)) R) ∧ (¬ ((U 16 0) ≤ x4) → (((¬ (am_and (am_shr x2 x4) 1) = 1 : Prop)) → Ev kz ((d + 1), 210, 40, [some (.inr (.inr 45)), some (.inl x1), some (.inl x2), some (.inl x3), some (.inl (w32 (x4 + 1)))], [], (am_sh, am_mm U)) R) ∧ (¬ (¬ (am_and (am_shr x2 x4) 1) = 1) → ∃ (r1 : Int) (U1 : Nat → Nat → Int), Ev kz (d, 272, 0, [some (.inr (.inr 45)), some (.inl x3), some (.inl x4), some (.inl (am_shl 1 x1)), none, none, none, none], [], (am_sh, am_mm U)) (some (.inl r1), (am_sh, am_mm U1)) ∧ (((r1 = 0 : Prop)) → Ev kz ((d + 1), 210, 40, [some (.inr (.inr 45)), some (.inl x1), some (.inl x2), some (.inl x3), some (.inl (w32 (x4 + 1)))], [], (am_sh, am_mm U1)) R) ∧ (¬ (r1 = 0) → R = (some (.inl 1), (am_sh, am_mm U1)))))) : Ev kz ((d + 1), 210, 40, [some (.inr (.inr 45)), some (.inl x1), some (.inl x2), some (.inl x3), some (.inl x4)], [], (am_sh, am_mm U)) R := by
  refine ev_br (P := (U 16 0) ≤ x4) (σ1 := ((d + 1), 210, 83, [some (.inr (.inr 45)), some (.inl x1), some (.inl x2), some (.inl x3), some (.inl x4)], [], (am_sh, am_mm U))) (σ2 := ((d + 1), 210, 52, [some (.inr (.inr 45)), some (.inl x1), some (.inl x2), some (.inl x3), some (.inl x4)], [], (am_sh, am_mm U))) 5 (fun _ => rfl) (fun hc => ?_) (fun hc => ?_)
  · have h1 := h.1 hc
    refine ev_seg (σ1 := ((d + 1), 210, 14, [some (.inr (.inr 45)), some (.inl x1), some (.inl x2), some (.inl (w32 (x3 + 1))), some (.inl x4)], [], (am_sh, am_mm U))) 2 (fun _ => rfl) ?_
    exact h1
  · have h2 := h.2 hc
    refine ev_br (P := ¬ (am_and (am_shr x2 x4) 1) = 1) (σ1 := ((d + 1), 210, 77, [some (.inr (.inr 45)), some (.inl x1), some (.inl x2), some (.inl x3), some (.inl x4)], [], (am_sh, am_mm U))) (σ2 := ((d + 1), 210, 62, [some (.inr (.inr 45)), some (.inl x1), some (.inl x2), some (.inl x3), some (.inl x4)], [], (am_sh, am_mm U))) 7 (fun _ => rfl) (fun hc => ?_) (fun hc => ?_)
    · have h21 := h2.1 hc
      refine ev_seg (σ1 := ((d + 1), 210, 40, [some (.inr (.inr 45)), some (.inl x1), some (.inl x2), some (.inl x3), some (.inl (w32 (x4 + 1)))], [], (am_sh, am_mm U))) 2 (fun _ => rfl) ?_
      exact h21
    · have h22 := h2.2 hc
      refine ev_seg (σ1 := ((d + 1), 210, 69, [some (.inr (.inr 45)), some (.inl x1), some (.inl x2), some (.inl x3), some (.inl x4)], [.inl (am_shl 1 x1), .inl x4, .inl x3, .inr (.inr 45)], (am_sh, am_mm U))) 6 (fun _ => rfl) ?_
      obtain ⟨r1, U1, h22c, h22a⟩ := h22
      refine ev_cal (σc := (d, 272, 0, [some (.inr (.inr 45)), some (.inl x3), some (.inl x4), some (.inl (am_shl 1 x1)), none, none, none, none], [], (am_sh, am_mm U))) (fun _ => rfl) h22c ?_
      show Ev kz ((d + 1), 210, 72, [some (.inr (.inr 45)), some (.inl x1), some (.inl x2), some (.inl x3), some (.inl x4)], [.inl r1], (am_sh, am_mm U1)) R
      refine ev_br (P := r1 = 0) (σ1 := ((d + 1), 210, 77, [some (.inr (.inr 45)), some (.inl x1), some (.inl x2), some (.inl x3), some (.inl x4)], [], (am_sh, am_mm U1))) (σ2 := ((d + 1), 210, 75, [some (.inr (.inr 45)), some (.inl x1), some (.inl x2), some (.inl x3), some (.inl x4)], [], (am_sh, am_mm U1))) 1 (fun _ => rfl) (fun hc => ?_) (fun hc => ?_)
      · have h22a1 := h22a.1 hc
        refine ev_seg (σ1 := ((d + 1), 210, 40, [some (.inr (.inr 45)), some (.inl x1), some (.inl x2), some (.inl x3), some (.inl (w32 (x4 + 1)))], [], (am_sh, am_mm U1))) 2 (fun _ => rfl) ?_
        exact h22a1
      · have h22a2 := h22a.2 hc
        subst h22a2
        exact ev_end 2 (fun _ => rfl)
set_option maxRecDepth 8000 in
theorem st215_48_0 (kz : am_Z) (d : Nat) (U : Nat → Nat → Int) (R : Option am_V × am_M) (h : Ev kz ((d + 1), 215, 2, [some (.inr (.inr 48)), some (.inl 0)], [], (am_sh, am_mm U)) R) : Ev kz ((d + 1), 215, 0, [some (.inr (.inr 48)), none], [], (am_sh, am_mm U)) R := by
  refine ev_seg (σ1 := ((d + 1), 215, 2, [some (.inr (.inr 48)), some (.inl 0)], [], (am_sh, am_mm U))) 2 (fun _ => rfl) ?_
  exact h
set_option maxRecDepth 8000 in
theorem st215_48_2 (kz : am_Z) (d : Nat) (x1 : Int) (U : Nat → Nat → Int) (R : Option am_V × am_M) (h : ((((U 48 6) ≤ x1 : Prop)) → R = (none, (am_sh, am_mm U))) ∧ (¬ ((U 48 6) ≤ x1) → (0 ≤ x1 ∧ x1 < 3) ∧ ∃ U1 : Nat → Nat → Int, Ev kz (d, 138, 0, [some (.inr (.inr 16)), some (.inl (U 49 x1.toNat)), some (.inl (-1)), none], [], (am_sh, am_mm U)) (none, (am_sh, am_mm U1)) ∧ Ev kz ((d + 1), 215, 2, [some (.inr (.inr 48)), some (.inl (w32 (x1 + 1)))], [], (am_sh, am_mm U1)) R)) : Ev kz ((d + 1), 215, 2, [some (.inr (.inr 48)), some (.inl x1)], [], (am_sh, am_mm U)) R := by
  refine ev_br (P := (U 48 6) ≤ x1) (σ1 := ((d + 1), 215, 30, [some (.inr (.inr 48)), some (.inl x1)], [], (am_sh, am_mm U))) (σ2 := ((d + 1), 215, 10, [some (.inr (.inr 48)), some (.inl x1)], [], (am_sh, am_mm U))) 4 (fun _ => rfl) (fun hc => ?_) (fun hc => ?_)
  · have h1 := h.1 hc
    subst h1
    exact ev_end 1 (fun _ => rfl)
  · have h2 := h.2 hc
    refine ev_seg (σ1 := ((d + 1), 215, 19, [some (.inr (.inr 48)), some (.inl x1)], [.inl x1, .inr (.inr 49), .inr (.inr 16)], (am_sh, am_mm U))) 5 (fun _ => rfl) ?_
    refine eu_iald 49 (n := 3) rfl (by decide) rfl (fun _ => rfl) h2.1 ?_
    have h2a := h2.2
    refine ev_seg (σ1 := ((d + 1), 215, 21, [some (.inr (.inr 48)), some (.inl x1)], [.inl (-1), .inl (U 49 x1.toNat), .inr (.inr 16)], (am_sh, am_mm U))) 1 (fun _ => rfl) ?_
    obtain ⟨U1, h2ac, h2aa⟩ := h2a
    refine ev_cal (σc := (d, 138, 0, [some (.inr (.inr 16)), some (.inl (U 49 x1.toNat)), some (.inl (-1)), none], [], (am_sh, am_mm U))) (fun _ => rfl) h2ac ?_
    show Ev kz ((d + 1), 215, 24, [some (.inr (.inr 48)), some (.inl x1)], [], (am_sh, am_mm U1)) R
    refine ev_seg (σ1 := ((d + 1), 215, 2, [some (.inr (.inr 48)), some (.inl (w32 (x1 + 1)))], [], (am_sh, am_mm U1))) 2 (fun _ => rfl) ?_
    exact h2aa
set_option maxRecDepth 8000 in
theorem st214_48_0 (kz : am_Z) (d : Nat) (x1 : Int) (U : Nat → Nat → Int) (R : Option am_V × am_M) (h : Ev kz (d, 214, 7, [some (.inr (.inr 48)), some (.inl x1), some (.inl 0)], [], (am_sh, am_mm (am_upd U 48 8 x1))) R) : Ev kz (d, 214, 0, [some (.inr (.inr 48)), some (.inl x1), none], [], (am_sh, am_mm U)) R := by
  refine ev_seg (σ1 := (d, 214, 2, [some (.inr (.inr 48)), some (.inl x1), none], [.inl x1, .inr (.inr 48)], (am_sh, am_mm U))) 2 (fun _ => rfl) ?_
  refine eu_puti 48 (n := 10) rfl (by decide) rfl rfl ?_
  refine ev_seg (σ1 := (d, 214, 7, [some (.inr (.inr 48)), some (.inl x1), some (.inl 0)], [], (am_sh, am_mm (am_upd U 48 8 x1)))) 2 (fun _ => rfl) ?_
  exact h
set_option maxRecDepth 8000 in
theorem st214_48_7 (kz : am_Z) (d : Nat) (x1 x2 : Int) (U : Nat → Nat → Int) (R : Option am_V × am_M) (h : ((((U 48 6) ≤ x2 : Prop)) → R = (none, (am_sh, am_mm U))) ∧ (¬ ((U 48 6) ≤ x2) → (0 ≤ x2 ∧ x2 < 3) ∧ (((0 ≤ (U 49 x2.toNat) : Prop)) → (0 ≤ x2 ∧ x2 < 3) ∧ (0 ≤ (U 49 x2.toNat) ∧ (U 49 x2.toNat) < 16) ∧ (0 ≤ x2 ∧ x2 < 3) ∧ Ev kz (d, 214, 7, [some (.inr (.inr 48)), some (.inl x1), some (.inl (w32 (x2 + 1)))], [], (am_sh, am_mm (am_upd U 50 x2.toNat (U 18 (U 49 x2.toNat).toNat)))) R) ∧ (¬ (0 ≤ (U 49 x2.toNat)) → (0 ≤ x2 ∧ x2 < 3) ∧ Ev kz (d, 214, 7, [some (.inr (.inr 48)), some (.inl x1), some (.inl (w32 (x2 + 1)))], [], (am_sh, am_mm (am_upd U 50 x2.toNat (-1)))) R))) : Ev kz (d, 214, 7, [some (.inr (.inr 48)), some (.inl x1), some (.inl x2)], [], (am_sh, am_mm U)) R := by
  refine ev_br (P := (U 48 6) ≤ x2) (σ1 := (d, 214, 54, [some (.inr (.inr 48)), some (.inl x1), some (.inl x2)], [], (am_sh, am_mm U))) (σ2 := (d, 214, 15, [some (.inr (.inr 48)), some (.inl x1), some (.inl x2)], [], (am_sh, am_mm U))) 4 (fun _ => rfl) (fun hc => ?_) (fun hc => ?_)
  · have h1 := h.1 hc
    subst h1
    exact ev_end 1 (fun _ => rfl)
  · have h2 := h.2 hc
    refine ev_seg (σ1 := (d, 214, 25, [some (.inr (.inr 48)), some (.inl x1), some (.inl x2)], [.inl x2, .inr (.inr 49), .inl x2, .inr (.inr 50)], (am_sh, am_mm U))) 6 (fun _ => rfl) ?_
    refine eu_iald 49 (n := 3) rfl (by decide) rfl (fun _ => rfl) h2.1 ?_
    have h2a := h2.2
    refine ev_br (P := 0 ≤ (U 49 x2.toNat)) (σ1 := (d, 214, 33, [some (.inr (.inr 48)), some (.inl x1), some (.inl x2)], [.inl x2, .inr (.inr 50)], (am_sh, am_mm U))) (σ2 := (d, 214, 29, [some (.inr (.inr 48)), some (.inl x1), some (.inl x2)], [.inl x2, .inr (.inr 50)], (am_sh, am_mm U))) 1 (fun _ => rfl) (fun hc => ?_) (fun hc => ?_)
    · have h2a1 := h2a.1 hc
      refine ev_seg (σ1 := (d, 214, 45, [some (.inr (.inr 48)), some (.inl x1), some (.inl x2)], [.inl x2, .inr (.inr 49), .inr (.inr 18), .inl x2, .inr (.inr 50)], (am_sh, am_mm U))) 6 (fun _ => rfl) ?_
      refine eu_iald 49 (n := 3) rfl (by decide) rfl (fun _ => rfl) h2a1.1 ?_
      have h2a1a := h2a1.2
      refine eu_iald 18 (n := 16) rfl (by decide) rfl (fun _ => rfl) h2a1a.1 ?_
      have h2a1aa := h2a1a.2
      refine eu_iast 50 (n := 3) rfl (by decide) rfl (fun _ => rfl) h2a1aa.1 ?_
      have h2a1aaa := h2a1aa.2
      refine ev_seg (σ1 := (d, 214, 7, [some (.inr (.inr 48)), some (.inl x1), some (.inl (w32 (x2 + 1)))], [], (am_sh, am_mm (am_upd U 50 x2.toNat (U 18 (U 49 x2.toNat).toNat))))) 2 (fun _ => rfl) ?_
      exact h2a1aaa
    · have h2a2 := h2a.2 hc
      refine ev_seg (σ1 := (d, 214, 47, [some (.inr (.inr 48)), some (.inl x1), some (.inl x2)], [.inl (-1), .inl x2, .inr (.inr 50)], (am_sh, am_mm U))) 2 (fun _ => rfl) ?_
      refine eu_iast 50 (n := 3) rfl (by decide) rfl (fun _ => rfl) h2a2.1 ?_
      have h2a2a := h2a2.2
      refine ev_seg (σ1 := (d, 214, 7, [some (.inr (.inr 48)), some (.inl x1), some (.inl (w32 (x2 + 1)))], [], (am_sh, am_mm (am_upd U 50 x2.toNat (-1))))) 2 (fun _ => rfl) ?_
      exact h2a2a
set_option maxRecDepth 8000 in
theorem st213_48_0 (kz : am_Z) (d : Nat) (U : Nat → Nat → Int) (R : Option am_V × am_M) (h : Ev kz ((d + 1), 213, 2, [some (.inr (.inr 48)), some (.inl 0)], [], (am_sh, am_mm U)) R) : Ev kz ((d + 1), 213, 0, [some (.inr (.inr 48)), none], [], (am_sh, am_mm U)) R := by
  refine ev_seg (σ1 := ((d + 1), 213, 2, [some (.inr (.inr 48)), some (.inl 0)], [], (am_sh, am_mm U))) 2 (fun _ => rfl) ?_
  exact h
set_option maxRecDepth 8000 in
theorem st213_48_2 (kz : am_Z) (d : Nat) (x1 : Int) (U : Nat → Nat → Int) (R : Option am_V × am_M) (h : ((((U 3 1) ≤ x1 : Prop)) → Ev kz ((d + 1), 213, 31, [some (.inr (.inr 48)), some (.inl 0)], [], (am_sh, am_mm U)) R) ∧ (¬ ((U 3 1) ≤ x1) → ∃ (r1 : Int) (U1 : Nat → Nat → Int), Ev kz (d, 274, 0, [some (.inr (.inr 48)), some (.inl x1), none, none, none, none], [], (am_sh, am_mm U)) (some (.inl r1), (am_sh, am_mm U1)) ∧ (((r1 = 0 : Prop)) → Ev kz ((d + 1), 213, 2, [some (.inr (.inr 48)), some (.inl (w32 (x1 + 1)))], [], (am_sh, am_mm U1)) R) ∧ (¬ (r1 = 0) → R = (some (.inl 0), (am_sh, am_mm U1))))) : Ev kz ((d + 1), 213, 2, [some (.inr (.inr 48)), some (.inl x1)], [], (am_sh, am_mm U)) R := by
  refine ev_br (P := (U 3 1) ≤ x1) (σ1 := ((d + 1), 213, 29, [some (.inr (.inr 48)), some (.inl x1)], [], (am_sh, am_mm U))) (σ2 := ((d + 1), 213, 13, [some (.inr (.inr 48)), some (.inl x1)], [], (am_sh, am_mm U))) 5 (fun _ => rfl) (fun hc => ?_) (fun hc => ?_)
  · have h1 := h.1 hc
    refine ev_seg (σ1 := ((d + 1), 213, 31, [some (.inr (.inr 48)), some (.inl 0)], [], (am_sh, am_mm U))) 2 (fun _ => rfl) ?_
    exact h1
  · have h2 := h.2 hc
    refine ev_seg (σ1 := ((d + 1), 213, 15, [some (.inr (.inr 48)), some (.inl x1)], [.inl x1, .inr (.inr 48)], (am_sh, am_mm U))) 2 (fun _ => rfl) ?_
    obtain ⟨r1, U1, h2c, h2a⟩ := h2
    refine ev_cal (σc := (d, 274, 0, [some (.inr (.inr 48)), some (.inl x1), none, none, none, none], [], (am_sh, am_mm U))) (fun _ => rfl) h2c ?_
    show Ev kz ((d + 1), 213, 18, [some (.inr (.inr 48)), some (.inl x1)], [.inl r1], (am_sh, am_mm U1)) R
    refine ev_br (P := r1 = 0) (σ1 := ((d + 1), 213, 23, [some (.inr (.inr 48)), some (.inl x1)], [], (am_sh, am_mm U1))) (σ2 := ((d + 1), 213, 21, [some (.inr (.inr 48)), some (.inl x1)], [], (am_sh, am_mm U1))) 1 (fun _ => rfl) (fun hc => ?_) (fun hc => ?_)
    · have h2a1 := h2a.1 hc
      refine ev_seg (σ1 := ((d + 1), 213, 2, [some (.inr (.inr 48)), some (.inl (w32 (x1 + 1)))], [], (am_sh, am_mm U1))) 2 (fun _ => rfl) ?_
      exact h2a1
    · have h2a2 := h2a.2 hc
      subst h2a2
      exact ev_end 2 (fun _ => rfl)
set_option maxRecDepth 8000 in
theorem st213_48_31 (kz : am_Z) (d : Nat) (x1 : Int) (U : Nat → Nat → Int) (R : Option am_V × am_M) (h : ((((U 48 6) ≤ x1 : Prop)) → R = (some (.inl 1), (am_sh, am_mm U))) ∧ (¬ ((U 48 6) ≤ x1) → (0 ≤ x1 ∧ x1 < 3) ∧ ∃ (r1 : Int) (U1 : Nat → Nat → Int), Ev kz (d, 210, 0, [some (.inr (.inr 45)), some (.inl (U 49 x1.toNat)), none, none, none], [], (am_sh, am_mm U)) (some (.inl r1), (am_sh, am_mm U1)) ∧ (((r1 = 0 : Prop)) → Ev kz ((d + 1), 213, 31, [some (.inr (.inr 48)), some (.inl (w32 (x1 + 1)))], [], (am_sh, am_mm U1)) R) ∧ (¬ (r1 = 0) → R = (some (.inl 0), (am_sh, am_mm U1))))) : Ev kz ((d + 1), 213, 31, [some (.inr (.inr 48)), some (.inl x1)], [], (am_sh, am_mm U)) R := by
  refine ev_br (P := (U 48 6) ≤ x1) (σ1 := ((d + 1), 213, 63, [some (.inr (.inr 48)), some (.inl x1)], [], (am_sh, am_mm U))) (σ2 := ((d + 1), 213, 39, [some (.inr (.inr 48)), some (.inl x1)], [], (am_sh, am_mm U))) 4 (fun _ => rfl) (fun hc => ?_) (fun hc => ?_)
  · have h1 := h.1 hc
    subst h1
    exact ev_end 2 (fun _ => rfl)
  · have h2 := h.2 hc
    refine ev_seg (σ1 := ((d + 1), 213, 48, [some (.inr (.inr 48)), some (.inl x1)], [.inl x1, .inr (.inr 49), .inr (.inr 45)], (am_sh, am_mm U))) 5 (fun _ => rfl) ?_
    refine eu_iald 49 (n := 3) rfl (by decide) rfl (fun _ => rfl) h2.1 ?_
    have h2a := h2.2
    obtain ⟨r1, U1, h2ac, h2aa⟩ := h2a
    refine ev_cal (σc := (d, 210, 0, [some (.inr (.inr 45)), some (.inl (U 49 x1.toNat)), none, none, none], [], (am_sh, am_mm U))) (fun _ => rfl) h2ac ?_
    show Ev kz ((d + 1), 213, 52, [some (.inr (.inr 48)), some (.inl x1)], [.inl r1], (am_sh, am_mm U1)) R
    refine ev_br (P := r1 = 0) (σ1 := ((d + 1), 213, 57, [some (.inr (.inr 48)), some (.inl x1)], [], (am_sh, am_mm U1))) (σ2 := ((d + 1), 213, 55, [some (.inr (.inr 48)), some (.inl x1)], [], (am_sh, am_mm U1))) 1 (fun _ => rfl) (fun hc => ?_) (fun hc => ?_)
    · have h2aa1 := h2aa.1 hc
      refine ev_seg (σ1 := ((d + 1), 213, 31, [some (.inr (.inr 48)), some (.inl (w32 (x1 + 1)))], [], (am_sh, am_mm U1))) 2 (fun _ => rfl) ?_
      exact h2aa1
    · have h2aa2 := h2aa.2 hc
      subst h2aa2
      exact ev_end 2 (fun _ => rfl)
set_option maxRecDepth 8000 in
theorem st212_48_0 (kz : am_Z) (d : Nat) (x1 : Int) (U : Nat → Nat → Int) (R : Option am_V × am_M) (h : Ev kz ((d + 1), 212, 27, [some (.inr (.inr 48)), some (.inl x1), some (.inl (w32 ((if 0 < (U 3 1) then (U 3 1) else 0) + 1))), some (.inl x1), some (.inl 0), some (.inl (w32 ((U 48 6) - 1))), none], [], (am_sh, am_mm U)) R) : Ev kz ((d + 1), 212, 0, [some (.inr (.inr 48)), some (.inl x1), none, none, none, none, none], [], (am_sh, am_mm U)) R := by
  refine ev_seg (σ1 := ((d + 1), 212, 27, [some (.inr (.inr 48)), some (.inl x1), some (.inl (w32 ((if 0 < (U 3 1) then (U 3 1) else 0) + 1))), some (.inl x1), some (.inl 0), some (.inl (w32 ((U 48 6) - 1))), none], [], (am_sh, am_mm U))) 17 (fun _ => rfl) ?_
  exact h
set_option maxRecDepth 8000 in
theorem st212_48_27 (kz : am_Z) (d : Nat) (x1 x2 x3 x4 x5 : Int) (U : Nat → Nat → Int) (R : Option am_V × am_M) (h : (((x5 < 0 : Prop)) → R = (some (.inl x4), (am_sh, am_mm U))) ∧ (¬ (x5 < 0) → x2 ≠ 0 ∧ x2 ≠ 0 ∧ ((((U 3 1) ≤ (Int.tmod x3 x2) : Prop)) → Ev kz ((d + 1), 212, 27, [some (.inr (.inr 48)), some (.inl x1), some (.inl x2), some (.inl (w32 (Int.tdiv x3 x2))), some (.inl x4), some (.inl (w32 (x5 + (-1)))), some (.inl (Int.tmod x3 x2))], [], (am_sh, am_mm U)) R) ∧ (¬ ((U 3 1) ≤ (Int.tmod x3 x2)) → ∃ (r1 : Int) (U1 : Nat → Nat → Int), Ev kz (d, 106, 0, [some (.inr (.inr 16)), some (.inl (Int.tmod x3 x2))], [], (am_sh, am_mm U)) (some (.inl r1), (am_sh, am_mm U1)) ∧ (0 ≤ (Int.tmod x3 x2) ∧ (Int.tmod x3 x2) < 12) ∧ (((r1 < (U1 8 (Int.tmod x3 x2).toNat) : Prop)) → (0 ≤ x5 ∧ x5 < 3) ∧ ∃ U2 : Nat → Nat → Int, Ev kz (d, 138, 0, [some (.inr (.inr 16)), some (.inl (U1 49 x5.toNat)), some (.inl (Int.tmod x3 x2)), none], [], (am_sh, am_mm U1)) (none, (am_sh, am_mm U2)) ∧ Ev kz ((d + 1), 212, 27, [some (.inr (.inr 48)), some (.inl x1), some (.inl x2), some (.inl (w32 (Int.tdiv x3 x2))), some (.inl (w32 (x4 + 1))), some (.inl (w32 (x5 + (-1)))), some (.inl (Int.tmod x3 x2))], [], (am_sh, am_mm U2)) R) ∧ (¬ (r1 < (U1 8 (Int.tmod x3 x2).toNat)) → R = (some (.inl (-1)), (am_sh, am_mm U1)))))) : Ev kz ((d + 1), 212, 27, [some (.inr (.inr 48)), some (.inl x1), some (.inl x2), some (.inl x3), some (.inl x4), some (.inl x5), none], [], (am_sh, am_mm U)) R := by
  refine ev_br (P := x5 < 0) (σ1 := ((d + 1), 212, 102, [some (.inr (.inr 48)), some (.inl x1), some (.inl x2), some (.inl x3), some (.inl x4), some (.inl x5), none], [], (am_sh, am_mm U))) (σ2 := ((d + 1), 212, 32, [some (.inr (.inr 48)), some (.inl x1), some (.inl x2), some (.inl x3), some (.inl x4), some (.inl x5), none], [], (am_sh, am_mm U))) 2 (fun _ => rfl) (fun hc => ?_) (fun hc => ?_)
  · have h1 := h.1 hc
    subst h1
    exact ev_end 2 (fun _ => rfl)
  · have h2 := h.2 hc
    refine ev_seg (σ1 := ((d + 1), 212, 34, [some (.inr (.inr 48)), some (.inl x1), some (.inl x2), some (.inl x3), some (.inl x4), some (.inl x5), none], [.inl x2, .inl x3], (am_sh, am_mm U))) 2 (fun _ => rfl) ?_
    refine ev_irem rfl h2.1 ?_
    have h2a := h2.2
    refine ev_seg (σ1 := ((d + 1), 212, 39, [some (.inr (.inr 48)), some (.inl x1), some (.inl x2), some (.inl x3), some (.inl x4), some (.inl x5), some (.inl (Int.tmod x3 x2))], [.inl x2, .inl x3], (am_sh, am_mm U))) 3 (fun _ => rfl) ?_
    refine ev_idiv rfl h2a.1 ?_
    have h2aa := h2a.2
    refine ev_br (P := (U 3 1) ≤ (Int.tmod x3 x2)) (σ1 := ((d + 1), 212, 96, [some (.inr (.inr 48)), some (.inl x1), some (.inl x2), some (.inl (w32 (Int.tdiv x3 x2))), some (.inl x4), some (.inl x5), some (.inl (Int.tmod x3 x2))], [], (am_sh, am_mm U))) (σ2 := ((d + 1), 212, 53, [some (.inr (.inr 48)), some (.inl x1), some (.inl x2), some (.inl (w32 (Int.tdiv x3 x2))), some (.inl x4), some (.inl x5), some (.inl (Int.tmod x3 x2))], [], (am_sh, am_mm U))) 6 (fun _ => rfl) (fun hc => ?_) (fun hc => ?_)
    · have h2aa1 := h2aa.1 hc
      refine ev_seg (σ1 := ((d + 1), 212, 27, [some (.inr (.inr 48)), some (.inl x1), some (.inl x2), some (.inl (w32 (Int.tdiv x3 x2))), some (.inl x4), some (.inl (w32 (x5 + (-1)))), some (.inl (Int.tmod x3 x2))], [], (am_sh, am_mm U))) 2 (fun _ => rfl) ?_
      exact h2aa1
    · have h2aa2 := h2aa.2 hc
      refine ev_seg (σ1 := ((d + 1), 212, 59, [some (.inr (.inr 48)), some (.inl x1), some (.inl x2), some (.inl (w32 (Int.tdiv x3 x2))), some (.inl x4), some (.inl x5), some (.inl (Int.tmod x3 x2))], [.inl (Int.tmod x3 x2), .inr (.inr 16)], (am_sh, am_mm U))) 3 (fun _ => rfl) ?_
      obtain ⟨r1, U1, h2aa2c, h2aa2a⟩ := h2aa2
      refine ev_cal (σc := (d, 106, 0, [some (.inr (.inr 16)), some (.inl (Int.tmod x3 x2))], [], (am_sh, am_mm U))) (fun _ => rfl) h2aa2c ?_
      show Ev kz ((d + 1), 212, 62, [some (.inr (.inr 48)), some (.inl x1), some (.inl x2), some (.inl (w32 (Int.tdiv x3 x2))), some (.inl x4), some (.inl x5), some (.inl (Int.tmod x3 x2))], [.inl r1], (am_sh, am_mm U1)) R
      refine ev_seg (σ1 := ((d + 1), 212, 71, [some (.inr (.inr 48)), some (.inl x1), some (.inl x2), some (.inl (w32 (Int.tdiv x3 x2))), some (.inl x4), some (.inl x5), some (.inl (Int.tmod x3 x2))], [.inl (Int.tmod x3 x2), .inr (.inr 8), .inl r1], (am_sh, am_mm U1))) 4 (fun _ => rfl) ?_
      refine eu_iald 8 (n := 12) rfl (by decide) rfl (fun _ => rfl) h2aa2a.1 ?_
      have h2aa2aa := h2aa2a.2
      refine ev_br (P := r1 < (U1 8 (Int.tmod x3 x2).toNat)) (σ1 := ((d + 1), 212, 77, [some (.inr (.inr 48)), some (.inl x1), some (.inl x2), some (.inl (w32 (Int.tdiv x3 x2))), some (.inl x4), some (.inl x5), some (.inl (Int.tmod x3 x2))], [], (am_sh, am_mm U1))) (σ2 := ((d + 1), 212, 75, [some (.inr (.inr 48)), some (.inl x1), some (.inl x2), some (.inl (w32 (Int.tdiv x3 x2))), some (.inl x4), some (.inl x5), some (.inl (Int.tmod x3 x2))], [], (am_sh, am_mm U1))) 1 (fun _ => rfl) (fun hc => ?_) (fun hc => ?_)
      · have h2aa2aa1 := h2aa2aa.1 hc
        refine ev_seg (σ1 := ((d + 1), 212, 87, [some (.inr (.inr 48)), some (.inl x1), some (.inl x2), some (.inl (w32 (Int.tdiv x3 x2))), some (.inl x4), some (.inl x5), some (.inl (Int.tmod x3 x2))], [.inl x5, .inr (.inr 49), .inr (.inr 16)], (am_sh, am_mm U1))) 5 (fun _ => rfl) ?_
        refine eu_iald 49 (n := 3) rfl (by decide) rfl (fun _ => rfl) h2aa2aa1.1 ?_
        have h2aa2aa1a := h2aa2aa1.2
        refine ev_seg (σ1 := ((d + 1), 212, 90, [some (.inr (.inr 48)), some (.inl x1), some (.inl x2), some (.inl (w32 (Int.tdiv x3 x2))), some (.inl x4), some (.inl x5), some (.inl (Int.tmod x3 x2))], [.inl (Int.tmod x3 x2), .inl (U1 49 x5.toNat), .inr (.inr 16)], (am_sh, am_mm U1))) 1 (fun _ => rfl) ?_
        obtain ⟨U2, h2aa2aa1ac, h2aa2aa1aa⟩ := h2aa2aa1a
        refine ev_cal (σc := (d, 138, 0, [some (.inr (.inr 16)), some (.inl (U1 49 x5.toNat)), some (.inl (Int.tmod x3 x2)), none], [], (am_sh, am_mm U1))) (fun _ => rfl) h2aa2aa1ac ?_
        show Ev kz ((d + 1), 212, 93, [some (.inr (.inr 48)), some (.inl x1), some (.inl x2), some (.inl (w32 (Int.tdiv x3 x2))), some (.inl x4), some (.inl x5), some (.inl (Int.tmod x3 x2))], [], (am_sh, am_mm U2)) R
        refine ev_seg (σ1 := ((d + 1), 212, 27, [some (.inr (.inr 48)), some (.inl x1), some (.inl x2), some (.inl (w32 (Int.tdiv x3 x2))), some (.inl (w32 (x4 + 1))), some (.inl (w32 (x5 + (-1)))), some (.inl (Int.tmod x3 x2))], [], (am_sh, am_mm U2))) 3 (fun _ => rfl) ?_
        exact h2aa2aa1aa
      · have h2aa2aa2 := h2aa2aa.2 hc
        subst h2aa2aa2
        exact ev_end 2 (fun _ => rfl)
set_option maxRecDepth 8000 in
theorem st211_51_0 (kz : am_Z) (d : Nat) (x1 : Int) (U : Nat → Nat → Int) (R : Option am_V × am_M) (h : Ev kz (d, 211, 5, [some (.inr (.inr 51)), some (.inl x1), some (.inl 0), some (.inl 48)], [], (am_sh, am_mm U)) R) : Ev kz (d, 211, 0, [some (.inr (.inr 51)), some (.inl x1), none, none], [], (am_sh, am_mm U)) R := by
  refine ev_seg (σ1 := (d, 211, 5, [some (.inr (.inr 51)), some (.inl x1), some (.inl 0), some (.inl 48)], [], (am_sh, am_mm U))) 5 (fun _ => rfl) ?_
  exact h
set_option maxRecDepth 8000 in
theorem st211_51_5 (kz : am_Z) (d : Nat) (x1 x2 x3 : Int) (U : Nat → Nat → Int) (R : Option am_V × am_M) (h : (((x3 ≤ x2 : Prop)) → R = (none, (am_sh, am_mm U))) ∧ (¬ (x3 ≤ x2) → (0 ≤ x2 ∧ x2 < 48) ∧ Ev kz (d, 211, 5, [some (.inr (.inr 51)), some (.inl x1), some (.inl (w32 (x2 + 1))), some (.inl x3)], [], (am_sh, am_mm (am_upd U 51 x2.toNat x1))) R)) : Ev kz (d, 211, 5, [some (.inr (.inr 51)), some (.inl x1), some (.inl x2), some (.inl x3)], [], (am_sh, am_mm U)) R := by
  refine ev_br (P := x3 ≤ x2) (σ1 := (d, 211, 20, [some (.inr (.inr 51)), some (.inl x1), some (.inl x2), some (.inl x3)], [], (am_sh, am_mm U))) (σ2 := (d, 211, 10, [some (.inr (.inr 51)), some (.inl x1), some (.inl x2), some (.inl x3)], [], (am_sh, am_mm U))) 3 (fun _ => rfl) (fun hc => ?_) (fun hc => ?_)
  · have h1 := h.1 hc
    subst h1
    exact ev_end 1 (fun _ => rfl)
  · have h2 := h.2 hc
    refine ev_seg (σ1 := (d, 211, 13, [some (.inr (.inr 51)), some (.inl x1), some (.inl x2), some (.inl x3)], [.inl x1, .inl x2, .inr (.inr 51)], (am_sh, am_mm U))) 3 (fun _ => rfl) ?_
    refine eu_iast 51 (n := 48) rfl (by decide) rfl (fun _ => rfl) h2.1 ?_
    have h2a := h2.2
    refine ev_seg (σ1 := (d, 211, 5, [some (.inr (.inr 51)), some (.inl x1), some (.inl (w32 (x2 + 1))), some (.inl x3)], [], (am_sh, am_mm (am_upd U 51 x2.toNat x1)))) 2 (fun _ => rfl) ?_
    exact h2a
set_option maxRecDepth 8000 in
theorem st97_16_0 (kz : am_Z) (d : Nat) (U : Nat → Nat → Int) (R : Option am_V × am_M) (h : Ev kz (d, 97, 4, [some (.inr (.inr 16)), some (.inl 0), some (.inl 0)], [], (am_sh, am_mm U)) R) : Ev kz (d, 97, 0, [some (.inr (.inr 16)), none, none], [], (am_sh, am_mm U)) R := by
  refine ev_seg (σ1 := (d, 97, 4, [some (.inr (.inr 16)), some (.inl 0), some (.inl 0)], [], (am_sh, am_mm U))) 4 (fun _ => rfl) ?_
  exact h
set_option maxRecDepth 8000 in
theorem st97_16_4 (kz : am_Z) (d : Nat) (x1 x2 : Int) (U : Nat → Nat → Int) (R : Option am_V × am_M) (h : ((((U 16 0) ≤ x2 : Prop)) → R = (some (.inl x1), (am_sh, am_mm U))) ∧ (¬ ((U 16 0) ≤ x2) → (0 ≤ x2 ∧ x2 < 16) ∧ (((¬ (U 18 x2.toNat) = (-1) : Prop)) → Ev kz (d, 97, 4, [some (.inr (.inr 16)), some (.inl x1), some (.inl (w32 (x2 + 1)))], [], (am_sh, am_mm U)) R) ∧ (¬ (¬ (U 18 x2.toNat) = (-1)) → Ev kz (d, 97, 4, [some (.inr (.inr 16)), some (.inl (am_or x1 (am_shl 1 x2))), some (.inl (w32 (x2 + 1)))], [], (am_sh, am_mm U)) R))) : Ev kz (d, 97, 4, [some (.inr (.inr 16)), some (.inl x1), some (.inl x2)], [], (am_sh, am_mm U)) R := by
  refine ev_br (P := (U 16 0) ≤ x2) (σ1 := (d, 97, 34, [some (.inr (.inr 16)), some (.inl x1), some (.inl x2)], [], (am_sh, am_mm U))) (σ2 := (d, 97, 12, [some (.inr (.inr 16)), some (.inl x1), some (.inl x2)], [], (am_sh, am_mm U))) 4 (fun _ => rfl) (fun hc => ?_) (fun hc => ?_)
  · have h1 := h.1 hc
    subst h1
    exact ev_end 2 (fun _ => rfl)
  · have h2 := h.2 hc
    refine ev_seg (σ1 := (d, 97, 17, [some (.inr (.inr 16)), some (.inl x1), some (.inl x2)], [.inl x2, .inr (.inr 18)], (am_sh, am_mm U))) 3 (fun _ => rfl) ?_
    refine eu_iald 18 (n := 16) rfl (by decide) rfl (fun _ => rfl) h2.1 ?_
    have h2a := h2.2
    refine ev_br (P := ¬ (U 18 x2.toNat) = (-1)) (σ1 := (d, 97, 28, [some (.inr (.inr 16)), some (.inl x1), some (.inl x2)], [], (am_sh, am_mm U))) (σ2 := (d, 97, 22, [some (.inr (.inr 16)), some (.inl x1), some (.inl x2)], [], (am_sh, am_mm U))) 2 (fun _ => rfl) (fun hc => ?_) (fun hc => ?_)
    · have h2a1 := h2a.1 hc
      refine ev_seg (σ1 := (d, 97, 4, [some (.inr (.inr 16)), some (.inl x1), some (.inl (w32 (x2 + 1)))], [], (am_sh, am_mm U))) 2 (fun _ => rfl) ?_
      exact h2a1
    · have h2a2 := h2a.2 hc
      refine ev_seg (σ1 := (d, 97, 4, [some (.inr (.inr 16)), some (.inl (am_or x1 (am_shl 1 x2))), some (.inl (w32 (x2 + 1)))], [], (am_sh, am_mm U))) 8 (fun _ => rfl) ?_
      exact h2a2
set_option maxRecDepth 8000 in
theorem st217_86_0 (kz : am_Z) (d : Nat) (x1 : Int) (U : Nat → Nat → Int) (R : Option am_V × am_M) (h : Ev kz ((d + 1), 217, 2, [some (.inr (.inr 86)), some (.inl x1), some (.inl 0)], [], (am_sh, am_mm U)) R) : Ev kz ((d + 1), 217, 0, [some (.inr (.inr 86)), some (.inl x1), none], [], (am_sh, am_mm U)) R := by
  refine ev_seg (σ1 := ((d + 1), 217, 2, [some (.inr (.inr 86)), some (.inl x1), some (.inl 0)], [], (am_sh, am_mm U))) 2 (fun _ => rfl) ?_
  exact h
set_option maxRecDepth 8000 in
theorem st217_86_2 (kz : am_Z) (d : Nat) (x1 x2 : Int) (U : Nat → Nat → Int) (R : Option am_V × am_M) (h : (0 ≤ (U 86 13) ∧ (U 86 13) < 2) ∧ ((((U 90 (U 86 13).toNat) ≤ x2 : Prop)) → R = (some (.inl 1), (am_sh, am_mm U))) ∧ (¬ ((U 90 (U 86 13).toNat) ≤ x2) → ∃ (r1 : Int) (U1 : Nat → Nat → Int), Ev kz (d, 111, 0, [some (.inr (.inr 86)), some (.inl x1), some (.inl x2), none, none], [], (am_sh, am_mm U)) (some (.inl r1), (am_sh, am_mm U1)) ∧ ∃ (r2 : Int) (U2 : Nat → Nat → Int), Ev kz (d, 110, 0, [some (.inr (.inr 86)), some (.inl x2)], [], (am_sh, am_mm U1)) (some (.inl r2), (am_sh, am_mm U2)) ∧ (((r1 ≤ r2 : Prop)) → Ev kz ((d + 1), 217, 2, [some (.inr (.inr 86)), some (.inl x1), some (.inl (w32 (x2 + 1)))], [], (am_sh, am_mm U2)) R) ∧ (¬ (r1 ≤ r2) → R = (some (.inl 0), (am_sh, am_mm U2))))) : Ev kz ((d + 1), 217, 2, [some (.inr (.inr 86)), some (.inl x1), some (.inl x2)], [], (am_sh, am_mm U)) R := by
  refine ev_seg (σ1 := ((d + 1), 217, 11, [some (.inr (.inr 86)), some (.inl x1), some (.inl x2)], [.inl (U 86 13), .inr (.inr 90), .inl x2], (am_sh, am_mm U))) 5 (fun _ => rfl) ?_
  refine eu_iald 90 (n := 2) rfl (by decide) rfl (fun _ => rfl) h.1 ?_
  have ha := h.2
  refine ev_br (P := (U 90 (U 86 13).toNat) ≤ x2) (σ1 := ((d + 1), 217, 37, [some (.inr (.inr 86)), some (.inl x1), some (.inl x2)], [], (am_sh, am_mm U))) (σ2 := ((d + 1), 217, 15, [some (.inr (.inr 86)), some (.inl x1), some (.inl x2)], [], (am_sh, am_mm U))) 1 (fun _ => rfl) (fun hc => ?_) (fun hc => ?_)
  · have ha1 := ha.1 hc
    subst ha1
    exact ev_end 2 (fun _ => rfl)
  · have ha2 := ha.2 hc
    refine ev_seg (σ1 := ((d + 1), 217, 18, [some (.inr (.inr 86)), some (.inl x1), some (.inl x2)], [.inl x2, .inl x1, .inr (.inr 86)], (am_sh, am_mm U))) 3 (fun _ => rfl) ?_
    obtain ⟨r1, U1, ha2c, ha2a⟩ := ha2
    refine ev_cal (σc := (d, 111, 0, [some (.inr (.inr 86)), some (.inl x1), some (.inl x2), none, none], [], (am_sh, am_mm U))) (fun _ => rfl) ha2c ?_
    show Ev kz ((d + 1), 217, 21, [some (.inr (.inr 86)), some (.inl x1), some (.inl x2)], [.inl r1], (am_sh, am_mm U1)) R
    refine ev_seg (σ1 := ((d + 1), 217, 23, [some (.inr (.inr 86)), some (.inl x1), some (.inl x2)], [.inl x2, .inr (.inr 86), .inl r1], (am_sh, am_mm U1))) 2 (fun _ => rfl) ?_
    obtain ⟨r2, U2, ha2ac, ha2aa⟩ := ha2a
    refine ev_cal (σc := (d, 110, 0, [some (.inr (.inr 86)), some (.inl x2)], [], (am_sh, am_mm U1))) (fun _ => rfl) ha2ac ?_
    show Ev kz ((d + 1), 217, 26, [some (.inr (.inr 86)), some (.inl x1), some (.inl x2)], [.inl r2, .inl r1], (am_sh, am_mm U2)) R
    refine ev_br (P := r1 ≤ r2) (σ1 := ((d + 1), 217, 31, [some (.inr (.inr 86)), some (.inl x1), some (.inl x2)], [], (am_sh, am_mm U2))) (σ2 := ((d + 1), 217, 29, [some (.inr (.inr 86)), some (.inl x1), some (.inl x2)], [], (am_sh, am_mm U2))) 1 (fun _ => rfl) (fun hc => ?_) (fun hc => ?_)
    · have ha2aa1 := ha2aa.1 hc
      refine ev_seg (σ1 := ((d + 1), 217, 2, [some (.inr (.inr 86)), some (.inl x1), some (.inl (w32 (x2 + 1)))], [], (am_sh, am_mm U2))) 2 (fun _ => rfl) ?_
      exact ha2aa1
    · have ha2aa2 := ha2aa.2 hc
      subst ha2aa2
      exact ev_end 2 (fun _ => rfl)
set_option maxRecDepth 8000 in
theorem st218_86_0 (kz : am_Z) (d : Nat) (U : Nat → Nat → Int) (R : Option am_V × am_M) (h : Ev kz ((d + 1), 218, 2, [some (.inr (.inr 86)), some (.inl 0), none], [], (am_sh, am_mm U)) R) : Ev kz ((d + 1), 218, 0, [some (.inr (.inr 86)), none, none], [], (am_sh, am_mm U)) R := by
  refine ev_seg (σ1 := ((d + 1), 218, 2, [some (.inr (.inr 86)), some (.inl 0), none], [], (am_sh, am_mm U))) 2 (fun _ => rfl) ?_
  exact h
set_option maxRecDepth 8000 in
theorem st218_86_2 (kz : am_Z) (d : Nat) (x1 : Int) (U : Nat → Nat → Int) (R : Option am_V × am_M) (h : (0 ≤ (U 86 13) ∧ (U 86 13) < 2) ∧ ((((U 100 (U 86 13).toNat) ≤ x1 : Prop)) → R = (some (.inl 1), (am_sh, am_mm U))) ∧ (¬ ((U 100 (U 86 13).toNat) ≤ x1) → Ev kz ((d + 1), 218, 17, [some (.inr (.inr 86)), some (.inl x1), some (.inl 0)], [], (am_sh, am_mm U)) R)) : Ev kz ((d + 1), 218, 2, [some (.inr (.inr 86)), some (.inl x1), none], [], (am_sh, am_mm U)) R := by
  refine ev_seg (σ1 := ((d + 1), 218, 11, [some (.inr (.inr 86)), some (.inl x1), none], [.inl (U 86 13), .inr (.inr 100), .inl x1], (am_sh, am_mm U))) 5 (fun _ => rfl) ?_
  refine eu_iald 100 (n := 2) rfl (by decide) rfl (fun _ => rfl) h.1 ?_
  have ha := h.2
  refine ev_br (P := (U 100 (U 86 13).toNat) ≤ x1) (σ1 := ((d + 1), 218, 50, [some (.inr (.inr 86)), some (.inl x1), none], [], (am_sh, am_mm U))) (σ2 := ((d + 1), 218, 15, [some (.inr (.inr 86)), some (.inl x1), none], [], (am_sh, am_mm U))) 1 (fun _ => rfl) (fun hc => ?_) (fun hc => ?_)
  · have ha1 := ha.1 hc
    subst ha1
    exact ev_end 2 (fun _ => rfl)
  · have ha2 := ha.2 hc
    refine ev_seg (σ1 := ((d + 1), 218, 17, [some (.inr (.inr 86)), some (.inl x1), some (.inl 0)], [], (am_sh, am_mm U))) 2 (fun _ => rfl) ?_
    exact ha2
set_option maxRecDepth 8000 in
theorem st218_86_17 (kz : am_Z) (d : Nat) (x1 x2 : Int) (U : Nat → Nat → Int) (R : Option am_V × am_M) (h : ((((U 122 1) ≤ x2 : Prop)) → Ev kz ((d + 1), 218, 2, [some (.inr (.inr 86)), some (.inl (w32 (x1 + 1))), some (.inl x2)], [], (am_sh, am_mm U)) R) ∧ (¬ ((U 122 1) ≤ x2) → ∃ (r1 : Int) (U1 : Nat → Nat → Int), Ev kz (d, 275, 0, [some (.inr (.inr 86)), some (.inl x1), some (.inl x2), none, none, none, none, none], [], (am_sh, am_mm U)) (some (.inl r1), (am_sh, am_mm U1)) ∧ (((r1 = 0 : Prop)) → Ev kz ((d + 1), 218, 17, [some (.inr (.inr 86)), some (.inl x1), some (.inl (w32 (x2 + 1)))], [], (am_sh, am_mm U1)) R) ∧ (¬ (r1 = 0) → R = (some (.inl 0), (am_sh, am_mm U1))))) : Ev kz ((d + 1), 218, 17, [some (.inr (.inr 86)), some (.inl x1), some (.inl x2)], [], (am_sh, am_mm U)) R := by
  refine ev_seg (σ1 := ((d + 1), 218, 23, [some (.inr (.inr 86)), some (.inl x1), some (.inl x2)], [.inl 1, .inr (.inr 122), .inl x2], (am_sh, am_mm U))) 4 (fun _ => rfl) ?_
  refine eu_iald 122 (n := 22) rfl (by decide) rfl (fun _ => rfl) (by decide) ?_
  show Ev kz ((d + 1), 218, 24, [some (.inr (.inr 86)), some (.inl x1), some (.inl x2)], [.inl (U 122 1), .inl x2], (am_sh, am_mm U)) R
  refine ev_br (P := (U 122 1) ≤ x2) (σ1 := ((d + 1), 218, 44, [some (.inr (.inr 86)), some (.inl x1), some (.inl x2)], [], (am_sh, am_mm U))) (σ2 := ((d + 1), 218, 27, [some (.inr (.inr 86)), some (.inl x1), some (.inl x2)], [], (am_sh, am_mm U))) 1 (fun _ => rfl) (fun hc => ?_) (fun hc => ?_)
  · have h1 := h.1 hc
    refine ev_seg (σ1 := ((d + 1), 218, 2, [some (.inr (.inr 86)), some (.inl (w32 (x1 + 1))), some (.inl x2)], [], (am_sh, am_mm U))) 2 (fun _ => rfl) ?_
    exact h1
  · have h2 := h.2 hc
    refine ev_seg (σ1 := ((d + 1), 218, 30, [some (.inr (.inr 86)), some (.inl x1), some (.inl x2)], [.inl x2, .inl x1, .inr (.inr 86)], (am_sh, am_mm U))) 3 (fun _ => rfl) ?_
    obtain ⟨r1, U1, h2c, h2a⟩ := h2
    refine ev_cal (σc := (d, 275, 0, [some (.inr (.inr 86)), some (.inl x1), some (.inl x2), none, none, none, none, none], [], (am_sh, am_mm U))) (fun _ => rfl) h2c ?_
    show Ev kz ((d + 1), 218, 33, [some (.inr (.inr 86)), some (.inl x1), some (.inl x2)], [.inl r1], (am_sh, am_mm U1)) R
    refine ev_br (P := r1 = 0) (σ1 := ((d + 1), 218, 38, [some (.inr (.inr 86)), some (.inl x1), some (.inl x2)], [], (am_sh, am_mm U1))) (σ2 := ((d + 1), 218, 36, [some (.inr (.inr 86)), some (.inl x1), some (.inl x2)], [], (am_sh, am_mm U1))) 1 (fun _ => rfl) (fun hc => ?_) (fun hc => ?_)
    · have h2a1 := h2a.1 hc
      refine ev_seg (σ1 := ((d + 1), 218, 17, [some (.inr (.inr 86)), some (.inl x1), some (.inl (w32 (x2 + 1)))], [], (am_sh, am_mm U1))) 2 (fun _ => rfl) ?_
      exact h2a1
    · have h2a2 := h2a.2 hc
      subst h2a2
      exact ev_end 2 (fun _ => rfl)
set_option maxRecDepth 8000 in
theorem st216_86_0 (kz : am_Z) (d : Nat) (U : Nat → Nat → Int) (R : Option am_V × am_M) (h : Ev kz ((d + 1), 216, 2, [some (.inr (.inr 86)), some (.inl 0), none], [], (am_sh, am_mm U)) R) : Ev kz ((d + 1), 216, 0, [some (.inr (.inr 86)), none, none], [], (am_sh, am_mm U)) R := by
  refine ev_seg (σ1 := ((d + 1), 216, 2, [some (.inr (.inr 86)), some (.inl 0), none], [], (am_sh, am_mm U))) 2 (fun _ => rfl) ?_
  exact h
set_option maxRecDepth 8000 in
theorem st216_86_2 (kz : am_Z) (d : Nat) (x1 : Int) (U : Nat → Nat → Int) (R : Option am_V × am_M) (h : (((182784 ≤ x1 : Prop)) → Ev kz ((d + 1), 216, 23, [some (.inr (.inr 86)), some (.inl 0), none], [], (am_sh, am_mm U)) R) ∧ (¬ (182784 ≤ x1) → (0 ≤ x1 ∧ x1 < 182784) ∧ Ev kz ((d + 1), 216, 2, [some (.inr (.inr 86)), some (.inl (w32 (x1 + 1))), none], [], (am_sh, am_mm (am_upd U 128 x1.toNat 0))) R)) : Ev kz ((d + 1), 216, 2, [some (.inr (.inr 86)), some (.inl x1), none], [], (am_sh, am_mm U)) R := by
  refine ev_br (P := 182784 ≤ x1) (σ1 := ((d + 1), 216, 21, [some (.inr (.inr 86)), some (.inl x1), none], [], (am_sh, am_mm U))) (σ2 := ((d + 1), 216, 8, [some (.inr (.inr 86)), some (.inl x1), none], [], (am_sh, am_mm U))) 3 (fun _ => rfl) (fun hc => ?_) (fun hc => ?_)
  · have h1 := h.1 hc
    refine ev_seg (σ1 := ((d + 1), 216, 23, [some (.inr (.inr 86)), some (.inl 0), none], [], (am_sh, am_mm U))) 2 (fun _ => rfl) ?_
    exact h1
  · have h2 := h.2 hc
    refine ev_seg (σ1 := ((d + 1), 216, 14, [some (.inr (.inr 86)), some (.inl x1), none], [.inl 0, .inl x1, .inr (.inr 128)], (am_sh, am_mm U))) 4 (fun _ => rfl) ?_
    refine eu_bast 128 (by decide) (n := 182784) rfl (by decide) rfl (fun _ => rfl) h2.1 ?_
    have h2a := h2.2
    refine ev_seg (σ1 := ((d + 1), 216, 2, [some (.inr (.inr 86)), some (.inl (w32 (x1 + 1))), none], [], (am_sh, am_mm (am_upd U 128 x1.toNat 0)))) 2 (fun _ => rfl) ?_
    exact h2a
set_option maxRecDepth 8000 in
theorem st216_86_23 (kz : am_Z) (d : Nat) (x1 : Int) (U : Nat → Nat → Int) (R : Option am_V × am_M) (h : (0 ≤ (U 86 13) ∧ (U 86 13) < 2) ∧ ((((U 90 (U 86 13).toNat) ≤ x1 : Prop)) → R = (none, (am_sh, am_mm U))) ∧ (¬ ((U 90 (U 86 13).toNat) ≤ x1) → Ev kz ((d + 1), 216, 38, [some (.inr (.inr 86)), some (.inl x1), some (.inl 0)], [], (am_sh, am_mm U)) R)) : Ev kz ((d + 1), 216, 23, [some (.inr (.inr 86)), some (.inl x1), none], [], (am_sh, am_mm U)) R := by
  refine ev_seg (σ1 := ((d + 1), 216, 32, [some (.inr (.inr 86)), some (.inl x1), none], [.inl (U 86 13), .inr (.inr 90), .inl x1], (am_sh, am_mm U))) 5 (fun _ => rfl) ?_
  refine eu_iald 90 (n := 2) rfl (by decide) rfl (fun _ => rfl) h.1 ?_
  have ha := h.2
  refine ev_br (P := (U 90 (U 86 13).toNat) ≤ x1) (σ1 := ((d + 1), 216, 84, [some (.inr (.inr 86)), some (.inl x1), none], [], (am_sh, am_mm U))) (σ2 := ((d + 1), 216, 36, [some (.inr (.inr 86)), some (.inl x1), none], [], (am_sh, am_mm U))) 1 (fun _ => rfl) (fun hc => ?_) (fun hc => ?_)
  · have ha1 := ha.1 hc
    subst ha1
    exact ev_end 1 (fun _ => rfl)
  · have ha2 := ha.2 hc
    refine ev_seg (σ1 := ((d + 1), 216, 38, [some (.inr (.inr 86)), some (.inl x1), some (.inl 0)], [], (am_sh, am_mm U))) 2 (fun _ => rfl) ?_
    exact ha2
set_option maxRecDepth 8000 in
theorem st216_86_38 (kz : am_Z) (d : Nat) (x1 x2 : Int) (U : Nat → Nat → Int) (R : Option am_V × am_M) (h : (0 ≤ (U 86 13) ∧ (U 86 13) < 2) ∧ ((((U 90 (U 86 13).toNat) ≤ x2 : Prop)) → Ev kz ((d + 1), 216, 23, [some (.inr (.inr 86)), some (.inl (w32 (x1 + 1))), some (.inl x2)], [], (am_sh, am_mm U)) R) ∧ (¬ ((U 90 (U 86 13).toNat) ≤ x2) → ∃ (r1 : Int) (U1 : Nat → Nat → Int), Ev kz (d, 113, 0, [some (.inr (.inr 86)), some (.inl (U 86 13)), some (.inl x1), some (.inl x2), none, none], [], (am_sh, am_mm U)) (some (.inl r1), (am_sh, am_mm U1)) ∧ (r1 = 0 ∨ r1 = 1) ∧ (0 ≤ (w32 ((w32 (12 * x1)) + x2)) ∧ (w32 ((w32 (12 * x1)) + x2)) < 144) ∧ Ev kz ((d + 1), 216, 38, [some (.inr (.inr 86)), some (.inl x1), some (.inl (w32 (x2 + 1)))], [], (am_sh, am_mm (am_upd U1 129 (w32 ((w32 (12 * x1)) + x2)).toNat r1))) R)) : Ev kz ((d + 1), 216, 38, [some (.inr (.inr 86)), some (.inl x1), some (.inl x2)], [], (am_sh, am_mm U)) R := by
  refine ev_seg (σ1 := ((d + 1), 216, 47, [some (.inr (.inr 86)), some (.inl x1), some (.inl x2)], [.inl (U 86 13), .inr (.inr 90), .inl x2], (am_sh, am_mm U))) 5 (fun _ => rfl) ?_
  refine eu_iald 90 (n := 2) rfl (by decide) rfl (fun _ => rfl) h.1 ?_
  have ha := h.2
  refine ev_br (P := (U 90 (U 86 13).toNat) ≤ x2) (σ1 := ((d + 1), 216, 78, [some (.inr (.inr 86)), some (.inl x1), some (.inl x2)], [], (am_sh, am_mm U))) (σ2 := ((d + 1), 216, 51, [some (.inr (.inr 86)), some (.inl x1), some (.inl x2)], [], (am_sh, am_mm U))) 1 (fun _ => rfl) (fun hc => ?_) (fun hc => ?_)
  · have ha1 := ha.1 hc
    refine ev_seg (σ1 := ((d + 1), 216, 23, [some (.inr (.inr 86)), some (.inl (w32 (x1 + 1))), some (.inl x2)], [], (am_sh, am_mm U))) 2 (fun _ => rfl) ?_
    exact ha1
  · have ha2 := ha.2 hc
    refine ev_seg (σ1 := ((d + 1), 216, 68, [some (.inr (.inr 86)), some (.inl x1), some (.inl x2)], [.inl x2, .inl x1, .inl (U 86 13), .inr (.inr 86), .inl (w32 ((w32 (12 * x1)) + x2)), .inr (.inr 129)], (am_sh, am_mm U))) 12 (fun _ => rfl) ?_
    obtain ⟨r1, U1, ha2c, ha2a⟩ := ha2
    refine ev_cal (σc := (d, 113, 0, [some (.inr (.inr 86)), some (.inl (U 86 13)), some (.inl x1), some (.inl x2), none, none], [], (am_sh, am_mm U))) (fun _ => rfl) ha2c ?_
    show Ev kz ((d + 1), 216, 71, [some (.inr (.inr 86)), some (.inl x1), some (.inl x2)], [.inl r1, .inl (w32 ((w32 (12 * x1)) + x2)), .inr (.inr 129)], (am_sh, am_mm U1)) R
    refine eu_zast 129 ha2a.1 (n := 144) rfl (by decide) rfl (fun _ => rfl) ha2a.2.1 ?_
    have ha2aa := ha2a.2.2
    refine ev_seg (σ1 := ((d + 1), 216, 38, [some (.inr (.inr 86)), some (.inl x1), some (.inl (w32 (x2 + 1)))], [], (am_sh, am_mm (am_upd U1 129 (w32 ((w32 (12 * x1)) + x2)).toNat r1)))) 2 (fun _ => rfl) ?_
    exact ha2aa
set_option maxRecDepth 8000 in
theorem st220_45_0 (kz : am_Z) (d : Nat) (U : Nat → Nat → Int) (R : Option am_V × am_M) (h : (((0 < (U 45 3) : Prop)) → (0 ≤ ((am_upd U 45 3 (w32 ((U 45 3) - 1))) 45 3) ∧ ((am_upd U 45 3 (w32 ((U 45 3) - 1))) 45 3) < 64) ∧ R = (some (.inl ((am_upd U 45 3 (w32 ((U 45 3) - 1))) 46 ((am_upd U 45 3 (w32 ((U 45 3) - 1))) 45 3).toNat)), (am_sh, am_mm (am_upd U 45 3 (w32 ((U 45 3) - 1)))))) ∧ (¬ (0 < (U 45 3)) → R = (some (.inl 0), (am_sh, am_mm U)))) : Ev kz (d, 220, 0, [some (.inr (.inr 45))], [], (am_sh, am_mm U)) R := by
  refine ev_br (P := 0 < (U 45 3)) (σ1 := (d, 220, 9, [some (.inr (.inr 45))], [], (am_sh, am_mm U))) (σ2 := (d, 220, 7, [some (.inr (.inr 45))], [], (am_sh, am_mm U))) 3 (fun _ => rfl) (fun hc => ?_) (fun hc => ?_)
  · have h1 := h.1 hc
    refine ev_seg (σ1 := (d, 220, 16, [some (.inr (.inr 45))], [.inl (w32 ((U 45 3) - 1)), .inr (.inr 45)], (am_sh, am_mm U))) 5 (fun _ => rfl) ?_
    refine eu_puti 45 (n := 6) rfl (by decide) rfl rfl ?_
    refine ev_seg (σ1 := (d, 220, 27, [some (.inr (.inr 45))], [.inl ((am_upd U 45 3 (w32 ((U 45 3) - 1))) 45 3), .inr (.inr 46)], (am_sh, am_mm (am_upd U 45 3 (w32 ((U 45 3) - 1)))))) 4 (fun _ => rfl) ?_
    refine eu_iald 46 (n := 64) rfl (by decide) rfl (fun _ => rfl) h1.1 ?_
    have h1a := h1.2
    subst h1a
    exact ev_end 1 (fun _ => rfl)
  · have h2 := h.2 hc
    subst h2
    exact ev_end 2 (fun _ => rfl)
set_option maxRecDepth 8000 in
theorem st219_45_0 (kz : am_Z) (d : Nat) (x1 : Int) (U : Nat → Nat → Int) (R : Option am_V × am_M) (h : (((64 ≤ (U 45 3) : Prop)) → R = (none, (am_sh, am_mm U))) ∧ (¬ (64 ≤ (U 45 3)) → (0 ≤ (U 45 3) ∧ (U 45 3) < 64) ∧ R = (none, (am_sh, am_mm (am_upd (am_upd U 46 (U 45 3).toNat x1) 45 3 (w32 (((am_upd U 46 (U 45 3).toNat x1) 45 3) + 1))))))) : Ev kz (d, 219, 0, [some (.inr (.inr 45)), some (.inl x1)], [], (am_sh, am_mm U)) R := by
  refine ev_br (P := 64 ≤ (U 45 3)) (σ1 := (d, 219, 32, [some (.inr (.inr 45)), some (.inl x1)], [], (am_sh, am_mm U))) (σ2 := (d, 219, 12, [some (.inr (.inr 45)), some (.inl x1)], [], (am_sh, am_mm U))) 6 (fun _ => rfl) (fun hc => ?_) (fun hc => ?_)
  · have h1 := h.1 hc
    subst h1
    exact ev_end 1 (fun _ => rfl)
  · have h2 := h.2 hc
    refine ev_seg (σ1 := (d, 219, 21, [some (.inr (.inr 45)), some (.inl x1)], [.inl x1, .inl (U 45 3), .inr (.inr 46)], (am_sh, am_mm U))) 5 (fun _ => rfl) ?_
    refine eu_iast 46 (n := 64) rfl (by decide) rfl (fun _ => rfl) h2.1 ?_
    have h2a := h2.2
    refine ev_seg (σ1 := (d, 219, 29, [some (.inr (.inr 45)), some (.inl x1)], [.inl (w32 (((am_upd U 46 (U 45 3).toNat x1) 45 3) + 1)), .inr (.inr 45)], (am_sh, am_mm (am_upd U 46 (U 45 3).toNat x1)))) 5 (fun _ => rfl) ?_
    refine eu_puti 45 (n := 6) rfl (by decide) rfl rfl ?_
    subst h2a
    exact ev_end 1 (fun _ => rfl)
set_option maxRecDepth 8000 in
theorem st224_86_0 (kz : am_Z) (d : Nat) (x1 x2 : Int) (U : Nat → Nat → Int) (R : Option am_V × am_M) (h : Ev kz ((d + 1), 224, 14, [some (.inr (.inr 86)), some (.inl x1), some (.inl x2), some (.inl 0), some (.inl (w32 ((w32 (1600 * (U 86 13))) + x1))), none], [], (am_sh, am_mm U)) R) : Ev kz ((d + 1), 224, 0, [some (.inr (.inr 86)), some (.inl x1), some (.inl x2), none, none, none], [], (am_sh, am_mm U)) R := by
  refine ev_seg (σ1 := ((d + 1), 224, 14, [some (.inr (.inr 86)), some (.inl x1), some (.inl x2), some (.inl 0), some (.inl (w32 ((w32 (1600 * (U 86 13))) + x1))), none], [], (am_sh, am_mm U))) 9 (fun _ => rfl) ?_
  exact h
set_option maxRecDepth 8000 in
theorem st224_86_14 (kz : am_Z) (d : Nat) (x1 x2 x3 x4 : Int) (U : Nat → Nat → Int) (R : Option am_V × am_M) (h : ((((w32 ((w32 (1600 * (U 86 13))) + x2)) ≤ x4 : Prop)) → (((¬ (am_lcmp (U 125 0) 1) = 0 : Prop)) → R = (some (.inl 0), (am_sh, am_mm U))) ∧ (¬ (¬ (am_lcmp (U 125 0) 1) = 0) → R = (some (.inl 1), (am_sh, am_mm U)))) ∧ (¬ ((w32 ((w32 (1600 * (U 86 13))) + x2)) ≤ x4) → (0 ≤ x4 ∧ x4 < 3200) ∧ (((9 < (U 111 x4.toNat) : Prop)) → (((¬ (U 111 x4.toNat) = 22 : Prop)) → (((¬ (U 111 x4.toNat) = 24 : Prop)) → (((¬ (U 111 x4.toNat) = 25 : Prop)) → (0 ≤ (w32 ((w32 (x3 + (-1))) - 1)) ∧ (w32 ((w32 (x3 + (-1))) - 1)) < 500) ∧ (0 ≤ (w32 (x3 + (-1))) ∧ (w32 (x3 + (-1))) < 500) ∧ ∃ (r1 : Int) (U1 : Nat → Nat → Int), Ev kz (d, 279, 0, [some (.inl (U 111 x4.toNat)), some (.inr (.inl (U 125 (w32 ((w32 (x3 + (-1))) - 1)).toNat))), none, some (.inr (.inl (U 125 (w32 (x3 + (-1))).toNat))), none], [], (am_sh, am_mm U)) (some (.inr (.inl r1)), (am_sh, am_mm U1)) ∧ (0 ≤ (w32 ((w32 (x3 + (-1))) - 1)) ∧ (w32 ((w32 (x3 + (-1))) - 1)) < 500) ∧ Ev kz ((d + 1), 224, 14, [some (.inr (.inr 86)), some (.inl x1), some (.inl x2), some (.inl (w32 (x3 + (-1)))), some (.inl (w32 (x4 + 1))), some (.inl (U 111 x4.toNat))], [], (am_sh, am_mm (am_upd U1 125 (w32 ((w32 (x3 + (-1))) - 1)).toNat r1))) R) ∧ (¬ (¬ (U 111 x4.toNat) = 25) → (0 ≤ (w32 (x3 - 1)) ∧ (w32 (x3 - 1)) < 500) ∧ ∃ (r2 : Int) (U2 : Nat → Nat → Int), Ev kz (d, 122, 0, [some (.inr (.inl (U 125 (w32 (x3 - 1)).toNat))), none], [], (am_sh, am_mm U)) (some (.inl r2), (am_sh, am_mm U2)) ∧ (((r2 = 0 : Prop)) → (0 ≤ (w32 (x3 - 1)) ∧ (w32 (x3 - 1)) < 500) ∧ Ev kz ((d + 1), 224, 14, [some (.inr (.inr 86)), some (.inl x1), some (.inl x2), some (.inl x3), some (.inl (w32 (x4 + 1))), some (.inl (U 111 x4.toNat))], [], (am_sh, am_mm (am_upd U2 125 (w32 (x3 - 1)).toNat 0))) R) ∧ (¬ (r2 = 0) → (0 ≤ (w32 (x3 - 1)) ∧ (w32 (x3 - 1)) < 500) ∧ Ev kz ((d + 1), 224, 14, [some (.inr (.inr 86)), some (.inl x1), some (.inl x2), some (.inl x3), some (.inl (w32 (x4 + 1))), some (.inl (U 111 x4.toNat))], [], (am_sh, am_mm (am_upd U2 125 (w32 (x3 - 1)).toNat 1))) R))) ∧ (¬ (¬ (U 111 x4.toNat) = 24) → (0 ≤ (w32 (x3 - 1)) ∧ (w32 (x3 - 1)) < 500) ∧ ∃ (r3 : Int) (U3 : Nat → Nat → Int), Ev kz (d, 278, 0, [some (.inr (.inl (U 125 (w32 (x3 - 1)).toNat))), none, none, none, none, none, none, none], [], (am_sh, am_mm U)) (some (.inl r3), (am_sh, am_mm U3)) ∧ (((r3 = 0 : Prop)) → (0 ≤ (w32 (x3 - 1)) ∧ (w32 (x3 - 1)) < 500) ∧ Ev kz ((d + 1), 224, 14, [some (.inr (.inr 86)), some (.inl x1), some (.inl x2), some (.inl x3), some (.inl (w32 (x4 + 1))), some (.inl (U 111 x4.toNat))], [], (am_sh, am_mm (am_upd U3 125 (w32 (x3 - 1)).toNat 0))) R) ∧ (¬ (r3 = 0) → (0 ≤ (w32 (x3 - 1)) ∧ (w32 (x3 - 1)) < 500) ∧ Ev kz ((d + 1), 224, 14, [some (.inr (.inr 86)), some (.inl x1), some (.inl x2), some (.inl x3), some (.inl (w32 (x4 + 1))), some (.inl (U 111 x4.toNat))], [], (am_sh, am_mm (am_upd U3 125 (w32 (x3 - 1)).toNat 1))) R))) ∧ (¬ (¬ (U 111 x4.toNat) = 22) → (0 ≤ (w32 (x3 - 1)) ∧ (w32 (x3 - 1)) < 500) ∧ (0 ≤ (w32 (x3 - 1)) ∧ (w32 (x3 - 1)) < 500) ∧ Ev kz ((d + 1), 224, 14, [some (.inr (.inr 86)), some (.inl x1), some (.inl x2), some (.inl x3), some (.inl (w32 (x4 + 1))), some (.inl (U 111 x4.toNat))], [], (am_sh, am_mm (am_upd U 125 (w32 (x3 - 1)).toNat (w64 (1 - (U 125 (w32 (x3 - 1)).toNat)))))) R)) ∧ (¬ (9 < (U 111 x4.toNat)) → (0 ≤ x4 ∧ x4 < 3200) ∧ ∃ (r4 : Int) (U4 : Nat → Nat → Int), Ev kz (d, 277, 0, [some (.inr (.inr 86)), some (.inl (U 111 x4.toNat)), some (.inl (U 112 x4.toNat)), none], [], (am_sh, am_mm U)) (some (.inr (.inl r4)), (am_sh, am_mm U4)) ∧ (0 ≤ x3 ∧ x3 < 500) ∧ Ev kz ((d + 1), 224, 14, [some (.inr (.inr 86)), some (.inl x1), some (.inl x2), some (.inl (w32 (x3 + 1))), some (.inl (w32 (x4 + 1))), some (.inl (U 111 x4.toNat))], [], (am_sh, am_mm (am_upd U4 125 x3.toNat r4))) R))) : Ev kz ((d + 1), 224, 14, [some (.inr (.inr 86)), some (.inl x1), some (.inl x2), some (.inl x3), some (.inl x4), none], [], (am_sh, am_mm U)) R := by
  refine ev_br (P := (w32 ((w32 (1600 * (U 86 13))) + x2)) ≤ x4) (σ1 := ((d + 1), 224, 208, [some (.inr (.inr 86)), some (.inl x1), some (.inl x2), some (.inl x3), some (.inl x4), none], [], (am_sh, am_mm U))) (σ2 := ((d + 1), 224, 29, [some (.inr (.inr 86)), some (.inl x1), some (.inl x2), some (.inl x3), some (.inl x4), none], [], (am_sh, am_mm U))) 8 (fun _ => rfl) (fun hc => ?_) (fun hc => ?_)
  · have h1 := h.1 hc
    refine ev_seg (σ1 := ((d + 1), 224, 213, [some (.inr (.inr 86)), some (.inl x1), some (.inl x2), some (.inl x3), some (.inl x4), none], [.inl 0, .inr (.inr 125)], (am_sh, am_mm U))) 3 (fun _ => rfl) ?_
    refine eu_lald 125 (n := 500) rfl (by decide) rfl (fun _ => rfl) (by decide) ?_
    show Ev kz ((d + 1), 224, 214, [some (.inr (.inr 86)), some (.inl x1), some (.inl x2), some (.inl x3), some (.inl x4), none], [.inr (.inl (U 125 0))], (am_sh, am_mm U)) R
    refine ev_br (P := ¬ (am_lcmp (U 125 0) 1) = 0) (σ1 := ((d + 1), 224, 223, [some (.inr (.inr 86)), some (.inl x1), some (.inl x2), some (.inl x3), some (.inl x4), none], [], (am_sh, am_mm U))) (σ2 := ((d + 1), 224, 219, [some (.inr (.inr 86)), some (.inl x1), some (.inl x2), some (.inl x3), some (.inl x4), none], [], (am_sh, am_mm U))) 3 (fun _ => rfl) (fun hc => ?_) (fun hc => ?_)
    · have h11 := h1.1 hc
      subst h11
      exact ev_end 2 (fun _ => rfl)
    · have h12 := h1.2 hc
      subst h12
      exact ev_end 3 (fun _ => rfl)
  · have h2 := h.2 hc
    refine ev_seg (σ1 := ((d + 1), 224, 35, [some (.inr (.inr 86)), some (.inl x1), some (.inl x2), some (.inl x3), some (.inl x4), none], [.inl x4, .inr (.inr 111)], (am_sh, am_mm U))) 3 (fun _ => rfl) ?_
    refine eu_iald 111 (n := 3200) rfl (by decide) rfl (fun _ => rfl) h2.1 ?_
    have h2a := h2.2
    refine ev_br (P := 9 < (U 111 x4.toNat)) (σ1 := ((d + 1), 224, 70, [some (.inr (.inr 86)), some (.inl x1), some (.inl x2), some (.inl x3), some (.inl x4), some (.inl (U 111 x4.toNat))], [], (am_sh, am_mm U))) (σ2 := ((d + 1), 224, 45, [some (.inr (.inr 86)), some (.inl x1), some (.inl x2), some (.inl x3), some (.inl x4), some (.inl (U 111 x4.toNat))], [], (am_sh, am_mm U))) 4 (fun _ => rfl) (fun hc => ?_) (fun hc => ?_)
    · have h2a1 := h2a.1 hc
      refine ev_br (P := ¬ (U 111 x4.toNat) = 22) (σ1 := ((d + 1), 224, 98, [some (.inr (.inr 86)), some (.inl x1), some (.inl x2), some (.inl x3), some (.inl x4), some (.inl (U 111 x4.toNat))], [], (am_sh, am_mm U))) (σ2 := ((d + 1), 224, 77, [some (.inr (.inr 86)), some (.inl x1), some (.inl x2), some (.inl x3), some (.inl x4), some (.inl (U 111 x4.toNat))], [], (am_sh, am_mm U))) 3 (fun _ => rfl) (fun hc => ?_) (fun hc => ?_)
      · have h2a11 := h2a1.1 hc
        refine ev_br (P := ¬ (U 111 x4.toNat) = 24) (σ1 := ((d + 1), 224, 135, [some (.inr (.inr 86)), some (.inl x1), some (.inl x2), some (.inl x3), some (.inl x4), some (.inl (U 111 x4.toNat))], [], (am_sh, am_mm U))) (σ2 := ((d + 1), 224, 105, [some (.inr (.inr 86)), some (.inl x1), some (.inl x2), some (.inl x3), some (.inl x4), some (.inl (U 111 x4.toNat))], [], (am_sh, am_mm U))) 3 (fun _ => rfl) (fun hc => ?_) (fun hc => ?_)
        · have h2a111 := h2a11.1 hc
          refine ev_br (P := ¬ (U 111 x4.toNat) = 25) (σ1 := ((d + 1), 224, 172, [some (.inr (.inr 86)), some (.inl x1), some (.inl x2), some (.inl x3), some (.inl x4), some (.inl (U 111 x4.toNat))], [], (am_sh, am_mm U))) (σ2 := ((d + 1), 224, 142, [some (.inr (.inr 86)), some (.inl x1), some (.inl x2), some (.inl x3), some (.inl x4), some (.inl (U 111 x4.toNat))], [], (am_sh, am_mm U))) 3 (fun _ => rfl) (fun hc => ?_) (fun hc => ?_)
          · have h2a1111 := h2a111.1 hc
            refine ev_seg (σ1 := ((d + 1), 224, 191, [some (.inr (.inr 86)), some (.inl x1), some (.inl x2), some (.inl (w32 (x3 + (-1)))), some (.inl x4), some (.inl (U 111 x4.toNat))], [.inl (w32 ((w32 (x3 + (-1))) - 1)), .inr (.inr 125), .inl (U 111 x4.toNat), .inl (w32 ((w32 (x3 + (-1))) - 1)), .inr (.inr 125)], (am_sh, am_mm U))) 12 (fun _ => rfl) ?_
            refine eu_lald 125 (n := 500) rfl (by decide) rfl (fun _ => rfl) h2a1111.1 ?_
            have h2a1111a := h2a1111.2
            refine ev_seg (σ1 := ((d + 1), 224, 197, [some (.inr (.inr 86)), some (.inl x1), some (.inl x2), some (.inl (w32 (x3 + (-1)))), some (.inl x4), some (.inl (U 111 x4.toNat))], [.inl (w32 (x3 + (-1))), .inr (.inr 125), .inr (.inl (U 125 (w32 ((w32 (x3 + (-1))) - 1)).toNat)), .inl (U 111 x4.toNat), .inl (w32 ((w32 (x3 + (-1))) - 1)), .inr (.inr 125)], (am_sh, am_mm U))) 3 (fun _ => rfl) ?_
            refine eu_lald 125 (n := 500) rfl (by decide) rfl (fun _ => rfl) h2a1111a.1 ?_
            have h2a1111aa := h2a1111a.2
            obtain ⟨r1, U1, h2a1111aac, h2a1111aaa⟩ := h2a1111aa
            refine ev_cal (σc := (d, 279, 0, [some (.inl (U 111 x4.toNat)), some (.inr (.inl (U 125 (w32 ((w32 (x3 + (-1))) - 1)).toNat))), none, some (.inr (.inl (U 125 (w32 (x3 + (-1))).toNat))), none], [], (am_sh, am_mm U))) (fun _ => rfl) h2a1111aac ?_
            show Ev kz ((d + 1), 224, 201, [some (.inr (.inr 86)), some (.inl x1), some (.inl x2), some (.inl (w32 (x3 + (-1)))), some (.inl x4), some (.inl (U 111 x4.toNat))], [.inr (.inl r1), .inl (w32 ((w32 (x3 + (-1))) - 1)), .inr (.inr 125)], (am_sh, am_mm U1)) R
            refine eu_last 125 (n := 500) rfl (by decide) rfl (fun _ => rfl) h2a1111aaa.1 ?_
            have h2a1111aaaa := h2a1111aaa.2
            refine ev_seg (σ1 := ((d + 1), 224, 14, [some (.inr (.inr 86)), some (.inl x1), some (.inl x2), some (.inl (w32 (x3 + (-1)))), some (.inl (w32 (x4 + 1))), some (.inl (U 111 x4.toNat))], [], (am_sh, am_mm (am_upd U1 125 (w32 ((w32 (x3 + (-1))) - 1)).toNat r1)))) 2 (fun _ => rfl) ?_
            exact h2a1111aaaa
          · have h2a1112 := h2a111.2 hc
            refine ev_seg (σ1 := ((d + 1), 224, 156, [some (.inr (.inr 86)), some (.inl x1), some (.inl x2), some (.inl x3), some (.inl x4), some (.inl (U 111 x4.toNat))], [.inl (w32 (x3 - 1)), .inr (.inr 125), .inl (w32 (x3 - 1)), .inr (.inr 125)], (am_sh, am_mm U))) 10 (fun _ => rfl) ?_
            refine eu_lald 125 (n := 500) rfl (by decide) rfl (fun _ => rfl) h2a1112.1 ?_
            have h2a1112a := h2a1112.2
            obtain ⟨r2, U2, h2a1112ac, h2a1112aa⟩ := h2a1112a
            refine ev_cal (σc := (d, 122, 0, [some (.inr (.inl (U 125 (w32 (x3 - 1)).toNat))), none], [], (am_sh, am_mm U))) (fun _ => rfl) h2a1112ac ?_
            show Ev kz ((d + 1), 224, 160, [some (.inr (.inr 86)), some (.inl x1), some (.inl x2), some (.inl x3), some (.inl x4), some (.inl (U 111 x4.toNat))], [.inl r2, .inl (w32 (x3 - 1)), .inr (.inr 125)], (am_sh, am_mm U2)) R
            refine ev_br (P := r2 = 0) (σ1 := ((d + 1), 224, 167, [some (.inr (.inr 86)), some (.inl x1), some (.inl x2), some (.inl x3), some (.inl x4), some (.inl (U 111 x4.toNat))], [.inl (w32 (x3 - 1)), .inr (.inr 125)], (am_sh, am_mm U2))) (σ2 := ((d + 1), 224, 163, [some (.inr (.inr 86)), some (.inl x1), some (.inl x2), some (.inl x3), some (.inl x4), some (.inl (U 111 x4.toNat))], [.inl (w32 (x3 - 1)), .inr (.inr 125)], (am_sh, am_mm U2))) 1 (fun _ => rfl) (fun hc => ?_) (fun hc => ?_)
            · have h2a1112aa1 := h2a1112aa.1 hc
              refine ev_seg (σ1 := ((d + 1), 224, 168, [some (.inr (.inr 86)), some (.inl x1), some (.inl x2), some (.inl x3), some (.inl x4), some (.inl (U 111 x4.toNat))], [.inr (.inl 0), .inl (w32 (x3 - 1)), .inr (.inr 125)], (am_sh, am_mm U2))) 1 (fun _ => rfl) ?_
              refine eu_last 125 (n := 500) rfl (by decide) rfl (fun _ => rfl) h2a1112aa1.1 ?_
              have h2a1112aa1a := h2a1112aa1.2
              refine ev_seg (σ1 := ((d + 1), 224, 14, [some (.inr (.inr 86)), some (.inl x1), some (.inl x2), some (.inl x3), some (.inl (w32 (x4 + 1))), some (.inl (U 111 x4.toNat))], [], (am_sh, am_mm (am_upd U2 125 (w32 (x3 - 1)).toNat 0)))) 3 (fun _ => rfl) ?_
              exact h2a1112aa1a
            · have h2a1112aa2 := h2a1112aa.2 hc
              refine ev_seg (σ1 := ((d + 1), 224, 168, [some (.inr (.inr 86)), some (.inl x1), some (.inl x2), some (.inl x3), some (.inl x4), some (.inl (U 111 x4.toNat))], [.inr (.inl 1), .inl (w32 (x3 - 1)), .inr (.inr 125)], (am_sh, am_mm U2))) 2 (fun _ => rfl) ?_
              refine eu_last 125 (n := 500) rfl (by decide) rfl (fun _ => rfl) h2a1112aa2.1 ?_
              have h2a1112aa2a := h2a1112aa2.2
              refine ev_seg (σ1 := ((d + 1), 224, 14, [some (.inr (.inr 86)), some (.inl x1), some (.inl x2), some (.inl x3), some (.inl (w32 (x4 + 1))), some (.inl (U 111 x4.toNat))], [], (am_sh, am_mm (am_upd U2 125 (w32 (x3 - 1)).toNat 1)))) 3 (fun _ => rfl) ?_
              exact h2a1112aa2a
        · have h2a112 := h2a11.2 hc
          refine ev_seg (σ1 := ((d + 1), 224, 119, [some (.inr (.inr 86)), some (.inl x1), some (.inl x2), some (.inl x3), some (.inl x4), some (.inl (U 111 x4.toNat))], [.inl (w32 (x3 - 1)), .inr (.inr 125), .inl (w32 (x3 - 1)), .inr (.inr 125)], (am_sh, am_mm U))) 10 (fun _ => rfl) ?_
          refine eu_lald 125 (n := 500) rfl (by decide) rfl (fun _ => rfl) h2a112.1 ?_
          have h2a112a := h2a112.2
          obtain ⟨r3, U3, h2a112ac, h2a112aa⟩ := h2a112a
          refine ev_cal (σc := (d, 278, 0, [some (.inr (.inl (U 125 (w32 (x3 - 1)).toNat))), none, none, none, none, none, none, none], [], (am_sh, am_mm U))) (fun _ => rfl) h2a112ac ?_
          show Ev kz ((d + 1), 224, 123, [some (.inr (.inr 86)), some (.inl x1), some (.inl x2), some (.inl x3), some (.inl x4), some (.inl (U 111 x4.toNat))], [.inl r3, .inl (w32 (x3 - 1)), .inr (.inr 125)], (am_sh, am_mm U3)) R
          refine ev_br (P := r3 = 0) (σ1 := ((d + 1), 224, 130, [some (.inr (.inr 86)), some (.inl x1), some (.inl x2), some (.inl x3), some (.inl x4), some (.inl (U 111 x4.toNat))], [.inl (w32 (x3 - 1)), .inr (.inr 125)], (am_sh, am_mm U3))) (σ2 := ((d + 1), 224, 126, [some (.inr (.inr 86)), some (.inl x1), some (.inl x2), some (.inl x3), some (.inl x4), some (.inl (U 111 x4.toNat))], [.inl (w32 (x3 - 1)), .inr (.inr 125)], (am_sh, am_mm U3))) 1 (fun _ => rfl) (fun hc => ?_) (fun hc => ?_)
          · have h2a112aa1 := h2a112aa.1 hc
            refine ev_seg (σ1 := ((d + 1), 224, 131, [some (.inr (.inr 86)), some (.inl x1), some (.inl x2), some (.inl x3), some (.inl x4), some (.inl (U 111 x4.toNat))], [.inr (.inl 0), .inl (w32 (x3 - 1)), .inr (.inr 125)], (am_sh, am_mm U3))) 1 (fun _ => rfl) ?_
            refine eu_last 125 (n := 500) rfl (by decide) rfl (fun _ => rfl) h2a112aa1.1 ?_
            have h2a112aa1a := h2a112aa1.2
            refine ev_seg (σ1 := ((d + 1), 224, 14, [some (.inr (.inr 86)), some (.inl x1), some (.inl x2), some (.inl x3), some (.inl (w32 (x4 + 1))), some (.inl (U 111 x4.toNat))], [], (am_sh, am_mm (am_upd U3 125 (w32 (x3 - 1)).toNat 0)))) 3 (fun _ => rfl) ?_
            exact h2a112aa1a
          · have h2a112aa2 := h2a112aa.2 hc
            refine ev_seg (σ1 := ((d + 1), 224, 131, [some (.inr (.inr 86)), some (.inl x1), some (.inl x2), some (.inl x3), some (.inl x4), some (.inl (U 111 x4.toNat))], [.inr (.inl 1), .inl (w32 (x3 - 1)), .inr (.inr 125)], (am_sh, am_mm U3))) 2 (fun _ => rfl) ?_
            refine eu_last 125 (n := 500) rfl (by decide) rfl (fun _ => rfl) h2a112aa2.1 ?_
            have h2a112aa2a := h2a112aa2.2
            refine ev_seg (σ1 := ((d + 1), 224, 14, [some (.inr (.inr 86)), some (.inl x1), some (.inl x2), some (.inl x3), some (.inl (w32 (x4 + 1))), some (.inl (U 111 x4.toNat))], [], (am_sh, am_mm (am_upd U3 125 (w32 (x3 - 1)).toNat 1)))) 3 (fun _ => rfl) ?_
            exact h2a112aa2a
      · have h2a12 := h2a1.2 hc
        refine ev_seg (σ1 := ((d + 1), 224, 92, [some (.inr (.inr 86)), some (.inl x1), some (.inl x2), some (.inl x3), some (.inl x4), some (.inl (U 111 x4.toNat))], [.inl (w32 (x3 - 1)), .inr (.inr 125), .inr (.inl 1), .inl (w32 (x3 - 1)), .inr (.inr 125)], (am_sh, am_mm U))) 11 (fun _ => rfl) ?_
        refine eu_lald 125 (n := 500) rfl (by decide) rfl (fun _ => rfl) h2a12.1 ?_
        have h2a12a := h2a12.2
        refine ev_seg (σ1 := ((d + 1), 224, 94, [some (.inr (.inr 86)), some (.inl x1), some (.inl x2), some (.inl x3), some (.inl x4), some (.inl (U 111 x4.toNat))], [.inr (.inl (w64 (1 - (U 125 (w32 (x3 - 1)).toNat)))), .inl (w32 (x3 - 1)), .inr (.inr 125)], (am_sh, am_mm U))) 1 (fun _ => rfl) ?_
        refine eu_last 125 (n := 500) rfl (by decide) rfl (fun _ => rfl) h2a12a.1 ?_
        have h2a12aa := h2a12a.2
        refine ev_seg (σ1 := ((d + 1), 224, 14, [some (.inr (.inr 86)), some (.inl x1), some (.inl x2), some (.inl x3), some (.inl (w32 (x4 + 1))), some (.inl (U 111 x4.toNat))], [], (am_sh, am_mm (am_upd U 125 (w32 (x3 - 1)).toNat (w64 (1 - (U 125 (w32 (x3 - 1)).toNat))))))) 3 (fun _ => rfl) ?_
        exact h2a12aa
    · have h2a2 := h2a.2 hc
      refine ev_seg (σ1 := ((d + 1), 224, 59, [some (.inr (.inr 86)), some (.inl x1), some (.inl x2), some (.inl x3), some (.inl x4), some (.inl (U 111 x4.toNat))], [.inl x4, .inr (.inr 112), .inl (U 111 x4.toNat), .inr (.inr 86), .inl x3, .inr (.inr 125)], (am_sh, am_mm U))) 8 (fun _ => rfl) ?_
      refine eu_iald 112 (n := 3200) rfl (by decide) rfl (fun _ => rfl) h2a2.1 ?_
      have h2a2a := h2a2.2
      obtain ⟨r4, U4, h2a2ac, h2a2aa⟩ := h2a2a
      refine ev_cal (σc := (d, 277, 0, [some (.inr (.inr 86)), some (.inl (U 111 x4.toNat)), some (.inl (U 112 x4.toNat)), none], [], (am_sh, am_mm U))) (fun _ => rfl) h2a2ac ?_
      show Ev kz ((d + 1), 224, 63, [some (.inr (.inr 86)), some (.inl x1), some (.inl x2), some (.inl x3), some (.inl x4), some (.inl (U 111 x4.toNat))], [.inr (.inl r4), .inl x3, .inr (.inr 125)], (am_sh, am_mm U4)) R
      refine eu_last 125 (n := 500) rfl (by decide) rfl (fun _ => rfl) h2a2aa.1 ?_
      have h2a2aaa := h2a2aa.2
      refine ev_seg (σ1 := ((d + 1), 224, 14, [some (.inr (.inr 86)), some (.inl x1), some (.inl x2), some (.inl (w32 (x3 + 1))), some (.inl (w32 (x4 + 1))), some (.inl (U 111 x4.toNat))], [], (am_sh, am_mm (am_upd U4 125 x3.toNat r4)))) 4 (fun _ => rfl) ?_
      exact h2a2aaa
set_option maxRecDepth 8000 in
theorem st229_1_0 (kz : am_Z) (d : Nat) (x1 x2 : Int) (U : Nat → Nat → Int) (R : Option am_V × am_M) (h : (((x1 = 0 : Prop)) → R = (some (.inl 0), (am_sh, am_mm U))) ∧ (¬ (x1 = 0) → (((999999999 < x1 : Prop)) → R = (some (.inl 0), (am_sh, am_mm U))) ∧ (¬ (999999999 < x1) → (((16 ≤ (U 16 0) : Prop)) → R = (some (.inl 0), (am_sh, am_mm U))) ∧ (¬ (16 ≤ (U 16 0)) → ∃ (r1 : Int) (U1 : Nat → Nat → Int), Ev kz (d, 280, 0, [some (.inr (.inr 16)), some (.inl x1), none], [], (am_sh, am_mm U)) (some (.inl r1), (am_sh, am_mm U1)) ∧ (((r1 < 0 : Prop)) → ∃ U2 : Nat → Nat → Int, Ev kz (d, 180, 0, [some (.inr (.inr 16)), some (.inl x1), some (.inl x2)], [], (am_sh, am_mm U1)) (none, (am_sh, am_mm U2)) ∧ R = (some (.inl 1), (am_sh, am_mm U2))) ∧ (¬ (r1 < 0) → R = (some (.inl 0), (am_sh, am_mm U1))))))) : Ev kz ((d + 1), 229, 0, [some (.inr (.inr 1)), some (.inl x1), some (.inl x2)], [], (am_sh, am_mm U)) R := by
  refine ev_br (P := x1 = 0) (σ1 := ((d + 1), 229, 34, [some (.inr (.inr 1)), some (.inl x1), some (.inl x2)], [], (am_sh, am_mm U))) (σ2 := ((d + 1), 229, 4, [some (.inr (.inr 1)), some (.inl x1), some (.inl x2)], [], (am_sh, am_mm U))) 2 (fun _ => rfl) (fun hc => ?_) (fun hc => ?_)
  · have h1 := h.1 hc
    subst h1
    exact ev_end 2 (fun _ => rfl)
  · have h2 := h.2 hc
    refine ev_br (P := 999999999 < x1) (σ1 := ((d + 1), 229, 34, [some (.inr (.inr 1)), some (.inl x1), some (.inl x2)], [], (am_sh, am_mm U))) (σ2 := ((d + 1), 229, 11, [some (.inr (.inr 1)), some (.inl x1), some (.inl x2)], [], (am_sh, am_mm U))) 3 (fun _ => rfl) (fun hc => ?_) (fun hc => ?_)
    · have h21 := h2.1 hc
      subst h21
      exact ev_end 2 (fun _ => rfl)
    · have h22 := h2.2 hc
      refine ev_br (P := 16 ≤ (U 16 0)) (σ1 := ((d + 1), 229, 34, [some (.inr (.inr 1)), some (.inl x1), some (.inl x2)], [], (am_sh, am_mm U))) (σ2 := ((d + 1), 229, 23, [some (.inr (.inr 1)), some (.inl x1), some (.inl x2)], [], (am_sh, am_mm U))) 5 (fun _ => rfl) (fun hc => ?_) (fun hc => ?_)
      · have h221 := h22.1 hc
        subst h221
        exact ev_end 2 (fun _ => rfl)
      · have h222 := h22.2 hc
        refine ev_seg (σ1 := ((d + 1), 229, 28, [some (.inr (.inr 1)), some (.inl x1), some (.inl x2)], [.inl x1, .inr (.inr 16)], (am_sh, am_mm U))) 3 (fun _ => rfl) ?_
        obtain ⟨r1, U1, h222c, h222a⟩ := h222
        refine ev_cal (σc := (d, 280, 0, [some (.inr (.inr 16)), some (.inl x1), none], [], (am_sh, am_mm U))) (fun _ => rfl) h222c ?_
        show Ev kz ((d + 1), 229, 31, [some (.inr (.inr 1)), some (.inl x1), some (.inl x2)], [.inl r1], (am_sh, am_mm U1)) R
        refine ev_br (P := r1 < 0) (σ1 := ((d + 1), 229, 36, [some (.inr (.inr 1)), some (.inl x1), some (.inl x2)], [], (am_sh, am_mm U1))) (σ2 := ((d + 1), 229, 34, [some (.inr (.inr 1)), some (.inl x1), some (.inl x2)], [], (am_sh, am_mm U1))) 1 (fun _ => rfl) (fun hc => ?_) (fun hc => ?_)
        · have h222a1 := h222a.1 hc
          refine ev_seg (σ1 := ((d + 1), 229, 42, [some (.inr (.inr 1)), some (.inl x1), some (.inl x2)], [.inl x2, .inl x1, .inr (.inr 16)], (am_sh, am_mm U1))) 4 (fun _ => rfl) ?_
          obtain ⟨U2, h222a1c, h222a1a⟩ := h222a1
          refine ev_cal (σc := (d, 180, 0, [some (.inr (.inr 16)), some (.inl x1), some (.inl x2)], [], (am_sh, am_mm U1))) (fun _ => rfl) h222a1c ?_
          show Ev kz ((d + 1), 229, 45, [some (.inr (.inr 1)), some (.inl x1), some (.inl x2)], [], (am_sh, am_mm U2)) R
          subst h222a1a
          exact ev_end 2 (fun _ => rfl)
        · have h222a2 := h222a.2 hc
          subst h222a2
          exact ev_end 2 (fun _ => rfl)
set_option maxRecDepth 8000 in
theorem st226_1_0 (kz : am_Z) (d : Nat) (U : Nat → Nat → Int) (R : Option am_V × am_M) (h : ∃ (r1 : Int) (U1 : Nat → Nat → Int), Ev kz (d, 228, 0, [some (.inr (.inr 1)), some (.inl (U 3 1))], [], (am_sh, am_mm U)) (some (.inl r1), (am_sh, am_mm U1)) ∧ ∃ (r2 : Int) (U2 : Nat → Nat → Int), Ev kz (d, 228, 0, [some (.inr (.inr 1)), some (.inl 100)], [], (am_sh, am_mm U1)) (some (.inl r2), (am_sh, am_mm U2)) ∧ (((r2 < (U2 3 5) : Prop)) → Ev kz ((d + 1), 226, 31, [some (.inr (.inr 1)), some (.inl r1), some (.inl 0)], [], (am_sh, am_mm U2)) R) ∧ (¬ (r2 < (U2 3 5)) → R = (none, (am_sh, am_mm U2)))) : Ev kz ((d + 1), 226, 0, [some (.inr (.inr 1)), none, none], [], (am_sh, am_mm U)) R := by
  refine ev_seg (σ1 := ((d + 1), 226, 8, [some (.inr (.inr 1)), none, none], [.inl (U 3 1), .inr (.inr 1)], (am_sh, am_mm U))) 4 (fun _ => rfl) ?_
  obtain ⟨r1, U1, hc, ha⟩ := h
  refine ev_cal (σc := (d, 228, 0, [some (.inr (.inr 1)), some (.inl (U 3 1))], [], (am_sh, am_mm U))) (fun _ => rfl) hc ?_
  show Ev kz ((d + 1), 226, 11, [some (.inr (.inr 1)), none, none], [.inl r1], (am_sh, am_mm U1)) R
  refine ev_seg (σ1 := ((d + 1), 226, 15, [some (.inr (.inr 1)), some (.inl r1), none], [.inl 100, .inr (.inr 1)], (am_sh, am_mm U1))) 3 (fun _ => rfl) ?_
  obtain ⟨r2, U2, hac, haa⟩ := ha
  refine ev_cal (σc := (d, 228, 0, [some (.inr (.inr 1)), some (.inl 100)], [], (am_sh, am_mm U1))) (fun _ => rfl) hac ?_
  show Ev kz ((d + 1), 226, 18, [some (.inr (.inr 1)), some (.inl r1), none], [.inl r2], (am_sh, am_mm U2)) R
  refine ev_br (P := r2 < (U2 3 5)) (σ1 := ((d + 1), 226, 29, [some (.inr (.inr 1)), some (.inl r1), none], [], (am_sh, am_mm U2))) (σ2 := ((d + 1), 226, 28, [some (.inr (.inr 1)), some (.inl r1), none], [], (am_sh, am_mm U2))) 4 (fun _ => rfl) (fun hc => ?_) (fun hc => ?_)
  · have haa1 := haa.1 hc
    refine ev_seg (σ1 := ((d + 1), 226, 31, [some (.inr (.inr 1)), some (.inl r1), some (.inl 0)], [], (am_sh, am_mm U2))) 2 (fun _ => rfl) ?_
    exact haa1
  · have haa2 := haa.2 hc
    subst haa2
    exact ev_end 1 (fun _ => rfl)
set_option maxRecDepth 8000 in
theorem st226_1_31 (kz : am_Z) (d : Nat) (x1 x2 : Int) (U : Nat → Nat → Int) (R : Option am_V × am_M) (h : ((((U 16 0) ≤ x2 : Prop)) → R = (none, (am_sh, am_mm U))) ∧ (¬ ((U 16 0) ≤ x2) → (0 ≤ x2 ∧ x2 < 16) ∧ (((¬ (U 18 x2.toNat) = x1 : Prop)) → Ev kz ((d + 1), 226, 31, [some (.inr (.inr 1)), some (.inl x1), some (.inl (w32 (x2 + 1)))], [], (am_sh, am_mm U)) R) ∧ (¬ (¬ (U 18 x2.toNat) = x1) → ∃ U1 : Nat → Nat → Int, Ev kz (d, 138, 0, [some (.inr (.inr 16)), some (.inl x2), some (.inl (-1)), none], [], (am_sh, am_mm U)) (none, (am_sh, am_mm U1)) ∧ Ev kz ((d + 1), 226, 31, [some (.inr (.inr 1)), some (.inl x1), some (.inl (w32 (x2 + 1)))], [], (am_sh, am_mm U1)) R))) : Ev kz ((d + 1), 226, 31, [some (.inr (.inr 1)), some (.inl x1), some (.inl x2)], [], (am_sh, am_mm U)) R := by
  refine ev_br (P := (U 16 0) ≤ x2) (σ1 := ((d + 1), 226, 70, [some (.inr (.inr 1)), some (.inl x1), some (.inl x2)], [], (am_sh, am_mm U))) (σ2 := ((d + 1), 226, 42, [some (.inr (.inr 1)), some (.inl x1), some (.inl x2)], [], (am_sh, am_mm U))) 5 (fun _ => rfl) (fun hc => ?_) (fun hc => ?_)
  · have h1 := h.1 hc
    subst h1
    exact ev_end 1 (fun _ => rfl)
  · have h2 := h.2 hc
    refine ev_seg (σ1 := ((d + 1), 226, 50, [some (.inr (.inr 1)), some (.inl x1), some (.inl x2)], [.inl x2, .inr (.inr 18)], (am_sh, am_mm U))) 4 (fun _ => rfl) ?_
    refine eu_iald 18 (n := 16) rfl (by decide) rfl (fun _ => rfl) h2.1 ?_
    have h2a := h2.2
    refine ev_br (P := ¬ (U 18 x2.toNat) = x1) (σ1 := ((d + 1), 226, 64, [some (.inr (.inr 1)), some (.inl x1), some (.inl x2)], [], (am_sh, am_mm U))) (σ2 := ((d + 1), 226, 55, [some (.inr (.inr 1)), some (.inl x1), some (.inl x2)], [], (am_sh, am_mm U))) 2 (fun _ => rfl) (fun hc => ?_) (fun hc => ?_)
    · have h2a1 := h2a.1 hc
      refine ev_seg (σ1 := ((d + 1), 226, 31, [some (.inr (.inr 1)), some (.inl x1), some (.inl (w32 (x2 + 1)))], [], (am_sh, am_mm U))) 2 (fun _ => rfl) ?_
      exact h2a1
    · have h2a2 := h2a.2 hc
      refine ev_seg (σ1 := ((d + 1), 226, 61, [some (.inr (.inr 1)), some (.inl x1), some (.inl x2)], [.inl (-1), .inl x2, .inr (.inr 16)], (am_sh, am_mm U))) 4 (fun _ => rfl) ?_
      obtain ⟨U1, h2a2c, h2a2a⟩ := h2a2
      refine ev_cal (σc := (d, 138, 0, [some (.inr (.inr 16)), some (.inl x2), some (.inl (-1)), none], [], (am_sh, am_mm U))) (fun _ => rfl) h2a2c ?_
      show Ev kz ((d + 1), 226, 64, [some (.inr (.inr 1)), some (.inl x1), some (.inl x2)], [], (am_sh, am_mm U1)) R
      refine ev_seg (σ1 := ((d + 1), 226, 31, [some (.inr (.inr 1)), some (.inl x1), some (.inl (w32 (x2 + 1)))], [], (am_sh, am_mm U1))) 2 (fun _ => rfl) ?_
      exact h2a2a
set_option maxRecDepth 8000 in
theorem st228_1_0 (kz : am_Z) (d : Nat) (x1 : Int) (U : Nat → Nat → Int) (R : Option am_V × am_M) (h : (if 1 < x1 then x1 else 1) ≠ 0 ∧ R = (some (.inl (Int.tmod (w32 (Int.tdiv ((am_upd U 1 18 (w32 (am_land (w64 ((w64 (1103515245 * (U 1 18))) + 12345)) 2147483647))) 1 18) 64)) (if 1 < x1 then x1 else 1))), (am_sh, am_mm (am_upd U 1 18 (w32 (am_land (w64 ((w64 (1103515245 * (U 1 18))) + 12345)) 2147483647)))))) : Ev kz ((d + 1), 228, 0, [some (.inr (.inr 1)), some (.inl x1)], [], (am_sh, am_mm U)) R := by
  refine ev_seg (σ1 := ((d + 1), 228, 19, [some (.inr (.inr 1)), some (.inl x1)], [.inl (w32 (am_land (w64 ((w64 (1103515245 * (U 1 18))) + 12345)) 2147483647)), .inr (.inr 1)], (am_sh, am_mm U))) 11 (fun _ => rfl) ?_
  refine eu_puti 1 (n := 19) rfl (by decide) rfl rfl ?_
  refine ev_seg (σ1 := ((d + 1), 228, 28, [some (.inr (.inr 1)), some (.inl x1)], [.inl 64, .inl ((am_upd U 1 18 (w32 (am_land (w64 ((w64 (1103515245 * (U 1 18))) + 12345)) 2147483647))) 1 18)], (am_sh, am_mm (am_upd U 1 18 (w32 (am_land (w64 ((w64 (1103515245 * (U 1 18))) + 12345)) 2147483647)))))) 3 (fun _ => rfl) ?_
  refine ev_idiv rfl (by decide) ?_
  refine ev_seg (σ1 := ((d + 1), 228, 34, [some (.inr (.inr 1)), some (.inl x1)], [.inl (if 1 < x1 then x1 else 1), .inl (w32 (Int.tdiv ((am_upd U 1 18 (w32 (am_land (w64 ((w64 (1103515245 * (U 1 18))) + 12345)) 2147483647))) 1 18) 64))], (am_sh, am_mm (am_upd U 1 18 (w32 (am_land (w64 ((w64 (1103515245 * (U 1 18))) + 12345)) 2147483647)))))) 3 (fun _ => rfl) ?_
  refine ev_irem rfl h.1 ?_
  have ha := h.2
  subst ha
  exact ev_end 1 (fun _ => rfl)
set_option maxRecDepth 8000 in
theorem st227_1_0 (kz : am_Z) (d : Nat) (U : Nat → Nat → Int) (R : Option am_V × am_M) (h : ∃ (r1 : Int) (U1 : Nat → Nat → Int), Ev kz (d, 228, 0, [some (.inr (.inr 1)), some (.inl (U 3 1))], [], (am_sh, am_mm U)) (some (.inl r1), (am_sh, am_mm U1)) ∧ ∃ (r2 : Int) (U2 : Nat → Nat → Int), Ev kz (d, 102, 0, [some (.inr (.inr 1)), some (.inl r1)], [], (am_sh, am_mm U1)) (some (.inl r2), (am_sh, am_mm U2)) ∧ (((¬ r2 = 0 : Prop)) → (0 ≤ r1 ∧ r1 < 12) ∧ ∃ (r3 : Int) (U3 : Nat → Nat → Int), Ev kz (d, 107, 0, [some (.inl (U2 19 r1.toNat)), some (.inl 0), none, none], [], (am_sh, am_mm U2)) (some (.inl r3), (am_sh, am_mm U3)) ∧ (0 ≤ r1 ∧ r1 < 12) ∧ ∃ (r4 : Int) (U4 : Nat → Nat → Int), Ev kz (d, 107, 0, [some (.inl (U3 19 r1.toNat)), some (.inl 1), none, none], [], (am_sh, am_mm U3)) (some (.inl r4), (am_sh, am_mm U4)) ∧ ∃ (r5 : Int) (U5 : Nat → Nat → Int), Ev kz (d, 114, 0, [some (.inr (.inr 1)), some (.inl r3)], [], (am_sh, am_mm U4)) (some (.inl r5), (am_sh, am_mm U5)) ∧ (((r5 = 0 : Prop)) → R = (some (.inl 0), (am_sh, am_mm U5))) ∧ (¬ (r5 = 0) → ∃ (r6 : Int) (U6 : Nat → Nat → Int), Ev kz (d, 114, 0, [some (.inr (.inr 1)), some (.inl r4)], [], (am_sh, am_mm U5)) (some (.inl r6), (am_sh, am_mm U6)) ∧ (((r6 = 0 : Prop)) → R = (some (.inl 0), (am_sh, am_mm U6))) ∧ (¬ (r6 = 0) → ∃ (r7 : Int) (U7 : Nat → Nat → Int), Ev kz (d, 106, 0, [some (.inr (.inr 16)), some (.inl r1)], [], (am_sh, am_mm U6)) (some (.inl r7), (am_sh, am_mm U7)) ∧ (0 ≤ r1 ∧ r1 < 12) ∧ (((r7 < (U7 8 r1.toNat) : Prop)) → (0 ≤ r3 ∧ r3 < 16) ∧ (0 ≤ r4 ∧ r4 < 16) ∧ ∃ (r8 : Int) (U8 : Nat → Nat → Int), Ev kz (d, 229, 0, [some (.inr (.inr 1)), some (.inl (if 0 ≤ (w32 ((U7 17 r3.toNat) - (U7 17 r4.toNat))) then (w32 ((U7 17 r3.toNat) - (U7 17 r4.toNat))) else w32 (-(w32 ((U7 17 r3.toNat) - (U7 17 r4.toNat)))))), some (.inl r1)], [], (am_sh, am_mm U7)) (some (.inl r8), (am_sh, am_mm U8)) ∧ R = (some (.inl r8), (am_sh, am_mm U8))) ∧ (¬ (r7 < (U7 8 r1.toNat)) → R = (some (.inl 0), (am_sh, am_mm U7)))))) ∧ (¬ (¬ r2 = 0) → R = (some (.inl 0), (am_sh, am_mm U2)))) : Ev kz ((d + 1), 227, 0, [some (.inr (.inr 1)), none, none, none], [], (am_sh, am_mm U)) R := by
  refine ev_seg (σ1 := ((d + 1), 227, 8, [some (.inr (.inr 1)), none, none, none], [.inl (U 3 1), .inr (.inr 1)], (am_sh, am_mm U))) 4 (fun _ => rfl) ?_
  obtain ⟨r1, U1, hc, ha⟩ := h
  refine ev_cal (σc := (d, 228, 0, [some (.inr (.inr 1)), some (.inl (U 3 1))], [], (am_sh, am_mm U))) (fun _ => rfl) hc ?_
  show Ev kz ((d + 1), 227, 11, [some (.inr (.inr 1)), none, none, none], [.inl r1], (am_sh, am_mm U1)) R
  refine ev_seg (σ1 := ((d + 1), 227, 14, [some (.inr (.inr 1)), some (.inl r1), none, none], [.inl r1, .inr (.inr 1)], (am_sh, am_mm U1))) 3 (fun _ => rfl) ?_
  obtain ⟨r2, U2, hac, haa⟩ := ha
  refine ev_cal (σc := (d, 102, 0, [some (.inr (.inr 1)), some (.inl r1)], [], (am_sh, am_mm U1))) (fun _ => rfl) hac ?_
  show Ev kz ((d + 1), 227, 17, [some (.inr (.inr 1)), some (.inl r1), none, none], [.inl r2], (am_sh, am_mm U2)) R
  refine ev_br (P := ¬ r2 = 0) (σ1 := ((d + 1), 227, 22, [some (.inr (.inr 1)), some (.inl r1), none, none], [], (am_sh, am_mm U2))) (σ2 := ((d + 1), 227, 20, [some (.inr (.inr 1)), some (.inl r1), none, none], [], (am_sh, am_mm U2))) 1 (fun _ => rfl) (fun hc => ?_) (fun hc => ?_)
  · have haa1 := haa.1 hc
    refine ev_seg (σ1 := ((d + 1), 227, 30, [some (.inr (.inr 1)), some (.inl r1), none, none], [.inl r1, .inr (.inr 19)], (am_sh, am_mm U2))) 4 (fun _ => rfl) ?_
    refine eu_iald 19 (n := 12) rfl (by decide) rfl (fun _ => rfl) haa1.1 ?_
    have haa1a := haa1.2
    refine ev_seg (σ1 := ((d + 1), 227, 32, [some (.inr (.inr 1)), some (.inl r1), none, none], [.inl 0, .inl (U2 19 r1.toNat)], (am_sh, am_mm U2))) 1 (fun _ => rfl) ?_
    obtain ⟨r3, U3, haa1ac, haa1aa⟩ := haa1a
    refine ev_cal (σc := (d, 107, 0, [some (.inl (U2 19 r1.toNat)), some (.inl 0), none, none], [], (am_sh, am_mm U2))) (fun _ => rfl) haa1ac ?_
    show Ev kz ((d + 1), 227, 35, [some (.inr (.inr 1)), some (.inl r1), none, none], [.inl r3], (am_sh, am_mm U3)) R
    refine ev_seg (σ1 := ((d + 1), 227, 44, [some (.inr (.inr 1)), some (.inl r1), some (.inl r3), none], [.inl r1, .inr (.inr 19)], (am_sh, am_mm U3))) 5 (fun _ => rfl) ?_
    refine eu_iald 19 (n := 12) rfl (by decide) rfl (fun _ => rfl) haa1aa.1 ?_
    have haa1aaa := haa1aa.2
    refine ev_seg (σ1 := ((d + 1), 227, 46, [some (.inr (.inr 1)), some (.inl r1), some (.inl r3), none], [.inl 1, .inl (U3 19 r1.toNat)], (am_sh, am_mm U3))) 1 (fun _ => rfl) ?_
    obtain ⟨r4, U4, haa1aaac, haa1aaaa⟩ := haa1aaa
    refine ev_cal (σc := (d, 107, 0, [some (.inl (U3 19 r1.toNat)), some (.inl 1), none, none], [], (am_sh, am_mm U3))) (fun _ => rfl) haa1aaac ?_
    show Ev kz ((d + 1), 227, 49, [some (.inr (.inr 1)), some (.inl r1), some (.inl r3), none], [.inl r4], (am_sh, am_mm U4)) R
    refine ev_seg (σ1 := ((d + 1), 227, 52, [some (.inr (.inr 1)), some (.inl r1), some (.inl r3), some (.inl r4)], [.inl r3, .inr (.inr 1)], (am_sh, am_mm U4))) 3 (fun _ => rfl) ?_
    obtain ⟨r5, U5, haa1aaaac, haa1aaaaa⟩ := haa1aaaa
    refine ev_cal (σc := (d, 114, 0, [some (.inr (.inr 1)), some (.inl r3)], [], (am_sh, am_mm U4))) (fun _ => rfl) haa1aaaac ?_
    show Ev kz ((d + 1), 227, 55, [some (.inr (.inr 1)), some (.inl r1), some (.inl r3), some (.inl r4)], [.inl r5], (am_sh, am_mm U5)) R
    refine ev_br (P := r5 = 0) (σ1 := ((d + 1), 227, 86, [some (.inr (.inr 1)), some (.inl r1), some (.inl r3), some (.inl r4)], [], (am_sh, am_mm U5))) (σ2 := ((d + 1), 227, 58, [some (.inr (.inr 1)), some (.inl r1), some (.inl r3), some (.inl r4)], [], (am_sh, am_mm U5))) 1 (fun _ => rfl) (fun hc => ?_) (fun hc => ?_)
    · have haa1aaaaa1 := haa1aaaaa.1 hc
      subst haa1aaaaa1
      exact ev_end 2 (fun _ => rfl)
    · have haa1aaaaa2 := haa1aaaaa.2 hc
      refine ev_seg (σ1 := ((d + 1), 227, 60, [some (.inr (.inr 1)), some (.inl r1), some (.inl r3), some (.inl r4)], [.inl r4, .inr (.inr 1)], (am_sh, am_mm U5))) 2 (fun _ => rfl) ?_
      obtain ⟨r6, U6, haa1aaaaa2c, haa1aaaaa2a⟩ := haa1aaaaa2
      refine ev_cal (σc := (d, 114, 0, [some (.inr (.inr 1)), some (.inl r4)], [], (am_sh, am_mm U5))) (fun _ => rfl) haa1aaaaa2c ?_
      show Ev kz ((d + 1), 227, 63, [some (.inr (.inr 1)), some (.inl r1), some (.inl r3), some (.inl r4)], [.inl r6], (am_sh, am_mm U6)) R
      refine ev_br (P := r6 = 0) (σ1 := ((d + 1), 227, 86, [some (.inr (.inr 1)), some (.inl r1), some (.inl r3), some (.inl r4)], [], (am_sh, am_mm U6))) (σ2 := ((d + 1), 227, 66, [some (.inr (.inr 1)), some (.inl r1), some (.inl r3), some (.inl r4)], [], (am_sh, am_mm U6))) 1 (fun _ => rfl) (fun hc => ?_) (fun hc => ?_)
      · have haa1aaaaa2a1 := haa1aaaaa2a.1 hc
        subst haa1aaaaa2a1
        exact ev_end 2 (fun _ => rfl)
      · have haa1aaaaa2a2 := haa1aaaaa2a.2 hc
        refine ev_seg (σ1 := ((d + 1), 227, 71, [some (.inr (.inr 1)), some (.inl r1), some (.inl r3), some (.inl r4)], [.inl r1, .inr (.inr 16)], (am_sh, am_mm U6))) 3 (fun _ => rfl) ?_
        obtain ⟨r7, U7, haa1aaaaa2a2c, haa1aaaaa2a2a⟩ := haa1aaaaa2a2
        refine ev_cal (σc := (d, 106, 0, [some (.inr (.inr 16)), some (.inl r1)], [], (am_sh, am_mm U6))) (fun _ => rfl) haa1aaaaa2a2c ?_
        show Ev kz ((d + 1), 227, 74, [some (.inr (.inr 1)), some (.inl r1), some (.inl r3), some (.inl r4)], [.inl r7], (am_sh, am_mm U7)) R
        refine ev_seg (σ1 := ((d + 1), 227, 82, [some (.inr (.inr 1)), some (.inl r1), some (.inl r3), some (.inl r4)], [.inl r1, .inr (.inr 8), .inl r7], (am_sh, am_mm U7))) 4 (fun _ => rfl) ?_
        refine eu_iald 8 (n := 12) rfl (by decide) rfl (fun _ => rfl) haa1aaaaa2a2a.1 ?_
        have haa1aaaaa2a2aa := haa1aaaaa2a2a.2
        refine ev_br (P := r7 < (U7 8 r1.toNat)) (σ1 := ((d + 1), 227, 88, [some (.inr (.inr 1)), some (.inl r1), some (.inl r3), some (.inl r4)], [], (am_sh, am_mm U7))) (σ2 := ((d + 1), 227, 86, [some (.inr (.inr 1)), some (.inl r1), some (.inl r3), some (.inl r4)], [], (am_sh, am_mm U7))) 1 (fun _ => rfl) (fun hc => ?_) (fun hc => ?_)
        · have haa1aaaaa2a2aa1 := haa1aaaaa2a2aa.1 hc
          refine ev_seg (σ1 := ((d + 1), 227, 97, [some (.inr (.inr 1)), some (.inl r1), some (.inl r3), some (.inl r4)], [.inl r3, .inr (.inr 17), .inr (.inr 1)], (am_sh, am_mm U7))) 5 (fun _ => rfl) ?_
          refine eu_iald 17 (n := 16) rfl (by decide) rfl (fun _ => rfl) haa1aaaaa2a2aa1.1 ?_
          have haa1aaaaa2a2aa1a := haa1aaaaa2a2aa1.2
          refine ev_seg (σ1 := ((d + 1), 227, 106, [some (.inr (.inr 1)), some (.inl r1), some (.inl r3), some (.inl r4)], [.inl r4, .inr (.inr 17), .inl (U7 17 r3.toNat), .inr (.inr 1)], (am_sh, am_mm U7))) 4 (fun _ => rfl) ?_
          refine eu_iald 17 (n := 16) rfl (by decide) rfl (fun _ => rfl) haa1aaaaa2a2aa1a.1 ?_
          have haa1aaaaa2a2aa1aa := haa1aaaaa2a2aa1a.2
          refine ev_seg (σ1 := ((d + 1), 227, 112, [some (.inr (.inr 1)), some (.inl r1), some (.inl r3), some (.inl r4)], [.inl r1, .inl (if 0 ≤ (w32 ((U7 17 r3.toNat) - (U7 17 r4.toNat))) then (w32 ((U7 17 r3.toNat) - (U7 17 r4.toNat))) else w32 (-(w32 ((U7 17 r3.toNat) - (U7 17 r4.toNat))))), .inr (.inr 1)], (am_sh, am_mm U7))) 3 (fun _ => rfl) ?_
          obtain ⟨r8, U8, haa1aaaaa2a2aa1aac, haa1aaaaa2a2aa1aaa⟩ := haa1aaaaa2a2aa1aa
          refine ev_cal (σc := (d, 229, 0, [some (.inr (.inr 1)), some (.inl (if 0 ≤ (w32 ((U7 17 r3.toNat) - (U7 17 r4.toNat))) then (w32 ((U7 17 r3.toNat) - (U7 17 r4.toNat))) else w32 (-(w32 ((U7 17 r3.toNat) - (U7 17 r4.toNat)))))), some (.inl r1)], [], (am_sh, am_mm U7))) (fun _ => rfl) haa1aaaaa2a2aa1aac ?_
          show Ev kz ((d + 1), 227, 115, [some (.inr (.inr 1)), some (.inl r1), some (.inl r3), some (.inl r4)], [.inl r8], (am_sh, am_mm U8)) R
          subst haa1aaaaa2a2aa1aaa
          exact ev_end 1 (fun _ => rfl)
        · have haa1aaaaa2a2aa2 := haa1aaaaa2a2aa.2 hc
          subst haa1aaaaa2a2aa2
          exact ev_end 2 (fun _ => rfl)
  · have haa2 := haa.2 hc
    subst haa2
    exact ev_end 2 (fun _ => rfl)
set_option maxRecDepth 8000 in
theorem st230_86_0 (kz : am_Z) (d : Nat) (x1 : Int) (U : Nat → Nat → Int) (R : Option am_V × am_M) (h : x1 ≠ 0 ∧ R = (some (.inl (w32 (Int.tmod (w64 (Int.tdiv ((am_upd U 86 59 (Int.tmod (w64 ((w64 (1103515245 * (U 86 59))) + 12345)) 2147483648)) 86 59) 64)) x1))), (am_sh, am_mm (am_upd U 86 59 (Int.tmod (w64 ((w64 (1103515245 * (U 86 59))) + 12345)) 2147483648))))) : Ev kz (d, 230, 0, [some (.inr (.inr 86)), some (.inl x1)], [], (am_sh, am_mm U)) R := by
  refine ev_seg (σ1 := (d, 230, 16, [some (.inr (.inr 86)), some (.inl x1)], [.inr (.inl 2147483648), .inr (.inl (w64 ((w64 (1103515245 * (U 86 59))) + 12345))), .inr (.inr 86)], (am_sh, am_mm U))) 8 (fun _ => rfl) ?_
  refine ev_lrem rfl (by decide) ?_
  refine eu_putj 86 (n := 90) rfl (by decide) rfl rfl ?_
  refine ev_seg (σ1 := (d, 230, 27, [some (.inr (.inr 86)), some (.inl x1)], [.inr (.inl 64), .inr (.inl ((am_upd U 86 59 (Int.tmod (w64 ((w64 (1103515245 * (U 86 59))) + 12345)) 2147483648)) 86 59))], (am_sh, am_mm (am_upd U 86 59 (Int.tmod (w64 ((w64 (1103515245 * (U 86 59))) + 12345)) 2147483648))))) 3 (fun _ => rfl) ?_
  refine ev_ldiv rfl (by decide) ?_
  refine ev_seg (σ1 := (d, 230, 30, [some (.inr (.inr 86)), some (.inl x1)], [.inr (.inl x1), .inr (.inl (w64 (Int.tdiv ((am_upd U 86 59 (Int.tmod (w64 ((w64 (1103515245 * (U 86 59))) + 12345)) 2147483648)) 86 59) 64)))], (am_sh, am_mm (am_upd U 86 59 (Int.tmod (w64 ((w64 (1103515245 * (U 86 59))) + 12345)) 2147483648))))) 2 (fun _ => rfl) ?_
  refine ev_lrem rfl h.1 ?_
  have ha := h.2
  subst ha
  exact ev_end 2 (fun _ => rfl)
set_option maxRecDepth 8000 in
theorem st232_86_0 (kz : am_Z) (d : Nat) (x1 : Int) (U : Nat → Nat → Int) (R : Option am_V × am_M) (h : ∃ (r1 : Int) (U1 : Nat → Nat → Int), Ev kz (d, 111, 0, [some (.inr (.inr 86)), some (.inl 0), some (.inl x1), none, none], [], (am_sh, am_mm U)) (some (.inl r1), (am_sh, am_mm U1)) ∧ (((r1 < 2 : Prop)) → R = (some (.inl 0), (am_sh, am_mm U1))) ∧ (¬ (r1 < 2) → ∃ (r2 : Int) (U2 : Nat → Nat → Int), Ev kz (d, 110, 0, [some (.inr (.inr 86)), some (.inl x1)], [], (am_sh, am_mm U1)) (some (.inl r2), (am_sh, am_mm U2)) ∧ (((¬ r1 = r2 : Prop)) → ∃ (r3 : Int) (U3 : Nat → Nat → Int), Ev kz (d, 16, 0, [some (.inr (.inr 86)), some (.inl x1), some (.inl 10), none, none], [], (am_sh, am_mm U2)) (some (.inl r3), (am_sh, am_mm U3)) ∧ (0 ≤ r3 ∧ r3 < 352) ∧ ∃ (r4 : Int) (U4 : Nat → Nat → Int), Ev kz (d, 16, 0, [some (.inr (.inr 86)), some (.inl x1), some (.inl 11), none, none], [], (am_sh, am_mm U3)) (some (.inl r4), (am_sh, am_mm U4)) ∧ (0 ≤ r4 ∧ r4 < 352) ∧ (((0 ≤ (w32 ((U3 123 r3.toNat) - (U4 123 r4.toNat))) : Prop)) → ∃ (r5 : Int) (U5 : Nat → Nat → Int), Ev kz (d, 233, 0, [some (.inr (.inr 86)), some (.inl (w32 ((U3 123 r3.toNat) - (U4 123 r4.toNat)))), some (.inl x1), none, none], [], (am_sh, am_mm U4)) (some (.inl r5), (am_sh, am_mm U5)) ∧ R = (some (.inl r5), (am_sh, am_mm U5))) ∧ (¬ (0 ≤ (w32 ((U3 123 r3.toNat) - (U4 123 r4.toNat)))) → ∃ (r6 : Int) (U6 : Nat → Nat → Int), Ev kz (d, 233, 0, [some (.inr (.inr 86)), some (.inl (w32 (-(w32 ((U3 123 r3.toNat) - (U4 123 r4.toNat)))))), some (.inl x1), none, none], [], (am_sh, am_mm U4)) (some (.inl r6), (am_sh, am_mm U6)) ∧ R = (some (.inl r6), (am_sh, am_mm U6)))) ∧ (¬ (¬ r1 = r2) → R = (some (.inl 0), (am_sh, am_mm U2))))) : Ev kz ((d + 1), 232, 0, [some (.inr (.inr 86)), some (.inl x1), none, none], [], (am_sh, am_mm U)) R := by
  refine ev_seg (σ1 := ((d + 1), 232, 3, [some (.inr (.inr 86)), some (.inl x1), none, none], [.inl x1, .inl 0, .inr (.inr 86)], (am_sh, am_mm U))) 3 (fun _ => rfl) ?_
  obtain ⟨r1, U1, hc, ha⟩ := h
  refine ev_cal (σc := (d, 111, 0, [some (.inr (.inr 86)), some (.inl 0), some (.inl x1), none, none], [], (am_sh, am_mm U))) (fun _ => rfl) hc ?_
  show Ev kz ((d + 1), 232, 6, [some (.inr (.inr 86)), some (.inl x1), none, none], [.inl r1], (am_sh, am_mm U1)) R
  refine ev_br (P := r1 < 2) (σ1 := ((d + 1), 232, 21, [some (.inr (.inr 86)), some (.inl x1), some (.inl r1), none], [], (am_sh, am_mm U1))) (σ2 := ((d + 1), 232, 12, [some (.inr (.inr 86)), some (.inl x1), some (.inl r1), none], [], (am_sh, am_mm U1))) 4 (fun _ => rfl) (fun hc => ?_) (fun hc => ?_)
  · have ha1 := ha.1 hc
    subst ha1
    exact ev_end 2 (fun _ => rfl)
  · have ha2 := ha.2 hc
    refine ev_seg (σ1 := ((d + 1), 232, 15, [some (.inr (.inr 86)), some (.inl x1), some (.inl r1), none], [.inl x1, .inr (.inr 86), .inl r1], (am_sh, am_mm U1))) 3 (fun _ => rfl) ?_
    obtain ⟨r2, U2, ha2c, ha2a⟩ := ha2
    refine ev_cal (σc := (d, 110, 0, [some (.inr (.inr 86)), some (.inl x1)], [], (am_sh, am_mm U1))) (fun _ => rfl) ha2c ?_
    show Ev kz ((d + 1), 232, 18, [some (.inr (.inr 86)), some (.inl x1), some (.inl r1), none], [.inl r2, .inl r1], (am_sh, am_mm U2)) R
    refine ev_br (P := ¬ r1 = r2) (σ1 := ((d + 1), 232, 23, [some (.inr (.inr 86)), some (.inl x1), some (.inl r1), none], [], (am_sh, am_mm U2))) (σ2 := ((d + 1), 232, 21, [some (.inr (.inr 86)), some (.inl x1), some (.inl r1), none], [], (am_sh, am_mm U2))) 1 (fun _ => rfl) (fun hc => ?_) (fun hc => ?_)
    · have ha2a1 := ha2a.1 hc
      refine ev_seg (σ1 := ((d + 1), 232, 31, [some (.inr (.inr 86)), some (.inl x1), some (.inl r1), none], [.inl 10, .inl x1, .inr (.inr 86), .inr (.inr 123)], (am_sh, am_mm U2))) 5 (fun _ => rfl) ?_
      obtain ⟨r3, U3, ha2a1c, ha2a1a⟩ := ha2a1
      refine ev_cal (σc := (d, 16, 0, [some (.inr (.inr 86)), some (.inl x1), some (.inl 10), none, none], [], (am_sh, am_mm U2))) (fun _ => rfl) ha2a1c ?_
      show Ev kz ((d + 1), 232, 34, [some (.inr (.inr 86)), some (.inl x1), some (.inl r1), none], [.inl r3, .inr (.inr 123)], (am_sh, am_mm U3)) R
      refine eu_iald 123 (n := 352) rfl (by decide) rfl (fun _ => rfl) ha2a1a.1 ?_
      have ha2a1aa := ha2a1a.2
      refine ev_seg (σ1 := ((d + 1), 232, 43, [some (.inr (.inr 86)), some (.inl x1), some (.inl r1), none], [.inl 11, .inl x1, .inr (.inr 86), .inr (.inr 123), .inl (U3 123 r3.toNat)], (am_sh, am_mm U3))) 5 (fun _ => rfl) ?_
      obtain ⟨r4, U4, ha2a1aac, ha2a1aaa⟩ := ha2a1aa
      refine ev_cal (σc := (d, 16, 0, [some (.inr (.inr 86)), some (.inl x1), some (.inl 11), none, none], [], (am_sh, am_mm U3))) (fun _ => rfl) ha2a1aac ?_
      show Ev kz ((d + 1), 232, 46, [some (.inr (.inr 86)), some (.inl x1), some (.inl r1), none], [.inl r4, .inr (.inr 123), .inl (U3 123 r3.toNat)], (am_sh, am_mm U4)) R
      refine eu_iald 123 (n := 352) rfl (by decide) rfl (fun _ => rfl) ha2a1aaa.1 ?_
      have ha2a1aaaa := ha2a1aaa.2
      refine ev_br (P := 0 ≤ (w32 ((U3 123 r3.toNat) - (U4 123 r4.toNat)))) (σ1 := ((d + 1), 232, 59, [some (.inr (.inr 86)), some (.inl x1), some (.inl r1), some (.inl (w32 ((U3 123 r3.toNat) - (U4 123 r4.toNat))))], [.inr (.inr 86)], (am_sh, am_mm U4))) (σ2 := ((d + 1), 232, 54, [some (.inr (.inr 86)), some (.inl x1), some (.inl r1), some (.inl (w32 ((U3 123 r3.toNat) - (U4 123 r4.toNat))))], [.inr (.inr 86)], (am_sh, am_mm U4))) 5 (fun _ => rfl) (fun hc => ?_) (fun hc => ?_)
      · have ha2a1aaaa1 := ha2a1aaaa.1 hc
        refine ev_seg (σ1 := ((d + 1), 232, 61, [some (.inr (.inr 86)), some (.inl x1), some (.inl r1), some (.inl (w32 ((U3 123 r3.toNat) - (U4 123 r4.toNat))))], [.inl x1, .inl (w32 ((U3 123 r3.toNat) - (U4 123 r4.toNat))), .inr (.inr 86)], (am_sh, am_mm U4))) 2 (fun _ => rfl) ?_
        obtain ⟨r5, U5, ha2a1aaaa1c, ha2a1aaaa1a⟩ := ha2a1aaaa1
        refine ev_cal (σc := (d, 233, 0, [some (.inr (.inr 86)), some (.inl (w32 ((U3 123 r3.toNat) - (U4 123 r4.toNat)))), some (.inl x1), none, none], [], (am_sh, am_mm U4))) (fun _ => rfl) ha2a1aaaa1c ?_
        show Ev kz ((d + 1), 232, 64, [some (.inr (.inr 86)), some (.inl x1), some (.inl r1), some (.inl (w32 ((U3 123 r3.toNat) - (U4 123 r4.toNat))))], [.inl r5], (am_sh, am_mm U5)) R
        subst ha2a1aaaa1a
        exact ev_end 1 (fun _ => rfl)
      · have ha2a1aaaa2 := ha2a1aaaa.2 hc
        refine ev_seg (σ1 := ((d + 1), 232, 61, [some (.inr (.inr 86)), some (.inl x1), some (.inl r1), some (.inl (w32 ((U3 123 r3.toNat) - (U4 123 r4.toNat))))], [.inl x1, .inl (w32 (-(w32 ((U3 123 r3.toNat) - (U4 123 r4.toNat))))), .inr (.inr 86)], (am_sh, am_mm U4))) 4 (fun _ => rfl) ?_
        obtain ⟨r6, U6, ha2a1aaaa2c, ha2a1aaaa2a⟩ := ha2a1aaaa2
        refine ev_cal (σc := (d, 233, 0, [some (.inr (.inr 86)), some (.inl (w32 (-(w32 ((U3 123 r3.toNat) - (U4 123 r4.toNat)))))), some (.inl x1), none, none], [], (am_sh, am_mm U4))) (fun _ => rfl) ha2a1aaaa2c ?_
        show Ev kz ((d + 1), 232, 64, [some (.inr (.inr 86)), some (.inl x1), some (.inl r1), some (.inl (w32 ((U3 123 r3.toNat) - (U4 123 r4.toNat))))], [.inl r6], (am_sh, am_mm U6)) R
        subst ha2a1aaaa2a
        exact ev_end 1 (fun _ => rfl)
    · have ha2a2 := ha2a.2 hc
      subst ha2a2
      exact ev_end 2 (fun _ => rfl)
set_option maxRecDepth 8000 in
theorem st231_86_0 (kz : am_Z) (d : Nat) (x1 : Int) (U : Nat → Nat → Int) (R : Option am_V × am_M) (h : Ev kz (d, 231, 2, [some (.inr (.inr 86)), some (.inl x1), some (.inl 0)], [], (am_sh, am_mm U)) R) : Ev kz (d, 231, 0, [some (.inr (.inr 86)), some (.inl x1), none], [], (am_sh, am_mm U)) R := by
  refine ev_seg (σ1 := (d, 231, 2, [some (.inr (.inr 86)), some (.inl x1), some (.inl 0)], [], (am_sh, am_mm U))) 2 (fun _ => rfl) ?_
  exact h
set_option maxRecDepth 8000 in
theorem st231_86_2 (kz : am_Z) (d : Nat) (x1 x2 : Int) (U : Nat → Nat → Int) (R : Option am_V × am_M) (h : ((((U 122 0) ≤ x2 : Prop)) → R = (none, (am_sh, am_mm U))) ∧ (¬ ((U 122 0) ≤ x2) → (0 ≤ x2 ∧ x2 < 352) ∧ (((¬ (U 124 x2.toNat) = x1 : Prop)) → (0 ≤ x2 ∧ x2 < 352) ∧ (0 ≤ x2 ∧ x2 < 352) ∧ Ev kz (d, 231, 2, [some (.inr (.inr 86)), some (.inl x1), some (.inl (w32 (x2 + 1)))], [], (am_sh, am_mm (am_upd U 124 x2.toNat (U 124 x2.toNat)))) R) ∧ (¬ (¬ (U 124 x2.toNat) = x1) → (0 ≤ x2 ∧ x2 < 352) ∧ Ev kz (d, 231, 2, [some (.inr (.inr 86)), some (.inl x1), some (.inl (w32 (x2 + 1)))], [], (am_sh, am_mm (am_upd U 124 x2.toNat (-1)))) R))) : Ev kz (d, 231, 2, [some (.inr (.inr 86)), some (.inl x1), some (.inl x2)], [], (am_sh, am_mm U)) R := by
  refine ev_seg (σ1 := (d, 231, 8, [some (.inr (.inr 86)), some (.inl x1), some (.inl x2)], [.inl 0, .inr (.inr 122), .inl x2], (am_sh, am_mm U))) 4 (fun _ => rfl) ?_
  refine eu_iald 122 (n := 22) rfl (by decide) rfl (fun _ => rfl) (by decide) ?_
  show Ev kz (d, 231, 9, [some (.inr (.inr 86)), some (.inl x1), some (.inl x2)], [.inl (U 122 0), .inl x2], (am_sh, am_mm U)) R
  refine ev_br (P := (U 122 0) ≤ x2) (σ1 := (d, 231, 44, [some (.inr (.inr 86)), some (.inl x1), some (.inl x2)], [], (am_sh, am_mm U))) (σ2 := (d, 231, 12, [some (.inr (.inr 86)), some (.inl x1), some (.inl x2)], [], (am_sh, am_mm U))) 1 (fun _ => rfl) (fun hc => ?_) (fun hc => ?_)
  · have h1 := h.1 hc
    subst h1
    exact ev_end 1 (fun _ => rfl)
  · have h2 := h.2 hc
    refine ev_seg (σ1 := (d, 231, 22, [some (.inr (.inr 86)), some (.inl x1), some (.inl x2)], [.inl x2, .inr (.inr 124), .inl x2, .inr (.inr 124)], (am_sh, am_mm U))) 6 (fun _ => rfl) ?_
    refine eu_iald 124 (n := 352) rfl (by decide) rfl (fun _ => rfl) h2.1 ?_
    have h2a := h2.2
    refine ev_br (P := ¬ (U 124 x2.toNat) = x1) (σ1 := (d, 231, 31, [some (.inr (.inr 86)), some (.inl x1), some (.inl x2)], [.inl x2, .inr (.inr 124)], (am_sh, am_mm U))) (σ2 := (d, 231, 27, [some (.inr (.inr 86)), some (.inl x1), some (.inl x2)], [.inl x2, .inr (.inr 124)], (am_sh, am_mm U))) 2 (fun _ => rfl) (fun hc => ?_) (fun hc => ?_)
    · have h2a1 := h2a.1 hc
      refine ev_seg (σ1 := (d, 231, 36, [some (.inr (.inr 86)), some (.inl x1), some (.inl x2)], [.inl x2, .inr (.inr 124), .inl x2, .inr (.inr 124)], (am_sh, am_mm U))) 3 (fun _ => rfl) ?_
      refine eu_iald 124 (n := 352) rfl (by decide) rfl (fun _ => rfl) h2a1.1 ?_
      have h2a1a := h2a1.2
      refine eu_iast 124 (n := 352) rfl (by decide) rfl (fun _ => rfl) h2a1a.1 ?_
      have h2a1aa := h2a1a.2
      refine ev_seg (σ1 := (d, 231, 2, [some (.inr (.inr 86)), some (.inl x1), some (.inl (w32 (x2 + 1)))], [], (am_sh, am_mm (am_upd U 124 x2.toNat (U 124 x2.toNat))))) 2 (fun _ => rfl) ?_
      exact h2a1aa
    · have h2a2 := h2a.2 hc
      refine ev_seg (σ1 := (d, 231, 37, [some (.inr (.inr 86)), some (.inl x1), some (.inl x2)], [.inl (-1), .inl x2, .inr (.inr 124)], (am_sh, am_mm U))) 2 (fun _ => rfl) ?_
      refine eu_iast 124 (n := 352) rfl (by decide) rfl (fun _ => rfl) h2a2.1 ?_
      have h2a2a := h2a2.2
      refine ev_seg (σ1 := (d, 231, 2, [some (.inr (.inr 86)), some (.inl x1), some (.inl (w32 (x2 + 1)))], [], (am_sh, am_mm (am_upd U 124 x2.toNat (-1))))) 2 (fun _ => rfl) ?_
      exact h2a2a
set_option maxRecDepth 8000 in
theorem st233_86_0 (kz : am_Z) (d : Nat) (x1 x2 : Int) (U : Nat → Nat → Int) (R : Option am_V × am_M) (h : (((x1 = 0 : Prop)) → Ev kz (d, 233, 31, [some (.inr (.inr 86)), some (.inl x1), some (.inl x2), some (.inl 0), some (.inl 0)], [], (am_sh, am_mm U)) R) ∧ (¬ (x1 = 0) → (((999999999 < x1 : Prop)) → Ev kz (d, 233, 31, [some (.inr (.inr 86)), some (.inl x1), some (.inl x2), some (.inl 0), some (.inl 0)], [], (am_sh, am_mm U)) R) ∧ (¬ (999999999 < x1) → (((16 ≤ (U 122 0) : Prop)) → Ev kz (d, 233, 31, [some (.inr (.inr 86)), some (.inl x1), some (.inl x2), some (.inl 0), some (.inl 0)], [], (am_sh, am_mm U)) R) ∧ (¬ (16 ≤ (U 122 0)) → Ev kz (d, 233, 31, [some (.inr (.inr 86)), some (.inl x1), some (.inl x2), some (.inl 1), some (.inl 0)], [], (am_sh, am_mm U)) R)))) : Ev kz (d, 233, 0, [some (.inr (.inr 86)), some (.inl x1), some (.inl x2), none, none], [], (am_sh, am_mm U)) R := by
  refine ev_br (P := x1 = 0) (σ1 := (d, 233, 26, [some (.inr (.inr 86)), some (.inl x1), some (.inl x2), none, none], [], (am_sh, am_mm U))) (σ2 := (d, 233, 4, [some (.inr (.inr 86)), some (.inl x1), some (.inl x2), none, none], [], (am_sh, am_mm U))) 2 (fun _ => rfl) (fun hc => ?_) (fun hc => ?_)
  · have h1 := h.1 hc
    refine ev_seg (σ1 := (d, 233, 31, [some (.inr (.inr 86)), some (.inl x1), some (.inl x2), some (.inl 0), some (.inl 0)], [], (am_sh, am_mm U))) 4 (fun _ => rfl) ?_
    exact h1
  · have h2 := h.2 hc
    refine ev_br (P := 999999999 < x1) (σ1 := (d, 233, 26, [some (.inr (.inr 86)), some (.inl x1), some (.inl x2), none, none], [], (am_sh, am_mm U))) (σ2 := (d, 233, 11, [some (.inr (.inr 86)), some (.inl x1), some (.inl x2), none, none], [], (am_sh, am_mm U))) 3 (fun _ => rfl) (fun hc => ?_) (fun hc => ?_)
    · have h21 := h2.1 hc
      refine ev_seg (σ1 := (d, 233, 31, [some (.inr (.inr 86)), some (.inl x1), some (.inl x2), some (.inl 0), some (.inl 0)], [], (am_sh, am_mm U))) 4 (fun _ => rfl) ?_
      exact h21
    · have h22 := h2.2 hc
      refine ev_seg (σ1 := (d, 233, 16, [some (.inr (.inr 86)), some (.inl x1), some (.inl x2), none, none], [.inl 0, .inr (.inr 122)], (am_sh, am_mm U))) 3 (fun _ => rfl) ?_
      refine eu_iald 122 (n := 22) rfl (by decide) rfl (fun _ => rfl) (by decide) ?_
      show Ev kz (d, 233, 17, [some (.inr (.inr 86)), some (.inl x1), some (.inl x2), none, none], [.inl (U 122 0)], (am_sh, am_mm U)) R
      refine ev_br (P := 16 ≤ (U 122 0)) (σ1 := (d, 233, 26, [some (.inr (.inr 86)), some (.inl x1), some (.inl x2), none, none], [], (am_sh, am_mm U))) (σ2 := (d, 233, 22, [some (.inr (.inr 86)), some (.inl x1), some (.inl x2), none, none], [], (am_sh, am_mm U))) 2 (fun _ => rfl) (fun hc => ?_) (fun hc => ?_)
      · have h221 := h22.1 hc
        refine ev_seg (σ1 := (d, 233, 31, [some (.inr (.inr 86)), some (.inl x1), some (.inl x2), some (.inl 0), some (.inl 0)], [], (am_sh, am_mm U))) 4 (fun _ => rfl) ?_
        exact h221
      · have h222 := h22.2 hc
        refine ev_seg (σ1 := (d, 233, 31, [some (.inr (.inr 86)), some (.inl x1), some (.inl x2), some (.inl 1), some (.inl 0)], [], (am_sh, am_mm U))) 5 (fun _ => rfl) ?_
        exact h222
set_option maxRecDepth 8000 in
theorem st233_86_31 (kz : am_Z) (d : Nat) (x1 x2 x3 x4 : Int) (U : Nat → Nat → Int) (R : Option am_V × am_M) (h : ((((U 122 0) ≤ x4 : Prop)) → (((¬ x3 = 0 : Prop)) → (0 ≤ (U 122 0) ∧ (U 122 0) < 352) ∧ (0 ≤ ((am_upd U 123 (U 122 0).toNat x1) 122 0) ∧ ((am_upd U 123 (U 122 0).toNat x1) 122 0) < 352) ∧ R = (some (.inl 1), (am_sh, am_mm (am_upd (am_upd (am_upd U 123 (U 122 0).toNat x1) 124 ((am_upd U 123 (U 122 0).toNat x1) 122 0).toNat x2) 122 0 (w32 (((am_upd (am_upd U 123 (U 122 0).toNat x1) 124 ((am_upd U 123 (U 122 0).toNat x1) 122 0).toNat x2) 122 0) + 1)))))) ∧ (¬ (¬ x3 = 0) → R = (some (.inl 0), (am_sh, am_mm U)))) ∧ (¬ ((U 122 0) ≤ x4) → (((x3 = 0 : Prop)) → Ev kz (d, 233, 31, [some (.inr (.inr 86)), some (.inl x1), some (.inl x2), some (.inl 0), some (.inl (w32 (x4 + 1)))], [], (am_sh, am_mm U)) R) ∧ (¬ (x3 = 0) → (0 ≤ x4 ∧ x4 < 352) ∧ ((((U 123 x4.toNat) = x1 : Prop)) → Ev kz (d, 233, 31, [some (.inr (.inr 86)), some (.inl x1), some (.inl x2), some (.inl 0), some (.inl (w32 (x4 + 1)))], [], (am_sh, am_mm U)) R) ∧ (¬ ((U 123 x4.toNat) = x1) → Ev kz (d, 233, 31, [some (.inr (.inr 86)), some (.inl x1), some (.inl x2), some (.inl 1), some (.inl (w32 (x4 + 1)))], [], (am_sh, am_mm U)) R)))) : Ev kz (d, 233, 31, [some (.inr (.inr 86)), some (.inl x1), some (.inl x2), some (.inl x3), some (.inl x4)], [], (am_sh, am_mm U)) R := by
  refine ev_seg (σ1 := (d, 233, 38, [some (.inr (.inr 86)), some (.inl x1), some (.inl x2), some (.inl x3), some (.inl x4)], [.inl 0, .inr (.inr 122), .inl x4], (am_sh, am_mm U))) 4 (fun _ => rfl) ?_
  refine eu_iald 122 (n := 22) rfl (by decide) rfl (fun _ => rfl) (by decide) ?_
  show Ev kz (d, 233, 39, [some (.inr (.inr 86)), some (.inl x1), some (.inl x2), some (.inl x3), some (.inl x4)], [.inl (U 122 0), .inl x4], (am_sh, am_mm U)) R
  refine ev_br (P := (U 122 0) ≤ x4) (σ1 := (d, 233, 69, [some (.inr (.inr 86)), some (.inl x1), some (.inl x2), some (.inl x3), some (.inl x4)], [], (am_sh, am_mm U))) (σ2 := (d, 233, 42, [some (.inr (.inr 86)), some (.inl x1), some (.inl x2), some (.inl x3), some (.inl x4)], [], (am_sh, am_mm U))) 1 (fun _ => rfl) (fun hc => ?_) (fun hc => ?_)
  · have h1 := h.1 hc
    refine ev_br (P := ¬ x3 = 0) (σ1 := (d, 233, 75, [some (.inr (.inr 86)), some (.inl x1), some (.inl x2), some (.inl x3), some (.inl x4)], [], (am_sh, am_mm U))) (σ2 := (d, 233, 73, [some (.inr (.inr 86)), some (.inl x1), some (.inl x2), some (.inl x3), some (.inl x4)], [], (am_sh, am_mm U))) 2 (fun _ => rfl) (fun hc => ?_) (fun hc => ?_)
    · have h11 := h1.1 hc
      refine ev_seg (σ1 := (d, 233, 84, [some (.inr (.inr 86)), some (.inl x1), some (.inl x2), some (.inl x3), some (.inl x4)], [.inl 0, .inr (.inr 122), .inr (.inr 123)], (am_sh, am_mm U))) 5 (fun _ => rfl) ?_
      refine eu_iald 122 (n := 22) rfl (by decide) rfl (fun _ => rfl) (by decide) ?_
      show Ev kz (d, 233, 85, [some (.inr (.inr 86)), some (.inl x1), some (.inl x2), some (.inl x3), some (.inl x4)], [.inl (U 122 0), .inr (.inr 123)], (am_sh, am_mm U)) R
      refine ev_seg (σ1 := (d, 233, 86, [some (.inr (.inr 86)), some (.inl x1), some (.inl x2), some (.inl x3), some (.inl x4)], [.inl x1, .inl (U 122 0), .inr (.inr 123)], (am_sh, am_mm U))) 1 (fun _ => rfl) ?_
      refine eu_iast 123 (n := 352) rfl (by decide) rfl (fun _ => rfl) h11.1 ?_
      have h11a := h11.2
      refine ev_seg (σ1 := (d, 233, 96, [some (.inr (.inr 86)), some (.inl x1), some (.inl x2), some (.inl x3), some (.inl x4)], [.inl 0, .inr (.inr 122), .inr (.inr 124)], (am_sh, am_mm (am_upd U 123 (U 122 0).toNat x1)))) 5 (fun _ => rfl) ?_
      refine eu_iald 122 (n := 22) rfl (by decide) rfl (fun _ => rfl) (by decide) ?_
      show Ev kz (d, 233, 97, [some (.inr (.inr 86)), some (.inl x1), some (.inl x2), some (.inl x3), some (.inl x4)], [.inl ((am_upd U 123 (U 122 0).toNat x1) 122 0), .inr (.inr 124)], (am_sh, am_mm (am_upd U 123 (U 122 0).toNat x1))) R
      refine ev_seg (σ1 := (d, 233, 98, [some (.inr (.inr 86)), some (.inl x1), some (.inl x2), some (.inl x3), some (.inl x4)], [.inl x2, .inl ((am_upd U 123 (U 122 0).toNat x1) 122 0), .inr (.inr 124)], (am_sh, am_mm (am_upd U 123 (U 122 0).toNat x1)))) 1 (fun _ => rfl) ?_
      refine eu_iast 124 (n := 352) rfl (by decide) rfl (fun _ => rfl) h11a.1 ?_
      have h11aa := h11a.2
      refine ev_seg (σ1 := (d, 233, 105, [some (.inr (.inr 86)), some (.inl x1), some (.inl x2), some (.inl x3), some (.inl x4)], [.inl 0, .inr (.inr 122), .inl 0, .inr (.inr 122)], (am_sh, am_mm (am_upd (am_upd U 123 (U 122 0).toNat x1) 124 ((am_upd U 123 (U 122 0).toNat x1) 122 0).toNat x2)))) 4 (fun _ => rfl) ?_
      refine eu_iald 122 (n := 22) rfl (by decide) rfl (fun _ => rfl) (by decide) ?_
      show Ev kz (d, 233, 106, [some (.inr (.inr 86)), some (.inl x1), some (.inl x2), some (.inl x3), some (.inl x4)], [.inl ((am_upd (am_upd U 123 (U 122 0).toNat x1) 124 ((am_upd U 123 (U 122 0).toNat x1) 122 0).toNat x2) 122 0), .inl 0, .inr (.inr 122)], (am_sh, am_mm (am_upd (am_upd U 123 (U 122 0).toNat x1) 124 ((am_upd U 123 (U 122 0).toNat x1) 122 0).toNat x2))) R
      refine ev_seg (σ1 := (d, 233, 108, [some (.inr (.inr 86)), some (.inl x1), some (.inl x2), some (.inl x3), some (.inl x4)], [.inl (w32 (((am_upd (am_upd U 123 (U 122 0).toNat x1) 124 ((am_upd U 123 (U 122 0).toNat x1) 122 0).toNat x2) 122 0) + 1)), .inl 0, .inr (.inr 122)], (am_sh, am_mm (am_upd (am_upd U 123 (U 122 0).toNat x1) 124 ((am_upd U 123 (U 122 0).toNat x1) 122 0).toNat x2)))) 2 (fun _ => rfl) ?_
      refine eu_iast 122 (n := 22) rfl (by decide) rfl (fun _ => rfl) (by decide) ?_
      show Ev kz (d, 233, 109, [some (.inr (.inr 86)), some (.inl x1), some (.inl x2), some (.inl x3), some (.inl x4)], [], (am_sh, am_mm (am_upd (am_upd (am_upd U 123 (U 122 0).toNat x1) 124 ((am_upd U 123 (U 122 0).toNat x1) 122 0).toNat x2) 122 0 (w32 (((am_upd (am_upd U 123 (U 122 0).toNat x1) 124 ((am_upd U 123 (U 122 0).toNat x1) 122 0).toNat x2) 122 0) + 1))))) R
      subst h11aa
      exact ev_end 2 (fun _ => rfl)
    · have h12 := h1.2 hc
      subst h12
      exact ev_end 2 (fun _ => rfl)
  · have h2 := h.2 hc
    refine ev_br (P := x3 = 0) (σ1 := (d, 233, 61, [some (.inr (.inr 86)), some (.inl x1), some (.inl x2), some (.inl x3), some (.inl x4)], [], (am_sh, am_mm U))) (σ2 := (d, 233, 46, [some (.inr (.inr 86)), some (.inl x1), some (.inl x2), some (.inl x3), some (.inl x4)], [], (am_sh, am_mm U))) 2 (fun _ => rfl) (fun hc => ?_) (fun hc => ?_)
    · have h21 := h2.1 hc
      refine ev_seg (σ1 := (d, 233, 31, [some (.inr (.inr 86)), some (.inl x1), some (.inl x2), some (.inl 0), some (.inl (w32 (x4 + 1)))], [], (am_sh, am_mm U))) 4 (fun _ => rfl) ?_
      exact h21
    · have h22 := h2.2 hc
      refine ev_seg (σ1 := (d, 233, 52, [some (.inr (.inr 86)), some (.inl x1), some (.inl x2), some (.inl x3), some (.inl x4)], [.inl x4, .inr (.inr 123)], (am_sh, am_mm U))) 3 (fun _ => rfl) ?_
      refine eu_iald 123 (n := 352) rfl (by decide) rfl (fun _ => rfl) h22.1 ?_
      have h22a := h22.2
      refine ev_br (P := (U 123 x4.toNat) = x1) (σ1 := (d, 233, 61, [some (.inr (.inr 86)), some (.inl x1), some (.inl x2), some (.inl x3), some (.inl x4)], [], (am_sh, am_mm U))) (σ2 := (d, 233, 57, [some (.inr (.inr 86)), some (.inl x1), some (.inl x2), some (.inl x3), some (.inl x4)], [], (am_sh, am_mm U))) 2 (fun _ => rfl) (fun hc => ?_) (fun hc => ?_)
      · have h22a1 := h22a.1 hc
        refine ev_seg (σ1 := (d, 233, 31, [some (.inr (.inr 86)), some (.inl x1), some (.inl x2), some (.inl 0), some (.inl (w32 (x4 + 1)))], [], (am_sh, am_mm U))) 4 (fun _ => rfl) ?_
        exact h22a1
      · have h22a2 := h22a.2 hc
        refine ev_seg (σ1 := (d, 233, 31, [some (.inr (.inr 86)), some (.inl x1), some (.inl x2), some (.inl 1), some (.inl (w32 (x4 + 1)))], [], (am_sh, am_mm U))) 5 (fun _ => rfl) ?_
        exact h22a2
set_option maxRecDepth 8000 in
theorem st235_52_0 (kz : am_Z) (d : Nat) (U : Nat → Nat → Int) (R : Option am_V × am_M) (h : ((((U 52 8) = 0 : Prop)) → ∃ U1 : Nat → Nat → Int, Ev kz (d, 281, 0, [some (.inr (.inr 52)), none, none], [], (am_sh, am_mm (am_upd U 52 8 1))) (none, (am_sh, am_mm U1)) ∧ ∃ U2 : Nat → Nat → Int, Ev kz (d, 282, 0, [some (.inr (.inr 52)), none, none, none, none, none, none, none], [], (am_sh, am_mm (am_upd U1 52 6 (if 0 < (w32 ((U1 16 0) - 12)) then (w32 ((U1 16 0) - 12)) else 0)))) (none, (am_sh, am_mm U2)) ∧ ∃ U3 : Nat → Nat → Int, Ev kz (d, 211, 0, [some (.inr (.inr 54)), some (.inl 20), none, none], [], (am_sh, am_mm (am_upd U2 52 7 (-1)))) (none, (am_sh, am_mm U3)) ∧ ∃ U4 : Nat → Nat → Int, Ev kz (d, 283, 0, [some (.inr (.inr 52)), some (.inl 0), some (.inl (w32 ((am_shl 1 (U3 16 0)) - 1))), some (.inl 0), none, none], [], (am_sh, am_mm U3)) (none, (am_sh, am_mm U4)) ∧ ∃ U5 : Nat → Nat → Int, Ev kz (d, 284, 0, [some (.inr (.inr 52)), none, none, none], [], (am_sh, am_mm U4)) (none, (am_sh, am_mm U5)) ∧ R = (none, (am_sh, am_mm U5))) ∧ (¬ ((U 52 8) = 0) → R = (none, (am_sh, am_mm U)))) : Ev kz ((d + 1), 235, 0, [some (.inr (.inr 52))], [], (am_sh, am_mm U)) R := by
  refine ev_br (P := (U 52 8) = 0) (σ1 := ((d + 1), 235, 8, [some (.inr (.inr 52))], [], (am_sh, am_mm U))) (σ2 := ((d + 1), 235, 7, [some (.inr (.inr 52))], [], (am_sh, am_mm U))) 3 (fun _ => rfl) (fun hc => ?_) (fun hc => ?_)
  · have h1 := h.1 hc
    refine ev_seg (σ1 := ((d + 1), 235, 10, [some (.inr (.inr 52))], [.inl 1, .inr (.inr 52)], (am_sh, am_mm U))) 2 (fun _ => rfl) ?_
    refine eu_putz 52 (n := 9) rfl (by decide) rfl rfl (by decide) ?_
    refine ev_seg (σ1 := ((d + 1), 235, 14, [some (.inr (.inr 52))], [.inr (.inr 52)], (am_sh, am_mm (am_upd U 52 8 1)))) 1 (fun _ => rfl) ?_
    obtain ⟨U1, h1c, h1a⟩ := h1
    refine ev_cal (σc := (d, 281, 0, [some (.inr (.inr 52)), none, none], [], (am_sh, am_mm (am_upd U 52 8 1)))) (fun _ => rfl) h1c ?_
    show Ev kz ((d + 1), 235, 17, [some (.inr (.inr 52))], [], (am_sh, am_mm U1)) R
    refine ev_seg (σ1 := ((d + 1), 235, 32, [some (.inr (.inr 52))], [.inl (if 0 < (w32 ((U1 16 0) - 12)) then (w32 ((U1 16 0) - 12)) else 0), .inr (.inr 52)], (am_sh, am_mm U1))) 8 (fun _ => rfl) ?_
    refine eu_puti 52 (n := 9) rfl (by decide) rfl rfl ?_
    refine ev_seg (σ1 := ((d + 1), 235, 36, [some (.inr (.inr 52))], [.inr (.inr 52)], (am_sh, am_mm (am_upd U1 52 6 (if 0 < (w32 ((U1 16 0) - 12)) then (w32 ((U1 16 0) - 12)) else 0))))) 1 (fun _ => rfl) ?_
    obtain ⟨U2, h1ac, h1aa⟩ := h1a
    refine ev_cal (σc := (d, 282, 0, [some (.inr (.inr 52)), none, none, none, none, none, none, none], [], (am_sh, am_mm (am_upd U1 52 6 (if 0 < (w32 ((U1 16 0) - 12)) then (w32 ((U1 16 0) - 12)) else 0))))) (fun _ => rfl) h1ac ?_
    show Ev kz ((d + 1), 235, 39, [some (.inr (.inr 52))], [], (am_sh, am_mm U2)) R
    refine ev_seg (σ1 := ((d + 1), 235, 41, [some (.inr (.inr 52))], [.inl (-1), .inr (.inr 52)], (am_sh, am_mm U2))) 2 (fun _ => rfl) ?_
    refine eu_puti 52 (n := 9) rfl (by decide) rfl rfl ?_
    refine ev_seg (σ1 := ((d + 1), 235, 50, [some (.inr (.inr 52))], [.inl 20, .inr (.inr 54)], (am_sh, am_mm (am_upd U2 52 7 (-1))))) 3 (fun _ => rfl) ?_
    obtain ⟨U3, h1aac, h1aaa⟩ := h1aa
    refine ev_cal (σc := (d, 211, 0, [some (.inr (.inr 54)), some (.inl 20), none, none], [], (am_sh, am_mm (am_upd U2 52 7 (-1))))) (fun _ => rfl) h1aac ?_
    show Ev kz ((d + 1), 235, 53, [some (.inr (.inr 52))], [], (am_sh, am_mm U3)) R
    refine ev_seg (σ1 := ((d + 1), 235, 67, [some (.inr (.inr 52))], [.inl 0, .inl (w32 ((am_shl 1 (U3 16 0)) - 1)), .inl 0, .inr (.inr 52)], (am_sh, am_mm U3))) 10 (fun _ => rfl) ?_
    obtain ⟨U4, h1aaac, h1aaaa⟩ := h1aaa
    refine ev_cal (σc := (d, 283, 0, [some (.inr (.inr 52)), some (.inl 0), some (.inl (w32 ((am_shl 1 (U3 16 0)) - 1))), some (.inl 0), none, none], [], (am_sh, am_mm U3))) (fun _ => rfl) h1aaac ?_
    show Ev kz ((d + 1), 235, 70, [some (.inr (.inr 52))], [], (am_sh, am_mm U4)) R
    refine ev_seg (σ1 := ((d + 1), 235, 71, [some (.inr (.inr 52))], [.inr (.inr 52)], (am_sh, am_mm U4))) 1 (fun _ => rfl) ?_
    obtain ⟨U5, h1aaaac, h1aaaaa⟩ := h1aaaa
    refine ev_cal (σc := (d, 284, 0, [some (.inr (.inr 52)), none, none, none], [], (am_sh, am_mm U4))) (fun _ => rfl) h1aaaac ?_
    show Ev kz ((d + 1), 235, 74, [some (.inr (.inr 52))], [], (am_sh, am_mm U5)) R
    subst h1aaaaa
    exact ev_end 1 (fun _ => rfl)
  · have h2 := h.2 hc
    subst h2
    exact ev_end 1 (fun _ => rfl)
set_option maxRecDepth 8000 in
theorem st236_86_0 (kz : am_Z) (d : Nat) (x1 x2 : Int) (U : Nat → Nat → Int) (R : Option am_V × am_M) (h : (0 ≤ x2 ∧ x2 < 352) ∧ (0 ≤ (U 86 13) ∧ (U 86 13) < 2) ∧ (0 ≤ (U 86 13) ∧ (U 86 13) < 2) ∧ ∃ (r1 : Int) (U1 : Nat → Nat → Int), Ev kz (d, 135, 0, [some (.inr (.inr 86)), some (.inl 0), some (.inl x1), some (.inr (.inl (U 123 x2.toNat))), none, some (.inl (U 104 (U 86 13).toNat)), some (.inl (U 105 (U 86 13).toNat))], [], (am_sh, am_mm U)) (some (.inl r1), (am_sh, am_mm U1)) ∧ (((r1 = 0 : Prop)) → R = (some (.inl 0), (am_sh, am_mm U1))) ∧ (¬ (r1 = 0) → (0 ≤ x1 ∧ x1 < 352) ∧ (0 ≤ (U1 86 13) ∧ (U1 86 13) < 2) ∧ (0 ≤ (U1 86 13) ∧ (U1 86 13) < 2) ∧ ∃ (r2 : Int) (U2 : Nat → Nat → Int), Ev kz (d, 135, 0, [some (.inr (.inr 86)), some (.inl 0), some (.inl x2), some (.inr (.inl (U1 123 x1.toNat))), none, some (.inl (U1 104 (U1 86 13).toNat)), some (.inl (U1 105 (U1 86 13).toNat))], [], (am_sh, am_mm U1)) (some (.inl r2), (am_sh, am_mm U2)) ∧ (((r2 = 0 : Prop)) → R = (some (.inl 0), (am_sh, am_mm U2))) ∧ (¬ (r2 = 0) → R = (some (.inl 1), (am_sh, am_mm U2))))) : Ev kz ((d + 1), 236, 0, [some (.inr (.inr 86)), some (.inl x1), some (.inl x2)], [], (am_sh, am_mm U)) R := by
  refine ev_seg (σ1 := ((d + 1), 236, 8, [some (.inr (.inr 86)), some (.inl x1), some (.inl x2)], [.inl x2, .inr (.inr 123), .inl x1, .inl 0, .inr (.inr 86)], (am_sh, am_mm U))) 6 (fun _ => rfl) ?_
  refine eu_iald 123 (n := 352) rfl (by decide) rfl (fun _ => rfl) h.1 ?_
  have ha := h.2
  refine ev_seg (σ1 := ((d + 1), 236, 18, [some (.inr (.inr 86)), some (.inl x1), some (.inl x2)], [.inl (U 86 13), .inr (.inr 104), .inr (.inl (U 123 x2.toNat)), .inl x1, .inl 0, .inr (.inr 86)], (am_sh, am_mm U))) 5 (fun _ => rfl) ?_
  refine eu_iald 104 (n := 2) rfl (by decide) rfl (fun _ => rfl) ha.1 ?_
  have haa := ha.2
  refine ev_seg (σ1 := ((d + 1), 236, 27, [some (.inr (.inr 86)), some (.inl x1), some (.inl x2)], [.inl (U 86 13), .inr (.inr 105), .inl (U 104 (U 86 13).toNat), .inr (.inl (U 123 x2.toNat)), .inl x1, .inl 0, .inr (.inr 86)], (am_sh, am_mm U))) 4 (fun _ => rfl) ?_
  refine eu_iald 105 (n := 2) rfl (by decide) rfl (fun _ => rfl) haa.1 ?_
  have haaa := haa.2
  obtain ⟨r1, U1, haaac, haaaa⟩ := haaa
  refine ev_cal (σc := (d, 135, 0, [some (.inr (.inr 86)), some (.inl 0), some (.inl x1), some (.inr (.inl (U 123 x2.toNat))), none, some (.inl (U 104 (U 86 13).toNat)), some (.inl (U 105 (U 86 13).toNat))], [], (am_sh, am_mm U))) (fun _ => rfl) haaac ?_
  show Ev kz ((d + 1), 236, 31, [some (.inr (.inr 86)), some (.inl x1), some (.inl x2)], [.inl r1], (am_sh, am_mm U1)) R
  refine ev_br (P := r1 = 0) (σ1 := ((d + 1), 236, 72, [some (.inr (.inr 86)), some (.inl x1), some (.inl x2)], [], (am_sh, am_mm U1))) (σ2 := ((d + 1), 236, 34, [some (.inr (.inr 86)), some (.inl x1), some (.inl x2)], [], (am_sh, am_mm U1))) 1 (fun _ => rfl) (fun hc => ?_) (fun hc => ?_)
  · have haaaa1 := haaaa.1 hc
    subst haaaa1
    exact ev_end 2 (fun _ => rfl)
  · have haaaa2 := haaaa.2 hc
    refine ev_seg (σ1 := ((d + 1), 236, 42, [some (.inr (.inr 86)), some (.inl x1), some (.inl x2)], [.inl x1, .inr (.inr 123), .inl x2, .inl 0, .inr (.inr 86)], (am_sh, am_mm U1))) 6 (fun _ => rfl) ?_
    refine eu_iald 123 (n := 352) rfl (by decide) rfl (fun _ => rfl) haaaa2.1 ?_
    have haaaa2a := haaaa2.2
    refine ev_seg (σ1 := ((d + 1), 236, 52, [some (.inr (.inr 86)), some (.inl x1), some (.inl x2)], [.inl (U1 86 13), .inr (.inr 104), .inr (.inl (U1 123 x1.toNat)), .inl x2, .inl 0, .inr (.inr 86)], (am_sh, am_mm U1))) 5 (fun _ => rfl) ?_
    refine eu_iald 104 (n := 2) rfl (by decide) rfl (fun _ => rfl) haaaa2a.1 ?_
    have haaaa2aa := haaaa2a.2
    refine ev_seg (σ1 := ((d + 1), 236, 61, [some (.inr (.inr 86)), some (.inl x1), some (.inl x2)], [.inl (U1 86 13), .inr (.inr 105), .inl (U1 104 (U1 86 13).toNat), .inr (.inl (U1 123 x1.toNat)), .inl x2, .inl 0, .inr (.inr 86)], (am_sh, am_mm U1))) 4 (fun _ => rfl) ?_
    refine eu_iald 105 (n := 2) rfl (by decide) rfl (fun _ => rfl) haaaa2aa.1 ?_
    have haaaa2aaa := haaaa2aa.2
    obtain ⟨r2, U2, haaaa2aaac, haaaa2aaaa⟩ := haaaa2aaa
    refine ev_cal (σc := (d, 135, 0, [some (.inr (.inr 86)), some (.inl 0), some (.inl x2), some (.inr (.inl (U1 123 x1.toNat))), none, some (.inl (U1 104 (U1 86 13).toNat)), some (.inl (U1 105 (U1 86 13).toNat))], [], (am_sh, am_mm U1))) (fun _ => rfl) haaaa2aaac ?_
    show Ev kz ((d + 1), 236, 65, [some (.inr (.inr 86)), some (.inl x1), some (.inl x2)], [.inl r2], (am_sh, am_mm U2)) R
    refine ev_br (P := r2 = 0) (σ1 := ((d + 1), 236, 72, [some (.inr (.inr 86)), some (.inl x1), some (.inl x2)], [], (am_sh, am_mm U2))) (σ2 := ((d + 1), 236, 68, [some (.inr (.inr 86)), some (.inl x1), some (.inl x2)], [], (am_sh, am_mm U2))) 1 (fun _ => rfl) (fun hc => ?_) (fun hc => ?_)
    · have haaaa2aaaa1 := haaaa2aaaa.1 hc
      subst haaaa2aaaa1
      exact ev_end 2 (fun _ => rfl)
    · have haaaa2aaaa2 := haaaa2aaaa.2 hc
      subst haaaa2aaaa2
      exact ev_end 3 (fun _ => rfl)
set_option maxRecDepth 8000 in
theorem st237_0 (kz : am_Z) (d : Nat) (x0 : Int) (U : Nat → Nat → Int) (R : Option am_V × am_M) (h : Ev kz (d, 237, 2, [some (.inl x0), some (.inl 0)], [], (am_sh, am_mm U)) R) : Ev kz (d, 237, 0, [some (.inl x0), none], [], (am_sh, am_mm U)) R := by
  refine ev_seg (σ1 := (d, 237, 2, [some (.inl x0), some (.inl 0)], [], (am_sh, am_mm U))) 2 (fun _ => rfl) ?_
  exact h
set_option maxRecDepth 8000 in
theorem st237_2 (kz : am_Z) (d : Nat) (x0 x1 : Int) (U : Nat → Nat → Int) (R : Option am_V × am_M) (h : (((¬ (am_and (am_shr x0 x1) 1) = 0 : Prop)) → R = (some (.inl x1), (am_sh, am_mm U))) ∧ (¬ (¬ (am_and (am_shr x0 x1) 1) = 0) → Ev kz (d, 237, 2, [some (.inl x0), some (.inl (w32 (x1 + 1)))], [], (am_sh, am_mm U)) R)) : Ev kz (d, 237, 2, [some (.inl x0), some (.inl x1)], [], (am_sh, am_mm U)) R := by
  refine ev_br (P := ¬ (am_and (am_shr x0 x1) 1) = 0) (σ1 := (d, 237, 16, [some (.inl x0), some (.inl x1)], [], (am_sh, am_mm U))) (σ2 := (d, 237, 10, [some (.inl x0), some (.inl x1)], [], (am_sh, am_mm U))) 6 (fun _ => rfl) (fun hc => ?_) (fun hc => ?_)
  · have h1 := h.1 hc
    subst h1
    exact ev_end 2 (fun _ => rfl)
  · have h2 := h.2 hc
    refine ev_seg (σ1 := (d, 237, 2, [some (.inl x0), some (.inl (w32 (x1 + 1)))], [], (am_sh, am_mm U))) 2 (fun _ => rfl) ?_
    exact h2
set_option maxRecDepth 8000 in
theorem st206_0 (kz : am_Z) (d : Nat) (x0 : Int) (U : Nat → Nat → Int) (R : Option am_V × am_M) (h : (((2 ≤ x0 : Prop)) → ∃ (r1 : Int) (U1 : Nat → Nat → Int), Ev kz (d, 118, 0, [some (.inl x0), none, none, none, none, none, none, none], [], (am_sh, am_mm U)) (some (.inl r1), (am_sh, am_mm U1)) ∧ Ev kz ((d + 1), 206, 20, [some (.inl x0), some (.inr (.inl 1)), none, some (.inl x0), some (.inl r1), some (.inl 2), none, none, none], [], (am_sh, am_mm U1)) R) ∧ (¬ (2 ≤ x0) → R = (some (.inr (.inl 0)), (am_sh, am_mm U)))) : Ev kz ((d + 1), 206, 0, [some (.inl x0), none, none, none, none, none, none, none, none], [], (am_sh, am_mm U)) R := by
  refine ev_br (P := 2 ≤ x0) (σ1 := ((d + 1), 206, 7, [some (.inl x0), none, none, none, none, none, none, none, none], [], (am_sh, am_mm U))) (σ2 := ((d + 1), 206, 5, [some (.inl x0), none, none, none, none, none, none, none, none], [], (am_sh, am_mm U))) 3 (fun _ => rfl) (fun hc => ?_) (fun hc => ?_)
  · have h1 := h.1 hc
    refine ev_seg (σ1 := ((d + 1), 206, 12, [some (.inl x0), some (.inr (.inl 1)), none, some (.inl x0), none, none, none, none, none], [.inl x0], (am_sh, am_mm U))) 5 (fun _ => rfl) ?_
    obtain ⟨r1, U1, h1c, h1a⟩ := h1
    refine ev_cal (σc := (d, 118, 0, [some (.inl x0), none, none, none, none, none, none, none], [], (am_sh, am_mm U))) (fun _ => rfl) h1c ?_
    show Ev kz ((d + 1), 206, 15, [some (.inl x0), some (.inr (.inl 1)), none, some (.inl x0), none, none, none, none, none], [.inl r1], (am_sh, am_mm U1)) R
    refine ev_seg (σ1 := ((d + 1), 206, 20, [some (.inl x0), some (.inr (.inl 1)), none, some (.inl x0), some (.inl r1), some (.inl 2), none, none, none], [], (am_sh, am_mm U1))) 3 (fun _ => rfl) ?_
    exact h1a
  · have h2 := h.2 hc
    subst h2
    exact ev_end 2 (fun _ => rfl)
set_option maxRecDepth 8000 in
theorem st206_20 (kz : am_Z) (d : Nat) (x0 x1 x3 x4 x5 : Int) (U : Nat → Nat → Int) (R : Option am_V × am_M) (h : (((31623 < x5 : Prop)) → (((x3 ≤ 1 : Prop)) → R = (some (.inr (.inl (w64 (x1 - x0)))), (am_sh, am_mm U))) ∧ (¬ (x3 ≤ 1) → R = (some (.inr (.inl (w64 ((w64 (x1 * (w32 (x3 + 1)))) - x0)))), (am_sh, am_mm U)))) ∧ (¬ (31623 < x5) → (((¬ x4 = 0 : Prop)) → (((x3 ≤ 1 : Prop)) → R = (some (.inr (.inl (w64 (x1 - x0)))), (am_sh, am_mm U))) ∧ (¬ (x3 ≤ 1) → R = (some (.inr (.inl (w64 ((w64 (x1 * (w32 (x3 + 1)))) - x0)))), (am_sh, am_mm U)))) ∧ (¬ (¬ x4 = 0) → (((x3 < (w32 (x5 * x5)) : Prop)) → (((x3 ≤ 1 : Prop)) → R = (some (.inr (.inl (w64 (x1 - x0)))), (am_sh, am_mm U))) ∧ (¬ (x3 ≤ 1) → R = (some (.inr (.inl (w64 ((w64 (x1 * (w32 (x3 + 1)))) - x0)))), (am_sh, am_mm U)))) ∧ (¬ (x3 < (w32 (x5 * x5))) → x5 ≠ 0 ∧ (((¬ (Int.tmod x3 x5) = 0 : Prop)) → (((¬ x5 = 2 : Prop)) → Ev kz ((d + 1), 206, 20, [some (.inl x0), some (.inr (.inl x1)), none, some (.inl x3), some (.inl x4), some (.inl (w32 (x5 + 2))), none, none, none], [], (am_sh, am_mm U)) R) ∧ (¬ (¬ x5 = 2) → Ev kz ((d + 1), 206, 20, [some (.inl x0), some (.inr (.inl x1)), none, some (.inl x3), some (.inl x4), some (.inl (w32 (x5 + 1))), none, none, none], [], (am_sh, am_mm U)) R)) ∧ (¬ (¬ (Int.tmod x3 x5) = 0) → Ev kz ((d + 1), 206, 55, [some (.inl x0), some (.inr (.inl x1)), none, some (.inl x3), some (.inl x4), some (.inl x5), some (.inr (.inl 1)), none, some (.inl 0)], [], (am_sh, am_mm U)) R))))) : Ev kz ((d + 1), 206, 20, [some (.inl x0), some (.inr (.inl x1)), none, some (.inl x3), some (.inl x4), some (.inl x5), none, none, none], [], (am_sh, am_mm U)) R := by
  refine ev_br (P := 31623 < x5) (σ1 := ((d + 1), 206, 120, [some (.inl x0), some (.inr (.inl x1)), none, some (.inl x3), some (.inl x4), some (.inl x5), none, none, none], [], (am_sh, am_mm U))) (σ2 := ((d + 1), 206, 28, [some (.inl x0), some (.inr (.inl x1)), none, some (.inl x3), some (.inl x4), some (.inl x5), none, none, none], [], (am_sh, am_mm U))) 3 (fun _ => rfl) (fun hc => ?_) (fun hc => ?_)
  · have h1 := h.1 hc
    refine ev_br (P := x3 ≤ 1) (σ1 := ((d + 1), 206, 134, [some (.inl x0), some (.inr (.inl x1)), none, some (.inl x3), some (.inl x4), some (.inl x5), none, none, none], [], (am_sh, am_mm U))) (σ2 := ((d + 1), 206, 125, [some (.inl x0), some (.inr (.inl x1)), none, some (.inl x3), some (.inl x4), some (.inl x5), none, none, none], [], (am_sh, am_mm U))) 3 (fun _ => rfl) (fun hc => ?_) (fun hc => ?_)
    · have h11 := h1.1 hc
      subst h11
      exact ev_end 5 (fun _ => rfl)
    · have h12 := h1.2 hc
      subst h12
      exact ev_end 11 (fun _ => rfl)
  · have h2 := h.2 hc
    refine ev_br (P := ¬ x4 = 0) (σ1 := ((d + 1), 206, 120, [some (.inl x0), some (.inr (.inl x1)), none, some (.inl x3), some (.inl x4), some (.inl x5), none, none, none], [], (am_sh, am_mm U))) (σ2 := ((d + 1), 206, 33, [some (.inl x0), some (.inr (.inl x1)), none, some (.inl x3), some (.inl x4), some (.inl x5), none, none, none], [], (am_sh, am_mm U))) 2 (fun _ => rfl) (fun hc => ?_) (fun hc => ?_)
    · have h21 := h2.1 hc
      refine ev_br (P := x3 ≤ 1) (σ1 := ((d + 1), 206, 134, [some (.inl x0), some (.inr (.inl x1)), none, some (.inl x3), some (.inl x4), some (.inl x5), none, none, none], [], (am_sh, am_mm U))) (σ2 := ((d + 1), 206, 125, [some (.inl x0), some (.inr (.inl x1)), none, some (.inl x3), some (.inl x4), some (.inl x5), none, none, none], [], (am_sh, am_mm U))) 3 (fun _ => rfl) (fun hc => ?_) (fun hc => ?_)
      · have h211 := h21.1 hc
        subst h211
        exact ev_end 5 (fun _ => rfl)
      · have h212 := h21.2 hc
        subst h212
        exact ev_end 11 (fun _ => rfl)
    · have h22 := h2.2 hc
      refine ev_br (P := x3 < (w32 (x5 * x5))) (σ1 := ((d + 1), 206, 120, [some (.inl x0), some (.inr (.inl x1)), none, some (.inl x3), some (.inl x4), some (.inl x5), none, none, none], [], (am_sh, am_mm U))) (σ2 := ((d + 1), 206, 42, [some (.inl x0), some (.inr (.inl x1)), none, some (.inl x3), some (.inl x4), some (.inl x5), none, none, none], [], (am_sh, am_mm U))) 5 (fun _ => rfl) (fun hc => ?_) (fun hc => ?_)
      · have h221 := h22.1 hc
        refine ev_br (P := x3 ≤ 1) (σ1 := ((d + 1), 206, 134, [some (.inl x0), some (.inr (.inl x1)), none, some (.inl x3), some (.inl x4), some (.inl x5), none, none, none], [], (am_sh, am_mm U))) (σ2 := ((d + 1), 206, 125, [some (.inl x0), some (.inr (.inl x1)), none, some (.inl x3), some (.inl x4), some (.inl x5), none, none, none], [], (am_sh, am_mm U))) 3 (fun _ => rfl) (fun hc => ?_) (fun hc => ?_)
        · have h2211 := h221.1 hc
          subst h2211
          exact ev_end 5 (fun _ => rfl)
        · have h2212 := h221.2 hc
          subst h2212
          exact ev_end 11 (fun _ => rfl)
      · have h222 := h22.2 hc
        refine ev_seg (σ1 := ((d + 1), 206, 45, [some (.inl x0), some (.inr (.inl x1)), none, some (.inl x3), some (.inl x4), some (.inl x5), none, none, none], [.inl x5, .inl x3], (am_sh, am_mm U))) 2 (fun _ => rfl) ?_
        refine ev_irem rfl h222.1 ?_
        have h222a := h222.2
        refine ev_br (P := ¬ (Int.tmod x3 x5) = 0) (σ1 := ((d + 1), 206, 101, [some (.inl x0), some (.inr (.inl x1)), none, some (.inl x3), some (.inl x4), some (.inl x5), none, none, none], [], (am_sh, am_mm U))) (σ2 := ((d + 1), 206, 49, [some (.inl x0), some (.inr (.inl x1)), none, some (.inl x3), some (.inl x4), some (.inl x5), none, none, none], [], (am_sh, am_mm U))) 1 (fun _ => rfl) (fun hc => ?_) (fun hc => ?_)
        · have h222a1 := h222a.1 hc
          refine ev_br (P := ¬ x5 = 2) (σ1 := ((d + 1), 206, 113, [some (.inl x0), some (.inr (.inl x1)), none, some (.inl x3), some (.inl x4), some (.inl x5), none, none, none], [.inl x5], (am_sh, am_mm U))) (σ2 := ((d + 1), 206, 109, [some (.inl x0), some (.inr (.inl x1)), none, some (.inl x3), some (.inl x4), some (.inl x5), none, none, none], [.inl x5], (am_sh, am_mm U))) 4 (fun _ => rfl) (fun hc => ?_) (fun hc => ?_)
          · have h222a11 := h222a1.1 hc
            refine ev_seg (σ1 := ((d + 1), 206, 20, [some (.inl x0), some (.inr (.inl x1)), none, some (.inl x3), some (.inl x4), some (.inl (w32 (x5 + 2))), none, none, none], [], (am_sh, am_mm U))) 4 (fun _ => rfl) ?_
            exact h222a11
          · have h222a12 := h222a1.2 hc
            refine ev_seg (σ1 := ((d + 1), 206, 20, [some (.inl x0), some (.inr (.inl x1)), none, some (.inl x3), some (.inl x4), some (.inl (w32 (x5 + 1))), none, none, none], [], (am_sh, am_mm U))) 5 (fun _ => rfl) ?_
            exact h222a12
        · have h222a2 := h222a.2 hc
          refine ev_seg (σ1 := ((d + 1), 206, 55, [some (.inl x0), some (.inr (.inl x1)), none, some (.inl x3), some (.inl x4), some (.inl x5), some (.inr (.inl 1)), none, some (.inl 0)], [], (am_sh, am_mm U))) 4 (fun _ => rfl) ?_
          exact h222a2
set_option maxRecDepth 8000 in
theorem st206_55 (kz : am_Z) (d : Nat) (x0 x1 x3 x4 x5 x6 x8 : Int) (U : Nat → Nat → Int) (R : Option am_V × am_M) (h : (((31 ≤ x8 : Prop)) → ∃ (r1 : Int) (U1 : Nat → Nat → Int), Ev kz (d, 118, 0, [some (.inl x3), none, none, none, none, none, none, none], [], (am_sh, am_mm U)) (some (.inl r1), (am_sh, am_mm U1)) ∧ (((¬ x5 = 2 : Prop)) → Ev kz ((d + 1), 206, 20, [some (.inl x0), some (.inr (.inl (w64 (x1 * x6)))), none, some (.inl x3), some (.inl r1), some (.inl (w32 (x5 + 2))), some (.inr (.inl x6)), none, some (.inl x8)], [], (am_sh, am_mm U1)) R) ∧ (¬ (¬ x5 = 2) → Ev kz ((d + 1), 206, 20, [some (.inl x0), some (.inr (.inl (w64 (x1 * x6)))), none, some (.inl x3), some (.inl r1), some (.inl (w32 (x5 + 1))), some (.inr (.inl x6)), none, some (.inl x8)], [], (am_sh, am_mm U1)) R)) ∧ (¬ (31 ≤ x8) → x5 ≠ 0 ∧ (((¬ (Int.tmod x3 x5) = 0 : Prop)) → ∃ (r2 : Int) (U2 : Nat → Nat → Int), Ev kz (d, 118, 0, [some (.inl x3), none, none, none, none, none, none, none], [], (am_sh, am_mm U)) (some (.inl r2), (am_sh, am_mm U2)) ∧ (((¬ x5 = 2 : Prop)) → Ev kz ((d + 1), 206, 20, [some (.inl x0), some (.inr (.inl (w64 (x1 * x6)))), none, some (.inl x3), some (.inl r2), some (.inl (w32 (x5 + 2))), some (.inr (.inl x6)), none, some (.inl x8)], [], (am_sh, am_mm U2)) R) ∧ (¬ (¬ x5 = 2) → Ev kz ((d + 1), 206, 20, [some (.inl x0), some (.inr (.inl (w64 (x1 * x6)))), none, some (.inl x3), some (.inl r2), some (.inl (w32 (x5 + 1))), some (.inr (.inl x6)), none, some (.inl x8)], [], (am_sh, am_mm U2)) R)) ∧ (¬ (¬ (Int.tmod x3 x5) = 0) → x5 ≠ 0 ∧ Ev kz ((d + 1), 206, 55, [some (.inl x0), some (.inr (.inl x1)), none, some (.inl (w32 (Int.tdiv x3 x5))), some (.inl x4), some (.inl x5), some (.inr (.inl (w64 ((w64 (x6 * x5)) + 1)))), none, some (.inl (w32 (x8 + 1)))], [], (am_sh, am_mm U)) R))) : Ev kz ((d + 1), 206, 55, [some (.inl x0), some (.inr (.inl x1)), none, some (.inl x3), some (.inl x4), some (.inl x5), some (.inr (.inl x6)), none, some (.inl x8)], [], (am_sh, am_mm U)) R := by
  refine ev_br (P := 31 ≤ x8) (σ1 := ((d + 1), 206, 90, [some (.inl x0), some (.inr (.inl x1)), none, some (.inl x3), some (.inl x4), some (.inl x5), some (.inr (.inl x6)), none, some (.inl x8)], [], (am_sh, am_mm U))) (σ2 := ((d + 1), 206, 62, [some (.inl x0), some (.inr (.inl x1)), none, some (.inl x3), some (.inl x4), some (.inl x5), some (.inr (.inl x6)), none, some (.inl x8)], [], (am_sh, am_mm U))) 3 (fun _ => rfl) (fun hc => ?_) (fun hc => ?_)
  · have h1 := h.1 hc
    refine ev_seg (σ1 := ((d + 1), 206, 96, [some (.inl x0), some (.inr (.inl (w64 (x1 * x6)))), none, some (.inl x3), some (.inl x4), some (.inl x5), some (.inr (.inl x6)), none, some (.inl x8)], [.inl x3], (am_sh, am_mm U))) 5 (fun _ => rfl) ?_
    obtain ⟨r1, U1, h1c, h1a⟩ := h1
    refine ev_cal (σc := (d, 118, 0, [some (.inl x3), none, none, none, none, none, none, none], [], (am_sh, am_mm U))) (fun _ => rfl) h1c ?_
    show Ev kz ((d + 1), 206, 99, [some (.inl x0), some (.inr (.inl (w64 (x1 * x6)))), none, some (.inl x3), some (.inl x4), some (.inl x5), some (.inr (.inl x6)), none, some (.inl x8)], [.inl r1], (am_sh, am_mm U1)) R
    refine ev_br (P := ¬ x5 = 2) (σ1 := ((d + 1), 206, 113, [some (.inl x0), some (.inr (.inl (w64 (x1 * x6)))), none, some (.inl x3), some (.inl r1), some (.inl x5), some (.inr (.inl x6)), none, some (.inl x8)], [.inl x5], (am_sh, am_mm U1))) (σ2 := ((d + 1), 206, 109, [some (.inl x0), some (.inr (.inl (w64 (x1 * x6)))), none, some (.inl x3), some (.inl r1), some (.inl x5), some (.inr (.inl x6)), none, some (.inl x8)], [.inl x5], (am_sh, am_mm U1))) 5 (fun _ => rfl) (fun hc => ?_) (fun hc => ?_)
    · have h1a1 := h1a.1 hc
      refine ev_seg (σ1 := ((d + 1), 206, 20, [some (.inl x0), some (.inr (.inl (w64 (x1 * x6)))), none, some (.inl x3), some (.inl r1), some (.inl (w32 (x5 + 2))), some (.inr (.inl x6)), none, some (.inl x8)], [], (am_sh, am_mm U1))) 4 (fun _ => rfl) ?_
      exact h1a1
    · have h1a2 := h1a.2 hc
      refine ev_seg (σ1 := ((d + 1), 206, 20, [some (.inl x0), some (.inr (.inl (w64 (x1 * x6)))), none, some (.inl x3), some (.inl r1), some (.inl (w32 (x5 + 1))), some (.inr (.inl x6)), none, some (.inl x8)], [], (am_sh, am_mm U1))) 5 (fun _ => rfl) ?_
      exact h1a2
  · have h2 := h.2 hc
    refine ev_seg (σ1 := ((d + 1), 206, 65, [some (.inl x0), some (.inr (.inl x1)), none, some (.inl x3), some (.inl x4), some (.inl x5), some (.inr (.inl x6)), none, some (.inl x8)], [.inl x5, .inl x3], (am_sh, am_mm U))) 2 (fun _ => rfl) ?_
    refine ev_irem rfl h2.1 ?_
    have h2a := h2.2
    refine ev_br (P := ¬ (Int.tmod x3 x5) = 0) (σ1 := ((d + 1), 206, 90, [some (.inl x0), some (.inr (.inl x1)), none, some (.inl x3), some (.inl x4), some (.inl x5), some (.inr (.inl x6)), none, some (.inl x8)], [], (am_sh, am_mm U))) (σ2 := ((d + 1), 206, 69, [some (.inl x0), some (.inr (.inl x1)), none, some (.inl x3), some (.inl x4), some (.inl x5), some (.inr (.inl x6)), none, some (.inl x8)], [], (am_sh, am_mm U))) 1 (fun _ => rfl) (fun hc => ?_) (fun hc => ?_)
    · have h2a1 := h2a.1 hc
      refine ev_seg (σ1 := ((d + 1), 206, 96, [some (.inl x0), some (.inr (.inl (w64 (x1 * x6)))), none, some (.inl x3), some (.inl x4), some (.inl x5), some (.inr (.inl x6)), none, some (.inl x8)], [.inl x3], (am_sh, am_mm U))) 5 (fun _ => rfl) ?_
      obtain ⟨r2, U2, h2a1c, h2a1a⟩ := h2a1
      refine ev_cal (σc := (d, 118, 0, [some (.inl x3), none, none, none, none, none, none, none], [], (am_sh, am_mm U))) (fun _ => rfl) h2a1c ?_
      show Ev kz ((d + 1), 206, 99, [some (.inl x0), some (.inr (.inl (w64 (x1 * x6)))), none, some (.inl x3), some (.inl x4), some (.inl x5), some (.inr (.inl x6)), none, some (.inl x8)], [.inl r2], (am_sh, am_mm U2)) R
      refine ev_br (P := ¬ x5 = 2) (σ1 := ((d + 1), 206, 113, [some (.inl x0), some (.inr (.inl (w64 (x1 * x6)))), none, some (.inl x3), some (.inl r2), some (.inl x5), some (.inr (.inl x6)), none, some (.inl x8)], [.inl x5], (am_sh, am_mm U2))) (σ2 := ((d + 1), 206, 109, [some (.inl x0), some (.inr (.inl (w64 (x1 * x6)))), none, some (.inl x3), some (.inl r2), some (.inl x5), some (.inr (.inl x6)), none, some (.inl x8)], [.inl x5], (am_sh, am_mm U2))) 5 (fun _ => rfl) (fun hc => ?_) (fun hc => ?_)
      · have h2a1a1 := h2a1a.1 hc
        refine ev_seg (σ1 := ((d + 1), 206, 20, [some (.inl x0), some (.inr (.inl (w64 (x1 * x6)))), none, some (.inl x3), some (.inl r2), some (.inl (w32 (x5 + 2))), some (.inr (.inl x6)), none, some (.inl x8)], [], (am_sh, am_mm U2))) 4 (fun _ => rfl) ?_
        exact h2a1a1
      · have h2a1a2 := h2a1a.2 hc
        refine ev_seg (σ1 := ((d + 1), 206, 20, [some (.inl x0), some (.inr (.inl (w64 (x1 * x6)))), none, some (.inl x3), some (.inl r2), some (.inl (w32 (x5 + 1))), some (.inr (.inl x6)), none, some (.inl x8)], [], (am_sh, am_mm U2))) 5 (fun _ => rfl) ?_
        exact h2a1a2
    · have h2a2 := h2a.2 hc
      refine ev_seg (σ1 := ((d + 1), 206, 72, [some (.inl x0), some (.inr (.inl x1)), none, some (.inl x3), some (.inl x4), some (.inl x5), some (.inr (.inl x6)), none, some (.inl x8)], [.inl x5, .inl x3], (am_sh, am_mm U))) 2 (fun _ => rfl) ?_
      refine ev_idiv rfl h2a2.1 ?_
      have h2a2a := h2a2.2
      refine ev_seg (σ1 := ((d + 1), 206, 55, [some (.inl x0), some (.inr (.inl x1)), none, some (.inl (w32 (Int.tdiv x3 x5))), some (.inl x4), some (.inl x5), some (.inr (.inl (w64 ((w64 (x6 * x5)) + 1)))), none, some (.inl (w32 (x8 + 1)))], [], (am_sh, am_mm U))) 10 (fun _ => rfl) ?_
      exact h2a2a
set_option maxRecDepth 8000 in
theorem st211_83_0 (kz : am_Z) (d : Nat) (x1 : Int) (U : Nat → Nat → Int) (R : Option am_V × am_M) (h : Ev kz (d, 211, 5, [some (.inr (.inr 83)), some (.inl x1), some (.inl 0), some (.inl 64)], [], (am_sh, am_mm U)) R) : Ev kz (d, 211, 0, [some (.inr (.inr 83)), some (.inl x1), none, none], [], (am_sh, am_mm U)) R := by
  refine ev_seg (σ1 := (d, 211, 5, [some (.inr (.inr 83)), some (.inl x1), some (.inl 0), some (.inl 64)], [], (am_sh, am_mm U))) 5 (fun _ => rfl) ?_
  exact h
set_option maxRecDepth 8000 in
theorem st211_83_5 (kz : am_Z) (d : Nat) (x1 x2 x3 : Int) (U : Nat → Nat → Int) (R : Option am_V × am_M) (h : (((x3 ≤ x2 : Prop)) → R = (none, (am_sh, am_mm U))) ∧ (¬ (x3 ≤ x2) → (0 ≤ x2 ∧ x2 < 64) ∧ Ev kz (d, 211, 5, [some (.inr (.inr 83)), some (.inl x1), some (.inl (w32 (x2 + 1))), some (.inl x3)], [], (am_sh, am_mm (am_upd U 83 x2.toNat x1))) R)) : Ev kz (d, 211, 5, [some (.inr (.inr 83)), some (.inl x1), some (.inl x2), some (.inl x3)], [], (am_sh, am_mm U)) R := by
  refine ev_br (P := x3 ≤ x2) (σ1 := (d, 211, 20, [some (.inr (.inr 83)), some (.inl x1), some (.inl x2), some (.inl x3)], [], (am_sh, am_mm U))) (σ2 := (d, 211, 10, [some (.inr (.inr 83)), some (.inl x1), some (.inl x2), some (.inl x3)], [], (am_sh, am_mm U))) 3 (fun _ => rfl) (fun hc => ?_) (fun hc => ?_)
  · have h1 := h.1 hc
    subst h1
    exact ev_end 1 (fun _ => rfl)
  · have h2 := h.2 hc
    refine ev_seg (σ1 := (d, 211, 13, [some (.inr (.inr 83)), some (.inl x1), some (.inl x2), some (.inl x3)], [.inl x1, .inl x2, .inr (.inr 83)], (am_sh, am_mm U))) 3 (fun _ => rfl) ?_
    refine eu_iast 83 (n := 64) rfl (by decide) rfl (fun _ => rfl) h2.1 ?_
    have h2a := h2.2
    refine ev_seg (σ1 := (d, 211, 5, [some (.inr (.inr 83)), some (.inl x1), some (.inl (w32 (x2 + 1))), some (.inl x3)], [], (am_sh, am_mm (am_upd U 83 x2.toNat x1)))) 2 (fun _ => rfl) ?_
    exact h2a
set_option maxRecDepth 8000 in
theorem st208_0 (kz : am_Z) (d : Nat) (x0 : Int) (U : Nat → Nat → Int) (R : Option am_V × am_M) (h : (((0 ≤ (am_lcmp x0 0) : Prop)) → R = (some (.inr (.inl x0)), (am_sh, am_mm U))) ∧ (¬ (0 ≤ (am_lcmp x0 0)) → R = (some (.inr (.inl (w64 (-x0)))), (am_sh, am_mm U)))) : Ev kz (d, 208, 0, [some (.inr (.inl x0)), none], [], (am_sh, am_mm U)) R := by
  refine ev_br (P := 0 ≤ (am_lcmp x0 0)) (σ1 := (d, 208, 11, [some (.inr (.inl x0)), none], [], (am_sh, am_mm U))) (σ2 := (d, 208, 6, [some (.inr (.inl x0)), none], [], (am_sh, am_mm U))) 4 (fun _ => rfl) (fun hc => ?_) (fun hc => ?_)
  · have h1 := h.1 hc
    subst h1
    exact ev_end 2 (fun _ => rfl)
  · have h2 := h.2 hc
    subst h2
    exact ev_end 4 (fun _ => rfl)
set_option maxRecDepth 8000 in
theorem st120_86_0 (kz : am_Z) (d : Nat) (x1 x2 : Int) (U : Nat → Nat → Int) (R : Option am_V × am_M) (h : ∃ (r1 : Int) (U1 : Nat → Nat → Int), Ev kz (d, 207, 0, [some (.inr (.inr 86)), some (.inl x1), some (.inl x2)], [], (am_sh, am_mm U)) (some (.inl r1), (am_sh, am_mm U1)) ∧ (((r1 = 0 : Prop)) → R = (some (.inl 0), (am_sh, am_mm U1))) ∧ (¬ (r1 = 0) → (0 ≤ x1 ∧ x1 < 352) ∧ (0 ≤ x2 ∧ x2 < 352) ∧ ∃ (r2 : Int) (U2 : Nat → Nat → Int), Ev kz (d, 154, 0, [some (.inr (.inl (U1 123 x1.toNat))), none, some (.inr (.inl (U1 123 x2.toNat))), none, none, none, none, none, none, none], [], (am_sh, am_mm U1)) (some (.inr (.inl r2)), (am_sh, am_mm U2)) ∧ ((((am_lcmp r2 1) ≤ 0 : Prop)) → R = (some (.inl 0), (am_sh, am_mm U2))) ∧ (¬ ((am_lcmp r2 1) ≤ 0) → R = (some (.inl 1), (am_sh, am_mm U2))))) : Ev kz ((d + 1), 120, 0, [some (.inr (.inr 86)), some (.inl x1), some (.inl x2)], [], (am_sh, am_mm U)) R := by
  refine ev_seg (σ1 := ((d + 1), 120, 3, [some (.inr (.inr 86)), some (.inl x1), some (.inl x2)], [.inl x2, .inl x1, .inr (.inr 86)], (am_sh, am_mm U))) 3 (fun _ => rfl) ?_
  obtain ⟨r1, U1, hc, ha⟩ := h
  refine ev_cal (σc := (d, 207, 0, [some (.inr (.inr 86)), some (.inl x1), some (.inl x2)], [], (am_sh, am_mm U))) (fun _ => rfl) hc ?_
  show Ev kz ((d + 1), 120, 6, [some (.inr (.inr 86)), some (.inl x1), some (.inl x2)], [.inl r1], (am_sh, am_mm U1)) R
  refine ev_br (P := r1 = 0) (σ1 := ((d + 1), 120, 35, [some (.inr (.inr 86)), some (.inl x1), some (.inl x2)], [], (am_sh, am_mm U1))) (σ2 := ((d + 1), 120, 9, [some (.inr (.inr 86)), some (.inl x1), some (.inl x2)], [], (am_sh, am_mm U1))) 1 (fun _ => rfl) (fun hc => ?_) (fun hc => ?_)
  · have ha1 := ha.1 hc
    subst ha1
    exact ev_end 2 (fun _ => rfl)
  · have ha2 := ha.2 hc
    refine ev_seg (σ1 := ((d + 1), 120, 14, [some (.inr (.inr 86)), some (.inl x1), some (.inl x2)], [.inl x1, .inr (.inr 123)], (am_sh, am_mm U1))) 3 (fun _ => rfl) ?_
    refine eu_iald 123 (n := 352) rfl (by decide) rfl (fun _ => rfl) ha2.1 ?_
    have ha2a := ha2.2
    refine ev_seg (σ1 := ((d + 1), 120, 21, [some (.inr (.inr 86)), some (.inl x1), some (.inl x2)], [.inl x2, .inr (.inr 123), .inr (.inl (U1 123 x1.toNat))], (am_sh, am_mm U1))) 4 (fun _ => rfl) ?_
    refine eu_iald 123 (n := 352) rfl (by decide) rfl (fun _ => rfl) ha2a.1 ?_
    have ha2aa := ha2a.2
    refine ev_seg (σ1 := ((d + 1), 120, 23, [some (.inr (.inr 86)), some (.inl x1), some (.inl x2)], [.inr (.inl (U1 123 x2.toNat)), .inr (.inl (U1 123 x1.toNat))], (am_sh, am_mm U1))) 1 (fun _ => rfl) ?_
    obtain ⟨r2, U2, ha2aac, ha2aaa⟩ := ha2aa
    refine ev_cal (σc := (d, 154, 0, [some (.inr (.inl (U1 123 x1.toNat))), none, some (.inr (.inl (U1 123 x2.toNat))), none, none, none, none, none, none, none], [], (am_sh, am_mm U1))) (fun _ => rfl) ha2aac ?_
    show Ev kz ((d + 1), 120, 26, [some (.inr (.inr 86)), some (.inl x1), some (.inl x2)], [.inr (.inl r2)], (am_sh, am_mm U2)) R
    refine ev_br (P := (am_lcmp r2 1) ≤ 0) (σ1 := ((d + 1), 120, 35, [some (.inr (.inr 86)), some (.inl x1), some (.inl x2)], [], (am_sh, am_mm U2))) (σ2 := ((d + 1), 120, 31, [some (.inr (.inr 86)), some (.inl x1), some (.inl x2)], [], (am_sh, am_mm U2))) 3 (fun _ => rfl) (fun hc => ?_) (fun hc => ?_)
    · have ha2aaa1 := ha2aaa.1 hc
      subst ha2aaa1
      exact ev_end 2 (fun _ => rfl)
    · have ha2aaa2 := ha2aaa.2 hc
      subst ha2aaa2
      exact ev_end 3 (fun _ => rfl)
set_option maxRecDepth 8000 in
theorem st238_86_0 (kz : am_Z) (d : Nat) (x1 x2 : Int) (U : Nat → Nat → Int) (R : Option am_V × am_M) (h : ∃ (r1 : Int) (U1 : Nat → Nat → Int), Ev kz (d, 121, 0, [some (.inr (.inr 86)), some (.inl x1)], [], (am_sh, am_mm U)) (some (.inr (.inl r1)), (am_sh, am_mm U1)) ∧ ∃ (r2 : Int) (U2 : Nat → Nat → Int), Ev kz (d, 121, 0, [some (.inr (.inr 86)), some (.inl x2)], [], (am_sh, am_mm U1)) (some (.inr (.inl r2)), (am_sh, am_mm U2)) ∧ ((((am_lcmp r1 r2) = 0 : Prop)) → R = (some (.inl 0), (am_sh, am_mm U2))) ∧ (¬ ((am_lcmp r1 r2) = 0) → ∃ (r3 : Int) (U3 : Nat → Nat → Int), Ev kz (d, 121, 0, [some (.inr (.inr 86)), some (.inl x1)], [], (am_sh, am_mm U2)) (some (.inr (.inl r3)), (am_sh, am_mm U3)) ∧ ∃ (r4 : Int) (U4 : Nat → Nat → Int), Ev kz (d, 123, 0, [some (.inr (.inl r3)), none, none, none, none, none], [], (am_sh, am_mm U3)) (some (.inr (.inl r4)), (am_sh, am_mm U4)) ∧ ∃ (r5 : Int) (U5 : Nat → Nat → Int), Ev kz (d, 121, 0, [some (.inr (.inr 86)), some (.inl x2)], [], (am_sh, am_mm U4)) (some (.inr (.inl r5)), (am_sh, am_mm U5)) ∧ (((¬ (am_lcmp r4 r5) = 0 : Prop)) → R = (some (.inl 0), (am_sh, am_mm U5))) ∧ (¬ (¬ (am_lcmp r4 r5) = 0) → ∃ (r6 : Int) (U6 : Nat → Nat → Int), Ev kz (d, 121, 0, [some (.inr (.inr 86)), some (.inl x2)], [], (am_sh, am_mm U5)) (some (.inr (.inl r6)), (am_sh, am_mm U6)) ∧ ∃ (r7 : Int) (U7 : Nat → Nat → Int), Ev kz (d, 123, 0, [some (.inr (.inl r6)), none, none, none, none, none], [], (am_sh, am_mm U6)) (some (.inr (.inl r7)), (am_sh, am_mm U7)) ∧ ∃ (r8 : Int) (U8 : Nat → Nat → Int), Ev kz (d, 121, 0, [some (.inr (.inr 86)), some (.inl x1)], [], (am_sh, am_mm U7)) (some (.inr (.inl r8)), (am_sh, am_mm U8)) ∧ (((¬ (am_lcmp r7 r8) = 0 : Prop)) → R = (some (.inl 0), (am_sh, am_mm U8))) ∧ (¬ (¬ (am_lcmp r7 r8) = 0) → R = (some (.inl 1), (am_sh, am_mm U8)))))) : Ev kz ((d + 1), 238, 0, [some (.inr (.inr 86)), some (.inl x1), some (.inl x2)], [], (am_sh, am_mm U)) R := by
  refine ev_seg (σ1 := ((d + 1), 238, 2, [some (.inr (.inr 86)), some (.inl x1), some (.inl x2)], [.inl x1, .inr (.inr 86)], (am_sh, am_mm U))) 2 (fun _ => rfl) ?_
  obtain ⟨r1, U1, hc, ha⟩ := h
  refine ev_cal (σc := (d, 121, 0, [some (.inr (.inr 86)), some (.inl x1)], [], (am_sh, am_mm U))) (fun _ => rfl) hc ?_
  show Ev kz ((d + 1), 238, 5, [some (.inr (.inr 86)), some (.inl x1), some (.inl x2)], [.inr (.inl r1)], (am_sh, am_mm U1)) R
  refine ev_seg (σ1 := ((d + 1), 238, 7, [some (.inr (.inr 86)), some (.inl x1), some (.inl x2)], [.inl x2, .inr (.inr 86), .inr (.inl r1)], (am_sh, am_mm U1))) 2 (fun _ => rfl) ?_
  obtain ⟨r2, U2, hac, haa⟩ := ha
  refine ev_cal (σc := (d, 121, 0, [some (.inr (.inr 86)), some (.inl x2)], [], (am_sh, am_mm U1))) (fun _ => rfl) hac ?_
  show Ev kz ((d + 1), 238, 10, [some (.inr (.inr 86)), some (.inl x1), some (.inl x2)], [.inr (.inl r2), .inr (.inl r1)], (am_sh, am_mm U2)) R
  refine ev_br (P := (am_lcmp r1 r2) = 0) (σ1 := ((d + 1), 238, 52, [some (.inr (.inr 86)), some (.inl x1), some (.inl x2)], [], (am_sh, am_mm U2))) (σ2 := ((d + 1), 238, 14, [some (.inr (.inr 86)), some (.inl x1), some (.inl x2)], [], (am_sh, am_mm U2))) 2 (fun _ => rfl) (fun hc => ?_) (fun hc => ?_)
  · have haa1 := haa.1 hc
    subst haa1
    exact ev_end 2 (fun _ => rfl)
  · have haa2 := haa.2 hc
    refine ev_seg (σ1 := ((d + 1), 238, 16, [some (.inr (.inr 86)), some (.inl x1), some (.inl x2)], [.inl x1, .inr (.inr 86)], (am_sh, am_mm U2))) 2 (fun _ => rfl) ?_
    obtain ⟨r3, U3, haa2c, haa2a⟩ := haa2
    refine ev_cal (σc := (d, 121, 0, [some (.inr (.inr 86)), some (.inl x1)], [], (am_sh, am_mm U2))) (fun _ => rfl) haa2c ?_
    show Ev kz ((d + 1), 238, 19, [some (.inr (.inr 86)), some (.inl x1), some (.inl x2)], [.inr (.inl r3)], (am_sh, am_mm U3)) R
    obtain ⟨r4, U4, haa2ac, haa2aa⟩ := haa2a
    refine ev_cal (σc := (d, 123, 0, [some (.inr (.inl r3)), none, none, none, none, none], [], (am_sh, am_mm U3))) (fun _ => rfl) haa2ac ?_
    show Ev kz ((d + 1), 238, 22, [some (.inr (.inr 86)), some (.inl x1), some (.inl x2)], [.inr (.inl r4)], (am_sh, am_mm U4)) R
    refine ev_seg (σ1 := ((d + 1), 238, 24, [some (.inr (.inr 86)), some (.inl x1), some (.inl x2)], [.inl x2, .inr (.inr 86), .inr (.inl r4)], (am_sh, am_mm U4))) 2 (fun _ => rfl) ?_
    obtain ⟨r5, U5, haa2aac, haa2aaa⟩ := haa2aa
    refine ev_cal (σc := (d, 121, 0, [some (.inr (.inr 86)), some (.inl x2)], [], (am_sh, am_mm U4))) (fun _ => rfl) haa2aac ?_
    show Ev kz ((d + 1), 238, 27, [some (.inr (.inr 86)), some (.inl x1), some (.inl x2)], [.inr (.inl r5), .inr (.inl r4)], (am_sh, am_mm U5)) R
    refine ev_br (P := ¬ (am_lcmp r4 r5) = 0) (σ1 := ((d + 1), 238, 52, [some (.inr (.inr 86)), some (.inl x1), some (.inl x2)], [], (am_sh, am_mm U5))) (σ2 := ((d + 1), 238, 31, [some (.inr (.inr 86)), some (.inl x1), some (.inl x2)], [], (am_sh, am_mm U5))) 2 (fun _ => rfl) (fun hc => ?_) (fun hc => ?_)
    · have haa2aaa1 := haa2aaa.1 hc
      subst haa2aaa1
      exact ev_end 2 (fun _ => rfl)
    · have haa2aaa2 := haa2aaa.2 hc
      refine ev_seg (σ1 := ((d + 1), 238, 33, [some (.inr (.inr 86)), some (.inl x1), some (.inl x2)], [.inl x2, .inr (.inr 86)], (am_sh, am_mm U5))) 2 (fun _ => rfl) ?_
      obtain ⟨r6, U6, haa2aaa2c, haa2aaa2a⟩ := haa2aaa2
      refine ev_cal (σc := (d, 121, 0, [some (.inr (.inr 86)), some (.inl x2)], [], (am_sh, am_mm U5))) (fun _ => rfl) haa2aaa2c ?_
      show Ev kz ((d + 1), 238, 36, [some (.inr (.inr 86)), some (.inl x1), some (.inl x2)], [.inr (.inl r6)], (am_sh, am_mm U6)) R
      obtain ⟨r7, U7, haa2aaa2ac, haa2aaa2aa⟩ := haa2aaa2a
      refine ev_cal (σc := (d, 123, 0, [some (.inr (.inl r6)), none, none, none, none, none], [], (am_sh, am_mm U6))) (fun _ => rfl) haa2aaa2ac ?_
      show Ev kz ((d + 1), 238, 39, [some (.inr (.inr 86)), some (.inl x1), some (.inl x2)], [.inr (.inl r7)], (am_sh, am_mm U7)) R
      refine ev_seg (σ1 := ((d + 1), 238, 41, [some (.inr (.inr 86)), some (.inl x1), some (.inl x2)], [.inl x1, .inr (.inr 86), .inr (.inl r7)], (am_sh, am_mm U7))) 2 (fun _ => rfl) ?_
      obtain ⟨r8, U8, haa2aaa2aac, haa2aaa2aaa⟩ := haa2aaa2aa
      refine ev_cal (σc := (d, 121, 0, [some (.inr (.inr 86)), some (.inl x1)], [], (am_sh, am_mm U7))) (fun _ => rfl) haa2aaa2aac ?_
      show Ev kz ((d + 1), 238, 44, [some (.inr (.inr 86)), some (.inl x1), some (.inl x2)], [.inr (.inl r8), .inr (.inl r7)], (am_sh, am_mm U8)) R
      refine ev_br (P := ¬ (am_lcmp r7 r8) = 0) (σ1 := ((d + 1), 238, 52, [some (.inr (.inr 86)), some (.inl x1), some (.inl x2)], [], (am_sh, am_mm U8))) (σ2 := ((d + 1), 238, 48, [some (.inr (.inr 86)), some (.inl x1), some (.inl x2)], [], (am_sh, am_mm U8))) 2 (fun _ => rfl) (fun hc => ?_) (fun hc => ?_)
      · have haa2aaa2aaa1 := haa2aaa2aaa.1 hc
        subst haa2aaa2aaa1
        exact ev_end 2 (fun _ => rfl)
      · have haa2aaa2aaa2 := haa2aaa2aaa.2 hc
        subst haa2aaa2aaa2
        exact ev_end 3 (fun _ => rfl)
set_option maxRecDepth 8000 in
theorem st204_45_0 (kz : am_Z) (d : Nat) (x1 : Int) (U : Nat → Nat → Int) (R : Option am_V × am_M) (h : (0 ≤ x1 ∧ x1 < 16) ∧ ((((U 18 x1.toNat) < 0 : Prop)) → R = (some (.inl 0), (am_sh, am_mm U))) ∧ (¬ ((U 18 x1.toNat) < 0) → ((((U 3 1) ≤ (U 18 x1.toNat) : Prop)) → R = (some (.inl 0), (am_sh, am_mm U))) ∧ (¬ ((U 3 1) ≤ (U 18 x1.toNat)) → (0 ≤ (U 18 x1.toNat) ∧ (U 18 x1.toNat) < 12) ∧ R = (some (.inl (am_and (U 19 (U 18 x1.toNat).toNat) (am_xor (am_shl 1 x1) (-1)))), (am_sh, am_mm U))))) : Ev kz (d, 204, 0, [some (.inr (.inr 45)), some (.inl x1), none], [], (am_sh, am_mm U)) R := by
  refine ev_seg (σ1 := (d, 204, 8, [some (.inr (.inr 45)), some (.inl x1), none], [.inl x1, .inr (.inr 18)], (am_sh, am_mm U))) 4 (fun _ => rfl) ?_
  refine eu_iald 18 (n := 16) rfl (by decide) rfl (fun _ => rfl) h.1 ?_
  have ha := h.2
  refine ev_br (P := (U 18 x1.toNat) < 0) (σ1 := (d, 204, 43, [some (.inr (.inr 45)), some (.inl x1), some (.inl (U 18 x1.toNat))], [], (am_sh, am_mm U))) (σ2 := (d, 204, 14, [some (.inr (.inr 45)), some (.inl x1), some (.inl (U 18 x1.toNat))], [], (am_sh, am_mm U))) 3 (fun _ => rfl) (fun hc => ?_) (fun hc => ?_)
  · have ha1 := ha.1 hc
    subst ha1
    exact ev_end 2 (fun _ => rfl)
  · have ha2 := ha.2 hc
    refine ev_br (P := (U 3 1) ≤ (U 18 x1.toNat)) (σ1 := (d, 204, 43, [some (.inr (.inr 45)), some (.inl x1), some (.inl (U 18 x1.toNat))], [], (am_sh, am_mm U))) (σ2 := (d, 204, 25, [some (.inr (.inr 45)), some (.inl x1), some (.inl (U 18 x1.toNat))], [], (am_sh, am_mm U))) 5 (fun _ => rfl) (fun hc => ?_) (fun hc => ?_)
    · have ha21 := ha2.1 hc
      subst ha21
      exact ev_end 2 (fun _ => rfl)
    · have ha22 := ha2.2 hc
      refine ev_seg (σ1 := (d, 204, 33, [some (.inr (.inr 45)), some (.inl x1), some (.inl (U 18 x1.toNat))], [.inl (U 18 x1.toNat), .inr (.inr 19)], (am_sh, am_mm U))) 4 (fun _ => rfl) ?_
      refine eu_iald 19 (n := 12) rfl (by decide) rfl (fun _ => rfl) ha22.1 ?_
      have ha22a := ha22.2
      subst ha22a
      exact ev_end 8 (fun _ => rfl)
set_option maxRecDepth 8000 in
theorem st205_45_0 (kz : am_Z) (d : Nat) (x1 : Int) (U : Nat → Nat → Int) (R : Option am_V × am_M) (h : (0 ≤ x1 ∧ x1 < 16) ∧ ((((U 18 x1.toNat) < 0 : Prop)) → R = (some (.inl 0), (am_sh, am_mm U))) ∧ (¬ ((U 18 x1.toNat) < 0) → ((((U 18 x1.toNat) < (U 3 1) : Prop)) → Ev kz (d, 205, 32, [some (.inr (.inr 45)), some (.inl x1), some (.inl (U 18 x1.toNat)), some (.inl 0), some (.inl 0)], [], (am_sh, am_mm U)) R) ∧ (¬ ((U 18 x1.toNat) < (U 3 1)) → R = (some (.inl 0), (am_sh, am_mm U))))) : Ev kz (d, 205, 0, [some (.inr (.inr 45)), some (.inl x1), none, none, none], [], (am_sh, am_mm U)) R := by
  refine ev_seg (σ1 := (d, 205, 8, [some (.inr (.inr 45)), some (.inl x1), none, none, none], [.inl x1, .inr (.inr 18)], (am_sh, am_mm U))) 4 (fun _ => rfl) ?_
  refine eu_iald 18 (n := 16) rfl (by decide) rfl (fun _ => rfl) h.1 ?_
  have ha := h.2
  refine ev_br (P := (U 18 x1.toNat) < 0) (σ1 := (d, 205, 25, [some (.inr (.inr 45)), some (.inl x1), some (.inl (U 18 x1.toNat)), none, none], [], (am_sh, am_mm U))) (σ2 := (d, 205, 14, [some (.inr (.inr 45)), some (.inl x1), some (.inl (U 18 x1.toNat)), none, none], [], (am_sh, am_mm U))) 3 (fun _ => rfl) (fun hc => ?_) (fun hc => ?_)
  · have ha1 := ha.1 hc
    subst ha1
    exact ev_end 2 (fun _ => rfl)
  · have ha2 := ha.2 hc
    refine ev_br (P := (U 18 x1.toNat) < (U 3 1)) (σ1 := (d, 205, 27, [some (.inr (.inr 45)), some (.inl x1), some (.inl (U 18 x1.toNat)), none, none], [], (am_sh, am_mm U))) (σ2 := (d, 205, 25, [some (.inr (.inr 45)), some (.inl x1), some (.inl (U 18 x1.toNat)), none, none], [], (am_sh, am_mm U))) 5 (fun _ => rfl) (fun hc => ?_) (fun hc => ?_)
    · have ha21 := ha2.1 hc
      refine ev_seg (σ1 := (d, 205, 32, [some (.inr (.inr 45)), some (.inl x1), some (.inl (U 18 x1.toNat)), some (.inl 0), some (.inl 0)], [], (am_sh, am_mm U))) 4 (fun _ => rfl) ?_
      exact ha21
    · have ha22 := ha2.2 hc
      subst ha22
      exact ev_end 2 (fun _ => rfl)
set_option maxRecDepth 8000 in
theorem st205_45_32 (kz : am_Z) (d : Nat) (x1 x2 x3 x4 : Int) (U : Nat → Nat → Int) (R : Option am_V × am_M) (h : ((((U 3 1) ≤ x4 : Prop)) → R = (some (.inl x3), (am_sh, am_mm U))) ∧ (¬ ((U 3 1) ≤ x4) → (0 ≤ x2 ∧ x2 < 12) ∧ (((¬ (am_and (am_shr (U 9 x2.toNat) x4) 1) = 1 : Prop)) → Ev kz (d, 205, 32, [some (.inr (.inr 45)), some (.inl x1), some (.inl x2), some (.inl x3), some (.inl (w32 (x4 + 1)))], [], (am_sh, am_mm U)) R) ∧ (¬ (¬ (am_and (am_shr (U 9 x2.toNat) x4) 1) = 1) → (0 ≤ x4 ∧ x4 < 12) ∧ Ev kz (d, 205, 32, [some (.inr (.inr 45)), some (.inl x1), some (.inl x2), some (.inl (am_or x3 (U 19 x4.toNat))), some (.inl (w32 (x4 + 1)))], [], (am_sh, am_mm U)) R))) : Ev kz (d, 205, 32, [some (.inr (.inr 45)), some (.inl x1), some (.inl x2), some (.inl x3), some (.inl x4)], [], (am_sh, am_mm U)) R := by
  refine ev_br (P := (U 3 1) ≤ x4) (σ1 := (d, 205, 81, [some (.inr (.inr 45)), some (.inl x1), some (.inl x2), some (.inl x3), some (.inl x4)], [], (am_sh, am_mm U))) (σ2 := (d, 205, 44, [some (.inr (.inr 45)), some (.inl x1), some (.inl x2), some (.inl x3), some (.inl x4)], [], (am_sh, am_mm U))) 5 (fun _ => rfl) (fun hc => ?_) (fun hc => ?_)
  · have h1 := h.1 hc
    subst h1
    exact ev_end 2 (fun _ => rfl)
  · have h2 := h.2 hc
    refine ev_seg (σ1 := (d, 205, 52, [some (.inr (.inr 45)), some (.inl x1), some (.inl x2), some (.inl x3), some (.inl x4)], [.inl x2, .inr (.inr 9)], (am_sh, am_mm U))) 4 (fun _ => rfl) ?_
    refine eu_iald 9 (n := 12) rfl (by decide) rfl (fun _ => rfl) h2.1 ?_
    have h2a := h2.2
    refine ev_br (P := ¬ (am_and (am_shr (U 9 x2.toNat) x4) 1) = 1) (σ1 := (d, 205, 75, [some (.inr (.inr 45)), some (.inl x1), some (.inl x2), some (.inl x3), some (.inl x4)], [], (am_sh, am_mm U))) (σ2 := (d, 205, 62, [some (.inr (.inr 45)), some (.inl x1), some (.inl x2), some (.inl x3), some (.inl x4)], [], (am_sh, am_mm U))) 6 (fun _ => rfl) (fun hc => ?_) (fun hc => ?_)
    · have h2a1 := h2a.1 hc
      refine ev_seg (σ1 := (d, 205, 32, [some (.inr (.inr 45)), some (.inl x1), some (.inl x2), some (.inl x3), some (.inl (w32 (x4 + 1)))], [], (am_sh, am_mm U))) 2 (fun _ => rfl) ?_
      exact h2a1
    · have h2a2 := h2a.2 hc
      refine ev_seg (σ1 := (d, 205, 72, [some (.inr (.inr 45)), some (.inl x1), some (.inl x2), some (.inl x3), some (.inl x4)], [.inl x4, .inr (.inr 19), .inl x3], (am_sh, am_mm U))) 5 (fun _ => rfl) ?_
      refine eu_iald 19 (n := 12) rfl (by decide) rfl (fun _ => rfl) h2a2.1 ?_
      have h2a2a := h2a2.2
      refine ev_seg (σ1 := (d, 205, 32, [some (.inr (.inr 45)), some (.inl x1), some (.inl x2), some (.inl (am_or x3 (U 19 x4.toNat))), some (.inl (w32 (x4 + 1)))], [], (am_sh, am_mm U))) 4 (fun _ => rfl) ?_
      exact h2a2a
set_option maxRecDepth 8000 in
theorem st239_82_0 (kz : am_Z) (d : Nat) (x1 : Int) (U : Nat → Nat → Int) (R : Option am_V × am_M) (h : Ev kz ((d + 1), 239, 10, [some (.inr (.inr 82)), some (.inl x1), some (.inl x1), some (.inl 0), some (.inl 0), some (.inl 0), none], [], (am_sh, am_mm U)) R) : Ev kz ((d + 1), 239, 0, [some (.inr (.inr 82)), some (.inl x1), none, none, none, none, none], [], (am_sh, am_mm U)) R := by
  refine ev_seg (σ1 := ((d + 1), 239, 10, [some (.inr (.inr 82)), some (.inl x1), some (.inl x1), some (.inl 0), some (.inl 0), some (.inl 0), none], [], (am_sh, am_mm U))) 8 (fun _ => rfl) ?_
  exact h
set_option maxRecDepth 8000 in
theorem st239_82_10 (kz : am_Z) (d : Nat) (x1 x2 x3 x4 x5 : Int) (U : Nat → Nat → Int) (R : Option am_V × am_M) (h : (((64 ≤ x5 : Prop)) → R = (none, (am_sh, am_mm U))) ∧ (¬ (64 ≤ x5) → ((((w32 (x2 + x3)) ≤ 0 : Prop)) → R = (none, (am_sh, am_mm U))) ∧ (¬ ((w32 (x2 + x3)) ≤ 0) → (0 ≤ x5 ∧ x5 < 64) ∧ ((((w32 ((w32 ((U 83 x5.toNat) + (Int.tmod x2 10))) + x3)) < 10 : Prop)) → (0 ≤ x5 ∧ x5 < 64) ∧ (((¬ 0 = 1 : Prop)) → Ev kz ((d + 1), 239, 10, [some (.inr (.inr 82)), some (.inl x1), some (.inl (w32 (Int.tdiv x2 10))), some (.inl 0), some (.inl 0), some (.inl (w32 (x5 + 1))), some (.inl (w32 ((w32 ((U 83 x5.toNat) + (Int.tmod x2 10))) + x3)))], [], (am_sh, am_mm (am_upd (am_upd (am_upd (am_upd U 83 x5.toNat (w32 ((w32 ((w32 ((U 83 x5.toNat) + (Int.tmod x2 10))) + x3)) - (w32 (10 * 0))))) 82 2 (w32 (((am_upd U 83 x5.toNat (w32 ((w32 ((w32 ((U 83 x5.toNat) + (Int.tmod x2 10))) + x3)) - (w32 (10 * 0))))) 82 2) + 0))) 82 3 (if ((am_upd (am_upd U 83 x5.toNat (w32 ((w32 ((w32 ((U 83 x5.toNat) + (Int.tmod x2 10))) + x3)) - (w32 (10 * 0))))) 82 2 (w32 (((am_upd U 83 x5.toNat (w32 ((w32 ((w32 ((U 83 x5.toNat) + (Int.tmod x2 10))) + x3)) - (w32 (10 * 0))))) 82 2) + 0))) 82 3) < 0 then 0 else ((am_upd (am_upd U 83 x5.toNat (w32 ((w32 ((w32 ((U 83 x5.toNat) + (Int.tmod x2 10))) + x3)) - (w32 (10 * 0))))) 82 2 (w32 (((am_upd U 83 x5.toNat (w32 ((w32 ((w32 ((U 83 x5.toNat) + (Int.tmod x2 10))) + x3)) - (w32 (10 * 0))))) 82 2) + 0))) 82 3))) 82 1 (if ((am_upd (am_upd (am_upd U 83 x5.toNat (w32 ((w32 ((w32 ((U 83 x5.toNat) + (Int.tmod x2 10))) + x3)) - (w32 (10 * 0))))) 82 2 (w32 (((am_upd U 83 x5.toNat (w32 ((w32 ((w32 ((U 83 x5.toNat) + (Int.tmod x2 10))) + x3)) - (w32 (10 * 0))))) 82 2) + 0))) 82 3 (if ((am_upd (am_upd U 83 x5.toNat (w32 ((w32 ((w32 ((U 83 x5.toNat) + (Int.tmod x2 10))) + x3)) - (w32 (10 * 0))))) 82 2 (w32 (((am_upd U 83 x5.toNat (w32 ((w32 ((w32 ((U 83 x5.toNat) + (Int.tmod x2 10))) + x3)) - (w32 (10 * 0))))) 82 2) + 0))) 82 3) < 0 then 0 else ((am_upd (am_upd U 83 x5.toNat (w32 ((w32 ((w32 ((U 83 x5.toNat) + (Int.tmod x2 10))) + x3)) - (w32 (10 * 0))))) 82 2 (w32 (((am_upd U 83 x5.toNat (w32 ((w32 ((w32 ((U 83 x5.toNat) + (Int.tmod x2 10))) + x3)) - (w32 (10 * 0))))) 82 2) + 0))) 82 3))) 82 1) < (w32 (x5 + 1)) then (w32 (x5 + 1)) else ((am_upd (am_upd (am_upd U 83 x5.toNat (w32 ((w32 ((w32 ((U 83 x5.toNat) + (Int.tmod x2 10))) + x3)) - (w32 (10 * 0))))) 82 2 (w32 (((am_upd U 83 x5.toNat (w32 ((w32 ((w32 ((U 83 x5.toNat) + (Int.tmod x2 10))) + x3)) - (w32 (10 * 0))))) 82 2) + 0))) 82 3 (if ((am_upd (am_upd U 83 x5.toNat (w32 ((w32 ((w32 ((U 83 x5.toNat) + (Int.tmod x2 10))) + x3)) - (w32 (10 * 0))))) 82 2 (w32 (((am_upd U 83 x5.toNat (w32 ((w32 ((w32 ((U 83 x5.toNat) + (Int.tmod x2 10))) + x3)) - (w32 (10 * 0))))) 82 2) + 0))) 82 3) < 0 then 0 else ((am_upd (am_upd U 83 x5.toNat (w32 ((w32 ((w32 ((U 83 x5.toNat) + (Int.tmod x2 10))) + x3)) - (w32 (10 * 0))))) 82 2 (w32 (((am_upd U 83 x5.toNat (w32 ((w32 ((w32 ((U 83 x5.toNat) + (Int.tmod x2 10))) + x3)) - (w32 (10 * 0))))) 82 2) + 0))) 82 3))) 82 1))))) R) ∧ (¬ (¬ 0 = 1) → Ev kz ((d + 1), 239, 10, [some (.inr (.inr 82)), some (.inl x1), some (.inl (w32 (Int.tdiv x2 10))), some (.inl 0), some (.inl (w32 (x4 + 1))), some (.inl (w32 (x5 + 1))), some (.inl (w32 ((w32 ((U 83 x5.toNat) + (Int.tmod x2 10))) + x3)))], [], (am_sh, am_mm (am_upd (am_upd (am_upd (am_upd U 83 x5.toNat (w32 ((w32 ((w32 ((U 83 x5.toNat) + (Int.tmod x2 10))) + x3)) - (w32 (10 * 0))))) 82 2 (w32 (((am_upd U 83 x5.toNat (w32 ((w32 ((w32 ((U 83 x5.toNat) + (Int.tmod x2 10))) + x3)) - (w32 (10 * 0))))) 82 2) + 0))) 82 3 (if ((am_upd (am_upd U 83 x5.toNat (w32 ((w32 ((w32 ((U 83 x5.toNat) + (Int.tmod x2 10))) + x3)) - (w32 (10 * 0))))) 82 2 (w32 (((am_upd U 83 x5.toNat (w32 ((w32 ((w32 ((U 83 x5.toNat) + (Int.tmod x2 10))) + x3)) - (w32 (10 * 0))))) 82 2) + 0))) 82 3) < (w32 (x4 + 1)) then (w32 (x4 + 1)) else ((am_upd (am_upd U 83 x5.toNat (w32 ((w32 ((w32 ((U 83 x5.toNat) + (Int.tmod x2 10))) + x3)) - (w32 (10 * 0))))) 82 2 (w32 (((am_upd U 83 x5.toNat (w32 ((w32 ((w32 ((U 83 x5.toNat) + (Int.tmod x2 10))) + x3)) - (w32 (10 * 0))))) 82 2) + 0))) 82 3))) 82 1 (if ((am_upd (am_upd (am_upd U 83 x5.toNat (w32 ((w32 ((w32 ((U 83 x5.toNat) + (Int.tmod x2 10))) + x3)) - (w32 (10 * 0))))) 82 2 (w32 (((am_upd U 83 x5.toNat (w32 ((w32 ((w32 ((U 83 x5.toNat) + (Int.tmod x2 10))) + x3)) - (w32 (10 * 0))))) 82 2) + 0))) 82 3 (if ((am_upd (am_upd U 83 x5.toNat (w32 ((w32 ((w32 ((U 83 x5.toNat) + (Int.tmod x2 10))) + x3)) - (w32 (10 * 0))))) 82 2 (w32 (((am_upd U 83 x5.toNat (w32 ((w32 ((w32 ((U 83 x5.toNat) + (Int.tmod x2 10))) + x3)) - (w32 (10 * 0))))) 82 2) + 0))) 82 3) < (w32 (x4 + 1)) then (w32 (x4 + 1)) else ((am_upd (am_upd U 83 x5.toNat (w32 ((w32 ((w32 ((U 83 x5.toNat) + (Int.tmod x2 10))) + x3)) - (w32 (10 * 0))))) 82 2 (w32 (((am_upd U 83 x5.toNat (w32 ((w32 ((w32 ((U 83 x5.toNat) + (Int.tmod x2 10))) + x3)) - (w32 (10 * 0))))) 82 2) + 0))) 82 3))) 82 1) < (w32 (x5 + 1)) then (w32 (x5 + 1)) else ((am_upd (am_upd (am_upd U 83 x5.toNat (w32 ((w32 ((w32 ((U 83 x5.toNat) + (Int.tmod x2 10))) + x3)) - (w32 (10 * 0))))) 82 2 (w32 (((am_upd U 83 x5.toNat (w32 ((w32 ((w32 ((U 83 x5.toNat) + (Int.tmod x2 10))) + x3)) - (w32 (10 * 0))))) 82 2) + 0))) 82 3 (if ((am_upd (am_upd U 83 x5.toNat (w32 ((w32 ((w32 ((U 83 x5.toNat) + (Int.tmod x2 10))) + x3)) - (w32 (10 * 0))))) 82 2 (w32 (((am_upd U 83 x5.toNat (w32 ((w32 ((w32 ((U 83 x5.toNat) + (Int.tmod x2 10))) + x3)) - (w32 (10 * 0))))) 82 2) + 0))) 82 3) < (w32 (x4 + 1)) then (w32 (x4 + 1)) else ((am_upd (am_upd U 83 x5.toNat (w32 ((w32 ((w32 ((U 83 x5.toNat) + (Int.tmod x2 10))) + x3)) - (w32 (10 * 0))))) 82 2 (w32 (((am_upd U 83 x5.toNat (w32 ((w32 ((w32 ((U 83 x5.toNat) + (Int.tmod x2 10))) + x3)) - (w32 (10 * 0))))) 82 2) + 0))) 82 3))) 82 1))))) R)) ∧ (¬ ((w32 ((w32 ((U 83 x5.toNat) + (Int.tmod x2 10))) + x3)) < 10) → (0 ≤ x5 ∧ x5 < 64) ∧ (((¬ 1 = 1 : Prop)) → Ev kz ((d + 1), 239, 10, [some (.inr (.inr 82)), some (.inl x1), some (.inl (w32 (Int.tdiv x2 10))), some (.inl 1), some (.inl 0), some (.inl (w32 (x5 + 1))), some (.inl (w32 ((w32 ((U 83 x5.toNat) + (Int.tmod x2 10))) + x3)))], [], (am_sh, am_mm (am_upd (am_upd (am_upd (am_upd U 83 x5.toNat (w32 ((w32 ((w32 ((U 83 x5.toNat) + (Int.tmod x2 10))) + x3)) - (w32 (10 * 1))))) 82 2 (w32 (((am_upd U 83 x5.toNat (w32 ((w32 ((w32 ((U 83 x5.toNat) + (Int.tmod x2 10))) + x3)) - (w32 (10 * 1))))) 82 2) + 1))) 82 3 (if ((am_upd (am_upd U 83 x5.toNat (w32 ((w32 ((w32 ((U 83 x5.toNat) + (Int.tmod x2 10))) + x3)) - (w32 (10 * 1))))) 82 2 (w32 (((am_upd U 83 x5.toNat (w32 ((w32 ((w32 ((U 83 x5.toNat) + (Int.tmod x2 10))) + x3)) - (w32 (10 * 1))))) 82 2) + 1))) 82 3) < 0 then 0 else ((am_upd (am_upd U 83 x5.toNat (w32 ((w32 ((w32 ((U 83 x5.toNat) + (Int.tmod x2 10))) + x3)) - (w32 (10 * 1))))) 82 2 (w32 (((am_upd U 83 x5.toNat (w32 ((w32 ((w32 ((U 83 x5.toNat) + (Int.tmod x2 10))) + x3)) - (w32 (10 * 1))))) 82 2) + 1))) 82 3))) 82 1 (if ((am_upd (am_upd (am_upd U 83 x5.toNat (w32 ((w32 ((w32 ((U 83 x5.toNat) + (Int.tmod x2 10))) + x3)) - (w32 (10 * 1))))) 82 2 (w32 (((am_upd U 83 x5.toNat (w32 ((w32 ((w32 ((U 83 x5.toNat) + (Int.tmod x2 10))) + x3)) - (w32 (10 * 1))))) 82 2) + 1))) 82 3 (if ((am_upd (am_upd U 83 x5.toNat (w32 ((w32 ((w32 ((U 83 x5.toNat) + (Int.tmod x2 10))) + x3)) - (w32 (10 * 1))))) 82 2 (w32 (((am_upd U 83 x5.toNat (w32 ((w32 ((w32 ((U 83 x5.toNat) + (Int.tmod x2 10))) + x3)) - (w32 (10 * 1))))) 82 2) + 1))) 82 3) < 0 then 0 else ((am_upd (am_upd U 83 x5.toNat (w32 ((w32 ((w32 ((U 83 x5.toNat) + (Int.tmod x2 10))) + x3)) - (w32 (10 * 1))))) 82 2 (w32 (((am_upd U 83 x5.toNat (w32 ((w32 ((w32 ((U 83 x5.toNat) + (Int.tmod x2 10))) + x3)) - (w32 (10 * 1))))) 82 2) + 1))) 82 3))) 82 1) < (w32 (x5 + 1)) then (w32 (x5 + 1)) else ((am_upd (am_upd (am_upd U 83 x5.toNat (w32 ((w32 ((w32 ((U 83 x5.toNat) + (Int.tmod x2 10))) + x3)) - (w32 (10 * 1))))) 82 2 (w32 (((am_upd U 83 x5.toNat (w32 ((w32 ((w32 ((U 83 x5.toNat) + (Int.tmod x2 10))) + x3)) - (w32 (10 * 1))))) 82 2) + 1))) 82 3 (if ((am_upd (am_upd U 83 x5.toNat (w32 ((w32 ((w32 ((U 83 x5.toNat) + (Int.tmod x2 10))) + x3)) - (w32 (10 * 1))))) 82 2 (w32 (((am_upd U 83 x5.toNat (w32 ((w32 ((w32 ((U 83 x5.toNat) + (Int.tmod x2 10))) + x3)) - (w32 (10 * 1))))) 82 2) + 1))) 82 3) < 0 then 0 else ((am_upd (am_upd U 83 x5.toNat (w32 ((w32 ((w32 ((U 83 x5.toNat) + (Int.tmod x2 10))) + x3)) - (w32 (10 * 1))))) 82 2 (w32 (((am_upd U 83 x5.toNat (w32 ((w32 ((w32 ((U 83 x5.toNat) + (Int.tmod x2 10))) + x3)) - (w32 (10 * 1))))) 82 2) + 1))) 82 3))) 82 1))))) R) ∧ (¬ (¬ 1 = 1) → Ev kz ((d + 1), 239, 10, [some (.inr (.inr 82)), some (.inl x1), some (.inl (w32 (Int.tdiv x2 10))), some (.inl 1), some (.inl (w32 (x4 + 1))), some (.inl (w32 (x5 + 1))), some (.inl (w32 ((w32 ((U 83 x5.toNat) + (Int.tmod x2 10))) + x3)))], [], (am_sh, am_mm (am_upd (am_upd (am_upd (am_upd U 83 x5.toNat (w32 ((w32 ((w32 ((U 83 x5.toNat) + (Int.tmod x2 10))) + x3)) - (w32 (10 * 1))))) 82 2 (w32 (((am_upd U 83 x5.toNat (w32 ((w32 ((w32 ((U 83 x5.toNat) + (Int.tmod x2 10))) + x3)) - (w32 (10 * 1))))) 82 2) + 1))) 82 3 (if ((am_upd (am_upd U 83 x5.toNat (w32 ((w32 ((w32 ((U 83 x5.toNat) + (Int.tmod x2 10))) + x3)) - (w32 (10 * 1))))) 82 2 (w32 (((am_upd U 83 x5.toNat (w32 ((w32 ((w32 ((U 83 x5.toNat) + (Int.tmod x2 10))) + x3)) - (w32 (10 * 1))))) 82 2) + 1))) 82 3) < (w32 (x4 + 1)) then (w32 (x4 + 1)) else ((am_upd (am_upd U 83 x5.toNat (w32 ((w32 ((w32 ((U 83 x5.toNat) + (Int.tmod x2 10))) + x3)) - (w32 (10 * 1))))) 82 2 (w32 (((am_upd U 83 x5.toNat (w32 ((w32 ((w32 ((U 83 x5.toNat) + (Int.tmod x2 10))) + x3)) - (w32 (10 * 1))))) 82 2) + 1))) 82 3))) 82 1 (if ((am_upd (am_upd (am_upd U 83 x5.toNat (w32 ((w32 ((w32 ((U 83 x5.toNat) + (Int.tmod x2 10))) + x3)) - (w32 (10 * 1))))) 82 2 (w32 (((am_upd U 83 x5.toNat (w32 ((w32 ((w32 ((U 83 x5.toNat) + (Int.tmod x2 10))) + x3)) - (w32 (10 * 1))))) 82 2) + 1))) 82 3 (if ((am_upd (am_upd U 83 x5.toNat (w32 ((w32 ((w32 ((U 83 x5.toNat) + (Int.tmod x2 10))) + x3)) - (w32 (10 * 1))))) 82 2 (w32 (((am_upd U 83 x5.toNat (w32 ((w32 ((w32 ((U 83 x5.toNat) + (Int.tmod x2 10))) + x3)) - (w32 (10 * 1))))) 82 2) + 1))) 82 3) < (w32 (x4 + 1)) then (w32 (x4 + 1)) else ((am_upd (am_upd U 83 x5.toNat (w32 ((w32 ((w32 ((U 83 x5.toNat) + (Int.tmod x2 10))) + x3)) - (w32 (10 * 1))))) 82 2 (w32 (((am_upd U 83 x5.toNat (w32 ((w32 ((w32 ((U 83 x5.toNat) + (Int.tmod x2 10))) + x3)) - (w32 (10 * 1))))) 82 2) + 1))) 82 3))) 82 1) < (w32 (x5 + 1)) then (w32 (x5 + 1)) else ((am_upd (am_upd (am_upd U 83 x5.toNat (w32 ((w32 ((w32 ((U 83 x5.toNat) + (Int.tmod x2 10))) + x3)) - (w32 (10 * 1))))) 82 2 (w32 (((am_upd U 83 x5.toNat (w32 ((w32 ((w32 ((U 83 x5.toNat) + (Int.tmod x2 10))) + x3)) - (w32 (10 * 1))))) 82 2) + 1))) 82 3 (if ((am_upd (am_upd U 83 x5.toNat (w32 ((w32 ((w32 ((U 83 x5.toNat) + (Int.tmod x2 10))) + x3)) - (w32 (10 * 1))))) 82 2 (w32 (((am_upd U 83 x5.toNat (w32 ((w32 ((w32 ((U 83 x5.toNat) + (Int.tmod x2 10))) + x3)) - (w32 (10 * 1))))) 82 2) + 1))) 82 3) < (w32 (x4 + 1)) then (w32 (x4 + 1)) else ((am_upd (am_upd U 83 x5.toNat (w32 ((w32 ((w32 ((U 83 x5.toNat) + (Int.tmod x2 10))) + x3)) - (w32 (10 * 1))))) 82 2 (w32 (((am_upd U 83 x5.toNat (w32 ((w32 ((w32 ((U 83 x5.toNat) + (Int.tmod x2 10))) + x3)) - (w32 (10 * 1))))) 82 2) + 1))) 82 3))) 82 1))))) R))))) : Ev kz ((d + 1), 239, 10, [some (.inr (.inr 82)), some (.inl x1), some (.inl x2), some (.inl x3), some (.inl x4), some (.inl x5), none], [], (am_sh, am_mm U)) R := by
  refine ev_br (P := 64 ≤ x5) (σ1 := ((d + 1), 239, 130, [some (.inr (.inr 82)), some (.inl x1), some (.inl x2), some (.inl x3), some (.inl x4), some (.inl x5), none], [], (am_sh, am_mm U))) (σ2 := ((d + 1), 239, 17, [some (.inr (.inr 82)), some (.inl x1), some (.inl x2), some (.inl x3), some (.inl x4), some (.inl x5), none], [], (am_sh, am_mm U))) 3 (fun _ => rfl) (fun hc => ?_) (fun hc => ?_)
  · have h1 := h.1 hc
    subst h1
    exact ev_end 1 (fun _ => rfl)
  · have h2 := h.2 hc
    refine ev_br (P := (w32 (x2 + x3)) ≤ 0) (σ1 := ((d + 1), 239, 130, [some (.inr (.inr 82)), some (.inl x1), some (.inl x2), some (.inl x3), some (.inl x4), some (.inl x5), none], [], (am_sh, am_mm U))) (σ2 := ((d + 1), 239, 23, [some (.inr (.inr 82)), some (.inl x1), some (.inl x2), some (.inl x3), some (.inl x4), some (.inl x5), none], [], (am_sh, am_mm U))) 4 (fun _ => rfl) (fun hc => ?_) (fun hc => ?_)
    · have h21 := h2.1 hc
      subst h21
      exact ev_end 1 (fun _ => rfl)
    · have h22 := h2.2 hc
      refine ev_seg (σ1 := ((d + 1), 239, 29, [some (.inr (.inr 82)), some (.inl x1), some (.inl x2), some (.inl x3), some (.inl x4), some (.inl x5), none], [.inl x5, .inr (.inr 83)], (am_sh, am_mm U))) 3 (fun _ => rfl) ?_
      refine eu_iald 83 (n := 64) rfl (by decide) rfl (fun _ => rfl) h22.1 ?_
      have h22a := h22.2
      refine ev_seg (σ1 := ((d + 1), 239, 33, [some (.inr (.inr 82)), some (.inl x1), some (.inl x2), some (.inl x3), some (.inl x4), some (.inl x5), none], [.inl 10, .inl x2, .inl (U 83 x5.toNat)], (am_sh, am_mm U))) 2 (fun _ => rfl) ?_
      refine ev_irem rfl (by decide) ?_
      refine ev_seg (σ1 := ((d + 1), 239, 42, [some (.inr (.inr 82)), some (.inl x1), some (.inl x2), some (.inl x3), some (.inl x4), some (.inl x5), some (.inl (w32 ((w32 ((U 83 x5.toNat) + (Int.tmod x2 10))) + x3)))], [.inl 10, .inl x2], (am_sh, am_mm U))) 6 (fun _ => rfl) ?_
      refine ev_idiv rfl (by decide) ?_
      refine ev_br (P := (w32 ((w32 ((U 83 x5.toNat) + (Int.tmod x2 10))) + x3)) < 10) (σ1 := ((d + 1), 239, 55, [some (.inr (.inr 82)), some (.inl x1), some (.inl (w32 (Int.tdiv x2 10))), some (.inl x3), some (.inl x4), some (.inl x5), some (.inl (w32 ((w32 ((U 83 x5.toNat) + (Int.tmod x2 10))) + x3)))], [], (am_sh, am_mm U))) (σ2 := ((d + 1), 239, 51, [some (.inr (.inr 82)), some (.inl x1), some (.inl (w32 (Int.tdiv x2 10))), some (.inl x3), some (.inl x4), some (.inl x5), some (.inl (w32 ((w32 ((U 83 x5.toNat) + (Int.tmod x2 10))) + x3)))], [], (am_sh, am_mm U))) 4 (fun _ => rfl) (fun hc => ?_) (fun hc => ?_)
      · have h22a1 := h22a.1 hc
        refine ev_seg (σ1 := ((d + 1), 239, 70, [some (.inr (.inr 82)), some (.inl x1), some (.inl (w32 (Int.tdiv x2 10))), some (.inl 0), some (.inl x4), some (.inl x5), some (.inl (w32 ((w32 ((U 83 x5.toNat) + (Int.tmod x2 10))) + x3)))], [.inl (w32 ((w32 ((w32 ((U 83 x5.toNat) + (Int.tmod x2 10))) + x3)) - (w32 (10 * 0)))), .inl x5, .inr (.inr 83)], (am_sh, am_mm U))) 10 (fun _ => rfl) ?_
        refine eu_iast 83 (n := 64) rfl (by decide) rfl (fun _ => rfl) h22a1.1 ?_
        have h22a1a := h22a1.2
        refine ev_br (P := ¬ 0 = 1) (σ1 := ((d + 1), 239, 83, [some (.inr (.inr 82)), some (.inl x1), some (.inl (w32 (Int.tdiv x2 10))), some (.inl 0), some (.inl x4), some (.inl x5), some (.inl (w32 ((w32 ((U 83 x5.toNat) + (Int.tmod x2 10))) + x3)))], [], (am_sh, am_mm (am_upd U 83 x5.toNat (w32 ((w32 ((w32 ((U 83 x5.toNat) + (Int.tmod x2 10))) + x3)) - (w32 (10 * 0)))))))) (σ2 := ((d + 1), 239, 76, [some (.inr (.inr 82)), some (.inl x1), some (.inl (w32 (Int.tdiv x2 10))), some (.inl 0), some (.inl x4), some (.inl x5), some (.inl (w32 ((w32 ((U 83 x5.toNat) + (Int.tmod x2 10))) + x3)))], [], (am_sh, am_mm (am_upd U 83 x5.toNat (w32 ((w32 ((w32 ((U 83 x5.toNat) + (Int.tmod x2 10))) + x3)) - (w32 (10 * 0)))))))) 3 (fun _ => rfl) (fun hc => ?_) (fun hc => ?_)
        · have h22a1a1 := h22a1a.1 hc
          refine ev_seg (σ1 := ((d + 1), 239, 93, [some (.inr (.inr 82)), some (.inl x1), some (.inl (w32 (Int.tdiv x2 10))), some (.inl 0), some (.inl 0), some (.inl x5), some (.inl (w32 ((w32 ((U 83 x5.toNat) + (Int.tmod x2 10))) + x3)))], [.inl (w32 (((am_upd U 83 x5.toNat (w32 ((w32 ((w32 ((U 83 x5.toNat) + (Int.tmod x2 10))) + x3)) - (w32 (10 * 0))))) 82 2) + 0)), .inr (.inr 82)], (am_sh, am_mm (am_upd U 83 x5.toNat (w32 ((w32 ((w32 ((U 83 x5.toNat) + (Int.tmod x2 10))) + x3)) - (w32 (10 * 0)))))))) 7 (fun _ => rfl) ?_
          refine eu_puti 82 (n := 4) rfl (by decide) rfl rfl ?_
          refine ev_seg (σ1 := ((d + 1), 239, 106, [some (.inr (.inr 82)), some (.inl x1), some (.inl (w32 (Int.tdiv x2 10))), some (.inl 0), some (.inl 0), some (.inl x5), some (.inl (w32 ((w32 ((U 83 x5.toNat) + (Int.tmod x2 10))) + x3)))], [.inl (if ((am_upd (am_upd U 83 x5.toNat (w32 ((w32 ((w32 ((U 83 x5.toNat) + (Int.tmod x2 10))) + x3)) - (w32 (10 * 0))))) 82 2 (w32 (((am_upd U 83 x5.toNat (w32 ((w32 ((w32 ((U 83 x5.toNat) + (Int.tmod x2 10))) + x3)) - (w32 (10 * 0))))) 82 2) + 0))) 82 3) < 0 then 0 else ((am_upd (am_upd U 83 x5.toNat (w32 ((w32 ((w32 ((U 83 x5.toNat) + (Int.tmod x2 10))) + x3)) - (w32 (10 * 0))))) 82 2 (w32 (((am_upd U 83 x5.toNat (w32 ((w32 ((w32 ((U 83 x5.toNat) + (Int.tmod x2 10))) + x3)) - (w32 (10 * 0))))) 82 2) + 0))) 82 3)), .inr (.inr 82)], (am_sh, am_mm (am_upd (am_upd U 83 x5.toNat (w32 ((w32 ((w32 ((U 83 x5.toNat) + (Int.tmod x2 10))) + x3)) - (w32 (10 * 0))))) 82 2 (w32 (((am_upd U 83 x5.toNat (w32 ((w32 ((w32 ((U 83 x5.toNat) + (Int.tmod x2 10))) + x3)) - (w32 (10 * 0))))) 82 2) + 0)))))) 5 (fun _ => rfl) ?_
          refine eu_puti 82 (n := 4) rfl (by decide) rfl rfl ?_
          refine ev_seg (σ1 := ((d + 1), 239, 121, [some (.inr (.inr 82)), some (.inl x1), some (.inl (w32 (Int.tdiv x2 10))), some (.inl 0), some (.inl 0), some (.inl x5), some (.inl (w32 ((w32 ((U 83 x5.toNat) + (Int.tmod x2 10))) + x3)))], [.inl (if ((am_upd (am_upd (am_upd U 83 x5.toNat (w32 ((w32 ((w32 ((U 83 x5.toNat) + (Int.tmod x2 10))) + x3)) - (w32 (10 * 0))))) 82 2 (w32 (((am_upd U 83 x5.toNat (w32 ((w32 ((w32 ((U 83 x5.toNat) + (Int.tmod x2 10))) + x3)) - (w32 (10 * 0))))) 82 2) + 0))) 82 3 (if ((am_upd (am_upd U 83 x5.toNat (w32 ((w32 ((w32 ((U 83 x5.toNat) + (Int.tmod x2 10))) + x3)) - (w32 (10 * 0))))) 82 2 (w32 (((am_upd U 83 x5.toNat (w32 ((w32 ((w32 ((U 83 x5.toNat) + (Int.tmod x2 10))) + x3)) - (w32 (10 * 0))))) 82 2) + 0))) 82 3) < 0 then 0 else ((am_upd (am_upd U 83 x5.toNat (w32 ((w32 ((w32 ((U 83 x5.toNat) + (Int.tmod x2 10))) + x3)) - (w32 (10 * 0))))) 82 2 (w32 (((am_upd U 83 x5.toNat (w32 ((w32 ((w32 ((U 83 x5.toNat) + (Int.tmod x2 10))) + x3)) - (w32 (10 * 0))))) 82 2) + 0))) 82 3))) 82 1) < (w32 (x5 + 1)) then (w32 (x5 + 1)) else ((am_upd (am_upd (am_upd U 83 x5.toNat (w32 ((w32 ((w32 ((U 83 x5.toNat) + (Int.tmod x2 10))) + x3)) - (w32 (10 * 0))))) 82 2 (w32 (((am_upd U 83 x5.toNat (w32 ((w32 ((w32 ((U 83 x5.toNat) + (Int.tmod x2 10))) + x3)) - (w32 (10 * 0))))) 82 2) + 0))) 82 3 (if ((am_upd (am_upd U 83 x5.toNat (w32 ((w32 ((w32 ((U 83 x5.toNat) + (Int.tmod x2 10))) + x3)) - (w32 (10 * 0))))) 82 2 (w32 (((am_upd U 83 x5.toNat (w32 ((w32 ((w32 ((U 83 x5.toNat) + (Int.tmod x2 10))) + x3)) - (w32 (10 * 0))))) 82 2) + 0))) 82 3) < 0 then 0 else ((am_upd (am_upd U 83 x5.toNat (w32 ((w32 ((w32 ((U 83 x5.toNat) + (Int.tmod x2 10))) + x3)) - (w32 (10 * 0))))) 82 2 (w32 (((am_upd U 83 x5.toNat (w32 ((w32 ((w32 ((U 83 x5.toNat) + (Int.tmod x2 10))) + x3)) - (w32 (10 * 0))))) 82 2) + 0))) 82 3))) 82 1)), .inr (.inr 82)], (am_sh, am_mm (am_upd (am_upd (am_upd U 83 x5.toNat (w32 ((w32 ((w32 ((U 83 x5.toNat) + (Int.tmod x2 10))) + x3)) - (w32 (10 * 0))))) 82 2 (w32 (((am_upd U 83 x5.toNat (w32 ((w32 ((w32 ((U 83 x5.toNat) + (Int.tmod x2 10))) + x3)) - (w32 (10 * 0))))) 82 2) + 0))) 82 3 (if ((am_upd (am_upd U 83 x5.toNat (w32 ((w32 ((w32 ((U 83 x5.toNat) + (Int.tmod x2 10))) + x3)) - (w32 (10 * 0))))) 82 2 (w32 (((am_upd U 83 x5.toNat (w32 ((w32 ((w32 ((U 83 x5.toNat) + (Int.tmod x2 10))) + x3)) - (w32 (10 * 0))))) 82 2) + 0))) 82 3) < 0 then 0 else ((am_upd (am_upd U 83 x5.toNat (w32 ((w32 ((w32 ((U 83 x5.toNat) + (Int.tmod x2 10))) + x3)) - (w32 (10 * 0))))) 82 2 (w32 (((am_upd U 83 x5.toNat (w32 ((w32 ((w32 ((U 83 x5.toNat) + (Int.tmod x2 10))) + x3)) - (w32 (10 * 0))))) 82 2) + 0))) 82 3)))))) 7 (fun _ => rfl) ?_
          refine eu_puti 82 (n := 4) rfl (by decide) rfl rfl ?_
          refine ev_seg (σ1 := ((d + 1), 239, 10, [some (.inr (.inr 82)), some (.inl x1), some (.inl (w32 (Int.tdiv x2 10))), some (.inl 0), some (.inl 0), some (.inl (w32 (x5 + 1))), some (.inl (w32 ((w32 ((U 83 x5.toNat) + (Int.tmod x2 10))) + x3)))], [], (am_sh, am_mm (am_upd (am_upd (am_upd (am_upd U 83 x5.toNat (w32 ((w32 ((w32 ((U 83 x5.toNat) + (Int.tmod x2 10))) + x3)) - (w32 (10 * 0))))) 82 2 (w32 (((am_upd U 83 x5.toNat (w32 ((w32 ((w32 ((U 83 x5.toNat) + (Int.tmod x2 10))) + x3)) - (w32 (10 * 0))))) 82 2) + 0))) 82 3 (if ((am_upd (am_upd U 83 x5.toNat (w32 ((w32 ((w32 ((U 83 x5.toNat) + (Int.tmod x2 10))) + x3)) - (w32 (10 * 0))))) 82 2 (w32 (((am_upd U 83 x5.toNat (w32 ((w32 ((w32 ((U 83 x5.toNat) + (Int.tmod x2 10))) + x3)) - (w32 (10 * 0))))) 82 2) + 0))) 82 3) < 0 then 0 else ((am_upd (am_upd U 83 x5.toNat (w32 ((w32 ((w32 ((U 83 x5.toNat) + (Int.tmod x2 10))) + x3)) - (w32 (10 * 0))))) 82 2 (w32 (((am_upd U 83 x5.toNat (w32 ((w32 ((w32 ((U 83 x5.toNat) + (Int.tmod x2 10))) + x3)) - (w32 (10 * 0))))) 82 2) + 0))) 82 3))) 82 1 (if ((am_upd (am_upd (am_upd U 83 x5.toNat (w32 ((w32 ((w32 ((U 83 x5.toNat) + (Int.tmod x2 10))) + x3)) - (w32 (10 * 0))))) 82 2 (w32 (((am_upd U 83 x5.toNat (w32 ((w32 ((w32 ((U 83 x5.toNat) + (Int.tmod x2 10))) + x3)) - (w32 (10 * 0))))) 82 2) + 0))) 82 3 (if ((am_upd (am_upd U 83 x5.toNat (w32 ((w32 ((w32 ((U 83 x5.toNat) + (Int.tmod x2 10))) + x3)) - (w32 (10 * 0))))) 82 2 (w32 (((am_upd U 83 x5.toNat (w32 ((w32 ((w32 ((U 83 x5.toNat) + (Int.tmod x2 10))) + x3)) - (w32 (10 * 0))))) 82 2) + 0))) 82 3) < 0 then 0 else ((am_upd (am_upd U 83 x5.toNat (w32 ((w32 ((w32 ((U 83 x5.toNat) + (Int.tmod x2 10))) + x3)) - (w32 (10 * 0))))) 82 2 (w32 (((am_upd U 83 x5.toNat (w32 ((w32 ((w32 ((U 83 x5.toNat) + (Int.tmod x2 10))) + x3)) - (w32 (10 * 0))))) 82 2) + 0))) 82 3))) 82 1) < (w32 (x5 + 1)) then (w32 (x5 + 1)) else ((am_upd (am_upd (am_upd U 83 x5.toNat (w32 ((w32 ((w32 ((U 83 x5.toNat) + (Int.tmod x2 10))) + x3)) - (w32 (10 * 0))))) 82 2 (w32 (((am_upd U 83 x5.toNat (w32 ((w32 ((w32 ((U 83 x5.toNat) + (Int.tmod x2 10))) + x3)) - (w32 (10 * 0))))) 82 2) + 0))) 82 3 (if ((am_upd (am_upd U 83 x5.toNat (w32 ((w32 ((w32 ((U 83 x5.toNat) + (Int.tmod x2 10))) + x3)) - (w32 (10 * 0))))) 82 2 (w32 (((am_upd U 83 x5.toNat (w32 ((w32 ((w32 ((U 83 x5.toNat) + (Int.tmod x2 10))) + x3)) - (w32 (10 * 0))))) 82 2) + 0))) 82 3) < 0 then 0 else ((am_upd (am_upd U 83 x5.toNat (w32 ((w32 ((w32 ((U 83 x5.toNat) + (Int.tmod x2 10))) + x3)) - (w32 (10 * 0))))) 82 2 (w32 (((am_upd U 83 x5.toNat (w32 ((w32 ((w32 ((U 83 x5.toNat) + (Int.tmod x2 10))) + x3)) - (w32 (10 * 0))))) 82 2) + 0))) 82 3))) 82 1)))))) 2 (fun _ => rfl) ?_
          exact h22a1a1
        · have h22a1a2 := h22a1a.2 hc
          refine ev_seg (σ1 := ((d + 1), 239, 93, [some (.inr (.inr 82)), some (.inl x1), some (.inl (w32 (Int.tdiv x2 10))), some (.inl 0), some (.inl (w32 (x4 + 1))), some (.inl x5), some (.inl (w32 ((w32 ((U 83 x5.toNat) + (Int.tmod x2 10))) + x3)))], [.inl (w32 (((am_upd U 83 x5.toNat (w32 ((w32 ((w32 ((U 83 x5.toNat) + (Int.tmod x2 10))) + x3)) - (w32 (10 * 0))))) 82 2) + 0)), .inr (.inr 82)], (am_sh, am_mm (am_upd U 83 x5.toNat (w32 ((w32 ((w32 ((U 83 x5.toNat) + (Int.tmod x2 10))) + x3)) - (w32 (10 * 0)))))))) 10 (fun _ => rfl) ?_
          refine eu_puti 82 (n := 4) rfl (by decide) rfl rfl ?_
          refine ev_seg (σ1 := ((d + 1), 239, 106, [some (.inr (.inr 82)), some (.inl x1), some (.inl (w32 (Int.tdiv x2 10))), some (.inl 0), some (.inl (w32 (x4 + 1))), some (.inl x5), some (.inl (w32 ((w32 ((U 83 x5.toNat) + (Int.tmod x2 10))) + x3)))], [.inl (if ((am_upd (am_upd U 83 x5.toNat (w32 ((w32 ((w32 ((U 83 x5.toNat) + (Int.tmod x2 10))) + x3)) - (w32 (10 * 0))))) 82 2 (w32 (((am_upd U 83 x5.toNat (w32 ((w32 ((w32 ((U 83 x5.toNat) + (Int.tmod x2 10))) + x3)) - (w32 (10 * 0))))) 82 2) + 0))) 82 3) < (w32 (x4 + 1)) then (w32 (x4 + 1)) else ((am_upd (am_upd U 83 x5.toNat (w32 ((w32 ((w32 ((U 83 x5.toNat) + (Int.tmod x2 10))) + x3)) - (w32 (10 * 0))))) 82 2 (w32 (((am_upd U 83 x5.toNat (w32 ((w32 ((w32 ((U 83 x5.toNat) + (Int.tmod x2 10))) + x3)) - (w32 (10 * 0))))) 82 2) + 0))) 82 3)), .inr (.inr 82)], (am_sh, am_mm (am_upd (am_upd U 83 x5.toNat (w32 ((w32 ((w32 ((U 83 x5.toNat) + (Int.tmod x2 10))) + x3)) - (w32 (10 * 0))))) 82 2 (w32 (((am_upd U 83 x5.toNat (w32 ((w32 ((w32 ((U 83 x5.toNat) + (Int.tmod x2 10))) + x3)) - (w32 (10 * 0))))) 82 2) + 0)))))) 5 (fun _ => rfl) ?_
          refine eu_puti 82 (n := 4) rfl (by decide) rfl rfl ?_
          refine ev_seg (σ1 := ((d + 1), 239, 121, [some (.inr (.inr 82)), some (.inl x1), some (.inl (w32 (Int.tdiv x2 10))), some (.inl 0), some (.inl (w32 (x4 + 1))), some (.inl x5), some (.inl (w32 ((w32 ((U 83 x5.toNat) + (Int.tmod x2 10))) + x3)))], [.inl (if ((am_upd (am_upd (am_upd U 83 x5.toNat (w32 ((w32 ((w32 ((U 83 x5.toNat) + (Int.tmod x2 10))) + x3)) - (w32 (10 * 0))))) 82 2 (w32 (((am_upd U 83 x5.toNat (w32 ((w32 ((w32 ((U 83 x5.toNat) + (Int.tmod x2 10))) + x3)) - (w32 (10 * 0))))) 82 2) + 0))) 82 3 (if ((am_upd (am_upd U 83 x5.toNat (w32 ((w32 ((w32 ((U 83 x5.toNat) + (Int.tmod x2 10))) + x3)) - (w32 (10 * 0))))) 82 2 (w32 (((am_upd U 83 x5.toNat (w32 ((w32 ((w32 ((U 83 x5.toNat) + (Int.tmod x2 10))) + x3)) - (w32 (10 * 0))))) 82 2) + 0))) 82 3) < (w32 (x4 + 1)) then (w32 (x4 + 1)) else ((am_upd (am_upd U 83 x5.toNat (w32 ((w32 ((w32 ((U 83 x5.toNat) + (Int.tmod x2 10))) + x3)) - (w32 (10 * 0))))) 82 2 (w32 (((am_upd U 83 x5.toNat (w32 ((w32 ((w32 ((U 83 x5.toNat) + (Int.tmod x2 10))) + x3)) - (w32 (10 * 0))))) 82 2) + 0))) 82 3))) 82 1) < (w32 (x5 + 1)) then (w32 (x5 + 1)) else ((am_upd (am_upd (am_upd U 83 x5.toNat (w32 ((w32 ((w32 ((U 83 x5.toNat) + (Int.tmod x2 10))) + x3)) - (w32 (10 * 0))))) 82 2 (w32 (((am_upd U 83 x5.toNat (w32 ((w32 ((w32 ((U 83 x5.toNat) + (Int.tmod x2 10))) + x3)) - (w32 (10 * 0))))) 82 2) + 0))) 82 3 (if ((am_upd (am_upd U 83 x5.toNat (w32 ((w32 ((w32 ((U 83 x5.toNat) + (Int.tmod x2 10))) + x3)) - (w32 (10 * 0))))) 82 2 (w32 (((am_upd U 83 x5.toNat (w32 ((w32 ((w32 ((U 83 x5.toNat) + (Int.tmod x2 10))) + x3)) - (w32 (10 * 0))))) 82 2) + 0))) 82 3) < (w32 (x4 + 1)) then (w32 (x4 + 1)) else ((am_upd (am_upd U 83 x5.toNat (w32 ((w32 ((w32 ((U 83 x5.toNat) + (Int.tmod x2 10))) + x3)) - (w32 (10 * 0))))) 82 2 (w32 (((am_upd U 83 x5.toNat (w32 ((w32 ((w32 ((U 83 x5.toNat) + (Int.tmod x2 10))) + x3)) - (w32 (10 * 0))))) 82 2) + 0))) 82 3))) 82 1)), .inr (.inr 82)], (am_sh, am_mm (am_upd (am_upd (am_upd U 83 x5.toNat (w32 ((w32 ((w32 ((U 83 x5.toNat) + (Int.tmod x2 10))) + x3)) - (w32 (10 * 0))))) 82 2 (w32 (((am_upd U 83 x5.toNat (w32 ((w32 ((w32 ((U 83 x5.toNat) + (Int.tmod x2 10))) + x3)) - (w32 (10 * 0))))) 82 2) + 0))) 82 3 (if ((am_upd (am_upd U 83 x5.toNat (w32 ((w32 ((w32 ((U 83 x5.toNat) + (Int.tmod x2 10))) + x3)) - (w32 (10 * 0))))) 82 2 (w32 (((am_upd U 83 x5.toNat (w32 ((w32 ((w32 ((U 83 x5.toNat) + (Int.tmod x2 10))) + x3)) - (w32 (10 * 0))))) 82 2) + 0))) 82 3) < (w32 (x4 + 1)) then (w32 (x4 + 1)) else ((am_upd (am_upd U 83 x5.toNat (w32 ((w32 ((w32 ((U 83 x5.toNat) + (Int.tmod x2 10))) + x3)) - (w32 (10 * 0))))) 82 2 (w32 (((am_upd U 83 x5.toNat (w32 ((w32 ((w32 ((U 83 x5.toNat) + (Int.tmod x2 10))) + x3)) - (w32 (10 * 0))))) 82 2) + 0))) 82 3)))))) 7 (fun _ => rfl) ?_
          refine eu_puti 82 (n := 4) rfl (by decide) rfl rfl ?_
          refine ev_seg (σ1 := ((d + 1), 239, 10, [some (.inr (.inr 82)), some (.inl x1), some (.inl (w32 (Int.tdiv x2 10))), some (.inl 0), some (.inl (w32 (x4 + 1))), some (.inl (w32 (x5 + 1))), some (.inl (w32 ((w32 ((U 83 x5.toNat) + (Int.tmod x2 10))) + x3)))], [], (am_sh, am_mm (am_upd (am_upd (am_upd (am_upd U 83 x5.toNat (w32 ((w32 ((w32 ((U 83 x5.toNat) + (Int.tmod x2 10))) + x3)) - (w32 (10 * 0))))) 82 2 (w32 (((am_upd U 83 x5.toNat (w32 ((w32 ((w32 ((U 83 x5.toNat) + (Int.tmod x2 10))) + x3)) - (w32 (10 * 0))))) 82 2) + 0))) 82 3 (if ((am_upd (am_upd U 83 x5.toNat (w32 ((w32 ((w32 ((U 83 x5.toNat) + (Int.tmod x2 10))) + x3)) - (w32 (10 * 0))))) 82 2 (w32 (((am_upd U 83 x5.toNat (w32 ((w32 ((w32 ((U 83 x5.toNat) + (Int.tmod x2 10))) + x3)) - (w32 (10 * 0))))) 82 2) + 0))) 82 3) < (w32 (x4 + 1)) then (w32 (x4 + 1)) else ((am_upd (am_upd U 83 x5.toNat (w32 ((w32 ((w32 ((U 83 x5.toNat) + (Int.tmod x2 10))) + x3)) - (w32 (10 * 0))))) 82 2 (w32 (((am_upd U 83 x5.toNat (w32 ((w32 ((w32 ((U 83 x5.toNat) + (Int.tmod x2 10))) + x3)) - (w32 (10 * 0))))) 82 2) + 0))) 82 3))) 82 1 (if ((am_upd (am_upd (am_upd U 83 x5.toNat (w32 ((w32 ((w32 ((U 83 x5.toNat) + (Int.tmod x2 10))) + x3)) - (w32 (10 * 0))))) 82 2 (w32 (((am_upd U 83 x5.toNat (w32 ((w32 ((w32 ((U 83 x5.toNat) + (Int.tmod x2 10))) + x3)) - (w32 (10 * 0))))) 82 2) + 0))) 82 3 (if ((am_upd (am_upd U 83 x5.toNat (w32 ((w32 ((w32 ((U 83 x5.toNat) + (Int.tmod x2 10))) + x3)) - (w32 (10 * 0))))) 82 2 (w32 (((am_upd U 83 x5.toNat (w32 ((w32 ((w32 ((U 83 x5.toNat) + (Int.tmod x2 10))) + x3)) - (w32 (10 * 0))))) 82 2) + 0))) 82 3) < (w32 (x4 + 1)) then (w32 (x4 + 1)) else ((am_upd (am_upd U 83 x5.toNat (w32 ((w32 ((w32 ((U 83 x5.toNat) + (Int.tmod x2 10))) + x3)) - (w32 (10 * 0))))) 82 2 (w32 (((am_upd U 83 x5.toNat (w32 ((w32 ((w32 ((U 83 x5.toNat) + (Int.tmod x2 10))) + x3)) - (w32 (10 * 0))))) 82 2) + 0))) 82 3))) 82 1) < (w32 (x5 + 1)) then (w32 (x5 + 1)) else ((am_upd (am_upd (am_upd U 83 x5.toNat (w32 ((w32 ((w32 ((U 83 x5.toNat) + (Int.tmod x2 10))) + x3)) - (w32 (10 * 0))))) 82 2 (w32 (((am_upd U 83 x5.toNat (w32 ((w32 ((w32 ((U 83 x5.toNat) + (Int.tmod x2 10))) + x3)) - (w32 (10 * 0))))) 82 2) + 0))) 82 3 (if ((am_upd (am_upd U 83 x5.toNat (w32 ((w32 ((w32 ((U 83 x5.toNat) + (Int.tmod x2 10))) + x3)) - (w32 (10 * 0))))) 82 2 (w32 (((am_upd U 83 x5.toNat (w32 ((w32 ((w32 ((U 83 x5.toNat) + (Int.tmod x2 10))) + x3)) - (w32 (10 * 0))))) 82 2) + 0))) 82 3) < (w32 (x4 + 1)) then (w32 (x4 + 1)) else ((am_upd (am_upd U 83 x5.toNat (w32 ((w32 ((w32 ((U 83 x5.toNat) + (Int.tmod x2 10))) + x3)) - (w32 (10 * 0))))) 82 2 (w32 (((am_upd U 83 x5.toNat (w32 ((w32 ((w32 ((U 83 x5.toNat) + (Int.tmod x2 10))) + x3)) - (w32 (10 * 0))))) 82 2) + 0))) 82 3))) 82 1)))))) 2 (fun _ => rfl) ?_
          exact h22a1a2
      · have h22a2 := h22a.2 hc
        refine ev_seg (σ1 := ((d + 1), 239, 70, [some (.inr (.inr 82)), some (.inl x1), some (.inl (w32 (Int.tdiv x2 10))), some (.inl 1), some (.inl x4), some (.inl x5), some (.inl (w32 ((w32 ((U 83 x5.toNat) + (Int.tmod x2 10))) + x3)))], [.inl (w32 ((w32 ((w32 ((U 83 x5.toNat) + (Int.tmod x2 10))) + x3)) - (w32 (10 * 1)))), .inl x5, .inr (.inr 83)], (am_sh, am_mm U))) 11 (fun _ => rfl) ?_
        refine eu_iast 83 (n := 64) rfl (by decide) rfl (fun _ => rfl) h22a2.1 ?_
        have h22a2a := h22a2.2
        refine ev_br (P := ¬ 1 = 1) (σ1 := ((d + 1), 239, 83, [some (.inr (.inr 82)), some (.inl x1), some (.inl (w32 (Int.tdiv x2 10))), some (.inl 1), some (.inl x4), some (.inl x5), some (.inl (w32 ((w32 ((U 83 x5.toNat) + (Int.tmod x2 10))) + x3)))], [], (am_sh, am_mm (am_upd U 83 x5.toNat (w32 ((w32 ((w32 ((U 83 x5.toNat) + (Int.tmod x2 10))) + x3)) - (w32 (10 * 1)))))))) (σ2 := ((d + 1), 239, 76, [some (.inr (.inr 82)), some (.inl x1), some (.inl (w32 (Int.tdiv x2 10))), some (.inl 1), some (.inl x4), some (.inl x5), some (.inl (w32 ((w32 ((U 83 x5.toNat) + (Int.tmod x2 10))) + x3)))], [], (am_sh, am_mm (am_upd U 83 x5.toNat (w32 ((w32 ((w32 ((U 83 x5.toNat) + (Int.tmod x2 10))) + x3)) - (w32 (10 * 1)))))))) 3 (fun _ => rfl) (fun hc => ?_) (fun hc => ?_)
        · have h22a2a1 := h22a2a.1 hc
          refine ev_seg (σ1 := ((d + 1), 239, 93, [some (.inr (.inr 82)), some (.inl x1), some (.inl (w32 (Int.tdiv x2 10))), some (.inl 1), some (.inl 0), some (.inl x5), some (.inl (w32 ((w32 ((U 83 x5.toNat) + (Int.tmod x2 10))) + x3)))], [.inl (w32 (((am_upd U 83 x5.toNat (w32 ((w32 ((w32 ((U 83 x5.toNat) + (Int.tmod x2 10))) + x3)) - (w32 (10 * 1))))) 82 2) + 1)), .inr (.inr 82)], (am_sh, am_mm (am_upd U 83 x5.toNat (w32 ((w32 ((w32 ((U 83 x5.toNat) + (Int.tmod x2 10))) + x3)) - (w32 (10 * 1)))))))) 7 (fun _ => rfl) ?_
          refine eu_puti 82 (n := 4) rfl (by decide) rfl rfl ?_
          refine ev_seg (σ1 := ((d + 1), 239, 106, [some (.inr (.inr 82)), some (.inl x1), some (.inl (w32 (Int.tdiv x2 10))), some (.inl 1), some (.inl 0), some (.inl x5), some (.inl (w32 ((w32 ((U 83 x5.toNat) + (Int.tmod x2 10))) + x3)))], [.inl (if ((am_upd (am_upd U 83 x5.toNat (w32 ((w32 ((w32 ((U 83 x5.toNat) + (Int.tmod x2 10))) + x3)) - (w32 (10 * 1))))) 82 2 (w32 (((am_upd U 83 x5.toNat (w32 ((w32 ((w32 ((U 83 x5.toNat) + (Int.tmod x2 10))) + x3)) - (w32 (10 * 1))))) 82 2) + 1))) 82 3) < 0 then 0 else ((am_upd (am_upd U 83 x5.toNat (w32 ((w32 ((w32 ((U 83 x5.toNat) + (Int.tmod x2 10))) + x3)) - (w32 (10 * 1))))) 82 2 (w32 (((am_upd U 83 x5.toNat (w32 ((w32 ((w32 ((U 83 x5.toNat) + (Int.tmod x2 10))) + x3)) - (w32 (10 * 1))))) 82 2) + 1))) 82 3)), .inr (.inr 82)], (am_sh, am_mm (am_upd (am_upd U 83 x5.toNat (w32 ((w32 ((w32 ((U 83 x5.toNat) + (Int.tmod x2 10))) + x3)) - (w32 (10 * 1))))) 82 2 (w32 (((am_upd U 83 x5.toNat (w32 ((w32 ((w32 ((U 83 x5.toNat) + (Int.tmod x2 10))) + x3)) - (w32 (10 * 1))))) 82 2) + 1)))))) 5 (fun _ => rfl) ?_
          refine eu_puti 82 (n := 4) rfl (by decide) rfl rfl ?_
          refine ev_seg (σ1 := ((d + 1), 239, 121, [some (.inr (.inr 82)), some (.inl x1), some (.inl (w32 (Int.tdiv x2 10))), some (.inl 1), some (.inl 0), some (.inl x5), some (.inl (w32 ((w32 ((U 83 x5.toNat) + (Int.tmod x2 10))) + x3)))], [.inl (if ((am_upd (am_upd (am_upd U 83 x5.toNat (w32 ((w32 ((w32 ((U 83 x5.toNat) + (Int.tmod x2 10))) + x3)) - (w32 (10 * 1))))) 82 2 (w32 (((am_upd U 83 x5.toNat (w32 ((w32 ((w32 ((U 83 x5.toNat) + (Int.tmod x2 10))) + x3)) - (w32 (10 * 1))))) 82 2) + 1))) 82 3 (if ((am_upd (am_upd U 83 x5.toNat (w32 ((w32 ((w32 ((U 83 x5.toNat) + (Int.tmod x2 10))) + x3)) - (w32 (10 * 1))))) 82 2 (w32 (((am_upd U 83 x5.toNat (w32 ((w32 ((w32 ((U 83 x5.toNat) + (Int.tmod x2 10))) + x3)) - (w32 (10 * 1))))) 82 2) + 1))) 82 3) < 0 then 0 else ((am_upd (am_upd U 83 x5.toNat (w32 ((w32 ((w32 ((U 83 x5.toNat) + (Int.tmod x2 10))) + x3)) - (w32 (10 * 1))))) 82 2 (w32 (((am_upd U 83 x5.toNat (w32 ((w32 ((w32 ((U 83 x5.toNat) + (Int.tmod x2 10))) + x3)) - (w32 (10 * 1))))) 82 2) + 1))) 82 3))) 82 1) < (w32 (x5 + 1)) then (w32 (x5 + 1)) else ((am_upd (am_upd (am_upd U 83 x5.toNat (w32 ((w32 ((w32 ((U 83 x5.toNat) + (Int.tmod x2 10))) + x3)) - (w32 (10 * 1))))) 82 2 (w32 (((am_upd U 83 x5.toNat (w32 ((w32 ((w32 ((U 83 x5.toNat) + (Int.tmod x2 10))) + x3)) - (w32 (10 * 1))))) 82 2) + 1))) 82 3 (if ((am_upd (am_upd U 83 x5.toNat (w32 ((w32 ((w32 ((U 83 x5.toNat) + (Int.tmod x2 10))) + x3)) - (w32 (10 * 1))))) 82 2 (w32 (((am_upd U 83 x5.toNat (w32 ((w32 ((w32 ((U 83 x5.toNat) + (Int.tmod x2 10))) + x3)) - (w32 (10 * 1))))) 82 2) + 1))) 82 3) < 0 then 0 else ((am_upd (am_upd U 83 x5.toNat (w32 ((w32 ((w32 ((U 83 x5.toNat) + (Int.tmod x2 10))) + x3)) - (w32 (10 * 1))))) 82 2 (w32 (((am_upd U 83 x5.toNat (w32 ((w32 ((w32 ((U 83 x5.toNat) + (Int.tmod x2 10))) + x3)) - (w32 (10 * 1))))) 82 2) + 1))) 82 3))) 82 1)), .inr (.inr 82)], (am_sh, am_mm (am_upd (am_upd (am_upd U 83 x5.toNat (w32 ((w32 ((w32 ((U 83 x5.toNat) + (Int.tmod x2 10))) + x3)) - (w32 (10 * 1))))) 82 2 (w32 (((am_upd U 83 x5.toNat (w32 ((w32 ((w32 ((U 83 x5.toNat) + (Int.tmod x2 10))) + x3)) - (w32 (10 * 1))))) 82 2) + 1))) 82 3 (if ((am_upd (am_upd U 83 x5.toNat (w32 ((w32 ((w32 ((U 83 x5.toNat) + (Int.tmod x2 10))) + x3)) - (w32 (10 * 1))))) 82 2 (w32 (((am_upd U 83 x5.toNat (w32 ((w32 ((w32 ((U 83 x5.toNat) + (Int.tmod x2 10))) + x3)) - (w32 (10 * 1))))) 82 2) + 1))) 82 3) < 0 then 0 else ((am_upd (am_upd U 83 x5.toNat (w32 ((w32 ((w32 ((U 83 x5.toNat) + (Int.tmod x2 10))) + x3)) - (w32 (10 * 1))))) 82 2 (w32 (((am_upd U 83 x5.toNat (w32 ((w32 ((w32 ((U 83 x5.toNat) + (Int.tmod x2 10))) + x3)) - (w32 (10 * 1))))) 82 2) + 1))) 82 3)))))) 7 (fun _ => rfl) ?_
          refine eu_puti 82 (n := 4) rfl (by decide) rfl rfl ?_
          refine ev_seg (σ1 := ((d + 1), 239, 10, [some (.inr (.inr 82)), some (.inl x1), some (.inl (w32 (Int.tdiv x2 10))), some (.inl 1), some (.inl 0), some (.inl (w32 (x5 + 1))), some (.inl (w32 ((w32 ((U 83 x5.toNat) + (Int.tmod x2 10))) + x3)))], [], (am_sh, am_mm (am_upd (am_upd (am_upd (am_upd U 83 x5.toNat (w32 ((w32 ((w32 ((U 83 x5.toNat) + (Int.tmod x2 10))) + x3)) - (w32 (10 * 1))))) 82 2 (w32 (((am_upd U 83 x5.toNat (w32 ((w32 ((w32 ((U 83 x5.toNat) + (Int.tmod x2 10))) + x3)) - (w32 (10 * 1))))) 82 2) + 1))) 82 3 (if ((am_upd (am_upd U 83 x5.toNat (w32 ((w32 ((w32 ((U 83 x5.toNat) + (Int.tmod x2 10))) + x3)) - (w32 (10 * 1))))) 82 2 (w32 (((am_upd U 83 x5.toNat (w32 ((w32 ((w32 ((U 83 x5.toNat) + (Int.tmod x2 10))) + x3)) - (w32 (10 * 1))))) 82 2) + 1))) 82 3) < 0 then 0 else ((am_upd (am_upd U 83 x5.toNat (w32 ((w32 ((w32 ((U 83 x5.toNat) + (Int.tmod x2 10))) + x3)) - (w32 (10 * 1))))) 82 2 (w32 (((am_upd U 83 x5.toNat (w32 ((w32 ((w32 ((U 83 x5.toNat) + (Int.tmod x2 10))) + x3)) - (w32 (10 * 1))))) 82 2) + 1))) 82 3))) 82 1 (if ((am_upd (am_upd (am_upd U 83 x5.toNat (w32 ((w32 ((w32 ((U 83 x5.toNat) + (Int.tmod x2 10))) + x3)) - (w32 (10 * 1))))) 82 2 (w32 (((am_upd U 83 x5.toNat (w32 ((w32 ((w32 ((U 83 x5.toNat) + (Int.tmod x2 10))) + x3)) - (w32 (10 * 1))))) 82 2) + 1))) 82 3 (if ((am_upd (am_upd U 83 x5.toNat (w32 ((w32 ((w32 ((U 83 x5.toNat) + (Int.tmod x2 10))) + x3)) - (w32 (10 * 1))))) 82 2 (w32 (((am_upd U 83 x5.toNat (w32 ((w32 ((w32 ((U 83 x5.toNat) + (Int.tmod x2 10))) + x3)) - (w32 (10 * 1))))) 82 2) + 1))) 82 3) < 0 then 0 else ((am_upd (am_upd U 83 x5.toNat (w32 ((w32 ((w32 ((U 83 x5.toNat) + (Int.tmod x2 10))) + x3)) - (w32 (10 * 1))))) 82 2 (w32 (((am_upd U 83 x5.toNat (w32 ((w32 ((w32 ((U 83 x5.toNat) + (Int.tmod x2 10))) + x3)) - (w32 (10 * 1))))) 82 2) + 1))) 82 3))) 82 1) < (w32 (x5 + 1)) then (w32 (x5 + 1)) else ((am_upd (am_upd (am_upd U 83 x5.toNat (w32 ((w32 ((w32 ((U 83 x5.toNat) + (Int.tmod x2 10))) + x3)) - (w32 (10 * 1))))) 82 2 (w32 (((am_upd U 83 x5.toNat (w32 ((w32 ((w32 ((U 83 x5.toNat) + (Int.tmod x2 10))) + x3)) - (w32 (10 * 1))))) 82 2) + 1))) 82 3 (if ((am_upd (am_upd U 83 x5.toNat (w32 ((w32 ((w32 ((U 83 x5.toNat) + (Int.tmod x2 10))) + x3)) - (w32 (10 * 1))))) 82 2 (w32 (((am_upd U 83 x5.toNat (w32 ((w32 ((w32 ((U 83 x5.toNat) + (Int.tmod x2 10))) + x3)) - (w32 (10 * 1))))) 82 2) + 1))) 82 3) < 0 then 0 else ((am_upd (am_upd U 83 x5.toNat (w32 ((w32 ((w32 ((U 83 x5.toNat) + (Int.tmod x2 10))) + x3)) - (w32 (10 * 1))))) 82 2 (w32 (((am_upd U 83 x5.toNat (w32 ((w32 ((w32 ((U 83 x5.toNat) + (Int.tmod x2 10))) + x3)) - (w32 (10 * 1))))) 82 2) + 1))) 82 3))) 82 1)))))) 2 (fun _ => rfl) ?_
          exact h22a2a1
        · have h22a2a2 := h22a2a.2 hc
          refine ev_seg (σ1 := ((d + 1), 239, 93, [some (.inr (.inr 82)), some (.inl x1), some (.inl (w32 (Int.tdiv x2 10))), some (.inl 1), some (.inl (w32 (x4 + 1))), some (.inl x5), some (.inl (w32 ((w32 ((U 83 x5.toNat) + (Int.tmod x2 10))) + x3)))], [.inl (w32 (((am_upd U 83 x5.toNat (w32 ((w32 ((w32 ((U 83 x5.toNat) + (Int.tmod x2 10))) + x3)) - (w32 (10 * 1))))) 82 2) + 1)), .inr (.inr 82)], (am_sh, am_mm (am_upd U 83 x5.toNat (w32 ((w32 ((w32 ((U 83 x5.toNat) + (Int.tmod x2 10))) + x3)) - (w32 (10 * 1)))))))) 10 (fun _ => rfl) ?_
          refine eu_puti 82 (n := 4) rfl (by decide) rfl rfl ?_
          refine ev_seg (σ1 := ((d + 1), 239, 106, [some (.inr (.inr 82)), some (.inl x1), some (.inl (w32 (Int.tdiv x2 10))), some (.inl 1), some (.inl (w32 (x4 + 1))), some (.inl x5), some (.inl (w32 ((w32 ((U 83 x5.toNat) + (Int.tmod x2 10))) + x3)))], [.inl (if ((am_upd (am_upd U 83 x5.toNat (w32 ((w32 ((w32 ((U 83 x5.toNat) + (Int.tmod x2 10))) + x3)) - (w32 (10 * 1))))) 82 2 (w32 (((am_upd U 83 x5.toNat (w32 ((w32 ((w32 ((U 83 x5.toNat) + (Int.tmod x2 10))) + x3)) - (w32 (10 * 1))))) 82 2) + 1))) 82 3) < (w32 (x4 + 1)) then (w32 (x4 + 1)) else ((am_upd (am_upd U 83 x5.toNat (w32 ((w32 ((w32 ((U 83 x5.toNat) + (Int.tmod x2 10))) + x3)) - (w32 (10 * 1))))) 82 2 (w32 (((am_upd U 83 x5.toNat (w32 ((w32 ((w32 ((U 83 x5.toNat) + (Int.tmod x2 10))) + x3)) - (w32 (10 * 1))))) 82 2) + 1))) 82 3)), .inr (.inr 82)], (am_sh, am_mm (am_upd (am_upd U 83 x5.toNat (w32 ((w32 ((w32 ((U 83 x5.toNat) + (Int.tmod x2 10))) + x3)) - (w32 (10 * 1))))) 82 2 (w32 (((am_upd U 83 x5.toNat (w32 ((w32 ((w32 ((U 83 x5.toNat) + (Int.tmod x2 10))) + x3)) - (w32 (10 * 1))))) 82 2) + 1)))))) 5 (fun _ => rfl) ?_
          refine eu_puti 82 (n := 4) rfl (by decide) rfl rfl ?_
          refine ev_seg (σ1 := ((d + 1), 239, 121, [some (.inr (.inr 82)), some (.inl x1), some (.inl (w32 (Int.tdiv x2 10))), some (.inl 1), some (.inl (w32 (x4 + 1))), some (.inl x5), some (.inl (w32 ((w32 ((U 83 x5.toNat) + (Int.tmod x2 10))) + x3)))], [.inl (if ((am_upd (am_upd (am_upd U 83 x5.toNat (w32 ((w32 ((w32 ((U 83 x5.toNat) + (Int.tmod x2 10))) + x3)) - (w32 (10 * 1))))) 82 2 (w32 (((am_upd U 83 x5.toNat (w32 ((w32 ((w32 ((U 83 x5.toNat) + (Int.tmod x2 10))) + x3)) - (w32 (10 * 1))))) 82 2) + 1))) 82 3 (if ((am_upd (am_upd U 83 x5.toNat (w32 ((w32 ((w32 ((U 83 x5.toNat) + (Int.tmod x2 10))) + x3)) - (w32 (10 * 1))))) 82 2 (w32 (((am_upd U 83 x5.toNat (w32 ((w32 ((w32 ((U 83 x5.toNat) + (Int.tmod x2 10))) + x3)) - (w32 (10 * 1))))) 82 2) + 1))) 82 3) < (w32 (x4 + 1)) then (w32 (x4 + 1)) else ((am_upd (am_upd U 83 x5.toNat (w32 ((w32 ((w32 ((U 83 x5.toNat) + (Int.tmod x2 10))) + x3)) - (w32 (10 * 1))))) 82 2 (w32 (((am_upd U 83 x5.toNat (w32 ((w32 ((w32 ((U 83 x5.toNat) + (Int.tmod x2 10))) + x3)) - (w32 (10 * 1))))) 82 2) + 1))) 82 3))) 82 1) < (w32 (x5 + 1)) then (w32 (x5 + 1)) else ((am_upd (am_upd (am_upd U 83 x5.toNat (w32 ((w32 ((w32 ((U 83 x5.toNat) + (Int.tmod x2 10))) + x3)) - (w32 (10 * 1))))) 82 2 (w32 (((am_upd U 83 x5.toNat (w32 ((w32 ((w32 ((U 83 x5.toNat) + (Int.tmod x2 10))) + x3)) - (w32 (10 * 1))))) 82 2) + 1))) 82 3 (if ((am_upd (am_upd U 83 x5.toNat (w32 ((w32 ((w32 ((U 83 x5.toNat) + (Int.tmod x2 10))) + x3)) - (w32 (10 * 1))))) 82 2 (w32 (((am_upd U 83 x5.toNat (w32 ((w32 ((w32 ((U 83 x5.toNat) + (Int.tmod x2 10))) + x3)) - (w32 (10 * 1))))) 82 2) + 1))) 82 3) < (w32 (x4 + 1)) then (w32 (x4 + 1)) else ((am_upd (am_upd U 83 x5.toNat (w32 ((w32 ((w32 ((U 83 x5.toNat) + (Int.tmod x2 10))) + x3)) - (w32 (10 * 1))))) 82 2 (w32 (((am_upd U 83 x5.toNat (w32 ((w32 ((w32 ((U 83 x5.toNat) + (Int.tmod x2 10))) + x3)) - (w32 (10 * 1))))) 82 2) + 1))) 82 3))) 82 1)), .inr (.inr 82)], (am_sh, am_mm (am_upd (am_upd (am_upd U 83 x5.toNat (w32 ((w32 ((w32 ((U 83 x5.toNat) + (Int.tmod x2 10))) + x3)) - (w32 (10 * 1))))) 82 2 (w32 (((am_upd U 83 x5.toNat (w32 ((w32 ((w32 ((U 83 x5.toNat) + (Int.tmod x2 10))) + x3)) - (w32 (10 * 1))))) 82 2) + 1))) 82 3 (if ((am_upd (am_upd U 83 x5.toNat (w32 ((w32 ((w32 ((U 83 x5.toNat) + (Int.tmod x2 10))) + x3)) - (w32 (10 * 1))))) 82 2 (w32 (((am_upd U 83 x5.toNat (w32 ((w32 ((w32 ((U 83 x5.toNat) + (Int.tmod x2 10))) + x3)) - (w32 (10 * 1))))) 82 2) + 1))) 82 3) < (w32 (x4 + 1)) then (w32 (x4 + 1)) else ((am_upd (am_upd U 83 x5.toNat (w32 ((w32 ((w32 ((U 83 x5.toNat) + (Int.tmod x2 10))) + x3)) - (w32 (10 * 1))))) 82 2 (w32 (((am_upd U 83 x5.toNat (w32 ((w32 ((w32 ((U 83 x5.toNat) + (Int.tmod x2 10))) + x3)) - (w32 (10 * 1))))) 82 2) + 1))) 82 3)))))) 7 (fun _ => rfl) ?_
          refine eu_puti 82 (n := 4) rfl (by decide) rfl rfl ?_
          refine ev_seg (σ1 := ((d + 1), 239, 10, [some (.inr (.inr 82)), some (.inl x1), some (.inl (w32 (Int.tdiv x2 10))), some (.inl 1), some (.inl (w32 (x4 + 1))), some (.inl (w32 (x5 + 1))), some (.inl (w32 ((w32 ((U 83 x5.toNat) + (Int.tmod x2 10))) + x3)))], [], (am_sh, am_mm (am_upd (am_upd (am_upd (am_upd U 83 x5.toNat (w32 ((w32 ((w32 ((U 83 x5.toNat) + (Int.tmod x2 10))) + x3)) - (w32 (10 * 1))))) 82 2 (w32 (((am_upd U 83 x5.toNat (w32 ((w32 ((w32 ((U 83 x5.toNat) + (Int.tmod x2 10))) + x3)) - (w32 (10 * 1))))) 82 2) + 1))) 82 3 (if ((am_upd (am_upd U 83 x5.toNat (w32 ((w32 ((w32 ((U 83 x5.toNat) + (Int.tmod x2 10))) + x3)) - (w32 (10 * 1))))) 82 2 (w32 (((am_upd U 83 x5.toNat (w32 ((w32 ((w32 ((U 83 x5.toNat) + (Int.tmod x2 10))) + x3)) - (w32 (10 * 1))))) 82 2) + 1))) 82 3) < (w32 (x4 + 1)) then (w32 (x4 + 1)) else ((am_upd (am_upd U 83 x5.toNat (w32 ((w32 ((w32 ((U 83 x5.toNat) + (Int.tmod x2 10))) + x3)) - (w32 (10 * 1))))) 82 2 (w32 (((am_upd U 83 x5.toNat (w32 ((w32 ((w32 ((U 83 x5.toNat) + (Int.tmod x2 10))) + x3)) - (w32 (10 * 1))))) 82 2) + 1))) 82 3))) 82 1 (if ((am_upd (am_upd (am_upd U 83 x5.toNat (w32 ((w32 ((w32 ((U 83 x5.toNat) + (Int.tmod x2 10))) + x3)) - (w32 (10 * 1))))) 82 2 (w32 (((am_upd U 83 x5.toNat (w32 ((w32 ((w32 ((U 83 x5.toNat) + (Int.tmod x2 10))) + x3)) - (w32 (10 * 1))))) 82 2) + 1))) 82 3 (if ((am_upd (am_upd U 83 x5.toNat (w32 ((w32 ((w32 ((U 83 x5.toNat) + (Int.tmod x2 10))) + x3)) - (w32 (10 * 1))))) 82 2 (w32 (((am_upd U 83 x5.toNat (w32 ((w32 ((w32 ((U 83 x5.toNat) + (Int.tmod x2 10))) + x3)) - (w32 (10 * 1))))) 82 2) + 1))) 82 3) < (w32 (x4 + 1)) then (w32 (x4 + 1)) else ((am_upd (am_upd U 83 x5.toNat (w32 ((w32 ((w32 ((U 83 x5.toNat) + (Int.tmod x2 10))) + x3)) - (w32 (10 * 1))))) 82 2 (w32 (((am_upd U 83 x5.toNat (w32 ((w32 ((w32 ((U 83 x5.toNat) + (Int.tmod x2 10))) + x3)) - (w32 (10 * 1))))) 82 2) + 1))) 82 3))) 82 1) < (w32 (x5 + 1)) then (w32 (x5 + 1)) else ((am_upd (am_upd (am_upd U 83 x5.toNat (w32 ((w32 ((w32 ((U 83 x5.toNat) + (Int.tmod x2 10))) + x3)) - (w32 (10 * 1))))) 82 2 (w32 (((am_upd U 83 x5.toNat (w32 ((w32 ((w32 ((U 83 x5.toNat) + (Int.tmod x2 10))) + x3)) - (w32 (10 * 1))))) 82 2) + 1))) 82 3 (if ((am_upd (am_upd U 83 x5.toNat (w32 ((w32 ((w32 ((U 83 x5.toNat) + (Int.tmod x2 10))) + x3)) - (w32 (10 * 1))))) 82 2 (w32 (((am_upd U 83 x5.toNat (w32 ((w32 ((w32 ((U 83 x5.toNat) + (Int.tmod x2 10))) + x3)) - (w32 (10 * 1))))) 82 2) + 1))) 82 3) < (w32 (x4 + 1)) then (w32 (x4 + 1)) else ((am_upd (am_upd U 83 x5.toNat (w32 ((w32 ((w32 ((U 83 x5.toNat) + (Int.tmod x2 10))) + x3)) - (w32 (10 * 1))))) 82 2 (w32 (((am_upd U 83 x5.toNat (w32 ((w32 ((w32 ((U 83 x5.toNat) + (Int.tmod x2 10))) + x3)) - (w32 (10 * 1))))) 82 2) + 1))) 82 3))) 82 1)))))) 2 (fun _ => rfl) ?_
          exact h22a2a2
set_option maxRecDepth 8000 in
theorem st240_3_44_0 (kz : am_Z) (d : Nat) (x2 x3 : Int) (U : Nat → Nat → Int) (R : Option am_V × am_M) (h : Ev kz ((d + 1), 240, 9, [some (.inr (.inr 3)), some (.inr (.inr 44)), some (.inl x2), some (.inl x3), some (.inl 0), some (.inl 0), some (.inl 0), none], [], (am_sh, am_mm U)) R) : Ev kz ((d + 1), 240, 0, [some (.inr (.inr 3)), some (.inr (.inr 44)), some (.inl x2), some (.inl x3), none, none, none, none], [], (am_sh, am_mm U)) R := by
  refine ev_seg (σ1 := ((d + 1), 240, 9, [some (.inr (.inr 3)), some (.inr (.inr 44)), some (.inl x2), some (.inl x3), some (.inl 0), some (.inl 0), some (.inl 0), none], [], (am_sh, am_mm U))) 6 (fun _ => rfl) ?_
  exact h
set_option maxRecDepth 8000 in
theorem st240_3_44_9 (kz : am_Z) (d : Nat) (x2 x3 x4 x5 x6 : Int) (U : Nat → Nat → Int) (R : Option am_V × am_M) (h : (((x3 ≤ x6 : Prop)) → (((¬ x5 = 0 : Prop)) → (0 ≤ x2 ∧ x2 < 4096) ∧ R = (none, (am_sh, am_mm (am_upd U 44 x2.toNat (w32 ((w32 (x5 * 16)) + x4)))))) ∧ (¬ (¬ x5 = 0) → (0 ≤ x2 ∧ x2 < 4096) ∧ R = (none, (am_sh, am_mm (am_upd U 44 x2.toNat (w32 ((w32 (x5 * 16)) + (w32 (x4 + 1))))))))) ∧ (¬ (x3 ≤ x6) → (((¬ (am_and (am_shr x2 x6) 1) = 1 : Prop)) → Ev kz ((d + 1), 240, 9, [some (.inr (.inr 3)), some (.inr (.inr 44)), some (.inl x2), some (.inl x3), some (.inl x4), some (.inl x5), some (.inl (w32 (x6 + 1))), none], [], (am_sh, am_mm U)) R) ∧ (¬ (¬ (am_and (am_shr x2 x6) 1) = 1) → (0 ≤ (am_and x2 (am_xor (am_shl 1 x6) (-1))) ∧ (am_and x2 (am_xor (am_shl 1 x6) (-1))) < 4096) ∧ (0 ≤ x6 ∧ x6 < 12) ∧ Ev kz ((d + 1), 240, 9, [some (.inr (.inr 3)), some (.inr (.inr 44)), some (.inl x2), some (.inl x3), some (.inl (if x4 < (am_and (U 44 (am_and x2 (am_xor (am_shl 1 x6) (-1))).toNat) 15) then (am_and (U 44 (am_and x2 (am_xor (am_shl 1 x6) (-1))).toNat) 15) else x4)), some (.inl (w32 ((am_shr (U 44 (am_and x2 (am_xor (am_shl 1 x6) (-1))).toNat) 4) + (U 11 x6.toNat)))), some (.inl (w32 (x6 + 1))), some (.inl (U 44 (am_and x2 (am_xor (am_shl 1 x6) (-1))).toNat))], [], (am_sh, am_mm U)) R))) : Ev kz ((d + 1), 240, 9, [some (.inr (.inr 3)), some (.inr (.inr 44)), some (.inl x2), some (.inl x3), some (.inl x4), some (.inl x5), some (.inl x6), none], [], (am_sh, am_mm U)) R := by
  refine ev_br (P := x3 ≤ x6) (σ1 := ((d + 1), 240, 69, [some (.inr (.inr 3)), some (.inr (.inr 44)), some (.inl x2), some (.inl x3), some (.inl x4), some (.inl x5), some (.inl x6), none], [], (am_sh, am_mm U))) (σ2 := ((d + 1), 240, 15, [some (.inr (.inr 3)), some (.inr (.inr 44)), some (.inl x2), some (.inl x3), some (.inl x4), some (.inl x5), some (.inl x6), none], [], (am_sh, am_mm U))) 3 (fun _ => rfl) (fun hc => ?_) (fun hc => ?_)
  · have h1 := h.1 hc
    refine ev_br (P := ¬ x5 = 0) (σ1 := ((d + 1), 240, 88, [some (.inr (.inr 3)), some (.inr (.inr 44)), some (.inl x2), some (.inl x3), some (.inl x4), some (.inl x5), some (.inl x6), none], [.inl (w32 (x5 * 16)), .inl x2, .inr (.inr 44)], (am_sh, am_mm U))) (σ2 := ((d + 1), 240, 81, [some (.inr (.inr 3)), some (.inr (.inr 44)), some (.inl x2), some (.inl x3), some (.inl x4), some (.inl x5), some (.inl x6), none], [.inl (w32 (x5 * 16)), .inl x2, .inr (.inr 44)], (am_sh, am_mm U))) 7 (fun _ => rfl) (fun hc => ?_) (fun hc => ?_)
    · have h11 := h1.1 hc
      refine ev_seg (σ1 := ((d + 1), 240, 91, [some (.inr (.inr 3)), some (.inr (.inr 44)), some (.inl x2), some (.inl x3), some (.inl x4), some (.inl x5), some (.inl x6), none], [.inl (w32 ((w32 (x5 * 16)) + x4)), .inl x2, .inr (.inr 44)], (am_sh, am_mm U))) 2 (fun _ => rfl) ?_
      refine eu_iast 44 (n := 4096) rfl (by decide) rfl (fun _ => rfl) h11.1 ?_
      have h11a := h11.2
      subst h11a
      exact ev_end 1 (fun _ => rfl)
    · have h12 := h1.2 hc
      refine ev_seg (σ1 := ((d + 1), 240, 91, [some (.inr (.inr 3)), some (.inr (.inr 44)), some (.inl x2), some (.inl x3), some (.inl x4), some (.inl x5), some (.inl x6), none], [.inl (w32 ((w32 (x5 * 16)) + (w32 (x4 + 1)))), .inl x2, .inr (.inr 44)], (am_sh, am_mm U))) 5 (fun _ => rfl) ?_
      refine eu_iast 44 (n := 4096) rfl (by decide) rfl (fun _ => rfl) h12.1 ?_
      have h12a := h12.2
      subst h12a
      exact ev_end 1 (fun _ => rfl)
  · have h2 := h.2 hc
    refine ev_br (P := ¬ (am_and (am_shr x2 x6) 1) = 1) (σ1 := ((d + 1), 240, 63, [some (.inr (.inr 3)), some (.inr (.inr 44)), some (.inl x2), some (.inl x3), some (.inl x4), some (.inl x5), some (.inl x6), none], [], (am_sh, am_mm U))) (σ2 := ((d + 1), 240, 25, [some (.inr (.inr 3)), some (.inr (.inr 44)), some (.inl x2), some (.inl x3), some (.inl x4), some (.inl x5), some (.inl x6), none], [], (am_sh, am_mm U))) 7 (fun _ => rfl) (fun hc => ?_) (fun hc => ?_)
    · have h21 := h2.1 hc
      refine ev_seg (σ1 := ((d + 1), 240, 9, [some (.inr (.inr 3)), some (.inr (.inr 44)), some (.inl x2), some (.inl x3), some (.inl x4), some (.inl x5), some (.inl (w32 (x6 + 1))), none], [], (am_sh, am_mm U))) 2 (fun _ => rfl) ?_
      exact h21
    · have h22 := h2.2 hc
      refine ev_seg (σ1 := ((d + 1), 240, 34, [some (.inr (.inr 3)), some (.inr (.inr 44)), some (.inl x2), some (.inl x3), some (.inl x4), some (.inl x5), some (.inl x6), none], [.inl (am_and x2 (am_xor (am_shl 1 x6) (-1))), .inr (.inr 44)], (am_sh, am_mm U))) 8 (fun _ => rfl) ?_
      refine eu_iald 44 (n := 4096) rfl (by decide) rfl (fun _ => rfl) h22.1 ?_
      have h22a := h22.2
      refine ev_seg (σ1 := ((d + 1), 240, 59, [some (.inr (.inr 3)), some (.inr (.inr 44)), some (.inl x2), some (.inl x3), some (.inl (if x4 < (am_and (U 44 (am_and x2 (am_xor (am_shl 1 x6) (-1))).toNat) 15) then (am_and (U 44 (am_and x2 (am_xor (am_shl 1 x6) (-1))).toNat) 15) else x4)), some (.inl x5), some (.inl x6), some (.inl (U 44 (am_and x2 (am_xor (am_shl 1 x6) (-1))).toNat))], [.inl x6, .inr (.inr 11), .inl (am_shr (U 44 (am_and x2 (am_xor (am_shl 1 x6) (-1))).toNat) 4)], (am_sh, am_mm U))) 13 (fun _ => rfl) ?_
      refine eu_iald 11 (n := 12) rfl (by decide) rfl (fun _ => rfl) h22a.1 ?_
      have h22aa := h22a.2
      refine ev_seg (σ1 := ((d + 1), 240, 9, [some (.inr (.inr 3)), some (.inr (.inr 44)), some (.inl x2), some (.inl x3), some (.inl (if x4 < (am_and (U 44 (am_and x2 (am_xor (am_shl 1 x6) (-1))).toNat) 15) then (am_and (U 44 (am_and x2 (am_xor (am_shl 1 x6) (-1))).toNat) 15) else x4)), some (.inl (w32 ((am_shr (U 44 (am_and x2 (am_xor (am_shl 1 x6) (-1))).toNat) 4) + (U 11 x6.toNat)))), some (.inl (w32 (x6 + 1))), some (.inl (U 44 (am_and x2 (am_xor (am_shl 1 x6) (-1))).toNat))], [], (am_sh, am_mm U))) 4 (fun _ => rfl) ?_
      exact h22aa
set_option maxRecDepth 8000 in
theorem st241_78_0 (kz : am_Z) (d : Nat) (U : Nat → Nat → Int) (R : Option am_V × am_M) (h : Ev kz ((d + 1), 241, 2, [some (.inr (.inr 78)), some (.inl 1), none], [], (am_sh, am_mm U)) R) : Ev kz ((d + 1), 241, 0, [some (.inr (.inr 78)), none, none], [], (am_sh, am_mm U)) R := by
  refine ev_seg (σ1 := ((d + 1), 241, 2, [some (.inr (.inr 78)), some (.inl 1), none], [], (am_sh, am_mm U))) 2 (fun _ => rfl) ?_
  exact h
set_option maxRecDepth 8000 in
theorem st241_78_2 (kz : am_Z) (d : Nat) (x1 : Int) (U : Nat → Nat → Int) (R : Option am_V × am_M) (h : (((24 < x1 : Prop)) → R = (none, (am_sh, am_mm U))) ∧ (¬ (24 < x1) → Ev kz ((d + 1), 241, 10, [some (.inr (.inr 78)), some (.inl x1), some (.inl 1)], [], (am_sh, am_mm U)) R)) : Ev kz ((d + 1), 241, 2, [some (.inr (.inr 78)), some (.inl x1), none], [], (am_sh, am_mm U)) R := by
  refine ev_br (P := 24 < x1) (σ1 := ((d + 1), 241, 53, [some (.inr (.inr 78)), some (.inl x1), none], [], (am_sh, am_mm U))) (σ2 := ((d + 1), 241, 8, [some (.inr (.inr 78)), some (.inl x1), none], [], (am_sh, am_mm U))) 3 (fun _ => rfl) (fun hc => ?_) (fun hc => ?_)
  · have h1 := h.1 hc
    subst h1
    exact ev_end 1 (fun _ => rfl)
  · have h2 := h.2 hc
    refine ev_seg (σ1 := ((d + 1), 241, 10, [some (.inr (.inr 78)), some (.inl x1), some (.inl 1)], [], (am_sh, am_mm U))) 2 (fun _ => rfl) ?_
    exact h2
set_option maxRecDepth 8000 in
theorem st241_78_10 (kz : am_Z) (d : Nat) (x1 x2 : Int) (U : Nat → Nat → Int) (R : Option am_V × am_M) (h : (((24 < x2 : Prop)) → Ev kz ((d + 1), 241, 2, [some (.inr (.inr 78)), some (.inl (w32 (x1 + 1))), some (.inl x2)], [], (am_sh, am_mm U)) R) ∧ (¬ (24 < x2) → (0 ≤ x1 ∧ x1 < 25) ∧ ∃ (r1 : Int) (U1 : Nat → Nat → Int), Ev kz (d, 153, 0, [some (.inl x1), some (.inl x2), none, none, none, none], [], (am_sh, am_mm U)) (some (.inl r1), (am_sh, am_mm U1)) ∧ (((r1 ≤ 1 : Prop)) → (0 ≤ x1 ∧ x1 < 25) ∧ Ev kz ((d + 1), 241, 10, [some (.inr (.inr 78)), some (.inl x1), some (.inl (w32 (x2 + 1)))], [], (am_sh, am_mm (am_upd U1 79 x1.toNat (am_or (U 79 x1.toNat) 0)))) R) ∧ (¬ (r1 ≤ 1) → (0 ≤ x1 ∧ x1 < 25) ∧ Ev kz ((d + 1), 241, 10, [some (.inr (.inr 78)), some (.inl x1), some (.inl (w32 (x2 + 1)))], [], (am_sh, am_mm (am_upd U1 79 x1.toNat (am_or (U 79 x1.toNat) (am_shl 1 x2))))) R))) : Ev kz ((d + 1), 241, 10, [some (.inr (.inr 78)), some (.inl x1), some (.inl x2)], [], (am_sh, am_mm U)) R := by
  refine ev_br (P := 24 < x2) (σ1 := ((d + 1), 241, 47, [some (.inr (.inr 78)), some (.inl x1), some (.inl x2)], [], (am_sh, am_mm U))) (σ2 := ((d + 1), 241, 16, [some (.inr (.inr 78)), some (.inl x1), some (.inl x2)], [], (am_sh, am_mm U))) 3 (fun _ => rfl) (fun hc => ?_) (fun hc => ?_)
  · have h1 := h.1 hc
    refine ev_seg (σ1 := ((d + 1), 241, 2, [some (.inr (.inr 78)), some (.inl (w32 (x1 + 1))), some (.inl x2)], [], (am_sh, am_mm U))) 2 (fun _ => rfl) ?_
    exact h1
  · have h2 := h.2 hc
    refine ev_seg (σ1 := ((d + 1), 241, 22, [some (.inr (.inr 78)), some (.inl x1), some (.inl x2)], [.inl x1, .inr (.inr 79), .inl x1, .inr (.inr 79)], (am_sh, am_mm U))) 4 (fun _ => rfl) ?_
    refine eu_iald 79 (n := 25) rfl (by decide) rfl (fun _ => rfl) h2.1 ?_
    have h2a := h2.2
    refine ev_seg (σ1 := ((d + 1), 241, 25, [some (.inr (.inr 78)), some (.inl x1), some (.inl x2)], [.inl x2, .inl x1, .inl (U 79 x1.toNat), .inl x1, .inr (.inr 79)], (am_sh, am_mm U))) 2 (fun _ => rfl) ?_
    obtain ⟨r1, U1, h2ac, h2aa⟩ := h2a
    refine ev_cal (σc := (d, 153, 0, [some (.inl x1), some (.inl x2), none, none, none, none], [], (am_sh, am_mm U))) (fun _ => rfl) h2ac ?_
    show Ev kz ((d + 1), 241, 28, [some (.inr (.inr 78)), some (.inl x1), some (.inl x2)], [.inl r1, .inl (U 79 x1.toNat), .inl x1, .inr (.inr 79)], (am_sh, am_mm U1)) R
    refine ev_br (P := r1 ≤ 1) (σ1 := ((d + 1), 241, 38, [some (.inr (.inr 78)), some (.inl x1), some (.inl x2)], [.inl (U 79 x1.toNat), .inl x1, .inr (.inr 79)], (am_sh, am_mm U1))) (σ2 := ((d + 1), 241, 32, [some (.inr (.inr 78)), some (.inl x1), some (.inl x2)], [.inl (U 79 x1.toNat), .inl x1, .inr (.inr 79)], (am_sh, am_mm U1))) 2 (fun _ => rfl) (fun hc => ?_) (fun hc => ?_)
    · have h2aa1 := h2aa.1 hc
      refine ev_seg (σ1 := ((d + 1), 241, 40, [some (.inr (.inr 78)), some (.inl x1), some (.inl x2)], [.inl (am_or (U 79 x1.toNat) 0), .inl x1, .inr (.inr 79)], (am_sh, am_mm U1))) 2 (fun _ => rfl) ?_
      refine eu_iast 79 (n := 25) rfl (by decide) rfl (fun _ => rfl) h2aa1.1 ?_
      have h2aa1a := h2aa1.2
      refine ev_seg (σ1 := ((d + 1), 241, 10, [some (.inr (.inr 78)), some (.inl x1), some (.inl (w32 (x2 + 1)))], [], (am_sh, am_mm (am_upd U1 79 x1.toNat (am_or (U 79 x1.toNat) 0))))) 2 (fun _ => rfl) ?_
      exact h2aa1a
    · have h2aa2 := h2aa.2 hc
      refine ev_seg (σ1 := ((d + 1), 241, 40, [some (.inr (.inr 78)), some (.inl x1), some (.inl x2)], [.inl (am_or (U 79 x1.toNat) (am_shl 1 x2)), .inl x1, .inr (.inr 79)], (am_sh, am_mm U1))) 5 (fun _ => rfl) ?_
      refine eu_iast 79 (n := 25) rfl (by decide) rfl (fun _ => rfl) h2aa2.1 ?_
      have h2aa2a := h2aa2.2
      refine ev_seg (σ1 := ((d + 1), 241, 10, [some (.inr (.inr 78)), some (.inl x1), some (.inl (w32 (x2 + 1)))], [], (am_sh, am_mm (am_upd U1 79 x1.toNat (am_or (U 79 x1.toNat) (am_shl 1 x2)))))) 2 (fun _ => rfl) ?_
      exact h2aa2a
set_option maxRecDepth 8000 in
theorem st242_78_2_0 (kz : am_Z) (d : Nat) (x1 : Int) (U : Nat → Nat → Int) (R : Option am_V × am_M) (h : Ev kz ((d + 1), 242, 8, [some (.inr (.inr 78)), some (.inl x1), some (.inr (.inr 2)), some (.inl (U 78 4)), some (.inl 0), none], [], (am_sh, am_mm U)) R) : Ev kz ((d + 1), 242, 0, [some (.inr (.inr 78)), some (.inl x1), some (.inr (.inr 2)), none, none, none], [], (am_sh, am_mm U)) R := by
  refine ev_seg (σ1 := ((d + 1), 242, 8, [some (.inr (.inr 78)), some (.inl x1), some (.inr (.inr 2)), some (.inl (U 78 4)), some (.inl 0), none], [], (am_sh, am_mm U))) 5 (fun _ => rfl) ?_
  exact h
set_option maxRecDepth 8000 in
theorem st242_78_2_8 (kz : am_Z) (d : Nat) (x1 x3 x4 : Int) (U : Nat → Nat → Int) (R : Option am_V × am_M) (h : (((x1 ≤ x4 : Prop)) → ((((U 78 3) ≤ (w32 (x1 + 1)) : Prop)) → ∃ U1 : Nat → Nat → Int, Ev kz (d, 286, 0, [some (.inr (.inr 78)), some (.inl x1), some (.inl x3)], [], (am_sh, am_mm U)) (none, (am_sh, am_mm U1)) ∧ ∃ (r2 : Int) (U2 : Nat → Nat → Int), Ev kz (d, 98, 0, [some (.inl x3)], [], (am_sh, am_mm U1)) (some (.inl r2), (am_sh, am_mm U2)) ∧ R = (none, (am_sh, am_mm (am_upd U2 78 5 (w32 ((U1 78 5) + r2)))))) ∧ (¬ ((U 78 3) ≤ (w32 (x1 + 1))) → ((((w32 (x1 + 1)) < 4 : Prop)) → Ev kz ((d + 1), 242, 119, [some (.inr (.inr 78)), some (.inl x1), some (.inr (.inr 2)), some (.inl x3), some (.inl 1), none], [], (am_sh, am_mm U)) R) ∧ (¬ ((w32 (x1 + 1)) < 4) → ∃ U3 : Nat → Nat → Int, Ev kz (d, 286, 0, [some (.inr (.inr 78)), some (.inl x1), some (.inl x3)], [], (am_sh, am_mm U)) (none, (am_sh, am_mm U3)) ∧ ∃ (r4 : Int) (U4 : Nat → Nat → Int), Ev kz (d, 98, 0, [some (.inl x3)], [], (am_sh, am_mm U3)) (some (.inl r4), (am_sh, am_mm U4)) ∧ R = (none, (am_sh, am_mm (am_upd U4 78 5 (w32 ((U3 78 5) + r4)))))))) ∧ (¬ (x1 ≤ x4) → ∃ (r5 : Int) (U5 : Nat → Nat → Int), Ev kz (d, 285, 0, [some (.inr (.inr 78)), some (.inl x4), some (.inl x1)], [], (am_sh, am_mm U)) (some (.inl r5), (am_sh, am_mm U5)) ∧ (0 ≤ (w32 (2 + r5)) ∧ (w32 (2 + r5)) < 1600) ∧ (((¬ (U5 2 (w32 (2 + r5)).toNat) = 1 : Prop)) → (((0 = 0 : Prop)) → (0 ≤ x4 ∧ x4 < 4) ∧ (0 ≤ (U5 80 x4.toNat) ∧ (U5 80 x4.toNat) < 25) ∧ Ev kz ((d + 1), 242, 8, [some (.inr (.inr 78)), some (.inl x1), some (.inr (.inr 2)), some (.inl (am_and x3 (am_xor (U5 79 (U5 80 x4.toNat).toNat) (-1)))), some (.inl (w32 (x4 + 1))), some (.inl 0)], [], (am_sh, am_mm U5)) R) ∧ (¬ (0 = 0) → (0 ≤ x4 ∧ x4 < 4) ∧ (0 ≤ (U5 80 x4.toNat) ∧ (U5 80 x4.toNat) < 25) ∧ Ev kz ((d + 1), 242, 8, [some (.inr (.inr 78)), some (.inl x1), some (.inr (.inr 2)), some (.inl (am_and x3 (U5 79 (U5 80 x4.toNat).toNat))), some (.inl (w32 (x4 + 1))), some (.inl 0)], [], (am_sh, am_mm U5)) R)) ∧ (¬ (¬ (U5 2 (w32 (2 + r5)).toNat) = 1) → (((1 = 0 : Prop)) → (0 ≤ x4 ∧ x4 < 4) ∧ (0 ≤ (U5 80 x4.toNat) ∧ (U5 80 x4.toNat) < 25) ∧ Ev kz ((d + 1), 242, 8, [some (.inr (.inr 78)), some (.inl x1), some (.inr (.inr 2)), some (.inl (am_and x3 (am_xor (U5 79 (U5 80 x4.toNat).toNat) (-1)))), some (.inl (w32 (x4 + 1))), some (.inl 1)], [], (am_sh, am_mm U5)) R) ∧ (¬ (1 = 0) → (0 ≤ x4 ∧ x4 < 4) ∧ (0 ≤ (U5 80 x4.toNat) ∧ (U5 80 x4.toNat) < 25) ∧ Ev kz ((d + 1), 242, 8, [some (.inr (.inr 78)), some (.inl x1), some (.inr (.inr 2)), some (.inl (am_and x3 (U5 79 (U5 80 x4.toNat).toNat))), some (.inl (w32 (x4 + 1))), some (.inl 1)], [], (am_sh, am_mm U5)) R)))) : Ev kz ((d + 1), 242, 8, [some (.inr (.inr 78)), some (.inl x1), some (.inr (.inr 2)), some (.inl x3), some (.inl x4), none], [], (am_sh, am_mm U)) R := by
  refine ev_br (P := x1 ≤ x4) (σ1 := ((d + 1), 242, 79, [some (.inr (.inr 78)), some (.inl x1), some (.inr (.inr 2)), some (.inl x3), some (.inl x4), none], [], (am_sh, am_mm U))) (σ2 := ((d + 1), 242, 14, [some (.inr (.inr 78)), some (.inl x1), some (.inr (.inr 2)), some (.inl x3), some (.inl x4), none], [], (am_sh, am_mm U))) 3 (fun _ => rfl) (fun hc => ?_) (fun hc => ?_)
  · have h1 := h.1 hc
    refine ev_br (P := (U 78 3) ≤ (w32 (x1 + 1))) (σ1 := ((d + 1), 242, 96, [some (.inr (.inr 78)), some (.inl x1), some (.inr (.inr 2)), some (.inl x3), some (.inl x4), none], [], (am_sh, am_mm U))) (σ2 := ((d + 1), 242, 89, [some (.inr (.inr 78)), some (.inl x1), some (.inr (.inr 2)), some (.inl x3), some (.inl x4), none], [], (am_sh, am_mm U))) 6 (fun _ => rfl) (fun hc => ?_) (fun hc => ?_)
    · have h11 := h1.1 hc
      refine ev_seg (σ1 := ((d + 1), 242, 99, [some (.inr (.inr 78)), some (.inl x1), some (.inr (.inr 2)), some (.inl x3), some (.inl x4), none], [.inl x3, .inl x1, .inr (.inr 78)], (am_sh, am_mm U))) 3 (fun _ => rfl) ?_
      obtain ⟨U1, h11c, h11a⟩ := h11
      refine ev_cal (σc := (d, 286, 0, [some (.inr (.inr 78)), some (.inl x1), some (.inl x3)], [], (am_sh, am_mm U))) (fun _ => rfl) h11c ?_
      show Ev kz ((d + 1), 242, 102, [some (.inr (.inr 78)), some (.inl x1), some (.inr (.inr 2)), some (.inl x3), some (.inl x4), none], [], (am_sh, am_mm U1)) R
      refine ev_seg (σ1 := ((d + 1), 242, 108, [some (.inr (.inr 78)), some (.inl x1), some (.inr (.inr 2)), some (.inl x3), some (.inl x4), none], [.inl x3, .inl (U1 78 5), .inr (.inr 78)], (am_sh, am_mm U1))) 4 (fun _ => rfl) ?_
      obtain ⟨r2, U2, h11ac, h11aa⟩ := h11a
      refine ev_cal (σc := (d, 98, 0, [some (.inl x3)], [], (am_sh, am_mm U1))) (fun _ => rfl) h11ac ?_
      show Ev kz ((d + 1), 242, 111, [some (.inr (.inr 78)), some (.inl x1), some (.inr (.inr 2)), some (.inl x3), some (.inl x4), none], [.inl r2, .inl (U1 78 5), .inr (.inr 78)], (am_sh, am_mm U2)) R
      refine ev_seg (σ1 := ((d + 1), 242, 112, [some (.inr (.inr 78)), some (.inl x1), some (.inr (.inr 2)), some (.inl x3), some (.inl x4), none], [.inl (w32 ((U1 78 5) + r2)), .inr (.inr 78)], (am_sh, am_mm U2))) 1 (fun _ => rfl) ?_
      refine eu_puti 78 (n := 6) rfl (by decide) rfl rfl ?_
      subst h11aa
      exact ev_end 1 (fun _ => rfl)
    · have h12 := h1.2 hc
      refine ev_br (P := (w32 (x1 + 1)) < 4) (σ1 := ((d + 1), 242, 116, [some (.inr (.inr 78)), some (.inl x1), some (.inr (.inr 2)), some (.inl x3), some (.inl x4), none], [], (am_sh, am_mm U))) (σ2 := ((d + 1), 242, 96, [some (.inr (.inr 78)), some (.inl x1), some (.inr (.inr 2)), some (.inl x3), some (.inl x4), none], [], (am_sh, am_mm U))) 5 (fun _ => rfl) (fun hc => ?_) (fun hc => ?_)
      · have h121 := h12.1 hc
        refine ev_seg (σ1 := ((d + 1), 242, 119, [some (.inr (.inr 78)), some (.inl x1), some (.inr (.inr 2)), some (.inl x3), some (.inl 1), none], [], (am_sh, am_mm U))) 2 (fun _ => rfl) ?_
        exact h121
      · have h122 := h12.2 hc
        refine ev_seg (σ1 := ((d + 1), 242, 99, [some (.inr (.inr 78)), some (.inl x1), some (.inr (.inr 2)), some (.inl x3), some (.inl x4), none], [.inl x3, .inl x1, .inr (.inr 78)], (am_sh, am_mm U))) 3 (fun _ => rfl) ?_
        obtain ⟨U3, h122c, h122a⟩ := h122
        refine ev_cal (σc := (d, 286, 0, [some (.inr (.inr 78)), some (.inl x1), some (.inl x3)], [], (am_sh, am_mm U))) (fun _ => rfl) h122c ?_
        show Ev kz ((d + 1), 242, 102, [some (.inr (.inr 78)), some (.inl x1), some (.inr (.inr 2)), some (.inl x3), some (.inl x4), none], [], (am_sh, am_mm U3)) R
        refine ev_seg (σ1 := ((d + 1), 242, 108, [some (.inr (.inr 78)), some (.inl x1), some (.inr (.inr 2)), some (.inl x3), some (.inl x4), none], [.inl x3, .inl (U3 78 5), .inr (.inr 78)], (am_sh, am_mm U3))) 4 (fun _ => rfl) ?_
        obtain ⟨r4, U4, h122ac, h122aa⟩ := h122a
        refine ev_cal (σc := (d, 98, 0, [some (.inl x3)], [], (am_sh, am_mm U3))) (fun _ => rfl) h122ac ?_
        show Ev kz ((d + 1), 242, 111, [some (.inr (.inr 78)), some (.inl x1), some (.inr (.inr 2)), some (.inl x3), some (.inl x4), none], [.inl r4, .inl (U3 78 5), .inr (.inr 78)], (am_sh, am_mm U4)) R
        refine ev_seg (σ1 := ((d + 1), 242, 112, [some (.inr (.inr 78)), some (.inl x1), some (.inr (.inr 2)), some (.inl x3), some (.inl x4), none], [.inl (w32 ((U3 78 5) + r4)), .inr (.inr 78)], (am_sh, am_mm U4))) 1 (fun _ => rfl) ?_
        refine eu_puti 78 (n := 6) rfl (by decide) rfl rfl ?_
        subst h122aa
        exact ev_end 1 (fun _ => rfl)
  · have h2 := h.2 hc
    refine ev_seg (σ1 := ((d + 1), 242, 20, [some (.inr (.inr 78)), some (.inl x1), some (.inr (.inr 2)), some (.inl x3), some (.inl x4), none], [.inl x1, .inl x4, .inr (.inr 78), .inl 2, .inr (.inr 2)], (am_sh, am_mm U))) 5 (fun _ => rfl) ?_
    obtain ⟨r5, U5, h2c, h2a⟩ := h2
    refine ev_cal (σc := (d, 285, 0, [some (.inr (.inr 78)), some (.inl x4), some (.inl x1)], [], (am_sh, am_mm U))) (fun _ => rfl) h2c ?_
    show Ev kz ((d + 1), 242, 23, [some (.inr (.inr 78)), some (.inl x1), some (.inr (.inr 2)), some (.inl x3), some (.inl x4), none], [.inl r5, .inl 2, .inr (.inr 2)], (am_sh, am_mm U5)) R
    refine ev_seg (σ1 := ((d + 1), 242, 24, [some (.inr (.inr 78)), some (.inl x1), some (.inr (.inr 2)), some (.inl x3), some (.inl x4), none], [.inl (w32 (2 + r5)), .inr (.inr 2)], (am_sh, am_mm U5))) 1 (fun _ => rfl) ?_
    refine eu_iald 2 (n := 1600) rfl (by decide) rfl (fun _ => rfl) h2a.1 ?_
    have h2aa := h2a.2
    refine ev_br (P := ¬ (U5 2 (w32 (2 + r5)).toNat) = 1) (σ1 := ((d + 1), 242, 33, [some (.inr (.inr 78)), some (.inl x1), some (.inr (.inr 2)), some (.inl x3), some (.inl x4), none], [], (am_sh, am_mm U5))) (σ2 := ((d + 1), 242, 29, [some (.inr (.inr 78)), some (.inl x1), some (.inr (.inr 2)), some (.inl x3), some (.inl x4), none], [], (am_sh, am_mm U5))) 2 (fun _ => rfl) (fun hc => ?_) (fun hc => ?_)
    · have h2aa1 := h2aa.1 hc
      refine ev_br (P := 0 = 0) (σ1 := ((d + 1), 242, 57, [some (.inr (.inr 78)), some (.inl x1), some (.inr (.inr 2)), some (.inl x3), some (.inl x4), some (.inl 0)], [.inl x3], (am_sh, am_mm U5))) (σ2 := ((d + 1), 242, 42, [some (.inr (.inr 78)), some (.inl x1), some (.inr (.inr 2)), some (.inl x3), some (.inl x4), some (.inl 0)], [.inl x3], (am_sh, am_mm U5))) 5 (fun _ => rfl) (fun hc => ?_) (fun hc => ?_)
      · have h2aa11 := h2aa1.1 hc
        refine ev_seg (σ1 := ((d + 1), 242, 67, [some (.inr (.inr 78)), some (.inl x1), some (.inr (.inr 2)), some (.inl x3), some (.inl x4), some (.inl 0)], [.inl x4, .inr (.inr 80), .inr (.inr 79), .inl x3], (am_sh, am_mm U5))) 5 (fun _ => rfl) ?_
        refine eu_iald 80 (n := 4) rfl (by decide) rfl (fun _ => rfl) h2aa11.1 ?_
        have h2aa11a := h2aa11.2
        refine eu_iald 79 (n := 25) rfl (by decide) rfl (fun _ => rfl) h2aa11a.1 ?_
        have h2aa11aa := h2aa11a.2
        refine ev_seg (σ1 := ((d + 1), 242, 8, [some (.inr (.inr 78)), some (.inl x1), some (.inr (.inr 2)), some (.inl (am_and x3 (am_xor (U5 79 (U5 80 x4.toNat).toNat) (-1)))), some (.inl (w32 (x4 + 1))), some (.inl 0)], [], (am_sh, am_mm U5))) 6 (fun _ => rfl) ?_
        exact h2aa11aa
      · have h2aa12 := h2aa1.2 hc
        refine ev_seg (σ1 := ((d + 1), 242, 52, [some (.inr (.inr 78)), some (.inl x1), some (.inr (.inr 2)), some (.inl x3), some (.inl x4), some (.inl 0)], [.inl x4, .inr (.inr 80), .inr (.inr 79), .inl x3], (am_sh, am_mm U5))) 5 (fun _ => rfl) ?_
        refine eu_iald 80 (n := 4) rfl (by decide) rfl (fun _ => rfl) h2aa12.1 ?_
        have h2aa12a := h2aa12.2
        refine eu_iald 79 (n := 25) rfl (by decide) rfl (fun _ => rfl) h2aa12a.1 ?_
        have h2aa12aa := h2aa12a.2
        refine ev_seg (σ1 := ((d + 1), 242, 8, [some (.inr (.inr 78)), some (.inl x1), some (.inr (.inr 2)), some (.inl (am_and x3 (U5 79 (U5 80 x4.toNat).toNat))), some (.inl (w32 (x4 + 1))), some (.inl 0)], [], (am_sh, am_mm U5))) 5 (fun _ => rfl) ?_
        exact h2aa12aa
    · have h2aa2 := h2aa.2 hc
      refine ev_br (P := 1 = 0) (σ1 := ((d + 1), 242, 57, [some (.inr (.inr 78)), some (.inl x1), some (.inr (.inr 2)), some (.inl x3), some (.inl x4), some (.inl 1)], [.inl x3], (am_sh, am_mm U5))) (σ2 := ((d + 1), 242, 42, [some (.inr (.inr 78)), some (.inl x1), some (.inr (.inr 2)), some (.inl x3), some (.inl x4), some (.inl 1)], [.inl x3], (am_sh, am_mm U5))) 6 (fun _ => rfl) (fun hc => ?_) (fun hc => ?_)
      · have h2aa21 := h2aa2.1 hc
        refine ev_seg (σ1 := ((d + 1), 242, 67, [some (.inr (.inr 78)), some (.inl x1), some (.inr (.inr 2)), some (.inl x3), some (.inl x4), some (.inl 1)], [.inl x4, .inr (.inr 80), .inr (.inr 79), .inl x3], (am_sh, am_mm U5))) 5 (fun _ => rfl) ?_
        refine eu_iald 80 (n := 4) rfl (by decide) rfl (fun _ => rfl) h2aa21.1 ?_
        have h2aa21a := h2aa21.2
        refine eu_iald 79 (n := 25) rfl (by decide) rfl (fun _ => rfl) h2aa21a.1 ?_
        have h2aa21aa := h2aa21a.2
        refine ev_seg (σ1 := ((d + 1), 242, 8, [some (.inr (.inr 78)), some (.inl x1), some (.inr (.inr 2)), some (.inl (am_and x3 (am_xor (U5 79 (U5 80 x4.toNat).toNat) (-1)))), some (.inl (w32 (x4 + 1))), some (.inl 1)], [], (am_sh, am_mm U5))) 6 (fun _ => rfl) ?_
        exact h2aa21aa
      · have h2aa22 := h2aa2.2 hc
        refine ev_seg (σ1 := ((d + 1), 242, 52, [some (.inr (.inr 78)), some (.inl x1), some (.inr (.inr 2)), some (.inl x3), some (.inl x4), some (.inl 1)], [.inl x4, .inr (.inr 80), .inr (.inr 79), .inl x3], (am_sh, am_mm U5))) 5 (fun _ => rfl) ?_
        refine eu_iald 80 (n := 4) rfl (by decide) rfl (fun _ => rfl) h2aa22.1 ?_
        have h2aa22a := h2aa22.2
        refine eu_iald 79 (n := 25) rfl (by decide) rfl (fun _ => rfl) h2aa22a.1 ?_
        have h2aa22aa := h2aa22a.2
        refine ev_seg (σ1 := ((d + 1), 242, 8, [some (.inr (.inr 78)), some (.inl x1), some (.inr (.inr 2)), some (.inl (am_and x3 (U5 79 (U5 80 x4.toNat).toNat))), some (.inl (w32 (x4 + 1))), some (.inl 1)], [], (am_sh, am_mm U5))) 5 (fun _ => rfl) ?_
        exact h2aa22aa
set_option maxRecDepth 8000 in
theorem st242_78_2_119 (kz : am_Z) (d : Nat) (x1 x3 x4 : Int) (U : Nat → Nat → Int) (R : Option am_V × am_M) (h : (((24 < x4 : Prop)) → R = (none, (am_sh, am_mm U))) ∧ (¬ (24 < x4) → (((¬ (am_and (am_shr x3 x4) 1) = 1 : Prop)) → Ev kz ((d + 1), 242, 119, [some (.inr (.inr 78)), some (.inl x1), some (.inr (.inr 2)), some (.inl x3), some (.inl (w32 (x4 + 1))), none], [], (am_sh, am_mm U)) R) ∧ (¬ (¬ (am_and (am_shr x3 x4) 1) = 1) → (0 ≤ x1 ∧ x1 < 4) ∧ ∃ U1 : Nat → Nat → Int, Ev kz (d, 242, 0, [some (.inr (.inr 78)), some (.inl (w32 (x1 + 1))), some (.inr (.inr 2)), none, none, none], [], (am_sh, am_mm (am_upd U 80 x1.toNat x4))) (none, (am_sh, am_mm U1)) ∧ Ev kz ((d + 1), 242, 119, [some (.inr (.inr 78)), some (.inl x1), some (.inr (.inr 2)), some (.inl x3), some (.inl (w32 (x4 + 1))), none], [], (am_sh, am_mm U1)) R))) : Ev kz ((d + 1), 242, 119, [some (.inr (.inr 78)), some (.inl x1), some (.inr (.inr 2)), some (.inl x3), some (.inl x4), none], [], (am_sh, am_mm U)) R := by
  refine ev_br (P := 24 < x4) (σ1 := ((d + 1), 242, 158, [some (.inr (.inr 78)), some (.inl x1), some (.inr (.inr 2)), some (.inl x3), some (.inl x4), none], [], (am_sh, am_mm U))) (σ2 := ((d + 1), 242, 126, [some (.inr (.inr 78)), some (.inl x1), some (.inr (.inr 2)), some (.inl x3), some (.inl x4), none], [], (am_sh, am_mm U))) 3 (fun _ => rfl) (fun hc => ?_) (fun hc => ?_)
  · have h1 := h.1 hc
    subst h1
    exact ev_end 1 (fun _ => rfl)
  · have h2 := h.2 hc
    refine ev_br (P := ¬ (am_and (am_shr x3 x4) 1) = 1) (σ1 := ((d + 1), 242, 152, [some (.inr (.inr 78)), some (.inl x1), some (.inr (.inr 2)), some (.inl x3), some (.inl x4), none], [], (am_sh, am_mm U))) (σ2 := ((d + 1), 242, 136, [some (.inr (.inr 78)), some (.inl x1), some (.inr (.inr 2)), some (.inl x3), some (.inl x4), none], [], (am_sh, am_mm U))) 7 (fun _ => rfl) (fun hc => ?_) (fun hc => ?_)
    · have h21 := h2.1 hc
      refine ev_seg (σ1 := ((d + 1), 242, 119, [some (.inr (.inr 78)), some (.inl x1), some (.inr (.inr 2)), some (.inl x3), some (.inl (w32 (x4 + 1))), none], [], (am_sh, am_mm U))) 2 (fun _ => rfl) ?_
      exact h21
    · have h22 := h2.2 hc
      refine ev_seg (σ1 := ((d + 1), 242, 143, [some (.inr (.inr 78)), some (.inl x1), some (.inr (.inr 2)), some (.inl x3), some (.inl x4), none], [.inl x4, .inl x1, .inr (.inr 80)], (am_sh, am_mm U))) 4 (fun _ => rfl) ?_
      refine eu_iast 80 (n := 4) rfl (by decide) rfl (fun _ => rfl) h22.1 ?_
      have h22a := h22.2
      refine ev_seg (σ1 := ((d + 1), 242, 149, [some (.inr (.inr 78)), some (.inl x1), some (.inr (.inr 2)), some (.inl x3), some (.inl x4), none], [.inr (.inr 2), .inl (w32 (x1 + 1)), .inr (.inr 78)], (am_sh, am_mm (am_upd U 80 x1.toNat x4)))) 5 (fun _ => rfl) ?_
      obtain ⟨U1, h22ac, h22aa⟩ := h22a
      refine ev_cal (σc := (d, 242, 0, [some (.inr (.inr 78)), some (.inl (w32 (x1 + 1))), some (.inr (.inr 2)), none, none, none], [], (am_sh, am_mm (am_upd U 80 x1.toNat x4)))) (fun _ => rfl) h22ac ?_
      show Ev kz ((d + 1), 242, 152, [some (.inr (.inr 78)), some (.inl x1), some (.inr (.inr 2)), some (.inl x3), some (.inl x4), none], [], (am_sh, am_mm U1)) R
      refine ev_seg (σ1 := ((d + 1), 242, 119, [some (.inr (.inr 78)), some (.inl x1), some (.inr (.inr 2)), some (.inl x3), some (.inl (w32 (x4 + 1))), none], [], (am_sh, am_mm U1))) 2 (fun _ => rfl) ?_
      exact h22aa
set_option maxRecDepth 8000 in
theorem st243_86_0 (kz : am_Z) (d : Nat) (U : Nat → Nat → Int) (R : Option am_V × am_M) (h : Ev kz ((d + 1), 243, 4, [some (.inr (.inr 86)), some (.inl 0), some (.inl 0), none], [], (am_sh, am_mm U)) R) : Ev kz ((d + 1), 243, 0, [some (.inr (.inr 86)), none, none, none], [], (am_sh, am_mm U)) R := by
  refine ev_seg (σ1 := ((d + 1), 243, 4, [some (.inr (.inr 86)), some (.inl 0), some (.inl 0), none], [], (am_sh, am_mm U))) 4 (fun _ => rfl) ?_
  exact h
set_option maxRecDepth 8000 in
theorem st243_86_4 (kz : am_Z) (d : Nat) (x1 x2 : Int) (U : Nat → Nat → Int) (R : Option am_V × am_M) (h : ((((U 86 82) ≤ x2 : Prop)) → R = (some (.inl 1), (am_sh, am_mm U))) ∧ (¬ ((U 86 82) ≤ x2) → Ev kz ((d + 1), 243, 16, [some (.inr (.inr 86)), some (.inl x1), some (.inl x2), some (.inl (w32 (x2 + 1)))], [], (am_sh, am_mm U)) R)) : Ev kz ((d + 1), 243, 4, [some (.inr (.inr 86)), some (.inl x1), some (.inl x2), none], [], (am_sh, am_mm U)) R := by
  refine ev_br (P := (U 86 82) ≤ x2) (σ1 := ((d + 1), 243, 77, [some (.inr (.inr 86)), some (.inl x1), some (.inl x2), none], [], (am_sh, am_mm U))) (σ2 := ((d + 1), 243, 12, [some (.inr (.inr 86)), some (.inl x1), some (.inl x2), none], [], (am_sh, am_mm U))) 4 (fun _ => rfl) (fun hc => ?_) (fun hc => ?_)
  · have h1 := h.1 hc
    subst h1
    exact ev_end 2 (fun _ => rfl)
  · have h2 := h.2 hc
    refine ev_seg (σ1 := ((d + 1), 243, 16, [some (.inr (.inr 86)), some (.inl x1), some (.inl x2), some (.inl (w32 (x2 + 1)))], [], (am_sh, am_mm U))) 4 (fun _ => rfl) ?_
    exact h2
set_option maxRecDepth 8000 in
theorem st243_86_16 (kz : am_Z) (d : Nat) (x1 x2 x3 : Int) (U : Nat → Nat → Int) (R : Option am_V × am_M) (h : ((((U 86 82) ≤ x3 : Prop)) → Ev kz ((d + 1), 243, 4, [some (.inr (.inr 86)), some (.inl x1), some (.inl (w32 (x2 + 1))), some (.inl x3)], [], (am_sh, am_mm U)) R) ∧ (¬ ((U 86 82) ≤ x3) → (0 ≤ x2 ∧ x2 < 4) ∧ (0 ≤ x3 ∧ x3 < 4) ∧ ∃ (r1 : Int) (U1 : Nat → Nat → Int), Ev kz (d, 154, 0, [some (.inr (.inl (U 136 x2.toNat))), none, some (.inr (.inl (U 136 x3.toNat))), none, none, none, none, none, none, none], [], (am_sh, am_mm U)) (some (.inr (.inl r1)), (am_sh, am_mm U1)) ∧ ((((am_lcmp r1 1) ≤ 0 : Prop)) → (0 ≤ x1 ∧ x1 < 6) ∧ (((0 = (U1 135 x1.toNat) : Prop)) → Ev kz ((d + 1), 243, 16, [some (.inr (.inr 86)), some (.inl (w32 (x1 + 1))), some (.inl x2), some (.inl (w32 (x3 + 1)))], [], (am_sh, am_mm U1)) R) ∧ (¬ (0 = (U1 135 x1.toNat)) → R = (some (.inl 0), (am_sh, am_mm U1)))) ∧ (¬ ((am_lcmp r1 1) ≤ 0) → (0 ≤ x1 ∧ x1 < 6) ∧ (((1 = (U1 135 x1.toNat) : Prop)) → Ev kz ((d + 1), 243, 16, [some (.inr (.inr 86)), some (.inl (w32 (x1 + 1))), some (.inl x2), some (.inl (w32 (x3 + 1)))], [], (am_sh, am_mm U1)) R) ∧ (¬ (1 = (U1 135 x1.toNat)) → R = (some (.inl 0), (am_sh, am_mm U1)))))) : Ev kz ((d + 1), 243, 16, [some (.inr (.inr 86)), some (.inl x1), some (.inl x2), some (.inl x3)], [], (am_sh, am_mm U)) R := by
  refine ev_br (P := (U 86 82) ≤ x3) (σ1 := ((d + 1), 243, 71, [some (.inr (.inr 86)), some (.inl x1), some (.inl x2), some (.inl x3)], [], (am_sh, am_mm U))) (σ2 := ((d + 1), 243, 24, [some (.inr (.inr 86)), some (.inl x1), some (.inl x2), some (.inl x3)], [], (am_sh, am_mm U))) 4 (fun _ => rfl) (fun hc => ?_) (fun hc => ?_)
  · have h1 := h.1 hc
    refine ev_seg (σ1 := ((d + 1), 243, 4, [some (.inr (.inr 86)), some (.inl x1), some (.inl (w32 (x2 + 1))), some (.inl x3)], [], (am_sh, am_mm U))) 2 (fun _ => rfl) ?_
    exact h1
  · have h2 := h.2 hc
    refine ev_seg (σ1 := ((d + 1), 243, 29, [some (.inr (.inr 86)), some (.inl x1), some (.inl x2), some (.inl x3)], [.inl x2, .inr (.inr 136)], (am_sh, am_mm U))) 3 (fun _ => rfl) ?_
    refine eu_iald 136 (n := 4) rfl (by decide) rfl (fun _ => rfl) h2.1 ?_
    have h2a := h2.2
    refine ev_seg (σ1 := ((d + 1), 243, 36, [some (.inr (.inr 86)), some (.inl x1), some (.inl x2), some (.inl x3)], [.inl x3, .inr (.inr 136), .inr (.inl (U 136 x2.toNat))], (am_sh, am_mm U))) 4 (fun _ => rfl) ?_
    refine eu_iald 136 (n := 4) rfl (by decide) rfl (fun _ => rfl) h2a.1 ?_
    have h2aa := h2a.2
    refine ev_seg (σ1 := ((d + 1), 243, 38, [some (.inr (.inr 86)), some (.inl x1), some (.inl x2), some (.inl x3)], [.inr (.inl (U 136 x3.toNat)), .inr (.inl (U 136 x2.toNat))], (am_sh, am_mm U))) 1 (fun _ => rfl) ?_
    obtain ⟨r1, U1, h2aac, h2aaa⟩ := h2aa
    refine ev_cal (σc := (d, 154, 0, [some (.inr (.inl (U 136 x2.toNat))), none, some (.inr (.inl (U 136 x3.toNat))), none, none, none, none, none, none, none], [], (am_sh, am_mm U))) (fun _ => rfl) h2aac ?_
    show Ev kz ((d + 1), 243, 41, [some (.inr (.inr 86)), some (.inl x1), some (.inl x2), some (.inl x3)], [.inr (.inl r1)], (am_sh, am_mm U1)) R
    refine ev_br (P := (am_lcmp r1 1) ≤ 0) (σ1 := ((d + 1), 243, 50, [some (.inr (.inr 86)), some (.inl x1), some (.inl x2), some (.inl x3)], [], (am_sh, am_mm U1))) (σ2 := ((d + 1), 243, 46, [some (.inr (.inr 86)), some (.inl x1), some (.inl x2), some (.inl x3)], [], (am_sh, am_mm U1))) 3 (fun _ => rfl) (fun hc => ?_) (fun hc => ?_)
    · have h2aaa1 := h2aaa.1 hc
      refine ev_seg (σ1 := ((d + 1), 243, 56, [some (.inr (.inr 86)), some (.inl x1), some (.inl x2), some (.inl x3)], [.inl x1, .inr (.inr 135), .inl 0], (am_sh, am_mm U1))) 4 (fun _ => rfl) ?_
      refine eu_iald 135 (n := 6) rfl (by decide) rfl (fun _ => rfl) h2aaa1.1 ?_
      have h2aaa1a := h2aaa1.2
      refine ev_br (P := 0 = (U1 135 x1.toNat)) (σ1 := ((d + 1), 243, 62, [some (.inr (.inr 86)), some (.inl x1), some (.inl x2), some (.inl x3)], [], (am_sh, am_mm U1))) (σ2 := ((d + 1), 243, 60, [some (.inr (.inr 86)), some (.inl x1), some (.inl x2), some (.inl x3)], [], (am_sh, am_mm U1))) 1 (fun _ => rfl) (fun hc => ?_) (fun hc => ?_)
      · have h2aaa1a1 := h2aaa1a.1 hc
        refine ev_seg (σ1 := ((d + 1), 243, 16, [some (.inr (.inr 86)), some (.inl (w32 (x1 + 1))), some (.inl x2), some (.inl (w32 (x3 + 1)))], [], (am_sh, am_mm U1))) 3 (fun _ => rfl) ?_
        exact h2aaa1a1
      · have h2aaa1a2 := h2aaa1a.2 hc
        subst h2aaa1a2
        exact ev_end 2 (fun _ => rfl)
    · have h2aaa2 := h2aaa.2 hc
      refine ev_seg (σ1 := ((d + 1), 243, 56, [some (.inr (.inr 86)), some (.inl x1), some (.inl x2), some (.inl x3)], [.inl x1, .inr (.inr 135), .inl 1], (am_sh, am_mm U1))) 5 (fun _ => rfl) ?_
      refine eu_iald 135 (n := 6) rfl (by decide) rfl (fun _ => rfl) h2aaa2.1 ?_
      have h2aaa2a := h2aaa2.2
      refine ev_br (P := 1 = (U1 135 x1.toNat)) (σ1 := ((d + 1), 243, 62, [some (.inr (.inr 86)), some (.inl x1), some (.inl x2), some (.inl x3)], [], (am_sh, am_mm U1))) (σ2 := ((d + 1), 243, 60, [some (.inr (.inr 86)), some (.inl x1), some (.inl x2), some (.inl x3)], [], (am_sh, am_mm U1))) 1 (fun _ => rfl) (fun hc => ?_) (fun hc => ?_)
      · have h2aaa2a1 := h2aaa2a.1 hc
        refine ev_seg (σ1 := ((d + 1), 243, 16, [some (.inr (.inr 86)), some (.inl (w32 (x1 + 1))), some (.inl x2), some (.inl (w32 (x3 + 1)))], [], (am_sh, am_mm U1))) 3 (fun _ => rfl) ?_
        exact h2aaa2a1
      · have h2aaa2a2 := h2aaa2a.2 hc
        subst h2aaa2a2
        exact ev_end 2 (fun _ => rfl)
