theorem st53_1_0 (kz : am_Z) (d : Nat) (x1 x2 : Int) (U : Nat → Nat → Int) (R : Option am_V × am_M) (h : (((x1 < 0 : Prop)) → R = (some (.inl (-1)), (am_sh, am_mm U))) ∧ (¬ (x1 < 0) → (((x1 < (U 3 0) : Prop)) → ∃ U1 : Nat → Nat → Int, Ev kz (d, 147, 0, [some (.inr (.inr 82)), some (.inr (.inl 0)), none, none, none, none], [], (am_sh, am_mm U)) (none, (am_sh, am_mm U1)) ∧ Ev kz ((d + 1), 53, 27, [some (.inr (.inr 1)), some (.inl x1), some (.inl x2), some (.inl 0)], [], (am_sh, am_mm U1)) R) ∧ (¬ (x1 < (U 3 0)) → R = (some (.inl (-1)), (am_sh, am_mm U))))) : Ev kz ((d + 1), 53, 0, [some (.inr (.inr 1)), some (.inl x1), some (.inl x2), none], [], (am_sh, am_mm U)) R := by
  refine ev_br (P := x1 < 0) (σ1 := ((d + 1), 53, 15, [some (.inr (.inr 1)), some (.inl x1), some (.inl x2), none], [], (am_sh, am_mm U))) (σ2 := ((d + 1), 53, 4, [some (.inr (.inr 1)), some (.inl x1), some (.inl x2), none], [], (am_sh, am_mm U))) 2 (fun _ => rfl) (fun hc => ?_) (fun hc => ?_)
  · have h1 := h.1 hc
    subst h1
    exact ev_end 2 (fun _ => rfl)
  · have h2 := h.2 hc
    refine ev_br (P := x1 < (U 3 0)) (σ1 := ((d + 1), 53, 17, [some (.inr (.inr 1)), some (.inl x1), some (.inl x2), none], [], (am_sh, am_mm U))) (σ2 := ((d + 1), 53, 15, [some (.inr (.inr 1)), some (.inl x1), some (.inl x2), none], [], (am_sh, am_mm U))) 5 (fun _ => rfl) (fun hc => ?_) (fun hc => ?_)
    · have h21 := h2.1 hc
      refine ev_seg (σ1 := ((d + 1), 53, 22, [some (.inr (.inr 1)), some (.inl x1), some (.inl x2), none], [.inr (.inl 0), .inr (.inr 82)], (am_sh, am_mm U))) 3 (fun _ => rfl) ?_
      obtain ⟨U1, h21c, h21a⟩ := h21
      refine ev_cal (σc := (d, 147, 0, [some (.inr (.inr 82)), some (.inr (.inl 0)), none, none, none, none], [], (am_sh, am_mm U))) (fun _ => rfl) h21c ?_
      show Ev kz ((d + 1), 53, 25, [some (.inr (.inr 1)), some (.inl x1), some (.inl x2), none], [], (am_sh, am_mm U1)) R
      refine ev_seg (σ1 := ((d + 1), 53, 27, [some (.inr (.inr 1)), some (.inl x1), some (.inl x2), some (.inl 0)], [], (am_sh, am_mm U1))) 2 (fun _ => rfl) ?_
      exact h21a
    · have h22 := h2.2 hc
      subst h22
      exact ev_end 2 (fun _ => rfl)
theorem st53_1_27 (kz : am_Z) (d : Nat) (x1 x2 x3 : Int) (U : Nat → Nat → Int) (R : Option am_V × am_M) (h : ((((U 3 1) ≤ x3 : Prop)) → (((¬ x2 = 20 : Prop)) → (((¬ x2 = 21 : Prop)) → ∃ (r1 : Int) (U1 : Nat → Nat → Int), Ev kz (d, 148, 0, [some (.inr (.inr 82)), some (.inl x2)], [], (am_sh, am_mm U)) (some (.inl r1), (am_sh, am_mm U1)) ∧ R = (some (.inl r1), (am_sh, am_mm U1))) ∧ (¬ (¬ x2 = 21) → R = (some (.inl (U 82 3)), (am_sh, am_mm U)))) ∧ (¬ (¬ x2 = 20) → R = (some (.inl (U 82 2)), (am_sh, am_mm U)))) ∧ (¬ ((U 3 1) ≤ x3) → (0 ≤ x3 ∧ x3 < 12) ∧ (((¬ (U 6 x3.toNat) = x1 : Prop)) → Ev kz ((d + 1), 53, 27, [some (.inr (.inr 1)), some (.inl x1), some (.inl x2), some (.inl (w32 (x3 + 1)))], [], (am_sh, am_mm U)) R) ∧ (¬ (¬ (U 6 x3.toNat) = x1) → ∃ U2 : Nat → Nat → Int, Ev kz (d, 158, 0, [some (.inr (.inr 1)), some (.inl x3), none], [], (am_sh, am_mm U)) (none, (am_sh, am_mm U2)) ∧ Ev kz ((d + 1), 53, 27, [some (.inr (.inr 1)), some (.inl x1), some (.inl x2), some (.inl (w32 (x3 + 1)))], [], (am_sh, am_mm U2)) R))) : Ev kz ((d + 1), 53, 27, [some (.inr (.inr 1)), some (.inl x1), some (.inl x2), some (.inl x3)], [], (am_sh, am_mm U)) R := by
  refine ev_br (P := (U 3 1) ≤ x3) (σ1 := ((d + 1), 53, 62, [some (.inr (.inr 1)), some (.inl x1), some (.inl x2), some (.inl x3)], [], (am_sh, am_mm U))) (σ2 := ((d + 1), 53, 38, [some (.inr (.inr 1)), some (.inl x1), some (.inl x2), some (.inl x3)], [], (am_sh, am_mm U))) 5 (fun _ => rfl) (fun hc => ?_) (fun hc => ?_)
  · have h1 := h.1 hc
    refine ev_br (P := ¬ x2 = 20) (σ1 := ((d + 1), 53, 76, [some (.inr (.inr 1)), some (.inl x1), some (.inl x2), some (.inl x3)], [], (am_sh, am_mm U))) (σ2 := ((d + 1), 53, 68, [some (.inr (.inr 1)), some (.inl x1), some (.inl x2), some (.inl x3)], [], (am_sh, am_mm U))) 3 (fun _ => rfl) (fun hc => ?_) (fun hc => ?_)
    · have h11 := h1.1 hc
      refine ev_br (P := ¬ x2 = 21) (σ1 := ((d + 1), 53, 92, [some (.inr (.inr 1)), some (.inl x1), some (.inl x2), some (.inl x3)], [], (am_sh, am_mm U))) (σ2 := ((d + 1), 53, 82, [some (.inr (.inr 1)), some (.inl x1), some (.inl x2), some (.inl x3)], [], (am_sh, am_mm U))) 3 (fun _ => rfl) (fun hc => ?_) (fun hc => ?_)
      · have h111 := h11.1 hc
        refine ev_seg (σ1 := ((d + 1), 53, 97, [some (.inr (.inr 1)), some (.inl x1), some (.inl x2), some (.inl x3)], [.inl x2, .inr (.inr 82)], (am_sh, am_mm U))) 3 (fun _ => rfl) ?_
        obtain ⟨r1, U1, h111c, h111a⟩ := h111
        refine ev_cal (σc := (d, 148, 0, [some (.inr (.inr 82)), some (.inl x2)], [], (am_sh, am_mm U))) (fun _ => rfl) h111c ?_
        show Ev kz ((d + 1), 53, 100, [some (.inr (.inr 1)), some (.inl x1), some (.inl x2), some (.inl x3)], [.inl r1], (am_sh, am_mm U1)) R
        subst h111a
        exact ev_end 1 (fun _ => rfl)
      · have h112 := h11.2 hc
        subst h112
        exact ev_end 5 (fun _ => rfl)
    · have h12 := h1.2 hc
      subst h12
      exact ev_end 4 (fun _ => rfl)
  · have h2 := h.2 hc
    refine ev_seg (σ1 := ((d + 1), 53, 46, [some (.inr (.inr 1)), some (.inl x1), some (.inl x2), some (.inl x3)], [.inl x3, .inr (.inr 6)], (am_sh, am_mm U))) 4 (fun _ => rfl) ?_
    refine eu_iald 6 (n := 12) rfl (by decide) rfl (fun _ => rfl) h2.1 ?_
    have h2a := h2.2
    refine ev_br (P := ¬ (U 6 x3.toNat) = x1) (σ1 := ((d + 1), 53, 56, [some (.inr (.inr 1)), some (.inl x1), some (.inl x2), some (.inl x3)], [], (am_sh, am_mm U))) (σ2 := ((d + 1), 53, 51, [some (.inr (.inr 1)), some (.inl x1), some (.inl x2), some (.inl x3)], [], (am_sh, am_mm U))) 2 (fun _ => rfl) (fun hc => ?_) (fun hc => ?_)
    · have h2a1 := h2a.1 hc
      refine ev_seg (σ1 := ((d + 1), 53, 27, [some (.inr (.inr 1)), some (.inl x1), some (.inl x2), some (.inl (w32 (x3 + 1)))], [], (am_sh, am_mm U))) 2 (fun _ => rfl) ?_
      exact h2a1
    · have h2a2 := h2a.2 hc
      refine ev_seg (σ1 := ((d + 1), 53, 53, [some (.inr (.inr 1)), some (.inl x1), some (.inl x2), some (.inl x3)], [.inl x3, .inr (.inr 1)], (am_sh, am_mm U))) 2 (fun _ => rfl) ?_
      obtain ⟨U2, h2a2c, h2a2a⟩ := h2a2
      refine ev_cal (σc := (d, 158, 0, [some (.inr (.inr 1)), some (.inl x3), none], [], (am_sh, am_mm U))) (fun _ => rfl) h2a2c ?_
      show Ev kz ((d + 1), 53, 56, [some (.inr (.inr 1)), some (.inl x1), some (.inl x2), some (.inl x3)], [], (am_sh, am_mm U2)) R
      refine ev_seg (σ1 := ((d + 1), 53, 27, [some (.inr (.inr 1)), some (.inl x1), some (.inl x2), some (.inl (w32 (x3 + 1)))], [], (am_sh, am_mm U2))) 2 (fun _ => rfl) ?_
      exact h2a2a
theorem st54_86_0 (kz : am_Z) (d : Nat) (x1 x2 : Int) (U : Nat → Nat → Int) (R : Option am_V × am_M) (h : ∃ (r1 : Int) (U1 : Nat → Nat → Int), Ev kz (d, 159, 0, [some (.inr (.inr 86)), some (.inl x1)], [], (am_sh, am_mm U)) (some (.inl r1), (am_sh, am_mm U1)) ∧ (((r1 = 0 : Prop)) → R = (some (.inl (-1)), (am_sh, am_mm U1))) ∧ (¬ (r1 = 0) → ∃ (r2 : Int) (U2 : Nat → Nat → Int), Ev kz (d, 103, 0, [some (.inl x2), some (.inl (-1)), some (.inl 21)], [], (am_sh, am_mm U1)) (some (.inl r2), (am_sh, am_mm U2)) ∧ (((¬ r2 = 0 : Prop)) → Ev kz ((d + 1), 54, 37, [some (.inr (.inr 86)), some (.inl x1), some (.inl x2), some (.inl 0), none], [], (am_sh, am_mm (am_upd (am_upd (am_upd U2 86 76 0) 86 77 0) 86 78 0))) R) ∧ (¬ (¬ r2 = 0) → R = (some (.inl (-1)), (am_sh, am_mm U2))))) : Ev kz ((d + 1), 54, 0, [some (.inr (.inr 86)), some (.inl x1), some (.inl x2), none, none], [], (am_sh, am_mm U)) R := by
  refine ev_seg (σ1 := ((d + 1), 54, 2, [some (.inr (.inr 86)), some (.inl x1), some (.inl x2), none, none], [.inl x1, .inr (.inr 86)], (am_sh, am_mm U))) 2 (fun _ => rfl) ?_
  obtain ⟨r1, U1, hc, ha⟩ := h
  refine ev_cal (σc := (d, 159, 0, [some (.inr (.inr 86)), some (.inl x1)], [], (am_sh, am_mm U))) (fun _ => rfl) hc ?_
  show Ev kz ((d + 1), 54, 5, [some (.inr (.inr 86)), some (.inl x1), some (.inl x2), none, none], [.inl r1], (am_sh, am_mm U1)) R
  refine ev_br (P := r1 = 0) (σ1 := ((d + 1), 54, 18, [some (.inr (.inr 86)), some (.inl x1), some (.inl x2), none, none], [], (am_sh, am_mm U1))) (σ2 := ((d + 1), 54, 8, [some (.inr (.inr 86)), some (.inl x1), some (.inl x2), none, none], [], (am_sh, am_mm U1))) 1 (fun _ => rfl) (fun hc => ?_) (fun hc => ?_)
  · have ha1 := ha.1 hc
    subst ha1
    exact ev_end 2 (fun _ => rfl)
  · have ha2 := ha.2 hc
    refine ev_seg (σ1 := ((d + 1), 54, 12, [some (.inr (.inr 86)), some (.inl x1), some (.inl x2), none, none], [.inl 21, .inl (-1), .inl x2], (am_sh, am_mm U1))) 3 (fun _ => rfl) ?_
    obtain ⟨r2, U2, ha2c, ha2a⟩ := ha2
    refine ev_cal (σc := (d, 103, 0, [some (.inl x2), some (.inl (-1)), some (.inl 21)], [], (am_sh, am_mm U1))) (fun _ => rfl) ha2c ?_
    show Ev kz ((d + 1), 54, 15, [some (.inr (.inr 86)), some (.inl x1), some (.inl x2), none, none], [.inl r2], (am_sh, am_mm U2)) R
    refine ev_br (P := ¬ r2 = 0) (σ1 := ((d + 1), 54, 20, [some (.inr (.inr 86)), some (.inl x1), some (.inl x2), none, none], [], (am_sh, am_mm U2))) (σ2 := ((d + 1), 54, 18, [some (.inr (.inr 86)), some (.inl x1), some (.inl x2), none, none], [], (am_sh, am_mm U2))) 1 (fun _ => rfl) (fun hc => ?_) (fun hc => ?_)
    · have ha2a1 := ha2a.1 hc
      refine ev_seg (σ1 := ((d + 1), 54, 22, [some (.inr (.inr 86)), some (.inl x1), some (.inl x2), none, none], [.inr (.inl 0), .inr (.inr 86)], (am_sh, am_mm U2))) 2 (fun _ => rfl) ?_
      refine eu_putj 86 (n := 90) rfl (by decide) rfl rfl ?_
      refine ev_seg (σ1 := ((d + 1), 54, 27, [some (.inr (.inr 86)), some (.inl x1), some (.inl x2), none, none], [.inl 0, .inr (.inr 86)], (am_sh, am_mm (am_upd U2 86 76 0)))) 2 (fun _ => rfl) ?_
      refine eu_puti 86 (n := 90) rfl (by decide) rfl rfl ?_
      refine ev_seg (σ1 := ((d + 1), 54, 32, [some (.inr (.inr 86)), some (.inl x1), some (.inl x2), none, none], [.inl 0, .inr (.inr 86)], (am_sh, am_mm (am_upd (am_upd U2 86 76 0) 86 77 0)))) 2 (fun _ => rfl) ?_
      refine eu_puti 86 (n := 90) rfl (by decide) rfl rfl ?_
      refine ev_seg (σ1 := ((d + 1), 54, 37, [some (.inr (.inr 86)), some (.inl x1), some (.inl x2), some (.inl 0), none], [], (am_sh, am_mm (am_upd (am_upd (am_upd U2 86 76 0) 86 77 0) 86 78 0)))) 2 (fun _ => rfl) ?_
      exact ha2a1
    · have ha2a2 := ha2a.2 hc
      subst ha2a2
      exact ev_end 2 (fun _ => rfl)
theorem st54_86_37 (kz : am_Z) (d : Nat) (x1 x2 x3 : Int) (U : Nat → Nat → Int) (R : Option am_V × am_M) (h : (0 ≤ (U 86 13) ∧ (U 86 13) < 2) ∧ ((((U 90 (U 86 13).toNat) ≤ x3 : Prop)) → (((¬ x2 = (-1) : Prop)) → (((¬ x2 = 20 : Prop)) → (((¬ x2 = 21 : Prop)) → ∃ (r1 : Int) (U1 : Nat → Nat → Int), Ev kz (d, 150, 0, [some (.inr (.inl (U 86 76))), none, some (.inl x2), none, none, none], [], (am_sh, am_mm U)) (some (.inl r1), (am_sh, am_mm U1)) ∧ R = (some (.inl r1), (am_sh, am_mm U1))) ∧ (¬ (¬ x2 = 21) → R = (some (.inl (U 86 78)), (am_sh, am_mm U)))) ∧ (¬ (¬ x2 = 20) → R = (some (.inl (U 86 77)), (am_sh, am_mm U)))) ∧ (¬ (¬ x2 = (-1)) → ∃ (r2 : Int) (U2 : Nat → Nat → Int), Ev kz (d, 149, 0, [some (.inr (.inl (U 86 76))), none, none, none, none], [], (am_sh, am_mm U)) (some (.inl r2), (am_sh, am_mm U2)) ∧ R = (some (.inl r2), (am_sh, am_mm U2)))) ∧ (¬ ((U 90 (U 86 13).toNat) ≤ x3) → Ev kz ((d + 1), 54, 53, [some (.inr (.inr 86)), some (.inl x1), some (.inl x2), some (.inl x3), some (.inl 0)], [], (am_sh, am_mm U)) R)) : Ev kz ((d + 1), 54, 37, [some (.inr (.inr 86)), some (.inl x1), some (.inl x2), some (.inl x3), none], [], (am_sh, am_mm U)) R := by
  refine ev_seg (σ1 := ((d + 1), 54, 46, [some (.inr (.inr 86)), some (.inl x1), some (.inl x2), some (.inl x3), none], [.inl (U 86 13), .inr (.inr 90), .inl x3], (am_sh, am_mm U))) 5 (fun _ => rfl) ?_
  refine eu_iald 90 (n := 2) rfl (by decide) rfl (fun _ => rfl) h.1 ?_
  have ha := h.2
  refine ev_br (P := (U 90 (U 86 13).toNat) ≤ x3) (σ1 := ((d + 1), 54, 106, [some (.inr (.inr 86)), some (.inl x1), some (.inl x2), some (.inl x3), none], [], (am_sh, am_mm U))) (σ2 := ((d + 1), 54, 50, [some (.inr (.inr 86)), some (.inl x1), some (.inl x2), some (.inl x3), none], [], (am_sh, am_mm U))) 1 (fun _ => rfl) (fun hc => ?_) (fun hc => ?_)
  · have ha1 := ha.1 hc
    refine ev_br (P := ¬ x2 = (-1)) (σ1 := ((d + 1), 54, 121, [some (.inr (.inr 86)), some (.inl x1), some (.inl x2), some (.inl x3), none], [], (am_sh, am_mm U))) (σ2 := ((d + 1), 54, 111, [some (.inr (.inr 86)), some (.inl x1), some (.inl x2), some (.inl x3), none], [], (am_sh, am_mm U))) 3 (fun _ => rfl) (fun hc => ?_) (fun hc => ?_)
    · have ha11 := ha1.1 hc
      refine ev_br (P := ¬ x2 = 20) (σ1 := ((d + 1), 54, 134, [some (.inr (.inr 86)), some (.inl x1), some (.inl x2), some (.inl x3), none], [], (am_sh, am_mm U))) (σ2 := ((d + 1), 54, 127, [some (.inr (.inr 86)), some (.inl x1), some (.inl x2), some (.inl x3), none], [], (am_sh, am_mm U))) 3 (fun _ => rfl) (fun hc => ?_) (fun hc => ?_)
      · have ha111 := ha11.1 hc
        refine ev_br (P := ¬ x2 = 21) (σ1 := ((d + 1), 54, 147, [some (.inr (.inr 86)), some (.inl x1), some (.inl x2), some (.inl x3), none], [], (am_sh, am_mm U))) (σ2 := ((d + 1), 54, 140, [some (.inr (.inr 86)), some (.inl x1), some (.inl x2), some (.inl x3), none], [], (am_sh, am_mm U))) 3 (fun _ => rfl) (fun hc => ?_) (fun hc => ?_)
        · have ha1111 := ha111.1 hc
          refine ev_seg (σ1 := ((d + 1), 54, 152, [some (.inr (.inr 86)), some (.inl x1), some (.inl x2), some (.inl x3), none], [.inl x2, .inr (.inl (U 86 76))], (am_sh, am_mm U))) 3 (fun _ => rfl) ?_
          obtain ⟨r1, U1, ha1111c, ha1111a⟩ := ha1111
          refine ev_cal (σc := (d, 150, 0, [some (.inr (.inl (U 86 76))), none, some (.inl x2), none, none, none], [], (am_sh, am_mm U))) (fun _ => rfl) ha1111c ?_
          show Ev kz ((d + 1), 54, 155, [some (.inr (.inr 86)), some (.inl x1), some (.inl x2), some (.inl x3), none], [.inl r1], (am_sh, am_mm U1)) R
          subst ha1111a
          exact ev_end 1 (fun _ => rfl)
        · have ha1112 := ha111.2 hc
          subst ha1112
          exact ev_end 4 (fun _ => rfl)
      · have ha112 := ha11.2 hc
        subst ha112
        exact ev_end 4 (fun _ => rfl)
    · have ha12 := ha1.2 hc
      refine ev_seg (σ1 := ((d + 1), 54, 115, [some (.inr (.inr 86)), some (.inl x1), some (.inl x2), some (.inl x3), none], [.inr (.inl (U 86 76))], (am_sh, am_mm U))) 2 (fun _ => rfl) ?_
      obtain ⟨r2, U2, ha12c, ha12a⟩ := ha12
      refine ev_cal (σc := (d, 149, 0, [some (.inr (.inl (U 86 76))), none, none, none, none], [], (am_sh, am_mm U))) (fun _ => rfl) ha12c ?_
      show Ev kz ((d + 1), 54, 118, [some (.inr (.inr 86)), some (.inl x1), some (.inl x2), some (.inl x3), none], [.inl r2], (am_sh, am_mm U2)) R
      subst ha12a
      exact ev_end 2 (fun _ => rfl)
  · have ha2 := ha.2 hc
    refine ev_seg (σ1 := ((d + 1), 54, 53, [some (.inr (.inr 86)), some (.inl x1), some (.inl x2), some (.inl x3), some (.inl 0)], [], (am_sh, am_mm U))) 2 (fun _ => rfl) ?_
    exact ha2
theorem st54_86_53 (kz : am_Z) (d : Nat) (x1 x2 x3 x4 : Int) (U : Nat → Nat → Int) (R : Option am_V × am_M) (h : ((((U 122 0) ≤ x4 : Prop)) → Ev kz ((d + 1), 54, 37, [some (.inr (.inr 86)), some (.inl x1), some (.inl x2), some (.inl (w32 (x3 + 1))), some (.inl x4)], [], (am_sh, am_mm U)) R) ∧ (¬ ((U 122 0) ≤ x4) → ∃ (r1 : Int) (U1 : Nat → Nat → Int), Ev kz (d, 109, 0, [some (.inr (.inr 86)), some (.inl x3)], [], (am_sh, am_mm U)) (some (.inl r1), (am_sh, am_mm U1)) ∧ (((¬ r1 = x1 : Prop)) → Ev kz ((d + 1), 54, 53, [some (.inr (.inr 86)), some (.inl x1), some (.inl x2), some (.inl x3), some (.inl (w32 (x4 + 1)))], [], (am_sh, am_mm U1)) R) ∧ (¬ (¬ r1 = x1) → (0 ≤ x4 ∧ x4 < 352) ∧ (((¬ (U1 124 x4.toNat) = x3 : Prop)) → Ev kz ((d + 1), 54, 53, [some (.inr (.inr 86)), some (.inl x1), some (.inl x2), some (.inl x3), some (.inl (w32 (x4 + 1)))], [], (am_sh, am_mm U1)) R) ∧ (¬ (¬ (U1 124 x4.toNat) = x3) → ∃ (r2 : Int) (U2 : Nat → Nat → Int), Ev kz (d, 121, 0, [some (.inr (.inr 86)), some (.inl x4)], [], (am_sh, am_mm U1)) (some (.inr (.inl r2)), (am_sh, am_mm U2)) ∧ ∃ U3 : Nat → Nat → Int, Ev kz (d, 160, 0, [some (.inr (.inr 86)), some (.inr (.inl r2)), none, none, none, none, none, none, none], [], (am_sh, am_mm U2)) (none, (am_sh, am_mm U3)) ∧ Ev kz ((d + 1), 54, 53, [some (.inr (.inr 86)), some (.inl x1), some (.inl x2), some (.inl x3), some (.inl (w32 (x4 + 1)))], [], (am_sh, am_mm U3)) R)))) : Ev kz ((d + 1), 54, 53, [some (.inr (.inr 86)), some (.inl x1), some (.inl x2), some (.inl x3), some (.inl x4)], [], (am_sh, am_mm U)) R := by
  refine ev_seg (σ1 := ((d + 1), 54, 60, [some (.inr (.inr 86)), some (.inl x1), some (.inl x2), some (.inl x3), some (.inl x4)], [.inl 0, .inr (.inr 122), .inl x4], (am_sh, am_mm U))) 4 (fun _ => rfl) ?_
  refine eu_iald 122 (n := 22) rfl (by decide) rfl (fun _ => rfl) (by decide) ?_
  show Ev kz ((d + 1), 54, 61, [some (.inr (.inr 86)), some (.inl x1), some (.inl x2), some (.inl x3), some (.inl x4)], [.inl (U 122 0), .inl x4], (am_sh, am_mm U)) R
  refine ev_br (P := (U 122 0) ≤ x4) (σ1 := ((d + 1), 54, 100, [some (.inr (.inr 86)), some (.inl x1), some (.inl x2), some (.inl x3), some (.inl x4)], [], (am_sh, am_mm U))) (σ2 := ((d + 1), 54, 64, [some (.inr (.inr 86)), some (.inl x1), some (.inl x2), some (.inl x3), some (.inl x4)], [], (am_sh, am_mm U))) 1 (fun _ => rfl) (fun hc => ?_) (fun hc => ?_)
  · have h1 := h.1 hc
    refine ev_seg (σ1 := ((d + 1), 54, 37, [some (.inr (.inr 86)), some (.inl x1), some (.inl x2), some (.inl (w32 (x3 + 1))), some (.inl x4)], [], (am_sh, am_mm U))) 2 (fun _ => rfl) ?_
    exact h1
  · have h2 := h.2 hc
    refine ev_seg (σ1 := ((d + 1), 54, 66, [some (.inr (.inr 86)), some (.inl x1), some (.inl x2), some (.inl x3), some (.inl x4)], [.inl x3, .inr (.inr 86)], (am_sh, am_mm U))) 2 (fun _ => rfl) ?_
    obtain ⟨r1, U1, h2c, h2a⟩ := h2
    refine ev_cal (σc := (d, 109, 0, [some (.inr (.inr 86)), some (.inl x3)], [], (am_sh, am_mm U))) (fun _ => rfl) h2c ?_
    show Ev kz ((d + 1), 54, 69, [some (.inr (.inr 86)), some (.inl x1), some (.inl x2), some (.inl x3), some (.inl x4)], [.inl r1], (am_sh, am_mm U1)) R
    refine ev_br (P := ¬ r1 = x1) (σ1 := ((d + 1), 54, 94, [some (.inr (.inr 86)), some (.inl x1), some (.inl x2), some (.inl x3), some (.inl x4)], [], (am_sh, am_mm U1))) (σ2 := ((d + 1), 54, 73, [some (.inr (.inr 86)), some (.inl x1), some (.inl x2), some (.inl x3), some (.inl x4)], [], (am_sh, am_mm U1))) 2 (fun _ => rfl) (fun hc => ?_) (fun hc => ?_)
    · have h2a1 := h2a.1 hc
      refine ev_seg (σ1 := ((d + 1), 54, 53, [some (.inr (.inr 86)), some (.inl x1), some (.inl x2), some (.inl x3), some (.inl (w32 (x4 + 1)))], [], (am_sh, am_mm U1))) 2 (fun _ => rfl) ?_
      exact h2a1
    · have h2a2 := h2a.2 hc
      refine ev_seg (σ1 := ((d + 1), 54, 79, [some (.inr (.inr 86)), some (.inl x1), some (.inl x2), some (.inl x3), some (.inl x4)], [.inl x4, .inr (.inr 124)], (am_sh, am_mm U1))) 3 (fun _ => rfl) ?_
      refine eu_iald 124 (n := 352) rfl (by decide) rfl (fun _ => rfl) h2a2.1 ?_
      have h2a2a := h2a2.2
      refine ev_br (P := ¬ (U1 124 x4.toNat) = x3) (σ1 := ((d + 1), 54, 94, [some (.inr (.inr 86)), some (.inl x1), some (.inl x2), some (.inl x3), some (.inl x4)], [], (am_sh, am_mm U1))) (σ2 := ((d + 1), 54, 84, [some (.inr (.inr 86)), some (.inl x1), some (.inl x2), some (.inl x3), some (.inl x4)], [], (am_sh, am_mm U1))) 2 (fun _ => rfl) (fun hc => ?_) (fun hc => ?_)
      · have h2a2a1 := h2a2a.1 hc
        refine ev_seg (σ1 := ((d + 1), 54, 53, [some (.inr (.inr 86)), some (.inl x1), some (.inl x2), some (.inl x3), some (.inl (w32 (x4 + 1)))], [], (am_sh, am_mm U1))) 2 (fun _ => rfl) ?_
        exact h2a2a1
      · have h2a2a2 := h2a2a.2 hc
        refine ev_seg (σ1 := ((d + 1), 54, 88, [some (.inr (.inr 86)), some (.inl x1), some (.inl x2), some (.inl x3), some (.inl x4)], [.inl x4, .inr (.inr 86), .inr (.inr 86)], (am_sh, am_mm U1))) 3 (fun _ => rfl) ?_
        obtain ⟨r2, U2, h2a2a2c, h2a2a2a⟩ := h2a2a2
        refine ev_cal (σc := (d, 121, 0, [some (.inr (.inr 86)), some (.inl x4)], [], (am_sh, am_mm U1))) (fun _ => rfl) h2a2a2c ?_
        show Ev kz ((d + 1), 54, 91, [some (.inr (.inr 86)), some (.inl x1), some (.inl x2), some (.inl x3), some (.inl x4)], [.inr (.inl r2), .inr (.inr 86)], (am_sh, am_mm U2)) R
        obtain ⟨U3, h2a2a2ac, h2a2a2aa⟩ := h2a2a2a
        refine ev_cal (σc := (d, 160, 0, [some (.inr (.inr 86)), some (.inr (.inl r2)), none, none, none, none, none, none, none], [], (am_sh, am_mm U2))) (fun _ => rfl) h2a2a2ac ?_
        show Ev kz ((d + 1), 54, 94, [some (.inr (.inr 86)), some (.inl x1), some (.inl x2), some (.inl x3), some (.inl x4)], [], (am_sh, am_mm U3)) R
        refine ev_seg (σ1 := ((d + 1), 54, 53, [some (.inr (.inr 86)), some (.inl x1), some (.inl x2), some (.inl x3), some (.inl (w32 (x4 + 1)))], [], (am_sh, am_mm U3))) 2 (fun _ => rfl) ?_
        exact h2a2a2aa
theorem st102_1_0 (kz : am_Z) (d : Nat) (x1 : Int) (U : Nat → Nat → Int) (R : Option am_V × am_M) (h : (((x1 < 0 : Prop)) → R = (some (.inl 0), (am_sh, am_mm U))) ∧ (¬ (x1 < 0) → ((((U 3 1) ≤ x1 : Prop)) → R = (some (.inl 0), (am_sh, am_mm U))) ∧ (¬ ((U 3 1) ≤ x1) → R = (some (.inl 1), (am_sh, am_mm U))))) : Ev kz (d, 102, 0, [some (.inr (.inr 1)), some (.inl x1)], [], (am_sh, am_mm U)) R := by
  refine ev_br (P := x1 < 0) (σ1 := (d, 102, 19, [some (.inr (.inr 1)), some (.inl x1)], [], (am_sh, am_mm U))) (σ2 := (d, 102, 4, [some (.inr (.inr 1)), some (.inl x1)], [], (am_sh, am_mm U))) 2 (fun _ => rfl) (fun hc => ?_) (fun hc => ?_)
  · have h1 := h.1 hc
    subst h1
    exact ev_end 2 (fun _ => rfl)
  · have h2 := h.2 hc
    refine ev_br (P := (U 3 1) ≤ x1) (σ1 := (d, 102, 19, [some (.inr (.inr 1)), some (.inl x1)], [], (am_sh, am_mm U))) (σ2 := (d, 102, 15, [some (.inr (.inr 1)), some (.inl x1)], [], (am_sh, am_mm U))) 5 (fun _ => rfl) (fun hc => ?_) (fun hc => ?_)
    · have h21 := h2.1 hc
      subst h21
      exact ev_end 2 (fun _ => rfl)
    · have h22 := h2.2 hc
      subst h22
      exact ev_end 3 (fun _ => rfl)
theorem st114_1_0 (kz : am_Z) (d : Nat) (x1 : Int) (U : Nat → Nat → Int) (R : Option am_V × am_M) (h : (((x1 < 0 : Prop)) → R = (some (.inl 0), (am_sh, am_mm U))) ∧ (¬ (x1 < 0) → ((((U 16 0) ≤ x1 : Prop)) → R = (some (.inl 0), (am_sh, am_mm U))) ∧ (¬ ((U 16 0) ≤ x1) → R = (some (.inl 1), (am_sh, am_mm U))))) : Ev kz (d, 114, 0, [some (.inr (.inr 1)), some (.inl x1)], [], (am_sh, am_mm U)) R := by
  refine ev_br (P := x1 < 0) (σ1 := (d, 114, 19, [some (.inr (.inr 1)), some (.inl x1)], [], (am_sh, am_mm U))) (σ2 := (d, 114, 4, [some (.inr (.inr 1)), some (.inl x1)], [], (am_sh, am_mm U))) 2 (fun _ => rfl) (fun hc => ?_) (fun hc => ?_)
  · have h1 := h.1 hc
    subst h1
    exact ev_end 2 (fun _ => rfl)
  · have h2 := h.2 hc
    refine ev_br (P := (U 16 0) ≤ x1) (σ1 := (d, 114, 19, [some (.inr (.inr 1)), some (.inl x1)], [], (am_sh, am_mm U))) (σ2 := (d, 114, 15, [some (.inr (.inr 1)), some (.inl x1)], [], (am_sh, am_mm U))) 5 (fun _ => rfl) (fun hc => ?_) (fun hc => ?_)
    · have h21 := h2.1 hc
      subst h21
      exact ev_end 2 (fun _ => rfl)
    · have h22 := h2.2 hc
      subst h22
      exact ev_end 3 (fun _ => rfl)
theorem st115_86_0 (kz : am_Z) (d : Nat) (x1 : Int) (U : Nat → Nat → Int) (R : Option am_V × am_M) (h : (((x1 < 0 : Prop)) → R = (some (.inl 0), (am_sh, am_mm U))) ∧ (¬ (x1 < 0) → ((((U 122 0) ≤ x1 : Prop)) → R = (some (.inl 0), (am_sh, am_mm U))) ∧ (¬ ((U 122 0) ≤ x1) → R = (some (.inl 1), (am_sh, am_mm U))))) : Ev kz (d, 115, 0, [some (.inr (.inr 86)), some (.inl x1)], [], (am_sh, am_mm U)) R := by
  refine ev_br (P := x1 < 0) (σ1 := (d, 115, 18, [some (.inr (.inr 86)), some (.inl x1)], [], (am_sh, am_mm U))) (σ2 := (d, 115, 4, [some (.inr (.inr 86)), some (.inl x1)], [], (am_sh, am_mm U))) 2 (fun _ => rfl) (fun hc => ?_) (fun hc => ?_)
  · have h1 := h.1 hc
    subst h1
    exact ev_end 2 (fun _ => rfl)
  · have h2 := h.2 hc
    refine ev_seg (σ1 := (d, 115, 10, [some (.inr (.inr 86)), some (.inl x1)], [.inl 0, .inr (.inr 122), .inl x1], (am_sh, am_mm U))) 4 (fun _ => rfl) ?_
    refine eu_iald 122 (n := 22) rfl (by decide) rfl (fun _ => rfl) (by decide) ?_
    show Ev kz (d, 115, 11, [some (.inr (.inr 86)), some (.inl x1)], [.inl (U 122 0), .inl x1], (am_sh, am_mm U)) R
    refine ev_br (P := (U 122 0) ≤ x1) (σ1 := (d, 115, 18, [some (.inr (.inr 86)), some (.inl x1)], [], (am_sh, am_mm U))) (σ2 := (d, 115, 14, [some (.inr (.inr 86)), some (.inl x1)], [], (am_sh, am_mm U))) 1 (fun _ => rfl) (fun hc => ?_) (fun hc => ?_)
    · have h21 := h2.1 hc
      subst h21
      exact ev_end 2 (fun _ => rfl)
    · have h22 := h2.2 hc
      subst h22
      exact ev_end 3 (fun _ => rfl)
theorem st108_86_0 (kz : am_Z) (d : Nat) (x1 : Int) (U : Nat → Nat → Int) (R : Option am_V × am_M) (h : (((x1 < 0 : Prop)) → R = (some (.inl 0), (am_sh, am_mm U))) ∧ (¬ (x1 < 0) → (0 ≤ (U 86 13) ∧ (U 86 13) < 2) ∧ ((((U 90 (U 86 13).toNat) ≤ x1 : Prop)) → R = (some (.inl 0), (am_sh, am_mm U))) ∧ (¬ ((U 90 (U 86 13).toNat) ≤ x1) → R = (some (.inl 1), (am_sh, am_mm U))))) : Ev kz (d, 108, 0, [some (.inr (.inr 86)), some (.inl x1)], [], (am_sh, am_mm U)) R := by
  refine ev_br (P := x1 < 0) (σ1 := (d, 108, 21, [some (.inr (.inr 86)), some (.inl x1)], [], (am_sh, am_mm U))) (σ2 := (d, 108, 4, [some (.inr (.inr 86)), some (.inl x1)], [], (am_sh, am_mm U))) 2 (fun _ => rfl) (fun hc => ?_) (fun hc => ?_)
  · have h1 := h.1 hc
    subst h1
    exact ev_end 2 (fun _ => rfl)
  · have h2 := h.2 hc
    refine ev_seg (σ1 := (d, 108, 13, [some (.inr (.inr 86)), some (.inl x1)], [.inl (U 86 13), .inr (.inr 90), .inl x1], (am_sh, am_mm U))) 5 (fun _ => rfl) ?_
    refine eu_iald 90 (n := 2) rfl (by decide) rfl (fun _ => rfl) h2.1 ?_
    have h2a := h2.2
    refine ev_br (P := (U 90 (U 86 13).toNat) ≤ x1) (σ1 := (d, 108, 21, [some (.inr (.inr 86)), some (.inl x1)], [], (am_sh, am_mm U))) (σ2 := (d, 108, 17, [some (.inr (.inr 86)), some (.inl x1)], [], (am_sh, am_mm U))) 1 (fun _ => rfl) (fun hc => ?_) (fun hc => ?_)
    · have h2a1 := h2a.1 hc
      subst h2a1
      exact ev_end 2 (fun _ => rfl)
    · have h2a2 := h2a.2 hc
      subst h2a2
      exact ev_end 3 (fun _ => rfl)
theorem st150_0 (kz : am_Z) (d : Nat) (x0 x2 : Int) (U : Nat → Nat → Int) (R : Option am_V × am_M) (h : (((x2 < 0 : Prop)) → R = (some (.inl (-1)), (am_sh, am_mm U))) ∧ (¬ (x2 < 0) → ∃ (r1 : Int) (U1 : Nat → Nat → Int), Ev kz (d, 149, 0, [some (.inr (.inl x0)), none, none, none, none], [], (am_sh, am_mm U)) (some (.inl r1), (am_sh, am_mm U1)) ∧ (((x2 < r1 : Prop)) → Ev kz ((d + 1), 150, 19, [some (.inr (.inl x0)), none, some (.inl x2), some (.inr (.inl x0)), none, some (.inl 0)], [], (am_sh, am_mm U1)) R) ∧ (¬ (x2 < r1) → R = (some (.inl (-1)), (am_sh, am_mm U1))))) : Ev kz ((d + 1), 150, 0, [some (.inr (.inl x0)), none, some (.inl x2), none, none, none], [], (am_sh, am_mm U)) R := by
  refine ev_br (P := x2 < 0) (σ1 := ((d + 1), 150, 12, [some (.inr (.inl x0)), none, some (.inl x2), none, none, none], [], (am_sh, am_mm U))) (σ2 := ((d + 1), 150, 4, [some (.inr (.inl x0)), none, some (.inl x2), none, none, none], [], (am_sh, am_mm U))) 2 (fun _ => rfl) (fun hc => ?_) (fun hc => ?_)
  · have h1 := h.1 hc
    subst h1
    exact ev_end 2 (fun _ => rfl)
  · have h2 := h.2 hc
    refine ev_seg (σ1 := ((d + 1), 150, 6, [some (.inr (.inl x0)), none, some (.inl x2), none, none, none], [.inr (.inl x0), .inl x2], (am_sh, am_mm U))) 2 (fun _ => rfl) ?_
    obtain ⟨r1, U1, h2c, h2a⟩ := h2
    refine ev_cal (σc := (d, 149, 0, [some (.inr (.inl x0)), none, none, none, none], [], (am_sh, am_mm U))) (fun _ => rfl) h2c ?_
    show Ev kz ((d + 1), 150, 9, [some (.inr (.inl x0)), none, some (.inl x2), none, none, none], [.inl r1, .inl x2], (am_sh, am_mm U1)) R
    refine ev_br (P := x2 < r1) (σ1 := ((d + 1), 150, 14, [some (.inr (.inl x0)), none, some (.inl x2), none, none, none], [], (am_sh, am_mm U1))) (σ2 := ((d + 1), 150, 12, [some (.inr (.inl x0)), none, some (.inl x2), none, none, none], [], (am_sh, am_mm U1))) 1 (fun _ => rfl) (fun hc => ?_) (fun hc => ?_)
    · have h2a1 := h2a.1 hc
      refine ev_seg (σ1 := ((d + 1), 150, 19, [some (.inr (.inl x0)), none, some (.inl x2), some (.inr (.inl x0)), none, some (.inl 0)], [], (am_sh, am_mm U1))) 4 (fun _ => rfl) ?_
      exact h2a1
    · have h2a2 := h2a.2 hc
      subst h2a2
      exact ev_end 2 (fun _ => rfl)
theorem st150_19 (kz : am_Z) (d : Nat) (x0 x2 x3 x5 : Int) (U : Nat → Nat → Int) (R : Option am_V × am_M) (h : (((x2 ≤ x5 : Prop)) → R = (some (.inl (w32 (Int.tmod x3 10))), (am_sh, am_mm U))) ∧ (¬ (x2 ≤ x5) → Ev kz ((d + 1), 150, 19, [some (.inr (.inl x0)), none, some (.inl x2), some (.inr (.inl (w64 (Int.tdiv x3 10)))), none, some (.inl (w32 (x5 + 1)))], [], (am_sh, am_mm U)) R)) : Ev kz ((d + 1), 150, 19, [some (.inr (.inl x0)), none, some (.inl x2), some (.inr (.inl x3)), none, some (.inl x5)], [], (am_sh, am_mm U)) R := by
  refine ev_br (P := x2 ≤ x5) (σ1 := ((d + 1), 150, 37, [some (.inr (.inl x0)), none, some (.inl x2), some (.inr (.inl x3)), none, some (.inl x5)], [], (am_sh, am_mm U))) (σ2 := ((d + 1), 150, 25, [some (.inr (.inl x0)), none, some (.inl x2), some (.inr (.inl x3)), none, some (.inl x5)], [], (am_sh, am_mm U))) 3 (fun _ => rfl) (fun hc => ?_) (fun hc => ?_)
  · have h1 := h.1 hc
    refine ev_seg (σ1 := ((d + 1), 150, 41, [some (.inr (.inl x0)), none, some (.inl x2), some (.inr (.inl x3)), none, some (.inl x5)], [.inr (.inl 10), .inr (.inl x3)], (am_sh, am_mm U))) 2 (fun _ => rfl) ?_
    refine ev_lrem rfl (by decide) ?_
    subst h1
    exact ev_end 2 (fun _ => rfl)
  · have h2 := h.2 hc
    refine ev_seg (σ1 := ((d + 1), 150, 29, [some (.inr (.inl x0)), none, some (.inl x2), some (.inr (.inl x3)), none, some (.inl x5)], [.inr (.inl 10), .inr (.inl x3)], (am_sh, am_mm U))) 2 (fun _ => rfl) ?_
    refine ev_ldiv rfl (by decide) ?_
    refine ev_seg (σ1 := ((d + 1), 150, 19, [some (.inr (.inl x0)), none, some (.inl x2), some (.inr (.inl (w64 (Int.tdiv x3 10)))), none, some (.inl (w32 (x5 + 1)))], [], (am_sh, am_mm U))) 3 (fun _ => rfl) ?_
    exact h2
theorem st98_0 (kz : am_Z) (d : Nat) (x0 : Int) (U : Nat → Nat → Int) (R : Option am_V × am_M) (h : R = (some (.inl (am_and (w32 ((w32 ((am_and (w32 ((w32 ((am_and (w32 (x0 - (am_and (am_ushr x0 1) 1431655765))) 858993459) + (am_and (am_ushr (w32 (x0 - (am_and (am_ushr x0 1) 1431655765))) 2) 858993459))) + (am_ushr (w32 ((am_and (w32 (x0 - (am_and (am_ushr x0 1) 1431655765))) 858993459) + (am_and (am_ushr (w32 (x0 - (am_and (am_ushr x0 1) 1431655765))) 2) 858993459))) 4))) 252645135) + (am_ushr (am_and (w32 ((w32 ((am_and (w32 (x0 - (am_and (am_ushr x0 1) 1431655765))) 858993459) + (am_and (am_ushr (w32 (x0 - (am_and (am_ushr x0 1) 1431655765))) 2) 858993459))) + (am_ushr (w32 ((am_and (w32 (x0 - (am_and (am_ushr x0 1) 1431655765))) 858993459) + (am_and (am_ushr (w32 (x0 - (am_and (am_ushr x0 1) 1431655765))) 2) 858993459))) 4))) 252645135) 8))) + (am_ushr (w32 ((am_and (w32 ((w32 ((am_and (w32 (x0 - (am_and (am_ushr x0 1) 1431655765))) 858993459) + (am_and (am_ushr (w32 (x0 - (am_and (am_ushr x0 1) 1431655765))) 2) 858993459))) + (am_ushr (w32 ((am_and (w32 (x0 - (am_and (am_ushr x0 1) 1431655765))) 858993459) + (am_and (am_ushr (w32 (x0 - (am_and (am_ushr x0 1) 1431655765))) 2) 858993459))) 4))) 252645135) + (am_ushr (am_and (w32 ((w32 ((am_and (w32 (x0 - (am_and (am_ushr x0 1) 1431655765))) 858993459) + (am_and (am_ushr (w32 (x0 - (am_and (am_ushr x0 1) 1431655765))) 2) 858993459))) + (am_ushr (w32 ((am_and (w32 (x0 - (am_and (am_ushr x0 1) 1431655765))) 858993459) + (am_and (am_ushr (w32 (x0 - (am_and (am_ushr x0 1) 1431655765))) 2) 858993459))) 4))) 252645135) 8))) 16))) 63)), (am_sh, am_mm U))) : Ev kz (d, 98, 0, [some (.inl x0)], [], (am_sh, am_mm U)) R := by
  subst h
  exact ev_end 42 (fun _ => rfl)
theorem st176_16_0 (kz : am_Z) (d : Nat) (U : Nat → Nat → Int) (R : Option am_V × am_M) (h : ∃ U1 : Nat → Nat → Int, Ev kz (d, 211, 0, [some (.inr (.inr 19)), some (.inl 0), none, none], [], (am_sh, am_mm (am_upd (am_upd (am_upd U 16 0 0) 16 1 0) 16 2 0))) (none, (am_sh, am_mm U1)) ∧ R = (none, (am_sh, am_mm U1))) : Ev kz ((d + 1), 176, 0, [some (.inr (.inr 16))], [], (am_sh, am_mm U)) R := by
  refine ev_seg (σ1 := ((d + 1), 176, 2, [some (.inr (.inr 16))], [.inl 0, .inr (.inr 16)], (am_sh, am_mm U))) 2 (fun _ => rfl) ?_
  refine eu_puti 16 (n := 7) rfl (by decide) rfl rfl ?_
  refine ev_seg (σ1 := ((d + 1), 176, 7, [some (.inr (.inr 16))], [.inl 0, .inr (.inr 16)], (am_sh, am_mm (am_upd U 16 0 0)))) 2 (fun _ => rfl) ?_
  refine eu_puti 16 (n := 7) rfl (by decide) rfl rfl ?_
  refine ev_seg (σ1 := ((d + 1), 176, 12, [some (.inr (.inr 16))], [.inl 0, .inr (.inr 16)], (am_sh, am_mm (am_upd (am_upd U 16 0 0) 16 1 0)))) 2 (fun _ => rfl) ?_
  refine eu_putz 16 (n := 7) rfl (by decide) rfl rfl (by decide) ?_
  refine ev_seg (σ1 := ((d + 1), 176, 20, [some (.inr (.inr 16))], [.inl 0, .inr (.inr 19)], (am_sh, am_mm (am_upd (am_upd (am_upd U 16 0 0) 16 1 0) 16 2 0)))) 3 (fun _ => rfl) ?_
  obtain ⟨U1, hc, ha⟩ := h
  refine ev_cal (σc := (d, 211, 0, [some (.inr (.inr 19)), some (.inl 0), none, none], [], (am_sh, am_mm (am_upd (am_upd (am_upd U 16 0 0) 16 1 0) 16 2 0)))) (fun _ => rfl) hc ?_
  show Ev kz ((d + 1), 176, 23, [some (.inr (.inr 16))], [], (am_sh, am_mm U1)) R
  subst ha
  exact ev_end 1 (fun _ => rfl)
theorem st176_21_0 (kz : am_Z) (d : Nat) (U : Nat → Nat → Int) (R : Option am_V × am_M) (h : ∃ U1 : Nat → Nat → Int, Ev kz (d, 211, 0, [some (.inr (.inr 24)), some (.inl 0), none, none], [], (am_sh, am_mm (am_upd (am_upd (am_upd U 21 0 0) 21 1 0) 21 2 0))) (none, (am_sh, am_mm U1)) ∧ R = (none, (am_sh, am_mm U1))) : Ev kz ((d + 1), 176, 0, [some (.inr (.inr 21))], [], (am_sh, am_mm U)) R := by
  refine ev_seg (σ1 := ((d + 1), 176, 2, [some (.inr (.inr 21))], [.inl 0, .inr (.inr 21)], (am_sh, am_mm U))) 2 (fun _ => rfl) ?_
  refine eu_puti 21 (n := 7) rfl (by decide) rfl rfl ?_
  refine ev_seg (σ1 := ((d + 1), 176, 7, [some (.inr (.inr 21))], [.inl 0, .inr (.inr 21)], (am_sh, am_mm (am_upd U 21 0 0)))) 2 (fun _ => rfl) ?_
  refine eu_puti 21 (n := 7) rfl (by decide) rfl rfl ?_
  refine ev_seg (σ1 := ((d + 1), 176, 12, [some (.inr (.inr 21))], [.inl 0, .inr (.inr 21)], (am_sh, am_mm (am_upd (am_upd U 21 0 0) 21 1 0)))) 2 (fun _ => rfl) ?_
  refine eu_putz 21 (n := 7) rfl (by decide) rfl rfl (by decide) ?_
  refine ev_seg (σ1 := ((d + 1), 176, 20, [some (.inr (.inr 21))], [.inl 0, .inr (.inr 24)], (am_sh, am_mm (am_upd (am_upd (am_upd U 21 0 0) 21 1 0) 21 2 0)))) 3 (fun _ => rfl) ?_
  obtain ⟨U1, hc, ha⟩ := h
  refine ev_cal (σc := (d, 211, 0, [some (.inr (.inr 24)), some (.inl 0), none, none], [], (am_sh, am_mm (am_upd (am_upd (am_upd U 21 0 0) 21 1 0) 21 2 0)))) (fun _ => rfl) hc ?_
  show Ev kz ((d + 1), 176, 23, [some (.inr (.inr 21))], [], (am_sh, am_mm U1)) R
  subst ha
  exact ev_end 1 (fun _ => rfl)
theorem st177_26_0 (kz : am_Z) (d : Nat) (U : Nat → Nat → Int) (R : Option am_V × am_M) (h : ((((U 27 3) ≤ (w32 ((U 26 6) + 1)) : Prop)) → R = (none, (am_sh, am_mm U))) ∧ (¬ ((U 27 3) ≤ (w32 ((U 26 6) + 1))) → (((1601 ≤ (w32 ((U 26 6) + 1)) : Prop)) → R = (none, (am_sh, am_mm U))) ∧ (¬ (1601 ≤ (w32 ((U 26 6) + 1))) → (0 ≤ ((am_upd U 26 6 (w32 ((U 26 6) + 1))) 26 6) ∧ ((am_upd U 26 6 (w32 ((U 26 6) + 1))) 26 6) < 1601) ∧ (0 ≤ ((am_upd (am_upd U 26 6 (w32 ((U 26 6) + 1))) 26 7 ((am_upd U 26 6 (w32 ((U 26 6) + 1))) 28 ((am_upd U 26 6 (w32 ((U 26 6) + 1))) 26 6).toNat)) 26 6) ∧ ((am_upd (am_upd U 26 6 (w32 ((U 26 6) + 1))) 26 7 ((am_upd U 26 6 (w32 ((U 26 6) + 1))) 28 ((am_upd U 26 6 (w32 ((U 26 6) + 1))) 26 6).toNat)) 26 6) < 1601) ∧ (0 ≤ ((am_upd (am_upd (am_upd U 26 6 (w32 ((U 26 6) + 1))) 26 7 ((am_upd U 26 6 (w32 ((U 26 6) + 1))) 28 ((am_upd U 26 6 (w32 ((U 26 6) + 1))) 26 6).toNat)) 26 8 ((am_upd (am_upd U 26 6 (w32 ((U 26 6) + 1))) 26 7 ((am_upd U 26 6 (w32 ((U 26 6) + 1))) 28 ((am_upd U 26 6 (w32 ((U 26 6) + 1))) 26 6).toNat)) 29 ((am_upd (am_upd U 26 6 (w32 ((U 26 6) + 1))) 26 7 ((am_upd U 26 6 (w32 ((U 26 6) + 1))) 28 ((am_upd U 26 6 (w32 ((U 26 6) + 1))) 26 6).toNat)) 26 6).toNat)) 26 6) ∧ ((am_upd (am_upd (am_upd U 26 6 (w32 ((U 26 6) + 1))) 26 7 ((am_upd U 26 6 (w32 ((U 26 6) + 1))) 28 ((am_upd U 26 6 (w32 ((U 26 6) + 1))) 26 6).toNat)) 26 8 ((am_upd (am_upd U 26 6 (w32 ((U 26 6) + 1))) 26 7 ((am_upd U 26 6 (w32 ((U 26 6) + 1))) 28 ((am_upd U 26 6 (w32 ((U 26 6) + 1))) 26 6).toNat)) 29 ((am_upd (am_upd U 26 6 (w32 ((U 26 6) + 1))) 26 7 ((am_upd U 26 6 (w32 ((U 26 6) + 1))) 28 ((am_upd U 26 6 (w32 ((U 26 6) + 1))) 26 6).toNat)) 26 6).toNat)) 26 6) < 1601) ∧ R = (none, (am_sh, am_mm (am_upd (am_upd (am_upd (am_upd U 26 6 (w32 ((U 26 6) + 1))) 26 7 ((am_upd U 26 6 (w32 ((U 26 6) + 1))) 28 ((am_upd U 26 6 (w32 ((U 26 6) + 1))) 26 6).toNat)) 26 8 ((am_upd (am_upd U 26 6 (w32 ((U 26 6) + 1))) 26 7 ((am_upd U 26 6 (w32 ((U 26 6) + 1))) 28 ((am_upd U 26 6 (w32 ((U 26 6) + 1))) 26 6).toNat)) 29 ((am_upd (am_upd U 26 6 (w32 ((U 26 6) + 1))) 26 7 ((am_upd U 26 6 (w32 ((U 26 6) + 1))) 28 ((am_upd U 26 6 (w32 ((U 26 6) + 1))) 26 6).toNat)) 26 6).toNat)) 26 9 ((am_upd (am_upd (am_upd U 26 6 (w32 ((U 26 6) + 1))) 26 7 ((am_upd U 26 6 (w32 ((U 26 6) + 1))) 28 ((am_upd U 26 6 (w32 ((U 26 6) + 1))) 26 6).toNat)) 26 8 ((am_upd (am_upd U 26 6 (w32 ((U 26 6) + 1))) 26 7 ((am_upd U 26 6 (w32 ((U 26 6) + 1))) 28 ((am_upd U 26 6 (w32 ((U 26 6) + 1))) 26 6).toNat)) 29 ((am_upd (am_upd U 26 6 (w32 ((U 26 6) + 1))) 26 7 ((am_upd U 26 6 (w32 ((U 26 6) + 1))) 28 ((am_upd U 26 6 (w32 ((U 26 6) + 1))) 26 6).toNat)) 26 6).toNat)) 30 ((am_upd (am_upd (am_upd U 26 6 (w32 ((U 26 6) + 1))) 26 7 ((am_upd U 26 6 (w32 ((U 26 6) + 1))) 28 ((am_upd U 26 6 (w32 ((U 26 6) + 1))) 26 6).toNat)) 26 8 ((am_upd (am_upd U 26 6 (w32 ((U 26 6) + 1))) 26 7 ((am_upd U 26 6 (w32 ((U 26 6) + 1))) 28 ((am_upd U 26 6 (w32 ((U 26 6) + 1))) 26 6).toNat)) 29 ((am_upd (am_upd U 26 6 (w32 ((U 26 6) + 1))) 26 7 ((am_upd U 26 6 (w32 ((U 26 6) + 1))) 28 ((am_upd U 26 6 (w32 ((U 26 6) + 1))) 26 6).toNat)) 26 6).toNat)) 26 6).toNat))))))) : Ev kz (d, 177, 0, [some (.inr (.inr 26))], [], (am_sh, am_mm U)) R := by
  refine ev_br (P := (U 27 3) ≤ (w32 ((U 26 6) + 1))) (σ1 := (d, 177, 91, [some (.inr (.inr 26))], [], (am_sh, am_mm U))) (σ2 := (d, 177, 16, [some (.inr (.inr 26))], [], (am_sh, am_mm U))) 8 (fun _ => rfl) (fun hc => ?_) (fun hc => ?_)
  · have h1 := h.1 hc
    subst h1
    exact ev_end 1 (fun _ => rfl)
  · have h2 := h.2 hc
    refine ev_br (P := 1601 ≤ (w32 ((U 26 6) + 1))) (σ1 := (d, 177, 91, [some (.inr (.inr 26))], [], (am_sh, am_mm U))) (σ2 := (d, 177, 33, [some (.inr (.inr 26))], [], (am_sh, am_mm U))) 9 (fun _ => rfl) (fun hc => ?_) (fun hc => ?_)
    · have h21 := h2.1 hc
      subst h21
      exact ev_end 1 (fun _ => rfl)
    · have h22 := h2.2 hc
      refine ev_seg (σ1 := (d, 177, 40, [some (.inr (.inr 26))], [.inl (w32 ((U 26 6) + 1)), .inr (.inr 26)], (am_sh, am_mm U))) 5 (fun _ => rfl) ?_
      refine eu_puti 26 (n := 12) rfl (by decide) rfl rfl ?_
      refine ev_seg (σ1 := (d, 177, 55, [some (.inr (.inr 26))], [.inl ((am_upd U 26 6 (w32 ((U 26 6) + 1))) 26 6), .inr (.inr 28), .inr (.inr 26)], (am_sh, am_mm (am_upd U 26 6 (w32 ((U 26 6) + 1)))))) 6 (fun _ => rfl) ?_
      refine eu_iald 28 (n := 1601) rfl (by decide) rfl (fun _ => rfl) h22.1 ?_
      have h22a := h22.2
      refine eu_puti 26 (n := 12) rfl (by decide) rfl rfl ?_
      refine ev_seg (σ1 := (d, 177, 71, [some (.inr (.inr 26))], [.inl ((am_upd (am_upd U 26 6 (w32 ((U 26 6) + 1))) 26 7 ((am_upd U 26 6 (w32 ((U 26 6) + 1))) 28 ((am_upd U 26 6 (w32 ((U 26 6) + 1))) 26 6).toNat)) 26 6), .inr (.inr 29), .inr (.inr 26)], (am_sh, am_mm (am_upd (am_upd U 26 6 (w32 ((U 26 6) + 1))) 26 7 ((am_upd U 26 6 (w32 ((U 26 6) + 1))) 28 ((am_upd U 26 6 (w32 ((U 26 6) + 1))) 26 6).toNat))))) 6 (fun _ => rfl) ?_
      refine eu_iald 29 (n := 1601) rfl (by decide) rfl (fun _ => rfl) h22a.1 ?_
      have h22aa := h22a.2
      refine eu_puti 26 (n := 12) rfl (by decide) rfl rfl ?_
      refine ev_seg (σ1 := (d, 177, 87, [some (.inr (.inr 26))], [.inl ((am_upd (am_upd (am_upd U 26 6 (w32 ((U 26 6) + 1))) 26 7 ((am_upd U 26 6 (w32 ((U 26 6) + 1))) 28 ((am_upd U 26 6 (w32 ((U 26 6) + 1))) 26 6).toNat)) 26 8 ((am_upd (am_upd U 26 6 (w32 ((U 26 6) + 1))) 26 7 ((am_upd U 26 6 (w32 ((U 26 6) + 1))) 28 ((am_upd U 26 6 (w32 ((U 26 6) + 1))) 26 6).toNat)) 29 ((am_upd (am_upd U 26 6 (w32 ((U 26 6) + 1))) 26 7 ((am_upd U 26 6 (w32 ((U 26 6) + 1))) 28 ((am_upd U 26 6 (w32 ((U 26 6) + 1))) 26 6).toNat)) 26 6).toNat)) 26 6), .inr (.inr 30), .inr (.inr 26)], (am_sh, am_mm (am_upd (am_upd (am_upd U 26 6 (w32 ((U 26 6) + 1))) 26 7 ((am_upd U 26 6 (w32 ((U 26 6) + 1))) 28 ((am_upd U 26 6 (w32 ((U 26 6) + 1))) 26 6).toNat)) 26 8 ((am_upd (am_upd U 26 6 (w32 ((U 26 6) + 1))) 26 7 ((am_upd U 26 6 (w32 ((U 26 6) + 1))) 28 ((am_upd U 26 6 (w32 ((U 26 6) + 1))) 26 6).toNat)) 29 ((am_upd (am_upd U 26 6 (w32 ((U 26 6) + 1))) 26 7 ((am_upd U 26 6 (w32 ((U 26 6) + 1))) 28 ((am_upd U 26 6 (w32 ((U 26 6) + 1))) 26 6).toNat)) 26 6).toNat))))) 6 (fun _ => rfl) ?_
      refine eu_iald 30 (n := 1601) rfl (by decide) rfl (fun _ => rfl) h22aa.1 ?_
      have h22aaa := h22aa.2
      refine eu_puti 26 (n := 12) rfl (by decide) rfl rfl ?_
      subst h22aaa
      exact ev_end 1 (fun _ => rfl)
theorem st175_31_0 (kz : am_Z) (d : Nat) (U : Nat → Nat → Int) (R : Option am_V × am_M) (h : R = (none, (am_sh, am_mm (am_upd (am_upd (am_upd (am_upd (am_upd (am_upd (am_upd (am_upd (am_upd U 31 0 0) 31 1 0) 31 2 0) 31 3 0) 31 4 0) 31 5 0) 31 18 0) 41 8 0) 42 8 0)))) : Ev kz (d, 175, 0, [some (.inr (.inr 31))], [], (am_sh, am_mm U)) R := by
  refine ev_seg (σ1 := (d, 175, 2, [some (.inr (.inr 31))], [.inl 0, .inr (.inr 31)], (am_sh, am_mm U))) 2 (fun _ => rfl) ?_
  refine eu_puti 31 (n := 19) rfl (by decide) rfl rfl ?_
  refine ev_seg (σ1 := (d, 175, 7, [some (.inr (.inr 31))], [.inl 0, .inr (.inr 31)], (am_sh, am_mm (am_upd U 31 0 0)))) 2 (fun _ => rfl) ?_
  refine eu_puti 31 (n := 19) rfl (by decide) rfl rfl ?_
  refine ev_seg (σ1 := (d, 175, 12, [some (.inr (.inr 31))], [.inl 0, .inr (.inr 31)], (am_sh, am_mm (am_upd (am_upd U 31 0 0) 31 1 0)))) 2 (fun _ => rfl) ?_
  refine eu_puti 31 (n := 19) rfl (by decide) rfl rfl ?_
  refine ev_seg (σ1 := (d, 175, 17, [some (.inr (.inr 31))], [.inl 0, .inr (.inr 31)], (am_sh, am_mm (am_upd (am_upd (am_upd U 31 0 0) 31 1 0) 31 2 0)))) 2 (fun _ => rfl) ?_
  refine eu_puti 31 (n := 19) rfl (by decide) rfl rfl ?_
  refine ev_seg (σ1 := (d, 175, 22, [some (.inr (.inr 31))], [.inl 0, .inr (.inr 31)], (am_sh, am_mm (am_upd (am_upd (am_upd (am_upd U 31 0 0) 31 1 0) 31 2 0) 31 3 0)))) 2 (fun _ => rfl) ?_
  refine eu_puti 31 (n := 19) rfl (by decide) rfl rfl ?_
  refine ev_seg (σ1 := (d, 175, 27, [some (.inr (.inr 31))], [.inl 0, .inr (.inr 31)], (am_sh, am_mm (am_upd (am_upd (am_upd (am_upd (am_upd U 31 0 0) 31 1 0) 31 2 0) 31 3 0) 31 4 0)))) 2 (fun _ => rfl) ?_
  refine eu_puti 31 (n := 19) rfl (by decide) rfl rfl ?_
  refine ev_seg (σ1 := (d, 175, 32, [some (.inr (.inr 31))], [.inl 0, .inr (.inr 31)], (am_sh, am_mm (am_upd (am_upd (am_upd (am_upd (am_upd (am_upd U 31 0 0) 31 1 0) 31 2 0) 31 3 0) 31 4 0) 31 5 0)))) 2 (fun _ => rfl) ?_
  refine eu_puti 31 (n := 19) rfl (by decide) rfl rfl ?_
  refine ev_seg (σ1 := (d, 175, 42, [some (.inr (.inr 31))], [.inl 0, .inl 8, .inr (.inr 41)], (am_sh, am_mm (am_upd (am_upd (am_upd (am_upd (am_upd (am_upd (am_upd U 31 0 0) 31 1 0) 31 2 0) 31 3 0) 31 4 0) 31 5 0) 31 18 0)))) 4 (fun _ => rfl) ?_
  refine eu_iast 41 (n := 9) rfl (by decide) rfl (fun _ => rfl) (by decide) ?_
  show Ev kz (d, 175, 43, [some (.inr (.inr 31))], [], (am_sh, am_mm (am_upd (am_upd (am_upd (am_upd (am_upd (am_upd (am_upd (am_upd U 31 0 0) 31 1 0) 31 2 0) 31 3 0) 31 4 0) 31 5 0) 31 18 0) 41 8 0))) R
  refine ev_seg (σ1 := (d, 175, 50, [some (.inr (.inr 31))], [.inl 0, .inl 8, .inr (.inr 42)], (am_sh, am_mm (am_upd (am_upd (am_upd (am_upd (am_upd (am_upd (am_upd (am_upd U 31 0 0) 31 1 0) 31 2 0) 31 3 0) 31 4 0) 31 5 0) 31 18 0) 41 8 0)))) 4 (fun _ => rfl) ?_
  refine eu_iast 42 (n := 9) rfl (by decide) rfl (fun _ => rfl) (by decide) ?_
  show Ev kz (d, 175, 51, [some (.inr (.inr 31))], [], (am_sh, am_mm (am_upd (am_upd (am_upd (am_upd (am_upd (am_upd (am_upd (am_upd (am_upd U 31 0 0) 31 1 0) 31 2 0) 31 3 0) 31 4 0) 31 5 0) 31 18 0) 41 8 0) 42 8 0))) R
  subst h
  exact ev_end 1 (fun _ => rfl)
theorem st187_86_0 (kz : am_Z) (d : Nat) (x1 : Int) (U : Nat → Nat → Int) (R : Option am_V × am_M) (h : (((¬ (U 86 3) = 1 : Prop)) → R = (some (.inl 0), (am_sh, am_mm U))) ∧ (¬ (¬ (U 86 3) = 1) → (((¬ (am_lcmp (U 86 7) x1) = 0 : Prop)) → R = (some (.inl 0), (am_sh, am_mm U))) ∧ (¬ (¬ (am_lcmp (U 86 7) x1) = 0) → R = (some (.inl 1), (am_sh, am_mm U))))) : Ev kz (d, 187, 0, [some (.inr (.inr 86)), some (.inr (.inl x1)), none], [], (am_sh, am_mm U)) R := by
  refine ev_br (P := ¬ (U 86 3) = 1) (σ1 := (d, 187, 21, [some (.inr (.inr 86)), some (.inr (.inl x1)), none], [], (am_sh, am_mm U))) (σ2 := (d, 187, 8, [some (.inr (.inr 86)), some (.inr (.inl x1)), none], [], (am_sh, am_mm U))) 4 (fun _ => rfl) (fun hc => ?_) (fun hc => ?_)
  · have h1 := h.1 hc
    subst h1
    exact ev_end 2 (fun _ => rfl)
  · have h2 := h.2 hc
    refine ev_br (P := ¬ (am_lcmp (U 86 7) x1) = 0) (σ1 := (d, 187, 21, [some (.inr (.inr 86)), some (.inr (.inl x1)), none], [], (am_sh, am_mm U))) (σ2 := (d, 187, 17, [some (.inr (.inr 86)), some (.inr (.inl x1)), none], [], (am_sh, am_mm U))) 5 (fun _ => rfl) (fun hc => ?_) (fun hc => ?_)
    · have h21 := h2.1 hc
      subst h21
      exact ev_end 2 (fun _ => rfl)
    · have h22 := h2.2 hc
      subst h22
      exact ev_end 3 (fun _ => rfl)
theorem st280_16_0 (kz : am_Z) (d : Nat) (x1 : Int) (U : Nat → Nat → Int) (R : Option am_V × am_M) (h : Ev kz (d, 280, 2, [some (.inr (.inr 16)), some (.inl x1), some (.inl 0)], [], (am_sh, am_mm U)) R) : Ev kz (d, 280, 0, [some (.inr (.inr 16)), some (.inl x1), none], [], (am_sh, am_mm U)) R := by
  refine ev_seg (σ1 := (d, 280, 2, [some (.inr (.inr 16)), some (.inl x1), some (.inl 0)], [], (am_sh, am_mm U))) 2 (fun _ => rfl) ?_
  exact h
theorem st280_16_2 (kz : am_Z) (d : Nat) (x1 x2 : Int) (U : Nat → Nat → Int) (R : Option am_V × am_M) (h : ((((U 16 0) ≤ x2 : Prop)) → R = (some (.inl (-1)), (am_sh, am_mm U))) ∧ (¬ ((U 16 0) ≤ x2) → (0 ≤ x2 ∧ x2 < 16) ∧ (((¬ (U 17 x2.toNat) = x1 : Prop)) → Ev kz (d, 280, 2, [some (.inr (.inr 16)), some (.inl x1), some (.inl (w32 (x2 + 1)))], [], (am_sh, am_mm U)) R) ∧ (¬ (¬ (U 17 x2.toNat) = x1) → R = (some (.inl x2), (am_sh, am_mm U))))) : Ev kz (d, 280, 2, [some (.inr (.inr 16)), some (.inl x1), some (.inl x2)], [], (am_sh, am_mm U)) R := by
  refine ev_br (P := (U 16 0) ≤ x2) (σ1 := (d, 280, 28, [some (.inr (.inr 16)), some (.inl x1), some (.inl x2)], [], (am_sh, am_mm U))) (σ2 := (d, 280, 10, [some (.inr (.inr 16)), some (.inl x1), some (.inl x2)], [], (am_sh, am_mm U))) 4 (fun _ => rfl) (fun hc => ?_) (fun hc => ?_)
  · have h1 := h.1 hc
    subst h1
    exact ev_end 2 (fun _ => rfl)
  · have h2 := h.2 hc
    refine ev_seg (σ1 := (d, 280, 15, [some (.inr (.inr 16)), some (.inl x1), some (.inl x2)], [.inl x2, .inr (.inr 17)], (am_sh, am_mm U))) 3 (fun _ => rfl) ?_
    refine eu_iald 17 (n := 16) rfl (by decide) rfl (fun _ => rfl) h2.1 ?_
    have h2a := h2.2
    refine ev_br (P := ¬ (U 17 x2.toNat) = x1) (σ1 := (d, 280, 22, [some (.inr (.inr 16)), some (.inl x1), some (.inl x2)], [], (am_sh, am_mm U))) (σ2 := (d, 280, 20, [some (.inr (.inr 16)), some (.inl x1), some (.inl x2)], [], (am_sh, am_mm U))) 2 (fun _ => rfl) (fun hc => ?_) (fun hc => ?_)
    · have h2a1 := h2a.1 hc
      refine ev_seg (σ1 := (d, 280, 2, [some (.inr (.inr 16)), some (.inl x1), some (.inl (w32 (x2 + 1)))], [], (am_sh, am_mm U))) 2 (fun _ => rfl) ?_
      exact h2a1
    · have h2a2 := h2a.2 hc
      subst h2a2
      exact ev_end 2 (fun _ => rfl)
theorem st280_21_0 (kz : am_Z) (d : Nat) (x1 : Int) (U : Nat → Nat → Int) (R : Option am_V × am_M) (h : Ev kz (d, 280, 2, [some (.inr (.inr 21)), some (.inl x1), some (.inl 0)], [], (am_sh, am_mm U)) R) : Ev kz (d, 280, 0, [some (.inr (.inr 21)), some (.inl x1), none], [], (am_sh, am_mm U)) R := by
  refine ev_seg (σ1 := (d, 280, 2, [some (.inr (.inr 21)), some (.inl x1), some (.inl 0)], [], (am_sh, am_mm U))) 2 (fun _ => rfl) ?_
  exact h
theorem st280_21_2 (kz : am_Z) (d : Nat) (x1 x2 : Int) (U : Nat → Nat → Int) (R : Option am_V × am_M) (h : ((((U 21 0) ≤ x2 : Prop)) → R = (some (.inl (-1)), (am_sh, am_mm U))) ∧ (¬ ((U 21 0) ≤ x2) → (0 ≤ x2 ∧ x2 < 16) ∧ (((¬ (U 22 x2.toNat) = x1 : Prop)) → Ev kz (d, 280, 2, [some (.inr (.inr 21)), some (.inl x1), some (.inl (w32 (x2 + 1)))], [], (am_sh, am_mm U)) R) ∧ (¬ (¬ (U 22 x2.toNat) = x1) → R = (some (.inl x2), (am_sh, am_mm U))))) : Ev kz (d, 280, 2, [some (.inr (.inr 21)), some (.inl x1), some (.inl x2)], [], (am_sh, am_mm U)) R := by
  refine ev_br (P := (U 21 0) ≤ x2) (σ1 := (d, 280, 28, [some (.inr (.inr 21)), some (.inl x1), some (.inl x2)], [], (am_sh, am_mm U))) (σ2 := (d, 280, 10, [some (.inr (.inr 21)), some (.inl x1), some (.inl x2)], [], (am_sh, am_mm U))) 4 (fun _ => rfl) (fun hc => ?_) (fun hc => ?_)
  · have h1 := h.1 hc
    subst h1
    exact ev_end 2 (fun _ => rfl)
  · have h2 := h.2 hc
    refine ev_seg (σ1 := (d, 280, 15, [some (.inr (.inr 21)), some (.inl x1), some (.inl x2)], [.inl x2, .inr (.inr 22)], (am_sh, am_mm U))) 3 (fun _ => rfl) ?_
    refine eu_iald 22 (n := 16) rfl (by decide) rfl (fun _ => rfl) h2.1 ?_
    have h2a := h2.2
    refine ev_br (P := ¬ (U 22 x2.toNat) = x1) (σ1 := (d, 280, 22, [some (.inr (.inr 21)), some (.inl x1), some (.inl x2)], [], (am_sh, am_mm U))) (σ2 := (d, 280, 20, [some (.inr (.inr 21)), some (.inl x1), some (.inl x2)], [], (am_sh, am_mm U))) 2 (fun _ => rfl) (fun hc => ?_) (fun hc => ?_)
    · have h2a1 := h2a.1 hc
      refine ev_seg (σ1 := (d, 280, 2, [some (.inr (.inr 21)), some (.inl x1), some (.inl (w32 (x2 + 1)))], [], (am_sh, am_mm U))) 2 (fun _ => rfl) ?_
      exact h2a1
    · have h2a2 := h2a.2 hc
      subst h2a2
      exact ev_end 2 (fun _ => rfl)
