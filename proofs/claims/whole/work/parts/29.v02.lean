set_option maxRecDepth 8000 in
theorem st35_1_0 (N : Nat) (X : Nat → Int) (d : Nat) (x1 : Int) (U : Nat → Nat → Int) (R : Option am_V × am_M) (h : (((x1 < 1 : Prop)) → ∃ (r1 : Int) (U1 : Nat → Nat → Int), Ev (am_kz N X) (d, 83, 0, [some (.inr (.inr 1)), some (.inl 3)], [], (am_sh, am_mm U)) (some (.inl r1), (am_sh, am_mm U1)) ∧ R = (some (.inl (-1)), (am_sh, am_mm U1))) ∧ (¬ (x1 < 1) → (((50 < x1 : Prop)) → ∃ (r2 : Int) (U2 : Nat → Nat → Int), Ev (am_kz N X) (d, 83, 0, [some (.inr (.inr 1)), some (.inl 3)], [], (am_sh, am_mm U)) (some (.inl r2), (am_sh, am_mm U2)) ∧ R = (some (.inl (-1)), (am_sh, am_mm U2))) ∧ (¬ (50 < x1) → ((((U 16 1) ≤ (w32 (9999 - x1)) : Prop)) → ∃ U3 : Nat → Nat → Int, Ev (am_kz N X) (d, 137, 0, [some (.inr (.inr 56)), some (.inr (.inr 16))], [], (am_sh, am_mm U)) (none, (am_sh, am_mm U3)) ∧ Ev (am_kz N X) ((d + 1), 35, 49, [some (.inr (.inr 1)), some (.inl x1), some (.inl 0), some (.inl 0)], [], (am_sh, am_mm U3)) R) ∧ (¬ ((U 16 1) ≤ (w32 (9999 - x1))) → ∃ (r4 : Int) (U4 : Nat → Nat → Int), Ev (am_kz N X) (d, 83, 0, [some (.inr (.inr 1)), some (.inl 3)], [], (am_sh, am_mm U)) (some (.inl r4), (am_sh, am_mm U4)) ∧ R = (some (.inl (-1)), (am_sh, am_mm U4)))))) : Ev (am_kz N X) ((d + 1), 35, 0, [some (.inr (.inr 1)), some (.inl x1), none, none], [], (am_sh, am_mm U)) R := by
  refine ev_br (P := x1 < 1) (σ1 := ((d + 1), 35, 26, [some (.inr (.inr 1)), some (.inl x1), none, none], [], (am_sh, am_mm U))) (σ2 := ((d + 1), 35, 5, [some (.inr (.inr 1)), some (.inl x1), none, none], [], (am_sh, am_mm U))) 3 (fun _ => rfl) (fun hc => ?_) (fun hc => ?_)
  · have h1 := h.1 hc
    refine ev_seg (σ1 := ((d + 1), 35, 28, [some (.inr (.inr 1)), some (.inl x1), none, none], [.inl 3, .inr (.inr 1)], (am_sh, am_mm U))) 2 (fun _ => rfl) ?_
    obtain ⟨r1, U1, h1c, h1a⟩ := h1
    refine ev_cal (σc := (d, 83, 0, [some (.inr (.inr 1)), some (.inl 3)], [], (am_sh, am_mm U))) (fun _ => rfl) h1c ?_
    show Ev (am_kz N X) ((d + 1), 35, 31, [some (.inr (.inr 1)), some (.inl x1), none, none], [.inl r1], (am_sh, am_mm U1)) R
    subst h1a
    exact ev_end 3 (fun _ => rfl)
  · have h2 := h.2 hc
    refine ev_br (P := 50 < x1) (σ1 := ((d + 1), 35, 26, [some (.inr (.inr 1)), some (.inl x1), none, none], [], (am_sh, am_mm U))) (σ2 := ((d + 1), 35, 11, [some (.inr (.inr 1)), some (.inl x1), none, none], [], (am_sh, am_mm U))) 3 (fun _ => rfl) (fun hc => ?_) (fun hc => ?_)
    · have h21 := h2.1 hc
      refine ev_seg (σ1 := ((d + 1), 35, 28, [some (.inr (.inr 1)), some (.inl x1), none, none], [.inl 3, .inr (.inr 1)], (am_sh, am_mm U))) 2 (fun _ => rfl) ?_
      obtain ⟨r2, U2, h21c, h21a⟩ := h21
      refine ev_cal (σc := (d, 83, 0, [some (.inr (.inr 1)), some (.inl 3)], [], (am_sh, am_mm U))) (fun _ => rfl) h21c ?_
      show Ev (am_kz N X) ((d + 1), 35, 31, [some (.inr (.inr 1)), some (.inl x1), none, none], [.inl r2], (am_sh, am_mm U2)) R
      subst h21a
      exact ev_end 3 (fun _ => rfl)
    · have h22 := h2.2 hc
      refine ev_br (P := (U 16 1) ≤ (w32 (9999 - x1))) (σ1 := ((d + 1), 35, 34, [some (.inr (.inr 1)), some (.inl x1), none, none], [], (am_sh, am_mm U))) (σ2 := ((d + 1), 35, 26, [some (.inr (.inr 1)), some (.inl x1), none, none], [], (am_sh, am_mm U))) 7 (fun _ => rfl) (fun hc => ?_) (fun hc => ?_)
      · have h221 := h22.1 hc
        refine ev_seg (σ1 := ((d + 1), 35, 42, [some (.inr (.inr 1)), some (.inl x1), none, none], [.inr (.inr 16), .inr (.inr 56)], (am_sh, am_mm U))) 4 (fun _ => rfl) ?_
        obtain ⟨U3, h221c, h221a⟩ := h221
        refine ev_cal (σc := (d, 137, 0, [some (.inr (.inr 56)), some (.inr (.inr 16))], [], (am_sh, am_mm U))) (fun _ => rfl) h221c ?_
        show Ev (am_kz N X) ((d + 1), 35, 45, [some (.inr (.inr 1)), some (.inl x1), none, none], [], (am_sh, am_mm U3)) R
        refine ev_seg (σ1 := ((d + 1), 35, 49, [some (.inr (.inr 1)), some (.inl x1), some (.inl 0), some (.inl 0)], [], (am_sh, am_mm U3))) 4 (fun _ => rfl) ?_
        exact h221a
      · have h222 := h22.2 hc
        refine ev_seg (σ1 := ((d + 1), 35, 28, [some (.inr (.inr 1)), some (.inl x1), none, none], [.inl 3, .inr (.inr 1)], (am_sh, am_mm U))) 2 (fun _ => rfl) ?_
        obtain ⟨r4, U4, h222c, h222a⟩ := h222
        refine ev_cal (σc := (d, 83, 0, [some (.inr (.inr 1)), some (.inl 3)], [], (am_sh, am_mm U))) (fun _ => rfl) h222c ?_
        show Ev (am_kz N X) ((d + 1), 35, 31, [some (.inr (.inr 1)), some (.inl x1), none, none], [.inl r4], (am_sh, am_mm U4)) R
        subst h222a
        exact ev_end 3 (fun _ => rfl)
set_option maxRecDepth 8000 in
theorem st35_1_49 (N : Nat) (X : Nat → Int) (d : Nat) (x1 x2 x3 : Int) (U : Nat → Nat → Int) (R : Option am_V × am_M) (h : (((x1 ≤ x3 : Prop)) → ∃ U1 : Nat → Nat → Int, Ev (am_kz N X) (d, 92, 0, [some (.inr (.inr 1))], [], (am_sh, am_mm U)) (none, (am_sh, am_mm U1)) ∧ R = (some (.inl x2), (am_sh, am_mm U1))) ∧ (¬ (x1 ≤ x3) → ∃ (r2 : Int) (U2 : Nat → Nat → Int), Ev (am_kz N X) (d, 140, 0, [some (.inr (.inr 1)), none], [], (am_sh, am_mm U)) (some (.inl r2), (am_sh, am_mm U2)) ∧ Ev (am_kz N X) ((d + 1), 35, 49, [some (.inr (.inr 1)), some (.inl x1), some (.inl (w32 (x2 + r2))), some (.inl (w32 (x3 + 1)))], [], (am_sh, am_mm U2)) R)) : Ev (am_kz N X) ((d + 1), 35, 49, [some (.inr (.inr 1)), some (.inl x1), some (.inl x2), some (.inl x3)], [], (am_sh, am_mm U)) R := by
  refine ev_br (P := x1 ≤ x3) (σ1 := ((d + 1), 35, 67, [some (.inr (.inr 1)), some (.inl x1), some (.inl x2), some (.inl x3)], [], (am_sh, am_mm U))) (σ2 := ((d + 1), 35, 54, [some (.inr (.inr 1)), some (.inl x1), some (.inl x2), some (.inl x3)], [], (am_sh, am_mm U))) 3 (fun _ => rfl) (fun hc => ?_) (fun hc => ?_)
  · have h1 := h.1 hc
    refine ev_seg (σ1 := ((d + 1), 35, 68, [some (.inr (.inr 1)), some (.inl x1), some (.inl x2), some (.inl x3)], [.inr (.inr 1)], (am_sh, am_mm U))) 1 (fun _ => rfl) ?_
    obtain ⟨U1, h1c, h1a⟩ := h1
    refine ev_cal (σc := (d, 92, 0, [some (.inr (.inr 1))], [], (am_sh, am_mm U))) (fun _ => rfl) h1c ?_
    show Ev (am_kz N X) ((d + 1), 35, 71, [some (.inr (.inr 1)), some (.inl x1), some (.inl x2), some (.inl x3)], [], (am_sh, am_mm U1)) R
    subst h1a
    exact ev_end 2 (fun _ => rfl)
  · have h2 := h.2 hc
    refine ev_seg (σ1 := ((d + 1), 35, 56, [some (.inr (.inr 1)), some (.inl x1), some (.inl x2), some (.inl x3)], [.inr (.inr 1), .inl x2], (am_sh, am_mm U))) 2 (fun _ => rfl) ?_
    obtain ⟨r2, U2, h2c, h2a⟩ := h2
    refine ev_cal (σc := (d, 140, 0, [some (.inr (.inr 1)), none], [], (am_sh, am_mm U))) (fun _ => rfl) h2c ?_
    show Ev (am_kz N X) ((d + 1), 35, 59, [some (.inr (.inr 1)), some (.inl x1), some (.inl x2), some (.inl x3)], [.inl r2, .inl x2], (am_sh, am_mm U2)) R
    refine ev_seg (σ1 := ((d + 1), 35, 49, [some (.inr (.inr 1)), some (.inl x1), some (.inl (w32 (x2 + r2))), some (.inl (w32 (x3 + 1)))], [], (am_sh, am_mm U2))) 4 (fun _ => rfl) ?_
    exact h2a
set_option maxRecDepth 8000 in
theorem st36_86_0 (N : Nat) (X : Nat → Int) (d : Nat) (x1 : Int) (U : Nat → Nat → Int) (R : Option am_V × am_M) (h : ∃ (r1 : Int) (U1 : Nat → Nat → Int), Ev (am_kz N X) (d, 103, 0, [some (.inl x1), some (.inl 1), some (.inl 50)], [], (am_sh, am_mm U)) (some (.inl r1), (am_sh, am_mm U1)) ∧ (((r1 = 0 : Prop)) → ∃ (r2 : Int) (U2 : Nat → Nat → Int), Ev (am_kz N X) (d, 85, 0, [some (.inr (.inr 86)), some (.inl 3)], [], (am_sh, am_mm U1)) (some (.inl r2), (am_sh, am_mm U2)) ∧ R = (some (.inl r2), (am_sh, am_mm U2))) ∧ (¬ (r1 = 0) → ((((w32 ((U1 120 0) + x1)) ≤ 9999 : Prop)) → ∃ U3 : Nat → Nat → Int, Ev (am_kz N X) (d, 139, 0, [some (.inr (.inr 86))], [], (am_sh, am_mm U1)) (none, (am_sh, am_mm U3)) ∧ Ev (am_kz N X) ((d + 1), 36, 38, [some (.inr (.inr 86)), some (.inl x1), some (.inl 0), some (.inl 0)], [], (am_sh, am_mm U3)) R) ∧ (¬ ((w32 ((U1 120 0) + x1)) ≤ 9999) → ∃ (r4 : Int) (U4 : Nat → Nat → Int), Ev (am_kz N X) (d, 85, 0, [some (.inr (.inr 86)), some (.inl 3)], [], (am_sh, am_mm U1)) (some (.inl r4), (am_sh, am_mm U4)) ∧ R = (some (.inl r4), (am_sh, am_mm U4))))) : Ev (am_kz N X) ((d + 1), 36, 0, [some (.inr (.inr 86)), some (.inl x1), none, none], [], (am_sh, am_mm U)) R := by
  refine ev_seg (σ1 := ((d + 1), 36, 4, [some (.inr (.inr 86)), some (.inl x1), none, none], [.inl 50, .inl 1, .inl x1], (am_sh, am_mm U))) 3 (fun _ => rfl) ?_
  obtain ⟨r1, U1, hc, ha⟩ := h
  refine ev_cal (σc := (d, 103, 0, [some (.inl x1), some (.inl 1), some (.inl 50)], [], (am_sh, am_mm U))) (fun _ => rfl) hc ?_
  show Ev (am_kz N X) ((d + 1), 36, 7, [some (.inr (.inr 86)), some (.inl x1), none, none], [.inl r1], (am_sh, am_mm U1)) R
  refine ev_br (P := r1 = 0) (σ1 := ((d + 1), 36, 24, [some (.inr (.inr 86)), some (.inl x1), none, none], [], (am_sh, am_mm U1))) (σ2 := ((d + 1), 36, 10, [some (.inr (.inr 86)), some (.inl x1), none, none], [], (am_sh, am_mm U1))) 1 (fun _ => rfl) (fun hc => ?_) (fun hc => ?_)
  · have ha1 := ha.1 hc
    refine ev_seg (σ1 := ((d + 1), 36, 26, [some (.inr (.inr 86)), some (.inl x1), none, none], [.inl 3, .inr (.inr 86)], (am_sh, am_mm U1))) 2 (fun _ => rfl) ?_
    obtain ⟨r2, U2, ha1c, ha1a⟩ := ha1
    refine ev_cal (σc := (d, 85, 0, [some (.inr (.inr 86)), some (.inl 3)], [], (am_sh, am_mm U1))) (fun _ => rfl) ha1c ?_
    show Ev (am_kz N X) ((d + 1), 36, 29, [some (.inr (.inr 86)), some (.inl x1), none, none], [.inl r2], (am_sh, am_mm U2)) R
    subst ha1a
    exact ev_end 1 (fun _ => rfl)
  · have ha2 := ha.2 hc
    refine ev_seg (σ1 := ((d + 1), 36, 15, [some (.inr (.inr 86)), some (.inl x1), none, none], [.inl 0, .inr (.inr 120)], (am_sh, am_mm U1))) 3 (fun _ => rfl) ?_
    refine eu_iald 120 (n := 22) rfl (by decide) rfl (fun _ => rfl) (by decide) ?_
    show Ev (am_kz N X) ((d + 1), 36, 16, [some (.inr (.inr 86)), some (.inl x1), none, none], [.inl (U1 120 0)], (am_sh, am_mm U1)) R
    refine ev_br (P := (w32 ((U1 120 0) + x1)) ≤ 9999) (σ1 := ((d + 1), 36, 30, [some (.inr (.inr 86)), some (.inl x1), none, none], [], (am_sh, am_mm U1))) (σ2 := ((d + 1), 36, 24, [some (.inr (.inr 86)), some (.inl x1), none, none], [], (am_sh, am_mm U1))) 4 (fun _ => rfl) (fun hc => ?_) (fun hc => ?_)
    · have ha21 := ha2.1 hc
      refine ev_seg (σ1 := ((d + 1), 36, 31, [some (.inr (.inr 86)), some (.inl x1), none, none], [.inr (.inr 86)], (am_sh, am_mm U1))) 1 (fun _ => rfl) ?_
      obtain ⟨U3, ha21c, ha21a⟩ := ha21
      refine ev_cal (σc := (d, 139, 0, [some (.inr (.inr 86))], [], (am_sh, am_mm U1))) (fun _ => rfl) ha21c ?_
      show Ev (am_kz N X) ((d + 1), 36, 34, [some (.inr (.inr 86)), some (.inl x1), none, none], [], (am_sh, am_mm U3)) R
      refine ev_seg (σ1 := ((d + 1), 36, 38, [some (.inr (.inr 86)), some (.inl x1), some (.inl 0), some (.inl 0)], [], (am_sh, am_mm U3))) 4 (fun _ => rfl) ?_
      exact ha21a
    · have ha22 := ha2.2 hc
      refine ev_seg (σ1 := ((d + 1), 36, 26, [some (.inr (.inr 86)), some (.inl x1), none, none], [.inl 3, .inr (.inr 86)], (am_sh, am_mm U1))) 2 (fun _ => rfl) ?_
      obtain ⟨r4, U4, ha22c, ha22a⟩ := ha22
      refine ev_cal (σc := (d, 85, 0, [some (.inr (.inr 86)), some (.inl 3)], [], (am_sh, am_mm U1))) (fun _ => rfl) ha22c ?_
      show Ev (am_kz N X) ((d + 1), 36, 29, [some (.inr (.inr 86)), some (.inl x1), none, none], [.inl r4], (am_sh, am_mm U4)) R
      subst ha22a
      exact ev_end 1 (fun _ => rfl)
set_option maxRecDepth 8000 in
theorem st36_86_38 (N : Nat) (X : Nat → Int) (d : Nat) (x1 x2 x3 : Int) (U : Nat → Nat → Int) (R : Option am_V × am_M) (h : (((x1 ≤ x3 : Prop)) → R = (some (.inl x2), (am_sh, am_mm U))) ∧ (¬ (x1 ≤ x3) → ∃ (r1 : Int) (U1 : Nat → Nat → Int), Ev (am_kz N X) (d, 141, 0, [some (.inr (.inr 86)), none, none], [], (am_sh, am_mm U)) (some (.inl r1), (am_sh, am_mm U1)) ∧ Ev (am_kz N X) ((d + 1), 36, 38, [some (.inr (.inr 86)), some (.inl x1), some (.inl (w32 (x2 + r1))), some (.inl (w32 (x3 + 1)))], [], (am_sh, am_mm U1)) R)) : Ev (am_kz N X) ((d + 1), 36, 38, [some (.inr (.inr 86)), some (.inl x1), some (.inl x2), some (.inl x3)], [], (am_sh, am_mm U)) R := by
  refine ev_br (P := x1 ≤ x3) (σ1 := ((d + 1), 36, 56, [some (.inr (.inr 86)), some (.inl x1), some (.inl x2), some (.inl x3)], [], (am_sh, am_mm U))) (σ2 := ((d + 1), 36, 43, [some (.inr (.inr 86)), some (.inl x1), some (.inl x2), some (.inl x3)], [], (am_sh, am_mm U))) 3 (fun _ => rfl) (fun hc => ?_) (fun hc => ?_)
  · have h1 := h.1 hc
    subst h1
    exact ev_end 2 (fun _ => rfl)
  · have h2 := h.2 hc
    refine ev_seg (σ1 := ((d + 1), 36, 45, [some (.inr (.inr 86)), some (.inl x1), some (.inl x2), some (.inl x3)], [.inr (.inr 86), .inl x2], (am_sh, am_mm U))) 2 (fun _ => rfl) ?_
    obtain ⟨r1, U1, h2c, h2a⟩ := h2
    refine ev_cal (σc := (d, 141, 0, [some (.inr (.inr 86)), none, none], [], (am_sh, am_mm U))) (fun _ => rfl) h2c ?_
    show Ev (am_kz N X) ((d + 1), 36, 48, [some (.inr (.inr 86)), some (.inl x1), some (.inl x2), some (.inl x3)], [.inl r1, .inl x2], (am_sh, am_mm U1)) R
    refine ev_seg (σ1 := ((d + 1), 36, 38, [some (.inr (.inr 86)), some (.inl x1), some (.inl (w32 (x2 + r1))), some (.inl (w32 (x3 + 1)))], [], (am_sh, am_mm U1))) 4 (fun _ => rfl) ?_
    exact h2a
set_option maxRecDepth 8000 in
theorem st37_1_0 (N : Nat) (X : Nat → Int) (d : Nat) (U : Nat → Nat → Int) (R : Option am_V × am_M) (h : ∃ (r1 : Int) (U1 : Nat → Nat → Int), Ev (am_kz N X) (d, 142, 0, [some (.inr (.inr 56)), some (.inr (.inr 16))], [], (am_sh, am_mm U)) (some (.inl r1), (am_sh, am_mm U1)) ∧ (((¬ r1 = 0 : Prop)) → ∃ U2 : Nat → Nat → Int, Ev (am_kz N X) (d, 92, 0, [some (.inr (.inr 1))], [], (am_sh, am_mm U1)) (none, (am_sh, am_mm U2)) ∧ R = (some (.inl 1), (am_sh, am_mm U2))) ∧ (¬ (¬ r1 = 0) → ∃ (r3 : Int) (U3 : Nat → Nat → Int), Ev (am_kz N X) (d, 83, 0, [some (.inr (.inr 1)), some (.inl 4)], [], (am_sh, am_mm U1)) (some (.inl r3), (am_sh, am_mm U3)) ∧ (r3 = 0 ∨ r3 = 1) ∧ R = (some (.inl r3), (am_sh, am_mm U3)))) : Ev (am_kz N X) ((d + 1), 37, 0, [some (.inr (.inr 1))], [], (am_sh, am_mm U)) R := by
  refine ev_seg (σ1 := ((d + 1), 37, 8, [some (.inr (.inr 1))], [.inr (.inr 16), .inr (.inr 56)], (am_sh, am_mm U))) 4 (fun _ => rfl) ?_
  obtain ⟨r1, U1, hc, ha⟩ := h
  refine ev_cal (σc := (d, 142, 0, [some (.inr (.inr 56)), some (.inr (.inr 16))], [], (am_sh, am_mm U))) (fun _ => rfl) hc ?_
  show Ev (am_kz N X) ((d + 1), 37, 11, [some (.inr (.inr 1))], [.inl r1], (am_sh, am_mm U1)) R
  refine ev_br (P := ¬ r1 = 0) (σ1 := ((d + 1), 37, 20, [some (.inr (.inr 1))], [], (am_sh, am_mm U1))) (σ2 := ((d + 1), 37, 14, [some (.inr (.inr 1))], [], (am_sh, am_mm U1))) 1 (fun _ => rfl) (fun hc => ?_) (fun hc => ?_)
  · have ha1 := ha.1 hc
    refine ev_seg (σ1 := ((d + 1), 37, 21, [some (.inr (.inr 1))], [.inr (.inr 1)], (am_sh, am_mm U1))) 1 (fun _ => rfl) ?_
    obtain ⟨U2, ha1c, ha1a⟩ := ha1
    refine ev_cal (σc := (d, 92, 0, [some (.inr (.inr 1))], [], (am_sh, am_mm U1))) (fun _ => rfl) ha1c ?_
    show Ev (am_kz N X) ((d + 1), 37, 24, [some (.inr (.inr 1))], [], (am_sh, am_mm U2)) R
    subst ha1a
    exact ev_end 2 (fun _ => rfl)
  · have ha2 := ha.2 hc
    refine ev_seg (σ1 := ((d + 1), 37, 16, [some (.inr (.inr 1))], [.inl 4, .inr (.inr 1)], (am_sh, am_mm U1))) 2 (fun _ => rfl) ?_
    obtain ⟨r3, U3, ha2c, ha2a⟩ := ha2
    refine ev_cal (σc := (d, 83, 0, [some (.inr (.inr 1)), some (.inl 4)], [], (am_sh, am_mm U1))) (fun _ => rfl) ha2c ?_
    show Ev (am_kz N X) ((d + 1), 37, 19, [some (.inr (.inr 1))], [.inl r3], (am_sh, am_mm U3)) R
    rw [ha2a.2]
    exact ev_retz rfl rfl ha2a.1
set_option maxRecDepth 8000 in
theorem st38_86_0 (N : Nat) (X : Nat → Int) (d : Nat) (U : Nat → Nat → Int) (R : Option am_V × am_M) (h : (((¬ (U 86 58) = 0 : Prop)) → ∃ (r1 : Int) (U1 : Nat → Nat → Int), Ev (am_kz N X) (d, 143, 0, [some (.inr (.inr 86)), some (.inl ((am_upd U 86 58 (w32 ((U 86 58) - 1))) 86 58))], [], (am_sh, am_mm (am_upd U 86 58 (w32 ((U 86 58) - 1))))) (some (.inl r1), (am_sh, am_mm U1)) ∧ ∃ U2 : Nat → Nat → Int, Ev (am_kz N X) (d, 144, 0, [some (.inr (.inr 86)), some (.inl 0), some (.inl r1), none], [], (am_sh, am_mm U1)) (none, (am_sh, am_mm U2)) ∧ R = (some (.inl 1), (am_sh, am_mm U2))) ∧ (¬ (¬ (U 86 58) = 0) → ∃ (r3 : Int) (U3 : Nat → Nat → Int), Ev (am_kz N X) (d, 85, 0, [some (.inr (.inr 86)), some (.inl 4)], [], (am_sh, am_mm U)) (some (.inl r3), (am_sh, am_mm U3)) ∧ (((r3 < 0 : Prop)) → R = (some (.inl 0), (am_sh, am_mm U3))) ∧ (¬ (r3 < 0) → R = (some (.inl 1), (am_sh, am_mm U3))))) : Ev (am_kz N X) ((d + 1), 38, 0, [some (.inr (.inr 86))], [], (am_sh, am_mm U)) R := by
  refine ev_br (P := ¬ (U 86 58) = 0) (σ1 := ((d + 1), 38, 21, [some (.inr (.inr 86))], [], (am_sh, am_mm U))) (σ2 := ((d + 1), 38, 7, [some (.inr (.inr 86))], [], (am_sh, am_mm U))) 3 (fun _ => rfl) (fun hc => ?_) (fun hc => ?_)
  · have h1 := h.1 hc
    refine ev_seg (σ1 := ((d + 1), 38, 28, [some (.inr (.inr 86))], [.inl (w32 ((U 86 58) - 1)), .inr (.inr 86)], (am_sh, am_mm U))) 5 (fun _ => rfl) ?_
    refine eu_puti 86 (n := 90) rfl (by decide) rfl rfl ?_
    refine ev_seg (σ1 := ((d + 1), 38, 38, [some (.inr (.inr 86))], [.inl ((am_upd U 86 58 (w32 ((U 86 58) - 1))) 86 58), .inr (.inr 86), .inl 0, .inr (.inr 86)], (am_sh, am_mm (am_upd U 86 58 (w32 ((U 86 58) - 1)))))) 5 (fun _ => rfl) ?_
    obtain ⟨r1, U1, h1c, h1a⟩ := h1
    refine ev_cal (σc := (d, 143, 0, [some (.inr (.inr 86)), some (.inl ((am_upd U 86 58 (w32 ((U 86 58) - 1))) 86 58))], [], (am_sh, am_mm (am_upd U 86 58 (w32 ((U 86 58) - 1)))))) (fun _ => rfl) h1c ?_
    show Ev (am_kz N X) ((d + 1), 38, 41, [some (.inr (.inr 86))], [.inl r1, .inl 0, .inr (.inr 86)], (am_sh, am_mm U1)) R
    obtain ⟨U2, h1ac, h1aa⟩ := h1a
    refine ev_cal (σc := (d, 144, 0, [some (.inr (.inr 86)), some (.inl 0), some (.inl r1), none], [], (am_sh, am_mm U1))) (fun _ => rfl) h1ac ?_
    show Ev (am_kz N X) ((d + 1), 38, 44, [some (.inr (.inr 86))], [], (am_sh, am_mm U2)) R
    subst h1aa
    exact ev_end 2 (fun _ => rfl)
  · have h2 := h.2 hc
    refine ev_seg (σ1 := ((d + 1), 38, 9, [some (.inr (.inr 86))], [.inl 4, .inr (.inr 86)], (am_sh, am_mm U))) 2 (fun _ => rfl) ?_
    obtain ⟨r3, U3, h2c, h2a⟩ := h2
    refine ev_cal (σc := (d, 85, 0, [some (.inr (.inr 86)), some (.inl 4)], [], (am_sh, am_mm U))) (fun _ => rfl) h2c ?_
    show Ev (am_kz N X) ((d + 1), 38, 12, [some (.inr (.inr 86))], [.inl r3], (am_sh, am_mm U3)) R
    refine ev_br (P := r3 < 0) (σ1 := ((d + 1), 38, 19, [some (.inr (.inr 86))], [], (am_sh, am_mm U3))) (σ2 := ((d + 1), 38, 15, [some (.inr (.inr 86))], [], (am_sh, am_mm U3))) 1 (fun _ => rfl) (fun hc => ?_) (fun hc => ?_)
    · have h2a1 := h2a.1 hc
      subst h2a1
      exact ev_end 2 (fun _ => rfl)
    · have h2a2 := h2a.2 hc
      subst h2a2
      exact ev_end 3 (fun _ => rfl)
set_option maxRecDepth 8000 in
theorem st39_1_0 (N : Nat) (X : Nat → Int) (d : Nat) (x1 : Int) (U : Nat → Nat → Int) (R : Option am_V × am_M) (h : (((0 ≤ x1 : Prop)) → R = (some (.inl 1), (am_sh, am_mm (am_upd U 1 18 x1)))) ∧ (¬ (0 ≤ x1) → ∃ (r1 : Int) (U1 : Nat → Nat → Int), Ev (am_kz N X) (d, 83, 0, [some (.inr (.inr 1)), some (.inl 5)], [], (am_sh, am_mm U)) (some (.inl r1), (am_sh, am_mm U1)) ∧ (r1 = 0 ∨ r1 = 1) ∧ R = (some (.inl r1), (am_sh, am_mm U1)))) : Ev (am_kz N X) ((d + 1), 39, 0, [some (.inr (.inr 1)), some (.inl x1)], [], (am_sh, am_mm U)) R := by
  refine ev_br (P := 0 ≤ x1) (σ1 := ((d + 1), 39, 10, [some (.inr (.inr 1)), some (.inl x1)], [], (am_sh, am_mm U))) (σ2 := ((d + 1), 39, 4, [some (.inr (.inr 1)), some (.inl x1)], [], (am_sh, am_mm U))) 2 (fun _ => rfl) (fun hc => ?_) (fun hc => ?_)
  · have h1 := h.1 hc
    refine ev_seg (σ1 := ((d + 1), 39, 12, [some (.inr (.inr 1)), some (.inl x1)], [.inl x1, .inr (.inr 1)], (am_sh, am_mm U))) 2 (fun _ => rfl) ?_
    refine eu_puti 1 (n := 19) rfl (by decide) rfl rfl ?_
    subst h1
    exact ev_end 2 (fun _ => rfl)
  · have h2 := h.2 hc
    refine ev_seg (σ1 := ((d + 1), 39, 6, [some (.inr (.inr 1)), some (.inl x1)], [.inl 5, .inr (.inr 1)], (am_sh, am_mm U))) 2 (fun _ => rfl) ?_
    obtain ⟨r1, U1, h2c, h2a⟩ := h2
    refine ev_cal (σc := (d, 83, 0, [some (.inr (.inr 1)), some (.inl 5)], [], (am_sh, am_mm U))) (fun _ => rfl) h2c ?_
    show Ev (am_kz N X) ((d + 1), 39, 9, [some (.inr (.inr 1)), some (.inl x1)], [.inl r1], (am_sh, am_mm U1)) R
    rw [h2a.2]
    exact ev_retz rfl rfl h2a.1
set_option maxRecDepth 8000 in
theorem st40_86_0 (N : Nat) (X : Nat → Int) (d : Nat) (x1 : Int) (U : Nat → Nat → Int) (R : Option am_V × am_M) (h : (((0 ≤ x1 : Prop)) → R = (some (.inl 1), (am_sh, am_mm (am_upd U 86 59 x1)))) ∧ (¬ (0 ≤ x1) → ∃ (r1 : Int) (U1 : Nat → Nat → Int), Ev (am_kz N X) (d, 85, 0, [some (.inr (.inr 86)), some (.inl 5)], [], (am_sh, am_mm U)) (some (.inl r1), (am_sh, am_mm U1)) ∧ (((r1 < 0 : Prop)) → R = (some (.inl 0), (am_sh, am_mm U1))) ∧ (¬ (r1 < 0) → R = (some (.inl 1), (am_sh, am_mm U1))))) : Ev (am_kz N X) ((d + 1), 40, 0, [some (.inr (.inr 86)), some (.inl x1)], [], (am_sh, am_mm U)) R := by
  refine ev_br (P := 0 ≤ x1) (σ1 := ((d + 1), 40, 18, [some (.inr (.inr 86)), some (.inl x1)], [], (am_sh, am_mm U))) (σ2 := ((d + 1), 40, 4, [some (.inr (.inr 86)), some (.inl x1)], [], (am_sh, am_mm U))) 2 (fun _ => rfl) (fun hc => ?_) (fun hc => ?_)
  · have h1 := h.1 hc
    refine ev_seg (σ1 := ((d + 1), 40, 21, [some (.inr (.inr 86)), some (.inl x1)], [.inr (.inl x1), .inr (.inr 86)], (am_sh, am_mm U))) 3 (fun _ => rfl) ?_
    refine eu_putj 86 (n := 90) rfl (by decide) rfl rfl ?_
    subst h1
    exact ev_end 2 (fun _ => rfl)
  · have h2 := h.2 hc
    refine ev_seg (σ1 := ((d + 1), 40, 6, [some (.inr (.inr 86)), some (.inl x1)], [.inl 5, .inr (.inr 86)], (am_sh, am_mm U))) 2 (fun _ => rfl) ?_
    obtain ⟨r1, U1, h2c, h2a⟩ := h2
    refine ev_cal (σc := (d, 85, 0, [some (.inr (.inr 86)), some (.inl 5)], [], (am_sh, am_mm U))) (fun _ => rfl) h2c ?_
    show Ev (am_kz N X) ((d + 1), 40, 9, [some (.inr (.inr 86)), some (.inl x1)], [.inl r1], (am_sh, am_mm U1)) R
    refine ev_br (P := r1 < 0) (σ1 := ((d + 1), 40, 16, [some (.inr (.inr 86)), some (.inl x1)], [], (am_sh, am_mm U1))) (σ2 := ((d + 1), 40, 12, [some (.inr (.inr 86)), some (.inl x1)], [], (am_sh, am_mm U1))) 1 (fun _ => rfl) (fun hc => ?_) (fun hc => ?_)
    · have h2a1 := h2a.1 hc
      subst h2a1
      exact ev_end 2 (fun _ => rfl)
    · have h2a2 := h2a.2 hc
      subst h2a2
      exact ev_end 3 (fun _ => rfl)
set_option maxRecDepth 8000 in
theorem st41_1_0 (N : Nat) (X : Nat → Int) (d : Nat) (x1 : Int) (U : Nat → Nat → Int) (R : Option am_V × am_M) (h : ∃ (r1 : Int) (U1 : Nat → Nat → Int), Ev (am_kz N X) (d, 145, 0, [some (.inr (.inr 52)), some (.inl x1)], [], (am_sh, am_mm U)) (some (.inl r1), (am_sh, am_mm U1)) ∧ R = (some (.inl r1), (am_sh, am_mm U1))) : Ev (am_kz N X) ((d + 1), 41, 0, [some (.inr (.inr 1)), some (.inl x1)], [], (am_sh, am_mm U)) R := by
  refine ev_seg (σ1 := ((d + 1), 41, 5, [some (.inr (.inr 1)), some (.inl x1)], [.inl x1, .inr (.inr 52)], (am_sh, am_mm U))) 3 (fun _ => rfl) ?_
  obtain ⟨r1, U1, hc, ha⟩ := h
  refine ev_cal (σc := (d, 145, 0, [some (.inr (.inr 52)), some (.inl x1)], [], (am_sh, am_mm U))) (fun _ => rfl) hc ?_
  show Ev (am_kz N X) ((d + 1), 41, 8, [some (.inr (.inr 1)), some (.inl x1)], [.inl r1], (am_sh, am_mm U1)) R
  subst ha
  exact ev_end 1 (fun _ => rfl)
set_option maxRecDepth 8000 in
theorem st42_86_0 (N : Nat) (X : Nat → Int) (d : Nat) (x1 : Int) (U : Nat → Nat → Int) (R : Option am_V × am_M) (h : (((x1 = (-1) : Prop)) → ∃ U1 : Nat → Nat → Int, Ev (am_kz N X) (d, 146, 0, [some (.inr (.inr 86)), none, none, none, none, none, none, none], [], (am_sh, am_mm U)) (none, (am_sh, am_mm U1)) ∧ (((¬ x1 = (-1) : Prop)) → (0 ≤ x1 ∧ x1 < 16) ∧ (((¬ (U1 132 x1.toNat) = (-1) : Prop)) → (0 ≤ x1 ∧ x1 < 16) ∧ R = (some (.inl (U1 132 x1.toNat)), (am_sh, am_mm U1))) ∧ (¬ (¬ (U1 132 x1.toNat) = (-1)) → R = (some (.inl 20), (am_sh, am_mm U1)))) ∧ (¬ (¬ x1 = (-1)) → (0 ≤ (w32 ((am_shl 1 (U1 122 0)) - 1)) ∧ (w32 ((am_shl 1 (U1 122 0)) - 1)) < 65536) ∧ R = (some (.inl (U1 131 (w32 ((am_shl 1 (U1 122 0)) - 1)).toNat)), (am_sh, am_mm U1)))) ∧ (¬ (x1 = (-1)) → ∃ (r2 : Int) (U2 : Nat → Nat → Int), Ev (am_kz N X) (d, 115, 0, [some (.inr (.inr 86)), some (.inl x1)], [], (am_sh, am_mm U)) (some (.inl r2), (am_sh, am_mm U2)) ∧ (((¬ r2 = 0 : Prop)) → ∃ U3 : Nat → Nat → Int, Ev (am_kz N X) (d, 146, 0, [some (.inr (.inr 86)), none, none, none, none, none, none, none], [], (am_sh, am_mm U2)) (none, (am_sh, am_mm U3)) ∧ (((¬ x1 = (-1) : Prop)) → (0 ≤ x1 ∧ x1 < 16) ∧ (((¬ (U3 132 x1.toNat) = (-1) : Prop)) → (0 ≤ x1 ∧ x1 < 16) ∧ R = (some (.inl (U3 132 x1.toNat)), (am_sh, am_mm U3))) ∧ (¬ (¬ (U3 132 x1.toNat) = (-1)) → R = (some (.inl 20), (am_sh, am_mm U3)))) ∧ (¬ (¬ x1 = (-1)) → (0 ≤ (w32 ((am_shl 1 (U3 122 0)) - 1)) ∧ (w32 ((am_shl 1 (U3 122 0)) - 1)) < 65536) ∧ R = (some (.inl (U3 131 (w32 ((am_shl 1 (U3 122 0)) - 1)).toNat)), (am_sh, am_mm U3)))) ∧ (¬ (¬ r2 = 0) → R = (some (.inl (-1)), (am_sh, am_mm U2))))) : Ev (am_kz N X) ((d + 1), 42, 0, [some (.inr (.inr 86)), some (.inl x1)], [], (am_sh, am_mm U)) R := by
  refine ev_br (P := x1 = (-1)) (σ1 := ((d + 1), 42, 15, [some (.inr (.inr 86)), some (.inl x1)], [], (am_sh, am_mm U))) (σ2 := ((d + 1), 42, 5, [some (.inr (.inr 86)), some (.inl x1)], [], (am_sh, am_mm U))) 3 (fun _ => rfl) (fun hc => ?_) (fun hc => ?_)
  · have h1 := h.1 hc
    refine ev_seg (σ1 := ((d + 1), 42, 16, [some (.inr (.inr 86)), some (.inl x1)], [.inr (.inr 86)], (am_sh, am_mm U))) 1 (fun _ => rfl) ?_
    obtain ⟨U1, h1c, h1a⟩ := h1
    refine ev_cal (σc := (d, 146, 0, [some (.inr (.inr 86)), none, none, none, none, none, none, none], [], (am_sh, am_mm U))) (fun _ => rfl) h1c ?_
    show Ev (am_kz N X) ((d + 1), 42, 19, [some (.inr (.inr 86)), some (.inl x1)], [], (am_sh, am_mm U1)) R
    refine ev_br (P := ¬ x1 = (-1)) (σ1 := ((d + 1), 42, 42, [some (.inr (.inr 86)), some (.inl x1)], [], (am_sh, am_mm U1))) (σ2 := ((d + 1), 42, 24, [some (.inr (.inr 86)), some (.inl x1)], [], (am_sh, am_mm U1))) 3 (fun _ => rfl) (fun hc => ?_) (fun hc => ?_)
    · have h1a1 := h1a.1 hc
      refine ev_seg (σ1 := ((d + 1), 42, 47, [some (.inr (.inr 86)), some (.inl x1)], [.inl x1, .inr (.inr 132)], (am_sh, am_mm U1))) 3 (fun _ => rfl) ?_
      refine eu_iald 132 (n := 16) rfl (by decide) rfl (fun _ => rfl) h1a1.1 ?_
      have h1a1a := h1a1.2
      refine ev_br (P := ¬ (U1 132 x1.toNat) = (-1)) (σ1 := ((d + 1), 42, 57, [some (.inr (.inr 86)), some (.inl x1)], [], (am_sh, am_mm U1))) (σ2 := ((d + 1), 42, 52, [some (.inr (.inr 86)), some (.inl x1)], [], (am_sh, am_mm U1))) 2 (fun _ => rfl) (fun hc => ?_) (fun hc => ?_)
      · have h1a1a1 := h1a1a.1 hc
        refine ev_seg (σ1 := ((d + 1), 42, 62, [some (.inr (.inr 86)), some (.inl x1)], [.inl x1, .inr (.inr 132)], (am_sh, am_mm U1))) 3 (fun _ => rfl) ?_
        refine eu_iald 132 (n := 16) rfl (by decide) rfl (fun _ => rfl) h1a1a1.1 ?_
        have h1a1a1a := h1a1a1.2
        subst h1a1a1a
        exact ev_end 1 (fun _ => rfl)
      · have h1a1a2 := h1a1a.2 hc
        subst h1a1a2
        exact ev_end 3 (fun _ => rfl)
    · have h1a2 := h1a.2 hc
      refine ev_seg (σ1 := ((d + 1), 42, 34, [some (.inr (.inr 86)), some (.inl x1)], [.inl 0, .inr (.inr 122), .inl 1, .inr (.inr 131)], (am_sh, am_mm U1))) 6 (fun _ => rfl) ?_
      refine eu_iald 122 (n := 22) rfl (by decide) rfl (fun _ => rfl) (by decide) ?_
      show Ev (am_kz N X) ((d + 1), 42, 35, [some (.inr (.inr 86)), some (.inl x1)], [.inl (U1 122 0), .inl 1, .inr (.inr 131)], (am_sh, am_mm U1)) R
      refine ev_seg (σ1 := ((d + 1), 42, 38, [some (.inr (.inr 86)), some (.inl x1)], [.inl (w32 ((am_shl 1 (U1 122 0)) - 1)), .inr (.inr 131)], (am_sh, am_mm U1))) 3 (fun _ => rfl) ?_
      refine eu_iald 131 (n := 65536) rfl (by decide) rfl (fun _ => rfl) h1a2.1 ?_
      have h1a2a := h1a2.2
      subst h1a2a
      exact ev_end 2 (fun _ => rfl)
  · have h2 := h.2 hc
    refine ev_seg (σ1 := ((d + 1), 42, 7, [some (.inr (.inr 86)), some (.inl x1)], [.inl x1, .inr (.inr 86)], (am_sh, am_mm U))) 2 (fun _ => rfl) ?_
    obtain ⟨r2, U2, h2c, h2a⟩ := h2
    refine ev_cal (σc := (d, 115, 0, [some (.inr (.inr 86)), some (.inl x1)], [], (am_sh, am_mm U))) (fun _ => rfl) h2c ?_
    show Ev (am_kz N X) ((d + 1), 42, 10, [some (.inr (.inr 86)), some (.inl x1)], [.inl r2], (am_sh, am_mm U2)) R
    refine ev_br (P := ¬ r2 = 0) (σ1 := ((d + 1), 42, 15, [some (.inr (.inr 86)), some (.inl x1)], [], (am_sh, am_mm U2))) (σ2 := ((d + 1), 42, 13, [some (.inr (.inr 86)), some (.inl x1)], [], (am_sh, am_mm U2))) 1 (fun _ => rfl) (fun hc => ?_) (fun hc => ?_)
    · have h2a1 := h2a.1 hc
      refine ev_seg (σ1 := ((d + 1), 42, 16, [some (.inr (.inr 86)), some (.inl x1)], [.inr (.inr 86)], (am_sh, am_mm U2))) 1 (fun _ => rfl) ?_
      obtain ⟨U3, h2a1c, h2a1a⟩ := h2a1
      refine ev_cal (σc := (d, 146, 0, [some (.inr (.inr 86)), none, none, none, none, none, none, none], [], (am_sh, am_mm U2))) (fun _ => rfl) h2a1c ?_
      show Ev (am_kz N X) ((d + 1), 42, 19, [some (.inr (.inr 86)), some (.inl x1)], [], (am_sh, am_mm U3)) R
      refine ev_br (P := ¬ x1 = (-1)) (σ1 := ((d + 1), 42, 42, [some (.inr (.inr 86)), some (.inl x1)], [], (am_sh, am_mm U3))) (σ2 := ((d + 1), 42, 24, [some (.inr (.inr 86)), some (.inl x1)], [], (am_sh, am_mm U3))) 3 (fun _ => rfl) (fun hc => ?_) (fun hc => ?_)
      · have h2a1a1 := h2a1a.1 hc
        refine ev_seg (σ1 := ((d + 1), 42, 47, [some (.inr (.inr 86)), some (.inl x1)], [.inl x1, .inr (.inr 132)], (am_sh, am_mm U3))) 3 (fun _ => rfl) ?_
        refine eu_iald 132 (n := 16) rfl (by decide) rfl (fun _ => rfl) h2a1a1.1 ?_
        have h2a1a1a := h2a1a1.2
        refine ev_br (P := ¬ (U3 132 x1.toNat) = (-1)) (σ1 := ((d + 1), 42, 57, [some (.inr (.inr 86)), some (.inl x1)], [], (am_sh, am_mm U3))) (σ2 := ((d + 1), 42, 52, [some (.inr (.inr 86)), some (.inl x1)], [], (am_sh, am_mm U3))) 2 (fun _ => rfl) (fun hc => ?_) (fun hc => ?_)
        · have h2a1a1a1 := h2a1a1a.1 hc
          refine ev_seg (σ1 := ((d + 1), 42, 62, [some (.inr (.inr 86)), some (.inl x1)], [.inl x1, .inr (.inr 132)], (am_sh, am_mm U3))) 3 (fun _ => rfl) ?_
          refine eu_iald 132 (n := 16) rfl (by decide) rfl (fun _ => rfl) h2a1a1a1.1 ?_
          have h2a1a1a1a := h2a1a1a1.2
          subst h2a1a1a1a
          exact ev_end 1 (fun _ => rfl)
        · have h2a1a1a2 := h2a1a1a.2 hc
          subst h2a1a1a2
          exact ev_end 3 (fun _ => rfl)
      · have h2a1a2 := h2a1a.2 hc
        refine ev_seg (σ1 := ((d + 1), 42, 34, [some (.inr (.inr 86)), some (.inl x1)], [.inl 0, .inr (.inr 122), .inl 1, .inr (.inr 131)], (am_sh, am_mm U3))) 6 (fun _ => rfl) ?_
        refine eu_iald 122 (n := 22) rfl (by decide) rfl (fun _ => rfl) (by decide) ?_
        show Ev (am_kz N X) ((d + 1), 42, 35, [some (.inr (.inr 86)), some (.inl x1)], [.inl (U3 122 0), .inl 1, .inr (.inr 131)], (am_sh, am_mm U3)) R
        refine ev_seg (σ1 := ((d + 1), 42, 38, [some (.inr (.inr 86)), some (.inl x1)], [.inl (w32 ((am_shl 1 (U3 122 0)) - 1)), .inr (.inr 131)], (am_sh, am_mm U3))) 3 (fun _ => rfl) ?_
        refine eu_iald 131 (n := 65536) rfl (by decide) rfl (fun _ => rfl) h2a1a2.1 ?_
        have h2a1a2a := h2a1a2.2
        subst h2a1a2a
        exact ev_end 2 (fun _ => rfl)
    · have h2a2 := h2a.2 hc
      subst h2a2
      exact ev_end 2 (fun _ => rfl)
set_option maxRecDepth 8000 in
theorem st43_1_0 (N : Nat) (X : Nat → Int) (d : Nat) (x1 x2 : Int) (U : Nat → Nat → Int) (R : Option am_V × am_M) (h : ∃ (r1 : Int) (U1 : Nat → Nat → Int), Ev (am_kz N X) (d, 114, 0, [some (.inr (.inr 1)), some (.inl x1)], [], (am_sh, am_mm U)) (some (.inl r1), (am_sh, am_mm U1)) ∧ (((¬ r1 = 0 : Prop)) → ∃ (r2 : Int) (U2 : Nat → Nat → Int), Ev (am_kz N X) (d, 119, 0, [some (.inr (.inr 16)), some (.inl x1)], [], (am_sh, am_mm U1)) (some (.inr (.inl r2)), (am_sh, am_mm U2)) ∧ ∃ U3 : Nat → Nat → Int, Ev (am_kz N X) (d, 147, 0, [some (.inr (.inr 82)), some (.inr (.inl r2)), none, none, none, none], [], (am_sh, am_mm U2)) (none, (am_sh, am_mm U3)) ∧ ∃ (r4 : Int) (U4 : Nat → Nat → Int), Ev (am_kz N X) (d, 148, 0, [some (.inr (.inr 82)), some (.inl x2)], [], (am_sh, am_mm U3)) (some (.inl r4), (am_sh, am_mm U4)) ∧ R = (some (.inl r4), (am_sh, am_mm U4))) ∧ (¬ (¬ r1 = 0) → R = (some (.inl (-1)), (am_sh, am_mm U1)))) : Ev (am_kz N X) ((d + 1), 43, 0, [some (.inr (.inr 1)), some (.inl x1), some (.inl x2)], [], (am_sh, am_mm U)) R := by
  refine ev_seg (σ1 := ((d + 1), 43, 2, [some (.inr (.inr 1)), some (.inl x1), some (.inl x2)], [.inl x1, .inr (.inr 1)], (am_sh, am_mm U))) 2 (fun _ => rfl) ?_
  obtain ⟨r1, U1, hc, ha⟩ := h
  refine ev_cal (σc := (d, 114, 0, [some (.inr (.inr 1)), some (.inl x1)], [], (am_sh, am_mm U))) (fun _ => rfl) hc ?_
  show Ev (am_kz N X) ((d + 1), 43, 5, [some (.inr (.inr 1)), some (.inl x1), some (.inl x2)], [.inl r1], (am_sh, am_mm U1)) R
  refine ev_br (P := ¬ r1 = 0) (σ1 := ((d + 1), 43, 10, [some (.inr (.inr 1)), some (.inl x1), some (.inl x2)], [], (am_sh, am_mm U1))) (σ2 := ((d + 1), 43, 8, [some (.inr (.inr 1)), some (.inl x1), some (.inl x2)], [], (am_sh, am_mm U1))) 1 (fun _ => rfl) (fun hc => ?_) (fun hc => ?_)
  · have ha1 := ha.1 hc
    refine ev_seg (σ1 := ((d + 1), 43, 19, [some (.inr (.inr 1)), some (.inl x1), some (.inl x2)], [.inl x1, .inr (.inr 16), .inr (.inr 82)], (am_sh, am_mm U1))) 5 (fun _ => rfl) ?_
    obtain ⟨r2, U2, ha1c, ha1a⟩ := ha1
    refine ev_cal (σc := (d, 119, 0, [some (.inr (.inr 16)), some (.inl x1)], [], (am_sh, am_mm U1))) (fun _ => rfl) ha1c ?_
    show Ev (am_kz N X) ((d + 1), 43, 22, [some (.inr (.inr 1)), some (.inl x1), some (.inl x2)], [.inr (.inl r2), .inr (.inr 82)], (am_sh, am_mm U2)) R
    obtain ⟨U3, ha1ac, ha1aa⟩ := ha1a
    refine ev_cal (σc := (d, 147, 0, [some (.inr (.inr 82)), some (.inr (.inl r2)), none, none, none, none], [], (am_sh, am_mm U2))) (fun _ => rfl) ha1ac ?_
    show Ev (am_kz N X) ((d + 1), 43, 25, [some (.inr (.inr 1)), some (.inl x1), some (.inl x2)], [], (am_sh, am_mm U3)) R
    refine ev_seg (σ1 := ((d + 1), 43, 30, [some (.inr (.inr 1)), some (.inl x1), some (.inl x2)], [.inl x2, .inr (.inr 82)], (am_sh, am_mm U3))) 3 (fun _ => rfl) ?_
    obtain ⟨r4, U4, ha1aac, ha1aaa⟩ := ha1aa
    refine ev_cal (σc := (d, 148, 0, [some (.inr (.inr 82)), some (.inl x2)], [], (am_sh, am_mm U3))) (fun _ => rfl) ha1aac ?_
    show Ev (am_kz N X) ((d + 1), 43, 33, [some (.inr (.inr 1)), some (.inl x1), some (.inl x2)], [.inl r4], (am_sh, am_mm U4)) R
    subst ha1aaa
    exact ev_end 1 (fun _ => rfl)
  · have ha2 := ha.2 hc
    subst ha2
    exact ev_end 2 (fun _ => rfl)
set_option maxRecDepth 8000 in
theorem st44_86_0 (N : Nat) (X : Nat → Int) (d : Nat) (x1 x2 : Int) (U : Nat → Nat → Int) (R : Option am_V × am_M) (h : ∃ (r1 : Int) (U1 : Nat → Nat → Int), Ev (am_kz N X) (d, 115, 0, [some (.inr (.inr 86)), some (.inl x1)], [], (am_sh, am_mm U)) (some (.inl r1), (am_sh, am_mm U1)) ∧ (((¬ r1 = 0 : Prop)) → ∃ (r2 : Int) (U2 : Nat → Nat → Int), Ev (am_kz N X) (d, 121, 0, [some (.inr (.inr 86)), some (.inl x1)], [], (am_sh, am_mm U1)) (some (.inr (.inl r2)), (am_sh, am_mm U2)) ∧ ∃ (r3 : Int) (U3 : Nat → Nat → Int), Ev (am_kz N X) (d, 123, 0, [some (.inr (.inl r2)), none, none, none, none, none], [], (am_sh, am_mm U2)) (some (.inr (.inl r3)), (am_sh, am_mm U3)) ∧ (((¬ x2 = (-1) : Prop)) → ∃ (r4 : Int) (U4 : Nat → Nat → Int), Ev (am_kz N X) (d, 150, 0, [some (.inr (.inl r3)), none, some (.inl x2), none, none, none], [], (am_sh, am_mm U3)) (some (.inl r4), (am_sh, am_mm U4)) ∧ R = (some (.inl r4), (am_sh, am_mm U4))) ∧ (¬ (¬ x2 = (-1)) → ∃ (r5 : Int) (U5 : Nat → Nat → Int), Ev (am_kz N X) (d, 149, 0, [some (.inr (.inl r3)), none, none, none, none], [], (am_sh, am_mm U3)) (some (.inl r5), (am_sh, am_mm U5)) ∧ R = (some (.inl r5), (am_sh, am_mm U5)))) ∧ (¬ (¬ r1 = 0) → R = (some (.inl (-1)), (am_sh, am_mm U1)))) : Ev (am_kz N X) ((d + 1), 44, 0, [some (.inr (.inr 86)), some (.inl x1), some (.inl x2), none, none], [], (am_sh, am_mm U)) R := by
  refine ev_seg (σ1 := ((d + 1), 44, 2, [some (.inr (.inr 86)), some (.inl x1), some (.inl x2), none, none], [.inl x1, .inr (.inr 86)], (am_sh, am_mm U))) 2 (fun _ => rfl) ?_
  obtain ⟨r1, U1, hc, ha⟩ := h
  refine ev_cal (σc := (d, 115, 0, [some (.inr (.inr 86)), some (.inl x1)], [], (am_sh, am_mm U))) (fun _ => rfl) hc ?_
  show Ev (am_kz N X) ((d + 1), 44, 5, [some (.inr (.inr 86)), some (.inl x1), some (.inl x2), none, none], [.inl r1], (am_sh, am_mm U1)) R
  refine ev_br (P := ¬ r1 = 0) (σ1 := ((d + 1), 44, 10, [some (.inr (.inr 86)), some (.inl x1), some (.inl x2), none, none], [], (am_sh, am_mm U1))) (σ2 := ((d + 1), 44, 8, [some (.inr (.inr 86)), some (.inl x1), some (.inl x2), none, none], [], (am_sh, am_mm U1))) 1 (fun _ => rfl) (fun hc => ?_) (fun hc => ?_)
  · have ha1 := ha.1 hc
    refine ev_seg (σ1 := ((d + 1), 44, 12, [some (.inr (.inr 86)), some (.inl x1), some (.inl x2), none, none], [.inl x1, .inr (.inr 86)], (am_sh, am_mm U1))) 2 (fun _ => rfl) ?_
    obtain ⟨r2, U2, ha1c, ha1a⟩ := ha1
    refine ev_cal (σc := (d, 121, 0, [some (.inr (.inr 86)), some (.inl x1)], [], (am_sh, am_mm U1))) (fun _ => rfl) ha1c ?_
    show Ev (am_kz N X) ((d + 1), 44, 15, [some (.inr (.inr 86)), some (.inl x1), some (.inl x2), none, none], [.inr (.inl r2)], (am_sh, am_mm U2)) R
    obtain ⟨r3, U3, ha1ac, ha1aa⟩ := ha1a
    refine ev_cal (σc := (d, 123, 0, [some (.inr (.inl r2)), none, none, none, none, none], [], (am_sh, am_mm U2))) (fun _ => rfl) ha1ac ?_
    show Ev (am_kz N X) ((d + 1), 44, 18, [some (.inr (.inr 86)), some (.inl x1), some (.inl x2), none, none], [.inr (.inl r3)], (am_sh, am_mm U3)) R
    refine ev_br (P := ¬ x2 = (-1)) (σ1 := ((d + 1), 44, 31, [some (.inr (.inr 86)), some (.inl x1), some (.inl x2), some (.inr (.inl r3)), none], [], (am_sh, am_mm U3))) (σ2 := ((d + 1), 44, 24, [some (.inr (.inr 86)), some (.inl x1), some (.inl x2), some (.inr (.inl r3)), none], [], (am_sh, am_mm U3))) 4 (fun _ => rfl) (fun hc => ?_) (fun hc => ?_)
    · have ha1aa1 := ha1aa.1 hc
      refine ev_seg (σ1 := ((d + 1), 44, 33, [some (.inr (.inr 86)), some (.inl x1), some (.inl x2), some (.inr (.inl r3)), none], [.inl x2, .inr (.inl r3)], (am_sh, am_mm U3))) 2 (fun _ => rfl) ?_
      obtain ⟨r4, U4, ha1aa1c, ha1aa1a⟩ := ha1aa1
      refine ev_cal (σc := (d, 150, 0, [some (.inr (.inl r3)), none, some (.inl x2), none, none, none], [], (am_sh, am_mm U3))) (fun _ => rfl) ha1aa1c ?_
      show Ev (am_kz N X) ((d + 1), 44, 36, [some (.inr (.inr 86)), some (.inl x1), some (.inl x2), some (.inr (.inl r3)), none], [.inl r4], (am_sh, am_mm U4)) R
      subst ha1aa1a
      exact ev_end 1 (fun _ => rfl)
    · have ha1aa2 := ha1aa.2 hc
      refine ev_seg (σ1 := ((d + 1), 44, 25, [some (.inr (.inr 86)), some (.inl x1), some (.inl x2), some (.inr (.inl r3)), none], [.inr (.inl r3)], (am_sh, am_mm U3))) 1 (fun _ => rfl) ?_
      obtain ⟨r5, U5, ha1aa2c, ha1aa2a⟩ := ha1aa2
      refine ev_cal (σc := (d, 149, 0, [some (.inr (.inl r3)), none, none, none, none], [], (am_sh, am_mm U3))) (fun _ => rfl) ha1aa2c ?_
      show Ev (am_kz N X) ((d + 1), 44, 28, [some (.inr (.inr 86)), some (.inl x1), some (.inl x2), some (.inr (.inl r3)), none], [.inl r5], (am_sh, am_mm U5)) R
      subst ha1aa2a
      exact ev_end 2 (fun _ => rfl)
  · have ha2 := ha.2 hc
    subst ha2
    exact ev_end 2 (fun _ => rfl)
set_option maxRecDepth 8000 in
theorem st45_1_0 (N : Nat) (X : Nat → Int) (d : Nat) (x1 : Int) (U : Nat → Nat → Int) (R : Option am_V × am_M) (h : Ev (am_kz N X) ((d + 1), 45, 4, [some (.inr (.inr 1)), some (.inl x1), some (.inl x1), some (.inl 0), none], [], (am_sh, am_mm U)) R) : Ev (am_kz N X) ((d + 1), 45, 0, [some (.inr (.inr 1)), some (.inl x1), none, none, none], [], (am_sh, am_mm U)) R := by
  refine ev_seg (σ1 := ((d + 1), 45, 4, [some (.inr (.inr 1)), some (.inl x1), some (.inl x1), some (.inl 0), none], [], (am_sh, am_mm U))) 4 (fun _ => rfl) ?_
  exact h
set_option maxRecDepth 8000 in
theorem st45_1_4 (N : Nat) (X : Nat → Int) (d : Nat) (x1 x2 x3 : Int) (U : Nat → Nat → Int) (R : Option am_V × am_M) (h : ((((U 16 0) ≤ x3 : Prop)) → R = (some (.inl (-1)), (am_sh, am_mm U))) ∧ (¬ ((U 16 0) ≤ x3) → Ev (am_kz N X) ((d + 1), 45, 20, [some (.inr (.inr 1)), some (.inl x1), some (.inl x2), some (.inl x3), some (.inl (w32 (x3 + 1)))], [], (am_sh, am_mm U)) R)) : Ev (am_kz N X) ((d + 1), 45, 4, [some (.inr (.inr 1)), some (.inl x1), some (.inl x2), some (.inl x3), none], [], (am_sh, am_mm U)) R := by
  refine ev_br (P := (U 16 0) ≤ x3) (σ1 := ((d + 1), 45, 69, [some (.inr (.inr 1)), some (.inl x1), some (.inl x2), some (.inl x3), none], [], (am_sh, am_mm U))) (σ2 := ((d + 1), 45, 15, [some (.inr (.inr 1)), some (.inl x1), some (.inl x2), some (.inl x3), none], [], (am_sh, am_mm U))) 5 (fun _ => rfl) (fun hc => ?_) (fun hc => ?_)
  · have h1 := h.1 hc
    subst h1
    exact ev_end 2 (fun _ => rfl)
  · have h2 := h.2 hc
    refine ev_seg (σ1 := ((d + 1), 45, 20, [some (.inr (.inr 1)), some (.inl x1), some (.inl x2), some (.inl x3), some (.inl (w32 (x3 + 1)))], [], (am_sh, am_mm U))) 4 (fun _ => rfl) ?_
    exact h2
set_option maxRecDepth 8000 in
theorem st45_1_20 (N : Nat) (X : Nat → Int) (d : Nat) (x1 x2 x3 x4 : Int) (U : Nat → Nat → Int) (R : Option am_V × am_M) (h : ((((U 16 0) ≤ x4 : Prop)) → Ev (am_kz N X) ((d + 1), 45, 4, [some (.inr (.inr 1)), some (.inl x1), some (.inl x2), some (.inl (w32 (x3 + 1))), some (.inl x4)], [], (am_sh, am_mm U)) R) ∧ (¬ ((U 16 0) ≤ x4) → ∃ (r1 : Int) (U1 : Nat → Nat → Int), Ev (am_kz N X) (d, 151, 0, [some (.inr (.inr 1)), some (.inl x3), some (.inl x4), none, none], [], (am_sh, am_mm U)) (some (.inl r1), (am_sh, am_mm U1)) ∧ (((r1 = 0 : Prop)) → Ev (am_kz N X) ((d + 1), 45, 20, [some (.inr (.inr 1)), some (.inl x1), some (.inl x2), some (.inl x3), some (.inl (w32 (x4 + 1)))], [], (am_sh, am_mm U1)) R) ∧ (¬ (r1 = 0) → (((¬ x2 = 0 : Prop)) → Ev (am_kz N X) ((d + 1), 45, 20, [some (.inr (.inr 1)), some (.inl x1), some (.inl (w32 (x2 + (-1)))), some (.inl x3), some (.inl (w32 (x4 + 1)))], [], (am_sh, am_mm U1)) R) ∧ (¬ (¬ x2 = 0) → R = (some (.inl (w32 ((w32 (100 * x3)) + x4))), (am_sh, am_mm U1)))))) : Ev (am_kz N X) ((d + 1), 45, 20, [some (.inr (.inr 1)), some (.inl x1), some (.inl x2), some (.inl x3), some (.inl x4)], [], (am_sh, am_mm U)) R := by
  refine ev_br (P := (U 16 0) ≤ x4) (σ1 := ((d + 1), 45, 63, [some (.inr (.inr 1)), some (.inl x1), some (.inl x2), some (.inl x3), some (.inl x4)], [], (am_sh, am_mm U))) (σ2 := ((d + 1), 45, 32, [some (.inr (.inr 1)), some (.inl x1), some (.inl x2), some (.inl x3), some (.inl x4)], [], (am_sh, am_mm U))) 5 (fun _ => rfl) (fun hc => ?_) (fun hc => ?_)
  · have h1 := h.1 hc
    refine ev_seg (σ1 := ((d + 1), 45, 4, [some (.inr (.inr 1)), some (.inl x1), some (.inl x2), some (.inl (w32 (x3 + 1))), some (.inl x4)], [], (am_sh, am_mm U))) 2 (fun _ => rfl) ?_
    exact h1
  · have h2 := h.2 hc
    refine ev_seg (σ1 := ((d + 1), 45, 36, [some (.inr (.inr 1)), some (.inl x1), some (.inl x2), some (.inl x3), some (.inl x4)], [.inl x4, .inl x3, .inr (.inr 1)], (am_sh, am_mm U))) 3 (fun _ => rfl) ?_
    obtain ⟨r1, U1, h2c, h2a⟩ := h2
    refine ev_cal (σc := (d, 151, 0, [some (.inr (.inr 1)), some (.inl x3), some (.inl x4), none, none], [], (am_sh, am_mm U))) (fun _ => rfl) h2c ?_
    show Ev (am_kz N X) ((d + 1), 45, 39, [some (.inr (.inr 1)), some (.inl x1), some (.inl x2), some (.inl x3), some (.inl x4)], [.inl r1], (am_sh, am_mm U1)) R
    refine ev_br (P := r1 = 0) (σ1 := ((d + 1), 45, 57, [some (.inr (.inr 1)), some (.inl x1), some (.inl x2), some (.inl x3), some (.inl x4)], [], (am_sh, am_mm U1))) (σ2 := ((d + 1), 45, 42, [some (.inr (.inr 1)), some (.inl x1), some (.inl x2), some (.inl x3), some (.inl x4)], [], (am_sh, am_mm U1))) 1 (fun _ => rfl) (fun hc => ?_) (fun hc => ?_)
    · have h2a1 := h2a.1 hc
      refine ev_seg (σ1 := ((d + 1), 45, 20, [some (.inr (.inr 1)), some (.inl x1), some (.inl x2), some (.inl x3), some (.inl (w32 (x4 + 1)))], [], (am_sh, am_mm U1))) 2 (fun _ => rfl) ?_
      exact h2a1
    · have h2a2 := h2a.2 hc
      refine ev_br (P := ¬ x2 = 0) (σ1 := ((d + 1), 45, 54, [some (.inr (.inr 1)), some (.inl x1), some (.inl x2), some (.inl x3), some (.inl x4)], [], (am_sh, am_mm U1))) (σ2 := ((d + 1), 45, 46, [some (.inr (.inr 1)), some (.inl x1), some (.inl x2), some (.inl x3), some (.inl x4)], [], (am_sh, am_mm U1))) 2 (fun _ => rfl) (fun hc => ?_) (fun hc => ?_)
      · have h2a21 := h2a2.1 hc
        refine ev_seg (σ1 := ((d + 1), 45, 20, [some (.inr (.inr 1)), some (.inl x1), some (.inl (w32 (x2 + (-1)))), some (.inl x3), some (.inl (w32 (x4 + 1)))], [], (am_sh, am_mm U1))) 3 (fun _ => rfl) ?_
        exact h2a21
      · have h2a22 := h2a2.2 hc
        subst h2a22
        exact ev_end 6 (fun _ => rfl)
set_option maxRecDepth 8000 in
theorem st46_86_0 (N : Nat) (X : Nat → Int) (d : Nat) (x1 : Int) (U : Nat → Nat → Int) (R : Option am_V × am_M) (h : ∃ (r1 : Int) (U1 : Nat → Nat → Int), Ev (am_kz N X) (d, 152, 0, [some (.inr (.inr 86)), some (.inl x1), some (.inl 1), none, none, none], [], (am_sh, am_mm U)) (some (.inl r1), (am_sh, am_mm U1)) ∧ R = (some (.inl r1), (am_sh, am_mm U1))) : Ev (am_kz N X) ((d + 1), 46, 0, [some (.inr (.inr 86)), some (.inl x1)], [], (am_sh, am_mm U)) R := by
  refine ev_seg (σ1 := ((d + 1), 46, 3, [some (.inr (.inr 86)), some (.inl x1)], [.inl 1, .inl x1, .inr (.inr 86)], (am_sh, am_mm U))) 3 (fun _ => rfl) ?_
  obtain ⟨r1, U1, hc, ha⟩ := h
  refine ev_cal (σc := (d, 152, 0, [some (.inr (.inr 86)), some (.inl x1), some (.inl 1), none, none, none], [], (am_sh, am_mm U))) (fun _ => rfl) hc ?_
  show Ev (am_kz N X) ((d + 1), 46, 6, [some (.inr (.inr 86)), some (.inl x1)], [.inl r1], (am_sh, am_mm U1)) R
  subst ha
  exact ev_end 1 (fun _ => rfl)
set_option maxRecDepth 8000 in
theorem st47_1_0 (N : Nat) (X : Nat → Int) (d : Nat) (x1 x2 : Int) (U : Nat → Nat → Int) (R : Option am_V × am_M) (h : ∃ (r1 : Int) (U1 : Nat → Nat → Int), Ev (am_kz N X) (d, 114, 0, [some (.inr (.inr 1)), some (.inl x1)], [], (am_sh, am_mm U)) (some (.inl r1), (am_sh, am_mm U1)) ∧ (((r1 = 0 : Prop)) → R = (some (.inl (-1)), (am_sh, am_mm U1))) ∧ (¬ (r1 = 0) → ∃ (r2 : Int) (U2 : Nat → Nat → Int), Ev (am_kz N X) (d, 114, 0, [some (.inr (.inr 1)), some (.inl x2)], [], (am_sh, am_mm U1)) (some (.inl r2), (am_sh, am_mm U2)) ∧ (((¬ r2 = 0 : Prop)) → (0 ≤ x1 ∧ x1 < 16) ∧ (0 ≤ x2 ∧ x2 < 16) ∧ ∃ (r3 : Int) (U3 : Nat → Nat → Int), Ev (am_kz N X) (d, 153, 0, [some (.inl (U2 17 x1.toNat)), some (.inl (U2 17 x2.toNat)), none, none, none, none], [], (am_sh, am_mm U2)) (some (.inl r3), (am_sh, am_mm U3)) ∧ R = (some (.inl r3), (am_sh, am_mm U3))) ∧ (¬ (¬ r2 = 0) → R = (some (.inl (-1)), (am_sh, am_mm U2))))) : Ev (am_kz N X) ((d + 1), 47, 0, [some (.inr (.inr 1)), some (.inl x1), some (.inl x2)], [], (am_sh, am_mm U)) R := by
  refine ev_seg (σ1 := ((d + 1), 47, 2, [some (.inr (.inr 1)), some (.inl x1), some (.inl x2)], [.inl x1, .inr (.inr 1)], (am_sh, am_mm U))) 2 (fun _ => rfl) ?_
  obtain ⟨r1, U1, hc, ha⟩ := h
  refine ev_cal (σc := (d, 114, 0, [some (.inr (.inr 1)), some (.inl x1)], [], (am_sh, am_mm U))) (fun _ => rfl) hc ?_
  show Ev (am_kz N X) ((d + 1), 47, 5, [some (.inr (.inr 1)), some (.inl x1), some (.inl x2)], [.inl r1], (am_sh, am_mm U1)) R
  refine ev_br (P := r1 = 0) (σ1 := ((d + 1), 47, 16, [some (.inr (.inr 1)), some (.inl x1), some (.inl x2)], [], (am_sh, am_mm U1))) (σ2 := ((d + 1), 47, 8, [some (.inr (.inr 1)), some (.inl x1), some (.inl x2)], [], (am_sh, am_mm U1))) 1 (fun _ => rfl) (fun hc => ?_) (fun hc => ?_)
  · have ha1 := ha.1 hc
    subst ha1
    exact ev_end 2 (fun _ => rfl)
  · have ha2 := ha.2 hc
    refine ev_seg (σ1 := ((d + 1), 47, 10, [some (.inr (.inr 1)), some (.inl x1), some (.inl x2)], [.inl x2, .inr (.inr 1)], (am_sh, am_mm U1))) 2 (fun _ => rfl) ?_
    obtain ⟨r2, U2, ha2c, ha2a⟩ := ha2
    refine ev_cal (σc := (d, 114, 0, [some (.inr (.inr 1)), some (.inl x2)], [], (am_sh, am_mm U1))) (fun _ => rfl) ha2c ?_
    show Ev (am_kz N X) ((d + 1), 47, 13, [some (.inr (.inr 1)), some (.inl x1), some (.inl x2)], [.inl r2], (am_sh, am_mm U2)) R
    refine ev_br (P := ¬ r2 = 0) (σ1 := ((d + 1), 47, 18, [some (.inr (.inr 1)), some (.inl x1), some (.inl x2)], [], (am_sh, am_mm U2))) (σ2 := ((d + 1), 47, 16, [some (.inr (.inr 1)), some (.inl x1), some (.inl x2)], [], (am_sh, am_mm U2))) 1 (fun _ => rfl) (fun hc => ?_) (fun hc => ?_)
    · have ha2a1 := ha2a.1 hc
      refine ev_seg (σ1 := ((d + 1), 47, 26, [some (.inr (.inr 1)), some (.inl x1), some (.inl x2)], [.inl x1, .inr (.inr 17)], (am_sh, am_mm U2))) 4 (fun _ => rfl) ?_
      refine eu_iald 17 (n := 16) rfl (by decide) rfl (fun _ => rfl) ha2a1.1 ?_
      have ha2a1a := ha2a1.2
      refine ev_seg (σ1 := ((d + 1), 47, 35, [some (.inr (.inr 1)), some (.inl x1), some (.inl x2)], [.inl x2, .inr (.inr 17), .inl (U2 17 x1.toNat)], (am_sh, am_mm U2))) 4 (fun _ => rfl) ?_
      refine eu_iald 17 (n := 16) rfl (by decide) rfl (fun _ => rfl) ha2a1a.1 ?_
      have ha2a1aa := ha2a1a.2
      obtain ⟨r3, U3, ha2a1aac, ha2a1aaa⟩ := ha2a1aa
      refine ev_cal (σc := (d, 153, 0, [some (.inl (U2 17 x1.toNat)), some (.inl (U2 17 x2.toNat)), none, none, none, none], [], (am_sh, am_mm U2))) (fun _ => rfl) ha2a1aac ?_
      show Ev (am_kz N X) ((d + 1), 47, 39, [some (.inr (.inr 1)), some (.inl x1), some (.inl x2)], [.inl r3], (am_sh, am_mm U3)) R
      subst ha2a1aaa
      exact ev_end 1 (fun _ => rfl)
    · have ha2a2 := ha2a.2 hc
      subst ha2a2
      exact ev_end 2 (fun _ => rfl)
set_option maxRecDepth 8000 in
theorem st48_86_0 (N : Nat) (X : Nat → Int) (d : Nat) (x1 x2 : Int) (U : Nat → Nat → Int) (R : Option am_V × am_M) (h : ∃ (r1 : Int) (U1 : Nat → Nat → Int), Ev (am_kz N X) (d, 115, 0, [some (.inr (.inr 86)), some (.inl x1)], [], (am_sh, am_mm U)) (some (.inl r1), (am_sh, am_mm U1)) ∧ (((r1 = 0 : Prop)) → R = (some (.inl (-1)), (am_sh, am_mm U1))) ∧ (¬ (r1 = 0) → ∃ (r2 : Int) (U2 : Nat → Nat → Int), Ev (am_kz N X) (d, 115, 0, [some (.inr (.inr 86)), some (.inl x2)], [], (am_sh, am_mm U1)) (some (.inl r2), (am_sh, am_mm U2)) ∧ (((r2 = 0 : Prop)) → R = (some (.inl (-1)), (am_sh, am_mm U2))) ∧ (¬ (r2 = 0) → (0 ≤ x1 ∧ x1 < 352) ∧ (0 ≤ x2 ∧ x2 < 352) ∧ ∃ (r3 : Int) (U3 : Nat → Nat → Int), Ev (am_kz N X) (d, 154, 0, [some (.inr (.inl (U2 123 x1.toNat))), none, some (.inr (.inl (U2 123 x2.toNat))), none, none, none, none, none, none, none], [], (am_sh, am_mm U2)) (some (.inr (.inl r3)), (am_sh, am_mm U3)) ∧ R = (some (.inl (w32 r3)), (am_sh, am_mm U3))))) : Ev (am_kz N X) ((d + 1), 48, 0, [some (.inr (.inr 86)), some (.inl x1), some (.inl x2)], [], (am_sh, am_mm U)) R := by
  refine ev_seg (σ1 := ((d + 1), 48, 2, [some (.inr (.inr 86)), some (.inl x1), some (.inl x2)], [.inl x1, .inr (.inr 86)], (am_sh, am_mm U))) 2 (fun _ => rfl) ?_
  obtain ⟨r1, U1, hc, ha⟩ := h
  refine ev_cal (σc := (d, 115, 0, [some (.inr (.inr 86)), some (.inl x1)], [], (am_sh, am_mm U))) (fun _ => rfl) hc ?_
  show Ev (am_kz N X) ((d + 1), 48, 5, [some (.inr (.inr 86)), some (.inl x1), some (.inl x2)], [.inl r1], (am_sh, am_mm U1)) R
  refine ev_br (P := r1 = 0) (σ1 := ((d + 1), 48, 37, [some (.inr (.inr 86)), some (.inl x1), some (.inl x2)], [], (am_sh, am_mm U1))) (σ2 := ((d + 1), 48, 8, [some (.inr (.inr 86)), some (.inl x1), some (.inl x2)], [], (am_sh, am_mm U1))) 1 (fun _ => rfl) (fun hc => ?_) (fun hc => ?_)
  · have ha1 := ha.1 hc
    subst ha1
    exact ev_end 2 (fun _ => rfl)
  · have ha2 := ha.2 hc
    refine ev_seg (σ1 := ((d + 1), 48, 10, [some (.inr (.inr 86)), some (.inl x1), some (.inl x2)], [.inl x2, .inr (.inr 86)], (am_sh, am_mm U1))) 2 (fun _ => rfl) ?_
    obtain ⟨r2, U2, ha2c, ha2a⟩ := ha2
    refine ev_cal (σc := (d, 115, 0, [some (.inr (.inr 86)), some (.inl x2)], [], (am_sh, am_mm U1))) (fun _ => rfl) ha2c ?_
    show Ev (am_kz N X) ((d + 1), 48, 13, [some (.inr (.inr 86)), some (.inl x1), some (.inl x2)], [.inl r2], (am_sh, am_mm U2)) R
    refine ev_br (P := r2 = 0) (σ1 := ((d + 1), 48, 37, [some (.inr (.inr 86)), some (.inl x1), some (.inl x2)], [], (am_sh, am_mm U2))) (σ2 := ((d + 1), 48, 16, [some (.inr (.inr 86)), some (.inl x1), some (.inl x2)], [], (am_sh, am_mm U2))) 1 (fun _ => rfl) (fun hc => ?_) (fun hc => ?_)
    · have ha2a1 := ha2a.1 hc
      subst ha2a1
      exact ev_end 2 (fun _ => rfl)
    · have ha2a2 := ha2a.2 hc
      refine ev_seg (σ1 := ((d + 1), 48, 21, [some (.inr (.inr 86)), some (.inl x1), some (.inl x2)], [.inl x1, .inr (.inr 123)], (am_sh, am_mm U2))) 3 (fun _ => rfl) ?_
      refine eu_iald 123 (n := 352) rfl (by decide) rfl (fun _ => rfl) ha2a2.1 ?_
      have ha2a2a := ha2a2.2
      refine ev_seg (σ1 := ((d + 1), 48, 28, [some (.inr (.inr 86)), some (.inl x1), some (.inl x2)], [.inl x2, .inr (.inr 123), .inr (.inl (U2 123 x1.toNat))], (am_sh, am_mm U2))) 4 (fun _ => rfl) ?_
      refine eu_iald 123 (n := 352) rfl (by decide) rfl (fun _ => rfl) ha2a2a.1 ?_
      have ha2a2aa := ha2a2a.2
      refine ev_seg (σ1 := ((d + 1), 48, 30, [some (.inr (.inr 86)), some (.inl x1), some (.inl x2)], [.inr (.inl (U2 123 x2.toNat)), .inr (.inl (U2 123 x1.toNat))], (am_sh, am_mm U2))) 1 (fun _ => rfl) ?_
      obtain ⟨r3, U3, ha2a2aac, ha2a2aaa⟩ := ha2a2aa
      refine ev_cal (σc := (d, 154, 0, [some (.inr (.inl (U2 123 x1.toNat))), none, some (.inr (.inl (U2 123 x2.toNat))), none, none, none, none, none, none, none], [], (am_sh, am_mm U2))) (fun _ => rfl) ha2a2aac ?_
      show Ev (am_kz N X) ((d + 1), 48, 33, [some (.inr (.inr 86)), some (.inl x1), some (.inl x2)], [.inr (.inl r3)], (am_sh, am_mm U3)) R
      subst ha2a2aaa
      exact ev_end 3 (fun _ => rfl)
set_option maxRecDepth 8000 in
theorem st49_1_0 (N : Nat) (X : Nat → Int) (d : Nat) (x1 : Int) (U : Nat → Nat → Int) (R : Option am_V × am_M) (h : Ev (am_kz N X) ((d + 1), 49, 4, [some (.inr (.inr 1)), some (.inl x1), some (.inl x1), some (.inl 0), none, none], [], (am_sh, am_mm U)) R) : Ev (am_kz N X) ((d + 1), 49, 0, [some (.inr (.inr 1)), some (.inl x1), none, none, none, none], [], (am_sh, am_mm U)) R := by
  refine ev_seg (σ1 := ((d + 1), 49, 4, [some (.inr (.inr 1)), some (.inl x1), some (.inl x1), some (.inl 0), none, none], [], (am_sh, am_mm U))) 4 (fun _ => rfl) ?_
  exact h
set_option maxRecDepth 8000 in
theorem st49_1_4 (N : Nat) (X : Nat → Int) (d : Nat) (x1 x2 x3 : Int) (U : Nat → Nat → Int) (R : Option am_V × am_M) (h : ((((U 16 0) ≤ x3 : Prop)) → R = (some (.inl (-1)), (am_sh, am_mm U))) ∧ (¬ ((U 16 0) ≤ x3) → (((x2 < 0 : Prop)) → R = (some (.inl (-1)), (am_sh, am_mm U))) ∧ (¬ (x2 < 0) → ∃ (r1 : Int) (U1 : Nat → Nat → Int), Ev (am_kz N X) (d, 117, 0, [some (.inr (.inr 1)), some (.inl x3), none, none, none], [], (am_sh, am_mm U)) (some (.inl r1), (am_sh, am_mm U1)) ∧ ∃ (r2 : Int) (U2 : Nat → Nat → Int), Ev (am_kz N X) (d, 98, 0, [some (.inl (am_and r1 (am_shl (-2) x3)))], [], (am_sh, am_mm U1)) (some (.inl r2), (am_sh, am_mm U2)) ∧ (((r2 ≤ x2 : Prop)) → Ev (am_kz N X) ((d + 1), 49, 4, [some (.inr (.inr 1)), some (.inl x1), some (.inl (w32 (x2 - r2))), some (.inl (w32 (x3 + 1))), some (.inl (am_and r1 (am_shl (-2) x3))), some (.inl r2)], [], (am_sh, am_mm U2)) R) ∧ (¬ (r2 ≤ x2) → ∃ (r3 : Int) (U3 : Nat → Nat → Int), Ev (am_kz N X) (d, 107, 0, [some (.inl (am_and r1 (am_shl (-2) x3))), some (.inl x2), none, none], [], (am_sh, am_mm U2)) (some (.inl r3), (am_sh, am_mm U3)) ∧ R = (some (.inl (w32 ((w32 (100 * x3)) + r3))), (am_sh, am_mm U3)))))) : Ev (am_kz N X) ((d + 1), 49, 4, [some (.inr (.inr 1)), some (.inl x1), some (.inl x2), some (.inl x3), none, none], [], (am_sh, am_mm U)) R := by
  refine ev_br (P := (U 16 0) ≤ x3) (σ1 := ((d + 1), 49, 67, [some (.inr (.inr 1)), some (.inl x1), some (.inl x2), some (.inl x3), none, none], [], (am_sh, am_mm U))) (σ2 := ((d + 1), 49, 15, [some (.inr (.inr 1)), some (.inl x1), some (.inl x2), some (.inl x3), none, none], [], (am_sh, am_mm U))) 5 (fun _ => rfl) (fun hc => ?_) (fun hc => ?_)
  · have h1 := h.1 hc
    subst h1
    exact ev_end 2 (fun _ => rfl)
  · have h2 := h.2 hc
    refine ev_br (P := x2 < 0) (σ1 := ((d + 1), 49, 67, [some (.inr (.inr 1)), some (.inl x1), some (.inl x2), some (.inl x3), none, none], [], (am_sh, am_mm U))) (σ2 := ((d + 1), 49, 19, [some (.inr (.inr 1)), some (.inl x1), some (.inl x2), some (.inl x3), none, none], [], (am_sh, am_mm U))) 2 (fun _ => rfl) (fun hc => ?_) (fun hc => ?_)
    · have h21 := h2.1 hc
      subst h21
      exact ev_end 2 (fun _ => rfl)
    · have h22 := h2.2 hc
      refine ev_seg (σ1 := ((d + 1), 49, 21, [some (.inr (.inr 1)), some (.inl x1), some (.inl x2), some (.inl x3), none, none], [.inl x3, .inr (.inr 1)], (am_sh, am_mm U))) 2 (fun _ => rfl) ?_
      obtain ⟨r1, U1, h22c, h22a⟩ := h22
      refine ev_cal (σc := (d, 117, 0, [some (.inr (.inr 1)), some (.inl x3), none, none, none], [], (am_sh, am_mm U))) (fun _ => rfl) h22c ?_
      show Ev (am_kz N X) ((d + 1), 49, 24, [some (.inr (.inr 1)), some (.inl x1), some (.inl x2), some (.inl x3), none, none], [.inl r1], (am_sh, am_mm U1)) R
      refine ev_seg (σ1 := ((d + 1), 49, 33, [some (.inr (.inr 1)), some (.inl x1), some (.inl x2), some (.inl x3), some (.inl (am_and r1 (am_shl (-2) x3))), none], [.inl (am_and r1 (am_shl (-2) x3))], (am_sh, am_mm U1))) 6 (fun _ => rfl) ?_
      obtain ⟨r2, U2, h22ac, h22aa⟩ := h22a
      refine ev_cal (σc := (d, 98, 0, [some (.inl (am_and r1 (am_shl (-2) x3)))], [], (am_sh, am_mm U1))) (fun _ => rfl) h22ac ?_
      show Ev (am_kz N X) ((d + 1), 49, 36, [some (.inr (.inr 1)), some (.inl x1), some (.inl x2), some (.inl x3), some (.inl (am_and r1 (am_shl (-2) x3))), none], [.inl r2], (am_sh, am_mm U2)) R
      refine ev_br (P := r2 ≤ x2) (σ1 := ((d + 1), 49, 56, [some (.inr (.inr 1)), some (.inl x1), some (.inl x2), some (.inl x3), some (.inl (am_and r1 (am_shl (-2) x3))), some (.inl r2)], [], (am_sh, am_mm U2))) (σ2 := ((d + 1), 49, 44, [some (.inr (.inr 1)), some (.inl x1), some (.inl x2), some (.inl x3), some (.inl (am_and r1 (am_shl (-2) x3))), some (.inl r2)], [], (am_sh, am_mm U2))) 4 (fun _ => rfl) (fun hc => ?_) (fun hc => ?_)
      · have h22aa1 := h22aa.1 hc
        refine ev_seg (σ1 := ((d + 1), 49, 4, [some (.inr (.inr 1)), some (.inl x1), some (.inl (w32 (x2 - r2))), some (.inl (w32 (x3 + 1))), some (.inl (am_and r1 (am_shl (-2) x3))), some (.inl r2)], [], (am_sh, am_mm U2))) 6 (fun _ => rfl) ?_
        exact h22aa1
      · have h22aa2 := h22aa.2 hc
        refine ev_seg (σ1 := ((d + 1), 49, 51, [some (.inr (.inr 1)), some (.inl x1), some (.inl x2), some (.inl x3), some (.inl (am_and r1 (am_shl (-2) x3))), some (.inl r2)], [.inl x2, .inl (am_and r1 (am_shl (-2) x3)), .inl (w32 (100 * x3))], (am_sh, am_mm U2))) 5 (fun _ => rfl) ?_
        obtain ⟨r3, U3, h22aa2c, h22aa2a⟩ := h22aa2
        refine ev_cal (σc := (d, 107, 0, [some (.inl (am_and r1 (am_shl (-2) x3))), some (.inl x2), none, none], [], (am_sh, am_mm U2))) (fun _ => rfl) h22aa2c ?_
        show Ev (am_kz N X) ((d + 1), 49, 54, [some (.inr (.inr 1)), some (.inl x1), some (.inl x2), some (.inl x3), some (.inl (am_and r1 (am_shl (-2) x3))), some (.inl r2)], [.inl r3, .inl (w32 (100 * x3))], (am_sh, am_mm U3)) R
        subst h22aa2a
        exact ev_end 2 (fun _ => rfl)
set_option maxRecDepth 8000 in
theorem st50_86_0 (N : Nat) (X : Nat → Int) (d : Nat) (x1 : Int) (U : Nat → Nat → Int) (R : Option am_V × am_M) (h : ∃ (r1 : Int) (U1 : Nat → Nat → Int), Ev (am_kz N X) (d, 152, 0, [some (.inr (.inr 86)), some (.inl x1), some (.inl 0), none, none, none], [], (am_sh, am_mm U)) (some (.inl r1), (am_sh, am_mm U1)) ∧ R = (some (.inl r1), (am_sh, am_mm U1))) : Ev (am_kz N X) ((d + 1), 50, 0, [some (.inr (.inr 86)), some (.inl x1)], [], (am_sh, am_mm U)) R := by
  refine ev_seg (σ1 := ((d + 1), 50, 3, [some (.inr (.inr 86)), some (.inl x1)], [.inl 0, .inl x1, .inr (.inr 86)], (am_sh, am_mm U))) 3 (fun _ => rfl) ?_
  obtain ⟨r1, U1, hc, ha⟩ := h
  refine ev_cal (σc := (d, 152, 0, [some (.inr (.inr 86)), some (.inl x1), some (.inl 0), none, none, none], [], (am_sh, am_mm U))) (fun _ => rfl) hc ?_
  show Ev (am_kz N X) ((d + 1), 50, 6, [some (.inr (.inr 86)), some (.inl x1)], [.inl r1], (am_sh, am_mm U1)) R
  subst ha
  exact ev_end 1 (fun _ => rfl)
set_option maxRecDepth 8000 in
theorem st51_1_0 (N : Nat) (X : Nat → Int) (d : Nat) (x1 x2 : Int) (U : Nat → Nat → Int) (R : Option am_V × am_M) (h : (((x1 < 2 : Prop)) → R = (some (.inl (-1)), (am_sh, am_mm U))) ∧ (¬ (x1 < 2) → (((x1 ≤ 99 : Prop)) → (((¬ x2 = (-1) : Prop)) → ∃ (r1 : Int) (U1 : Nat → Nat → Int), Ev (am_kz N X) (d, 114, 0, [some (.inr (.inr 1)), some (.inl x2)], [], (am_sh, am_mm U)) (some (.inl r1), (am_sh, am_mm U1)) ∧ (((r1 = 0 : Prop)) → R = (some (.inl (-1)), (am_sh, am_mm U1))) ∧ (¬ (r1 = 0) → ∃ (r2 : Int) (U2 : Nat → Nat → Int), Ev (am_kz N X) (d, 156, 0, [some (.inr (.inr 1)), some (.inl x1), some (.inl x2), some (.inl (U1 16 0)), none, none], [], (am_sh, am_mm U1)) (some (.inl r2), (am_sh, am_mm U2)) ∧ R = (some (.inl (w32 (r2 - 1))), (am_sh, am_mm U2)))) ∧ (¬ (¬ x2 = (-1)) → ∃ (r3 : Int) (U3 : Nat → Nat → Int), Ev (am_kz N X) (d, 155, 0, [some (.inr (.inr 1)), some (.inl x1), none, none], [], (am_sh, am_mm U)) (some (.inl r3), (am_sh, am_mm U3)) ∧ R = (some (.inl r3), (am_sh, am_mm U3)))) ∧ (¬ (x1 ≤ 99) → R = (some (.inl (-1)), (am_sh, am_mm U))))) : Ev (am_kz N X) ((d + 1), 51, 0, [some (.inr (.inr 1)), some (.inl x1), some (.inl x2)], [], (am_sh, am_mm U)) R := by
  refine ev_br (P := x1 < 2) (σ1 := ((d + 1), 51, 11, [some (.inr (.inr 1)), some (.inl x1), some (.inl x2)], [], (am_sh, am_mm U))) (σ2 := ((d + 1), 51, 5, [some (.inr (.inr 1)), some (.inl x1), some (.inl x2)], [], (am_sh, am_mm U))) 3 (fun _ => rfl) (fun hc => ?_) (fun hc => ?_)
  · have h1 := h.1 hc
    subst h1
    exact ev_end 2 (fun _ => rfl)
  · have h2 := h.2 hc
    refine ev_br (P := x1 ≤ 99) (σ1 := ((d + 1), 51, 13, [some (.inr (.inr 1)), some (.inl x1), some (.inl x2)], [], (am_sh, am_mm U))) (σ2 := ((d + 1), 51, 11, [some (.inr (.inr 1)), some (.inl x1), some (.inl x2)], [], (am_sh, am_mm U))) 3 (fun _ => rfl) (fun hc => ?_) (fun hc => ?_)
    · have h21 := h2.1 hc
      refine ev_br (P := ¬ x2 = (-1)) (σ1 := ((d + 1), 51, 24, [some (.inr (.inr 1)), some (.inl x1), some (.inl x2)], [], (am_sh, am_mm U))) (σ2 := ((d + 1), 51, 18, [some (.inr (.inr 1)), some (.inl x1), some (.inl x2)], [], (am_sh, am_mm U))) 3 (fun _ => rfl) (fun hc => ?_) (fun hc => ?_)
      · have h211 := h21.1 hc
        refine ev_seg (σ1 := ((d + 1), 51, 26, [some (.inr (.inr 1)), some (.inl x1), some (.inl x2)], [.inl x2, .inr (.inr 1)], (am_sh, am_mm U))) 2 (fun _ => rfl) ?_
        obtain ⟨r1, U1, h211c, h211a⟩ := h211
        refine ev_cal (σc := (d, 114, 0, [some (.inr (.inr 1)), some (.inl x2)], [], (am_sh, am_mm U))) (fun _ => rfl) h211c ?_
        show Ev (am_kz N X) ((d + 1), 51, 29, [some (.inr (.inr 1)), some (.inl x1), some (.inl x2)], [.inl r1], (am_sh, am_mm U1)) R
        refine ev_br (P := r1 = 0) (σ1 := ((d + 1), 51, 50, [some (.inr (.inr 1)), some (.inl x1), some (.inl x2)], [], (am_sh, am_mm U1))) (σ2 := ((d + 1), 51, 32, [some (.inr (.inr 1)), some (.inl x1), some (.inl x2)], [], (am_sh, am_mm U1))) 1 (fun _ => rfl) (fun hc => ?_) (fun hc => ?_)
        · have h211a1 := h211a.1 hc
          subst h211a1
          exact ev_end 2 (fun _ => rfl)
        · have h211a2 := h211a.2 hc
          refine ev_seg (σ1 := ((d + 1), 51, 42, [some (.inr (.inr 1)), some (.inl x1), some (.inl x2)], [.inl (U1 16 0), .inl x2, .inl x1, .inr (.inr 1)], (am_sh, am_mm U1))) 6 (fun _ => rfl) ?_
          obtain ⟨r2, U2, h211a2c, h211a2a⟩ := h211a2
          refine ev_cal (σc := (d, 156, 0, [some (.inr (.inr 1)), some (.inl x1), some (.inl x2), some (.inl (U1 16 0)), none, none], [], (am_sh, am_mm U1))) (fun _ => rfl) h211a2c ?_
          show Ev (am_kz N X) ((d + 1), 51, 45, [some (.inr (.inr 1)), some (.inl x1), some (.inl x2)], [.inl r2], (am_sh, am_mm U2)) R
          subst h211a2a
          exact ev_end 4 (fun _ => rfl)
      · have h212 := h21.2 hc
        refine ev_seg (σ1 := ((d + 1), 51, 20, [some (.inr (.inr 1)), some (.inl x1), some (.inl x2)], [.inl x1, .inr (.inr 1)], (am_sh, am_mm U))) 2 (fun _ => rfl) ?_
        obtain ⟨r3, U3, h212c, h212a⟩ := h212
        refine ev_cal (σc := (d, 155, 0, [some (.inr (.inr 1)), some (.inl x1), none, none], [], (am_sh, am_mm U))) (fun _ => rfl) h212c ?_
        show Ev (am_kz N X) ((d + 1), 51, 23, [some (.inr (.inr 1)), some (.inl x1), some (.inl x2)], [.inl r3], (am_sh, am_mm U3)) R
        subst h212a
        exact ev_end 1 (fun _ => rfl)
    · have h22 := h2.2 hc
      subst h22
      exact ev_end 2 (fun _ => rfl)
set_option maxRecDepth 8000 in
theorem st52_86_0 (N : Nat) (X : Nat → Int) (d : Nat) (x1 x2 : Int) (U : Nat → Nat → Int) (R : Option am_V × am_M) (h : ∃ (r1 : Int) (U1 : Nat → Nat → Int), Ev (am_kz N X) (d, 103, 0, [some (.inl x1), some (.inl 2), some (.inl 99)], [], (am_sh, am_mm U)) (some (.inl r1), (am_sh, am_mm U1)) ∧ (((r1 = 0 : Prop)) → R = (some (.inl (-1)), (am_sh, am_mm U1))) ∧ (¬ (r1 = 0) → (((x2 = (-1) : Prop)) → Ev (am_kz N X) ((d + 1), 52, 30, [some (.inr (.inr 86)), some (.inl x1), some (.inl x2), some (.inl 0), some (.inl 0), none, none], [], (am_sh, am_mm U1)) R) ∧ (¬ (x2 = (-1)) → ∃ (r2 : Int) (U2 : Nat → Nat → Int), Ev (am_kz N X) (d, 115, 0, [some (.inr (.inr 86)), some (.inl x2)], [], (am_sh, am_mm U1)) (some (.inl r2), (am_sh, am_mm U2)) ∧ (((¬ r2 = 0 : Prop)) → Ev (am_kz N X) ((d + 1), 52, 30, [some (.inr (.inr 86)), some (.inl x1), some (.inl x2), some (.inl 0), some (.inl 0), none, none], [], (am_sh, am_mm U2)) R) ∧ (¬ (¬ r2 = 0) → R = (some (.inl (-1)), (am_sh, am_mm U2)))))) : Ev (am_kz N X) ((d + 1), 52, 0, [some (.inr (.inr 86)), some (.inl x1), some (.inl x2), none, none, none, none], [], (am_sh, am_mm U)) R := by
  refine ev_seg (σ1 := ((d + 1), 52, 4, [some (.inr (.inr 86)), some (.inl x1), some (.inl x2), none, none, none, none], [.inl 99, .inl 2, .inl x1], (am_sh, am_mm U))) 3 (fun _ => rfl) ?_
  obtain ⟨r1, U1, hc, ha⟩ := h
  refine ev_cal (σc := (d, 103, 0, [some (.inl x1), some (.inl 2), some (.inl 99)], [], (am_sh, am_mm U))) (fun _ => rfl) hc ?_
  show Ev (am_kz N X) ((d + 1), 52, 7, [some (.inr (.inr 86)), some (.inl x1), some (.inl x2), none, none, none, none], [.inl r1], (am_sh, am_mm U1)) R
  refine ev_br (P := r1 = 0) (σ1 := ((d + 1), 52, 23, [some (.inr (.inr 86)), some (.inl x1), some (.inl x2), none, none, none, none], [], (am_sh, am_mm U1))) (σ2 := ((d + 1), 52, 10, [some (.inr (.inr 86)), some (.inl x1), some (.inl x2), none, none, none, none], [], (am_sh, am_mm U1))) 1 (fun _ => rfl) (fun hc => ?_) (fun hc => ?_)
  · have ha1 := ha.1 hc
    subst ha1
    exact ev_end 2 (fun _ => rfl)
  · have ha2 := ha.2 hc
    refine ev_br (P := x2 = (-1)) (σ1 := ((d + 1), 52, 25, [some (.inr (.inr 86)), some (.inl x1), some (.inl x2), none, none, none, none], [], (am_sh, am_mm U1))) (σ2 := ((d + 1), 52, 15, [some (.inr (.inr 86)), some (.inl x1), some (.inl x2), none, none, none, none], [], (am_sh, am_mm U1))) 3 (fun _ => rfl) (fun hc => ?_) (fun hc => ?_)
    · have ha21 := ha2.1 hc
      refine ev_seg (σ1 := ((d + 1), 52, 30, [some (.inr (.inr 86)), some (.inl x1), some (.inl x2), some (.inl 0), some (.inl 0), none, none], [], (am_sh, am_mm U1))) 4 (fun _ => rfl) ?_
      exact ha21
    · have ha22 := ha2.2 hc
      refine ev_seg (σ1 := ((d + 1), 52, 17, [some (.inr (.inr 86)), some (.inl x1), some (.inl x2), none, none, none, none], [.inl x2, .inr (.inr 86)], (am_sh, am_mm U1))) 2 (fun _ => rfl) ?_
      obtain ⟨r2, U2, ha22c, ha22a⟩ := ha22
      refine ev_cal (σc := (d, 115, 0, [some (.inr (.inr 86)), some (.inl x2)], [], (am_sh, am_mm U1))) (fun _ => rfl) ha22c ?_
      show Ev (am_kz N X) ((d + 1), 52, 20, [some (.inr (.inr 86)), some (.inl x1), some (.inl x2), none, none, none, none], [.inl r2], (am_sh, am_mm U2)) R
      refine ev_br (P := ¬ r2 = 0) (σ1 := ((d + 1), 52, 25, [some (.inr (.inr 86)), some (.inl x1), some (.inl x2), none, none, none, none], [], (am_sh, am_mm U2))) (σ2 := ((d + 1), 52, 23, [some (.inr (.inr 86)), some (.inl x1), some (.inl x2), none, none, none, none], [], (am_sh, am_mm U2))) 1 (fun _ => rfl) (fun hc => ?_) (fun hc => ?_)
      · have ha22a1 := ha22a.1 hc
        refine ev_seg (σ1 := ((d + 1), 52, 30, [some (.inr (.inr 86)), some (.inl x1), some (.inl x2), some (.inl 0), some (.inl 0), none, none], [], (am_sh, am_mm U2))) 4 (fun _ => rfl) ?_
        exact ha22a1
      · have ha22a2 := ha22a.2 hc
        subst ha22a2
        exact ev_end 2 (fun _ => rfl)
set_option maxRecDepth 8000 in
theorem st52_86_30 (N : Nat) (X : Nat → Int) (d : Nat) (x1 x2 x3 x4 : Int) (U : Nat → Nat → Int) (R : Option am_V × am_M) (h : ((((U 122 0) ≤ x4 : Prop)) → R = (some (.inl x3), (am_sh, am_mm U))) ∧ (¬ ((U 122 0) ≤ x4) → (((x2 = (-1) : Prop)) → Ev (am_kz N X) ((d + 1), 52, 73, [some (.inr (.inr 86)), some (.inl x1), some (.inl x2), some (.inl x3), some (.inl x4), some (.inl 1), some (.inl 0)], [], (am_sh, am_mm U)) R) ∧ (¬ (x2 = (-1)) → (((x4 = x2 : Prop)) → Ev (am_kz N X) ((d + 1), 52, 73, [some (.inr (.inr 86)), some (.inl x1), some (.inl x2), some (.inl x3), some (.inl x4), some (.inl 0), some (.inl 0)], [], (am_sh, am_mm U)) R) ∧ (¬ (x4 = x2) → ∃ (r1 : Int) (U1 : Nat → Nat → Int), Ev (am_kz N X) (d, 157, 0, [some (.inr (.inr 86)), some (.inl x1), some (.inl x4), some (.inl x2)], [], (am_sh, am_mm U)) (some (.inl r1), (am_sh, am_mm U1)) ∧ (((r1 = 0 : Prop)) → Ev (am_kz N X) ((d + 1), 52, 73, [some (.inr (.inr 86)), some (.inl x1), some (.inl x2), some (.inl x3), some (.inl x4), some (.inl 0), some (.inl 0)], [], (am_sh, am_mm U1)) R) ∧ (¬ (r1 = 0) → Ev (am_kz N X) ((d + 1), 52, 73, [some (.inr (.inr 86)), some (.inl x1), some (.inl x2), some (.inl x3), some (.inl x4), some (.inl 1), some (.inl 0)], [], (am_sh, am_mm U1)) R))))) : Ev (am_kz N X) ((d + 1), 52, 30, [some (.inr (.inr 86)), some (.inl x1), some (.inl x2), some (.inl x3), some (.inl x4), none, none], [], (am_sh, am_mm U)) R := by
  refine ev_seg (σ1 := ((d + 1), 52, 37, [some (.inr (.inr 86)), some (.inl x1), some (.inl x2), some (.inl x3), some (.inl x4), none, none], [.inl 0, .inr (.inr 122), .inl x4], (am_sh, am_mm U))) 4 (fun _ => rfl) ?_
  refine eu_iald 122 (n := 22) rfl (by decide) rfl (fun _ => rfl) (by decide) ?_
  show Ev (am_kz N X) ((d + 1), 52, 38, [some (.inr (.inr 86)), some (.inl x1), some (.inl x2), some (.inl x3), some (.inl x4), none, none], [.inl (U 122 0), .inl x4], (am_sh, am_mm U)) R
  refine ev_br (P := (U 122 0) ≤ x4) (σ1 := ((d + 1), 52, 134, [some (.inr (.inr 86)), some (.inl x1), some (.inl x2), some (.inl x3), some (.inl x4), none, none], [], (am_sh, am_mm U))) (σ2 := ((d + 1), 52, 41, [some (.inr (.inr 86)), some (.inl x1), some (.inl x2), some (.inl x3), some (.inl x4), none, none], [], (am_sh, am_mm U))) 1 (fun _ => rfl) (fun hc => ?_) (fun hc => ?_)
  · have h1 := h.1 hc
    subst h1
    exact ev_end 2 (fun _ => rfl)
  · have h2 := h.2 hc
    refine ev_br (P := x2 = (-1)) (σ1 := ((d + 1), 52, 63, [some (.inr (.inr 86)), some (.inl x1), some (.inl x2), some (.inl x3), some (.inl x4), none, none], [], (am_sh, am_mm U))) (σ2 := ((d + 1), 52, 46, [some (.inr (.inr 86)), some (.inl x1), some (.inl x2), some (.inl x3), some (.inl x4), none, none], [], (am_sh, am_mm U))) 3 (fun _ => rfl) (fun hc => ?_) (fun hc => ?_)
    · have h21 := h2.1 hc
      refine ev_seg (σ1 := ((d + 1), 52, 73, [some (.inr (.inr 86)), some (.inl x1), some (.inl x2), some (.inl x3), some (.inl x4), some (.inl 1), some (.inl 0)], [], (am_sh, am_mm U))) 5 (fun _ => rfl) ?_
      exact h21
    · have h22 := h2.2 hc
      refine ev_br (P := x4 = x2) (σ1 := ((d + 1), 52, 67, [some (.inr (.inr 86)), some (.inl x1), some (.inl x2), some (.inl x3), some (.inl x4), none, none], [], (am_sh, am_mm U))) (σ2 := ((d + 1), 52, 52, [some (.inr (.inr 86)), some (.inl x1), some (.inl x2), some (.inl x3), some (.inl x4), none, none], [], (am_sh, am_mm U))) 3 (fun _ => rfl) (fun hc => ?_) (fun hc => ?_)
      · have h221 := h22.1 hc
        refine ev_seg (σ1 := ((d + 1), 52, 73, [some (.inr (.inr 86)), some (.inl x1), some (.inl x2), some (.inl x3), some (.inl x4), some (.inl 0), some (.inl 0)], [], (am_sh, am_mm U))) 4 (fun _ => rfl) ?_
        exact h221
      · have h222 := h22.2 hc
        refine ev_seg (σ1 := ((d + 1), 52, 57, [some (.inr (.inr 86)), some (.inl x1), some (.inl x2), some (.inl x3), some (.inl x4), none, none], [.inl x2, .inl x4, .inl x1, .inr (.inr 86)], (am_sh, am_mm U))) 4 (fun _ => rfl) ?_
        obtain ⟨r1, U1, h222c, h222a⟩ := h222
        refine ev_cal (σc := (d, 157, 0, [some (.inr (.inr 86)), some (.inl x1), some (.inl x4), some (.inl x2)], [], (am_sh, am_mm U))) (fun _ => rfl) h222c ?_
        show Ev (am_kz N X) ((d + 1), 52, 60, [some (.inr (.inr 86)), some (.inl x1), some (.inl x2), some (.inl x3), some (.inl x4), none, none], [.inl r1], (am_sh, am_mm U1)) R
        refine ev_br (P := r1 = 0) (σ1 := ((d + 1), 52, 67, [some (.inr (.inr 86)), some (.inl x1), some (.inl x2), some (.inl x3), some (.inl x4), none, none], [], (am_sh, am_mm U1))) (σ2 := ((d + 1), 52, 63, [some (.inr (.inr 86)), some (.inl x1), some (.inl x2), some (.inl x3), some (.inl x4), none, none], [], (am_sh, am_mm U1))) 1 (fun _ => rfl) (fun hc => ?_) (fun hc => ?_)
        · have h222a1 := h222a.1 hc
          refine ev_seg (σ1 := ((d + 1), 52, 73, [some (.inr (.inr 86)), some (.inl x1), some (.inl x2), some (.inl x3), some (.inl x4), some (.inl 0), some (.inl 0)], [], (am_sh, am_mm U1))) 4 (fun _ => rfl) ?_
          exact h222a1
        · have h222a2 := h222a.2 hc
          refine ev_seg (σ1 := ((d + 1), 52, 73, [some (.inr (.inr 86)), some (.inl x1), some (.inl x2), some (.inl x3), some (.inl x4), some (.inl 1), some (.inl 0)], [], (am_sh, am_mm U1))) 5 (fun _ => rfl) ?_
          exact h222a2
set_option maxRecDepth 8000 in
theorem st52_86_73 (N : Nat) (X : Nat → Int) (d : Nat) (x1 x2 x3 x4 x5 x6 : Int) (U : Nat → Nat → Int) (R : Option am_V × am_M) (h : (((x4 ≤ x6 : Prop)) → (((x5 = 0 : Prop)) → Ev (am_kz N X) ((d + 1), 52, 30, [some (.inr (.inr 86)), some (.inl x1), some (.inl x2), some (.inl (w32 (x3 + 0))), some (.inl (w32 (x4 + 1))), some (.inl x5), some (.inl x6)], [], (am_sh, am_mm U)) R) ∧ (¬ (x5 = 0) → Ev (am_kz N X) ((d + 1), 52, 30, [some (.inr (.inr 86)), some (.inl x1), some (.inl x2), some (.inl (w32 (x3 + 1))), some (.inl (w32 (x4 + 1))), some (.inl x5), some (.inl x6)], [], (am_sh, am_mm U)) R)) ∧ (¬ (x4 ≤ x6) → (((¬ x2 = (-1) : Prop)) → (((x5 = 0 : Prop)) → Ev (am_kz N X) ((d + 1), 52, 30, [some (.inr (.inr 86)), some (.inl x1), some (.inl x2), some (.inl (w32 (x3 + 0))), some (.inl (w32 (x4 + 1))), some (.inl x5), some (.inl x6)], [], (am_sh, am_mm U)) R) ∧ (¬ (x5 = 0) → Ev (am_kz N X) ((d + 1), 52, 30, [some (.inr (.inr 86)), some (.inl x1), some (.inl x2), some (.inl (w32 (x3 + 1))), some (.inl (w32 (x4 + 1))), some (.inl x5), some (.inl x6)], [], (am_sh, am_mm U)) R)) ∧ (¬ (¬ x2 = (-1)) → (((x5 = 0 : Prop)) → Ev (am_kz N X) ((d + 1), 52, 73, [some (.inr (.inr 86)), some (.inl x1), some (.inl x2), some (.inl x3), some (.inl x4), some (.inl 0), some (.inl (w32 (x6 + 1)))], [], (am_sh, am_mm U)) R) ∧ (¬ (x5 = 0) → ∃ (r1 : Int) (U1 : Nat → Nat → Int), Ev (am_kz N X) (d, 157, 0, [some (.inr (.inr 86)), some (.inl x1), some (.inl x4), some (.inl x6)], [], (am_sh, am_mm U)) (some (.inl r1), (am_sh, am_mm U1)) ∧ (((¬ r1 = 0 : Prop)) → Ev (am_kz N X) ((d + 1), 52, 73, [some (.inr (.inr 86)), some (.inl x1), some (.inl x2), some (.inl x3), some (.inl x4), some (.inl 0), some (.inl (w32 (x6 + 1)))], [], (am_sh, am_mm U1)) R) ∧ (¬ (¬ r1 = 0) → Ev (am_kz N X) ((d + 1), 52, 73, [some (.inr (.inr 86)), some (.inl x1), some (.inl x2), some (.inl x3), some (.inl x4), some (.inl 1), some (.inl (w32 (x6 + 1)))], [], (am_sh, am_mm U1)) R))))) : Ev (am_kz N X) ((d + 1), 52, 73, [some (.inr (.inr 86)), some (.inl x1), some (.inl x2), some (.inl x3), some (.inl x4), some (.inl x5), some (.inl x6)], [], (am_sh, am_mm U)) R := by
  refine ev_br (P := x4 ≤ x6) (σ1 := ((d + 1), 52, 115, [some (.inr (.inr 86)), some (.inl x1), some (.inl x2), some (.inl x3), some (.inl x4), some (.inl x5), some (.inl x6)], [], (am_sh, am_mm U))) (σ2 := ((d + 1), 52, 80, [some (.inr (.inr 86)), some (.inl x1), some (.inl x2), some (.inl x3), some (.inl x4), some (.inl x5), some (.inl x6)], [], (am_sh, am_mm U))) 3 (fun _ => rfl) (fun hc => ?_) (fun hc => ?_)
  · have h1 := h.1 hc
    refine ev_br (P := x5 = 0) (σ1 := ((d + 1), 52, 125, [some (.inr (.inr 86)), some (.inl x1), some (.inl x2), some (.inl x3), some (.inl x4), some (.inl x5), some (.inl x6)], [.inl x3], (am_sh, am_mm U))) (σ2 := ((d + 1), 52, 121, [some (.inr (.inr 86)), some (.inl x1), some (.inl x2), some (.inl x3), some (.inl x4), some (.inl x5), some (.inl x6)], [.inl x3], (am_sh, am_mm U))) 3 (fun _ => rfl) (fun hc => ?_) (fun hc => ?_)
    · have h11 := h1.1 hc
      refine ev_seg (σ1 := ((d + 1), 52, 30, [some (.inr (.inr 86)), some (.inl x1), some (.inl x2), some (.inl (w32 (x3 + 0))), some (.inl (w32 (x4 + 1))), some (.inl x5), some (.inl x6)], [], (am_sh, am_mm U))) 5 (fun _ => rfl) ?_
      exact h11
    · have h12 := h1.2 hc
      refine ev_seg (σ1 := ((d + 1), 52, 30, [some (.inr (.inr 86)), some (.inl x1), some (.inl x2), some (.inl (w32 (x3 + 1))), some (.inl (w32 (x4 + 1))), some (.inl x5), some (.inl x6)], [], (am_sh, am_mm U))) 6 (fun _ => rfl) ?_
      exact h12
  · have h2 := h.2 hc
    refine ev_br (P := ¬ x2 = (-1)) (σ1 := ((d + 1), 52, 115, [some (.inr (.inr 86)), some (.inl x1), some (.inl x2), some (.inl x3), some (.inl x4), some (.inl x5), some (.inl x6)], [], (am_sh, am_mm U))) (σ2 := ((d + 1), 52, 85, [some (.inr (.inr 86)), some (.inl x1), some (.inl x2), some (.inl x3), some (.inl x4), some (.inl x5), some (.inl x6)], [], (am_sh, am_mm U))) 3 (fun _ => rfl) (fun hc => ?_) (fun hc => ?_)
    · have h21 := h2.1 hc
      refine ev_br (P := x5 = 0) (σ1 := ((d + 1), 52, 125, [some (.inr (.inr 86)), some (.inl x1), some (.inl x2), some (.inl x3), some (.inl x4), some (.inl x5), some (.inl x6)], [.inl x3], (am_sh, am_mm U))) (σ2 := ((d + 1), 52, 121, [some (.inr (.inr 86)), some (.inl x1), some (.inl x2), some (.inl x3), some (.inl x4), some (.inl x5), some (.inl x6)], [.inl x3], (am_sh, am_mm U))) 3 (fun _ => rfl) (fun hc => ?_) (fun hc => ?_)
      · have h211 := h21.1 hc
        refine ev_seg (σ1 := ((d + 1), 52, 30, [some (.inr (.inr 86)), some (.inl x1), some (.inl x2), some (.inl (w32 (x3 + 0))), some (.inl (w32 (x4 + 1))), some (.inl x5), some (.inl x6)], [], (am_sh, am_mm U))) 5 (fun _ => rfl) ?_
        exact h211
      · have h212 := h21.2 hc
        refine ev_seg (σ1 := ((d + 1), 52, 30, [some (.inr (.inr 86)), some (.inl x1), some (.inl x2), some (.inl (w32 (x3 + 1))), some (.inl (w32 (x4 + 1))), some (.inl x5), some (.inl x6)], [], (am_sh, am_mm U))) 6 (fun _ => rfl) ?_
        exact h212
    · have h22 := h2.2 hc
      refine ev_br (P := x5 = 0) (σ1 := ((d + 1), 52, 106, [some (.inr (.inr 86)), some (.inl x1), some (.inl x2), some (.inl x3), some (.inl x4), some (.inl x5), some (.inl x6)], [], (am_sh, am_mm U))) (σ2 := ((d + 1), 52, 90, [some (.inr (.inr 86)), some (.inl x1), some (.inl x2), some (.inl x3), some (.inl x4), some (.inl x5), some (.inl x6)], [], (am_sh, am_mm U))) 2 (fun _ => rfl) (fun hc => ?_) (fun hc => ?_)
      · have h221 := h22.1 hc
        refine ev_seg (σ1 := ((d + 1), 52, 73, [some (.inr (.inr 86)), some (.inl x1), some (.inl x2), some (.inl x3), some (.inl x4), some (.inl 0), some (.inl (w32 (x6 + 1)))], [], (am_sh, am_mm U))) 4 (fun _ => rfl) ?_
        exact h221
      · have h222 := h22.2 hc
        refine ev_seg (σ1 := ((d + 1), 52, 96, [some (.inr (.inr 86)), some (.inl x1), some (.inl x2), some (.inl x3), some (.inl x4), some (.inl x5), some (.inl x6)], [.inl x6, .inl x4, .inl x1, .inr (.inr 86)], (am_sh, am_mm U))) 4 (fun _ => rfl) ?_
        obtain ⟨r1, U1, h222c, h222a⟩ := h222
        refine ev_cal (σc := (d, 157, 0, [some (.inr (.inr 86)), some (.inl x1), some (.inl x4), some (.inl x6)], [], (am_sh, am_mm U))) (fun _ => rfl) h222c ?_
        show Ev (am_kz N X) ((d + 1), 52, 99, [some (.inr (.inr 86)), some (.inl x1), some (.inl x2), some (.inl x3), some (.inl x4), some (.inl x5), some (.inl x6)], [.inl r1], (am_sh, am_mm U1)) R
        refine ev_br (P := ¬ r1 = 0) (σ1 := ((d + 1), 52, 106, [some (.inr (.inr 86)), some (.inl x1), some (.inl x2), some (.inl x3), some (.inl x4), some (.inl x5), some (.inl x6)], [], (am_sh, am_mm U1))) (σ2 := ((d + 1), 52, 102, [some (.inr (.inr 86)), some (.inl x1), some (.inl x2), some (.inl x3), some (.inl x4), some (.inl x5), some (.inl x6)], [], (am_sh, am_mm U1))) 1 (fun _ => rfl) (fun hc => ?_) (fun hc => ?_)
        · have h222a1 := h222a.1 hc
          refine ev_seg (σ1 := ((d + 1), 52, 73, [some (.inr (.inr 86)), some (.inl x1), some (.inl x2), some (.inl x3), some (.inl x4), some (.inl 0), some (.inl (w32 (x6 + 1)))], [], (am_sh, am_mm U1))) 4 (fun _ => rfl) ?_
          exact h222a1
        · have h222a2 := h222a.2 hc
          refine ev_seg (σ1 := ((d + 1), 52, 73, [some (.inr (.inr 86)), some (.inl x1), some (.inl x2), some (.inl x3), some (.inl x4), some (.inl 1), some (.inl (w32 (x6 + 1)))], [], (am_sh, am_mm U1))) 5 (fun _ => rfl) ?_
          exact h222a2
set_option maxRecDepth 8000 in
theorem st53_1_0 (N : Nat) (X : Nat → Int) (d : Nat) (x1 x2 : Int) (U : Nat → Nat → Int) (R : Option am_V × am_M) (h : (((x1 < 0 : Prop)) → R = (some (.inl (-1)), (am_sh, am_mm U))) ∧ (¬ (x1 < 0) → (((x1 < (U 3 0) : Prop)) → ∃ U1 : Nat → Nat → Int, Ev (am_kz N X) (d, 147, 0, [some (.inr (.inr 82)), some (.inr (.inl 0)), none, none, none, none], [], (am_sh, am_mm U)) (none, (am_sh, am_mm U1)) ∧ Ev (am_kz N X) ((d + 1), 53, 27, [some (.inr (.inr 1)), some (.inl x1), some (.inl x2), some (.inl 0)], [], (am_sh, am_mm U1)) R) ∧ (¬ (x1 < (U 3 0)) → R = (some (.inl (-1)), (am_sh, am_mm U))))) : Ev (am_kz N X) ((d + 1), 53, 0, [some (.inr (.inr 1)), some (.inl x1), some (.inl x2), none], [], (am_sh, am_mm U)) R := by
  refine ev_br (P := x1 < 0) (σ1 := ((d + 1), 53, 15, [some (.inr (.inr 1)), some (.inl x1), some (.inl x2), none], [], (am_sh, am_mm U))) (σ2 := ((d + 1), 53, 4, [some (.inr (.inr 1)), some (.inl x1), some (.inl x2), none], [], (am_sh, am_mm U))) 2 (fun _ => rfl) (fun hc => ?_) (fun hc => ?_)
  · have h1 := h.1 hc
    subst h1
    exact ev_end 2 (fun _ => rfl)
  · have h2 := h.2 hc
    refine ev_br (P := x1 < (U 3 0)) (σ1 := ((d + 1), 53, 17, [some (.inr (.inr 1)), some (.inl x1), some (.inl x2), none], [], (am_sh, am_mm U))) (σ2 := ((d + 1), 53, 15, [some (.inr (.inr 1)), some (.inl x1), some (.inl x2), none], [], (am_sh, am_mm U))) 5 (fun _ => rfl) (fun hc => ?_) (fun hc => ?_)
    · have h21 := h2.1 hc
      refine ev_seg (σ1 := ((d + 1), 53, 22, [some (.inr (.inr 1)), some (.inl x1), some (.inl x2), none], [.inr (.inl 0), .inr (.inr 82)], (am_sh, am_mm U))) 3 (fun _ => rfl) ?_
      obtain ⟨U1, h21c, h21a⟩ := h21
      refine ev_cal (σc := (d, 147, 0, [some (.inr (.inr 82)), some (.inr (.inl 0)), none, none, none, none], [], (am_sh, am_mm U))) (fun _ => rfl) h21c ?_
      show Ev (am_kz N X) ((d + 1), 53, 25, [some (.inr (.inr 1)), some (.inl x1), some (.inl x2), none], [], (am_sh, am_mm U1)) R
      refine ev_seg (σ1 := ((d + 1), 53, 27, [some (.inr (.inr 1)), some (.inl x1), some (.inl x2), some (.inl 0)], [], (am_sh, am_mm U1))) 2 (fun _ => rfl) ?_
      exact h21a
    · have h22 := h2.2 hc
      subst h22
      exact ev_end 2 (fun _ => rfl)
set_option maxRecDepth 8000 in
theorem st53_1_27 (N : Nat) (X : Nat → Int) (d : Nat) (x1 x2 x3 : Int) (U : Nat → Nat → Int) (R : Option am_V × am_M) (h : ((((U 3 1) ≤ x3 : Prop)) → (((¬ x2 = 20 : Prop)) → (((¬ x2 = 21 : Prop)) → ∃ (r1 : Int) (U1 : Nat → Nat → Int), Ev (am_kz N X) (d, 148, 0, [some (.inr (.inr 82)), some (.inl x2)], [], (am_sh, am_mm U)) (some (.inl r1), (am_sh, am_mm U1)) ∧ R = (some (.inl r1), (am_sh, am_mm U1))) ∧ (¬ (¬ x2 = 21) → R = (some (.inl (U 82 3)), (am_sh, am_mm U)))) ∧ (¬ (¬ x2 = 20) → R = (some (.inl (U 82 2)), (am_sh, am_mm U)))) ∧ (¬ ((U 3 1) ≤ x3) → (0 ≤ x3 ∧ x3 < 12) ∧ (((¬ (U 6 x3.toNat) = x1 : Prop)) → Ev (am_kz N X) ((d + 1), 53, 27, [some (.inr (.inr 1)), some (.inl x1), some (.inl x2), some (.inl (w32 (x3 + 1)))], [], (am_sh, am_mm U)) R) ∧ (¬ (¬ (U 6 x3.toNat) = x1) → ∃ U2 : Nat → Nat → Int, Ev (am_kz N X) (d, 158, 0, [some (.inr (.inr 1)), some (.inl x3), none], [], (am_sh, am_mm U)) (none, (am_sh, am_mm U2)) ∧ Ev (am_kz N X) ((d + 1), 53, 27, [some (.inr (.inr 1)), some (.inl x1), some (.inl x2), some (.inl (w32 (x3 + 1)))], [], (am_sh, am_mm U2)) R))) : Ev (am_kz N X) ((d + 1), 53, 27, [some (.inr (.inr 1)), some (.inl x1), some (.inl x2), some (.inl x3)], [], (am_sh, am_mm U)) R := by
  refine ev_br (P := (U 3 1) ≤ x3) (σ1 := ((d + 1), 53, 62, [some (.inr (.inr 1)), some (.inl x1), some (.inl x2), some (.inl x3)], [], (am_sh, am_mm U))) (σ2 := ((d + 1), 53, 38, [some (.inr (.inr 1)), some (.inl x1), some (.inl x2), some (.inl x3)], [], (am_sh, am_mm U))) 5 (fun _ => rfl) (fun hc => ?_) (fun hc => ?_)
  · have h1 := h.1 hc
    refine ev_br (P := ¬ x2 = 20) (σ1 := ((d + 1), 53, 76, [some (.inr (.inr 1)), some (.inl x1), some (.inl x2), some (.inl x3)], [], (am_sh, am_mm U))) (σ2 := ((d + 1), 53, 68, [some (.inr (.inr 1)), some (.inl x1), some (.inl x2), some (.inl x3)], [], (am_sh, am_mm U))) 3 (fun _ => rfl) (fun hc => ?_) (fun hc => ?_)
    · have h11 := h1.1 hc
      refine ev_br (P := ¬ x2 = 21) (σ1 := ((d + 1), 53, 92, [some (.inr (.inr 1)), some (.inl x1), some (.inl x2), some (.inl x3)], [], (am_sh, am_mm U))) (σ2 := ((d + 1), 53, 82, [some (.inr (.inr 1)), some (.inl x1), some (.inl x2), some (.inl x3)], [], (am_sh, am_mm U))) 3 (fun _ => rfl) (fun hc => ?_) (fun hc => ?_)
      · have h111 := h11.1 hc
        refine ev_seg (σ1 := ((d + 1), 53, 97, [some (.inr (.inr 1)), some (.inl x1), some (.inl x2), some (.inl x3)], [.inl x2, .inr (.inr 82)], (am_sh, am_mm U))) 3 (fun _ => rfl) ?_
        obtain ⟨r1, U1, h111c, h111a⟩ := h111
        refine ev_cal (σc := (d, 148, 0, [some (.inr (.inr 82)), some (.inl x2)], [], (am_sh, am_mm U))) (fun _ => rfl) h111c ?_
        show Ev (am_kz N X) ((d + 1), 53, 100, [some (.inr (.inr 1)), some (.inl x1), some (.inl x2), some (.inl x3)], [.inl r1], (am_sh, am_mm U1)) R
        subst h111a
        exact ev_end 1 (fun _ => rfl)
      · have h112 := h11.2 hc
        subst h112
        exact ev_end 5 (fun _ => rfl)
    · have h12 := h1.2 hc
      subst h12
      exact ev_end 4 (fun _ => rfl)
  · have h2 := h.2 hc
    refine ev_seg (σ1 := ((d + 1), 53, 46, [some (.inr (.inr 1)), some (.inl x1), some (.inl x2), some (.inl x3)], [.inl x3, .inr (.inr 6)], (am_sh, am_mm U))) 4 (fun _ => rfl) ?_
    refine eu_iald 6 (n := 12) rfl (by decide) rfl (fun _ => rfl) h2.1 ?_
    have h2a := h2.2
    refine ev_br (P := ¬ (U 6 x3.toNat) = x1) (σ1 := ((d + 1), 53, 56, [some (.inr (.inr 1)), some (.inl x1), some (.inl x2), some (.inl x3)], [], (am_sh, am_mm U))) (σ2 := ((d + 1), 53, 51, [some (.inr (.inr 1)), some (.inl x1), some (.inl x2), some (.inl x3)], [], (am_sh, am_mm U))) 2 (fun _ => rfl) (fun hc => ?_) (fun hc => ?_)
    · have h2a1 := h2a.1 hc
      refine ev_seg (σ1 := ((d + 1), 53, 27, [some (.inr (.inr 1)), some (.inl x1), some (.inl x2), some (.inl (w32 (x3 + 1)))], [], (am_sh, am_mm U))) 2 (fun _ => rfl) ?_
      exact h2a1
    · have h2a2 := h2a.2 hc
      refine ev_seg (σ1 := ((d + 1), 53, 53, [some (.inr (.inr 1)), some (.inl x1), some (.inl x2), some (.inl x3)], [.inl x3, .inr (.inr 1)], (am_sh, am_mm U))) 2 (fun _ => rfl) ?_
      obtain ⟨U2, h2a2c, h2a2a⟩ := h2a2
      refine ev_cal (σc := (d, 158, 0, [some (.inr (.inr 1)), some (.inl x3), none], [], (am_sh, am_mm U))) (fun _ => rfl) h2a2c ?_
      show Ev (am_kz N X) ((d + 1), 53, 56, [some (.inr (.inr 1)), some (.inl x1), some (.inl x2), some (.inl x3)], [], (am_sh, am_mm U2)) R
      refine ev_seg (σ1 := ((d + 1), 53, 27, [some (.inr (.inr 1)), some (.inl x1), some (.inl x2), some (.inl (w32 (x3 + 1)))], [], (am_sh, am_mm U2))) 2 (fun _ => rfl) ?_
      exact h2a2a
set_option maxRecDepth 8000 in
theorem st54_86_0 (N : Nat) (X : Nat → Int) (d : Nat) (x1 x2 : Int) (U : Nat → Nat → Int) (R : Option am_V × am_M) (h : ∃ (r1 : Int) (U1 : Nat → Nat → Int), Ev (am_kz N X) (d, 159, 0, [some (.inr (.inr 86)), some (.inl x1)], [], (am_sh, am_mm U)) (some (.inl r1), (am_sh, am_mm U1)) ∧ (((r1 = 0 : Prop)) → R = (some (.inl (-1)), (am_sh, am_mm U1))) ∧ (¬ (r1 = 0) → ∃ (r2 : Int) (U2 : Nat → Nat → Int), Ev (am_kz N X) (d, 103, 0, [some (.inl x2), some (.inl (-1)), some (.inl 21)], [], (am_sh, am_mm U1)) (some (.inl r2), (am_sh, am_mm U2)) ∧ (((¬ r2 = 0 : Prop)) → Ev (am_kz N X) ((d + 1), 54, 37, [some (.inr (.inr 86)), some (.inl x1), some (.inl x2), some (.inl 0), none], [], (am_sh, am_mm (am_upd (am_upd (am_upd U2 86 76 0) 86 77 0) 86 78 0))) R) ∧ (¬ (¬ r2 = 0) → R = (some (.inl (-1)), (am_sh, am_mm U2))))) : Ev (am_kz N X) ((d + 1), 54, 0, [some (.inr (.inr 86)), some (.inl x1), some (.inl x2), none, none], [], (am_sh, am_mm U)) R := by
  refine ev_seg (σ1 := ((d + 1), 54, 2, [some (.inr (.inr 86)), some (.inl x1), some (.inl x2), none, none], [.inl x1, .inr (.inr 86)], (am_sh, am_mm U))) 2 (fun _ => rfl) ?_
  obtain ⟨r1, U1, hc, ha⟩ := h
  refine ev_cal (σc := (d, 159, 0, [some (.inr (.inr 86)), some (.inl x1)], [], (am_sh, am_mm U))) (fun _ => rfl) hc ?_
  show Ev (am_kz N X) ((d + 1), 54, 5, [some (.inr (.inr 86)), some (.inl x1), some (.inl x2), none, none], [.inl r1], (am_sh, am_mm U1)) R
  refine ev_br (P := r1 = 0) (σ1 := ((d + 1), 54, 18, [some (.inr (.inr 86)), some (.inl x1), some (.inl x2), none, none], [], (am_sh, am_mm U1))) (σ2 := ((d + 1), 54, 8, [some (.inr (.inr 86)), some (.inl x1), some (.inl x2), none, none], [], (am_sh, am_mm U1))) 1 (fun _ => rfl) (fun hc => ?_) (fun hc => ?_)
  · have ha1 := ha.1 hc
    subst ha1
    exact ev_end 2 (fun _ => rfl)
  · have ha2 := ha.2 hc
    refine ev_seg (σ1 := ((d + 1), 54, 12, [some (.inr (.inr 86)), some (.inl x1), some (.inl x2), none, none], [.inl 21, .inl (-1), .inl x2], (am_sh, am_mm U1))) 3 (fun _ => rfl) ?_
    obtain ⟨r2, U2, ha2c, ha2a⟩ := ha2
    refine ev_cal (σc := (d, 103, 0, [some (.inl x2), some (.inl (-1)), some (.inl 21)], [], (am_sh, am_mm U1))) (fun _ => rfl) ha2c ?_
    show Ev (am_kz N X) ((d + 1), 54, 15, [some (.inr (.inr 86)), some (.inl x1), some (.inl x2), none, none], [.inl r2], (am_sh, am_mm U2)) R
    refine ev_br (P := ¬ r2 = 0) (σ1 := ((d + 1), 54, 20, [some (.inr (.inr 86)), some (.inl x1), some (.inl x2), none, none], [], (am_sh, am_mm U2))) (σ2 := ((d + 1), 54, 18, [some (.inr (.inr 86)), some (.inl x1), some (.inl x2), none, none], [], (am_sh, am_mm U2))) 1 (fun _ => rfl) (fun hc => ?_) (fun hc => ?_)
    · have ha2a1 := ha2a.1 hc
      refine ev_seg (σ1 := ((d + 1), 54, 22, [some (.inr (.inr 86)), some (.inl x1), some (.inl x2), none, none], [.inr (.inl 0), .inr (.inr 86)], (am_sh, am_mm U2))) 2 (fun _ => rfl) ?_
      refine eu_putj 86 (n := 90) rfl (by decide) rfl rfl ?_
      refine ev_seg (σ1 := ((d + 1), 54, 27, [some (.inr (.inr 86)), some (.inl x1), some (.inl x2), none, none], [.inl 0, .inr (.inr 86)], (am_sh, am_mm (am_upd U2 86 76 0)))) 2 (fun _ => rfl) ?_
      refine eu_puti 86 (n := 90) rfl (by decide) rfl rfl ?_
      refine ev_seg (σ1 := ((d + 1), 54, 32, [some (.inr (.inr 86)), some (.inl x1), some (.inl x2), none, none], [.inl 0, .inr (.inr 86)], (am_sh, am_mm (am_upd (am_upd U2 86 76 0) 86 77 0)))) 2 (fun _ => rfl) ?_
      refine eu_puti 86 (n := 90) rfl (by decide) rfl rfl ?_
      refine ev_seg (σ1 := ((d + 1), 54, 37, [some (.inr (.inr 86)), some (.inl x1), some (.inl x2), some (.inl 0), none], [], (am_sh, am_mm (am_upd (am_upd (am_upd U2 86 76 0) 86 77 0) 86 78 0)))) 2 (fun _ => rfl) ?_
      exact ha2a1
    · have ha2a2 := ha2a.2 hc
      subst ha2a2
      exact ev_end 2 (fun _ => rfl)
set_option maxRecDepth 8000 in
theorem st54_86_37 (N : Nat) (X : Nat → Int) (d : Nat) (x1 x2 x3 : Int) (U : Nat → Nat → Int) (R : Option am_V × am_M) (h : (0 ≤ (U 86 13) ∧ (U 86 13) < 2) ∧ ((((U 90 (U 86 13).toNat) ≤ x3 : Prop)) → (((¬ x2 = (-1) : Prop)) → (((¬ x2 = 20 : Prop)) → (((¬ x2 = 21 : Prop)) → ∃ (r1 : Int) (U1 : Nat → Nat → Int), Ev (am_kz N X) (d, 150, 0, [some (.inr (.inl (U 86 76))), none, some (.inl x2), none, none, none], [], (am_sh, am_mm U)) (some (.inl r1), (am_sh, am_mm U1)) ∧ R = (some (.inl r1), (am_sh, am_mm U1))) ∧ (¬ (¬ x2 = 21) → R = (some (.inl (U 86 78)), (am_sh, am_mm U)))) ∧ (¬ (¬ x2 = 20) → R = (some (.inl (U 86 77)), (am_sh, am_mm U)))) ∧ (¬ (¬ x2 = (-1)) → ∃ (r2 : Int) (U2 : Nat → Nat → Int), Ev (am_kz N X) (d, 149, 0, [some (.inr (.inl (U 86 76))), none, none, none, none], [], (am_sh, am_mm U)) (some (.inl r2), (am_sh, am_mm U2)) ∧ R = (some (.inl r2), (am_sh, am_mm U2)))) ∧ (¬ ((U 90 (U 86 13).toNat) ≤ x3) → Ev (am_kz N X) ((d + 1), 54, 53, [some (.inr (.inr 86)), some (.inl x1), some (.inl x2), some (.inl x3), some (.inl 0)], [], (am_sh, am_mm U)) R)) : Ev (am_kz N X) ((d + 1), 54, 37, [some (.inr (.inr 86)), some (.inl x1), some (.inl x2), some (.inl x3), none], [], (am_sh, am_mm U)) R := by
  refine ev_seg (σ1 := ((d + 1), 54, 46, [some (.inr (.inr 86)), some (.inl x1), some (.inl x2), some (.inl x3), none], [.inl (U 86 13), .inr (.inr 90), .inl x3], (am_sh, am_mm U))) 5 (fun _ => rfl) ?_
  refine eu_iald 90 (n := 2) rfl (by decide) rfl (fun _ => rfl) h.1 ?_
  have ha := h.2
  refine ev_br (P := (U 90 (U 86 13).toNat) ≤ x3) (σ1 := ((d + 1), 54, 106, [some (.inr (.inr 86)), some (.inl x1), some (.inl x2), some (.inl x3), none], [], (am_sh, am_mm U))) (σ2 := ((d + 1), 54, 50, [some (.inr (.inr 86)), some (.inl x1), some (.inl x2), some (.inl x3), none], [], (am_sh, am_mm U))) 1 (fun _ => rfl) (fun hc => ?_) (fun hc => ?_)
  · have ha1 := ha.1 hc
    refine ev_br (P := ¬ x2 = (-1)) (σ1 := ((d + 1), 54, 121, [some (.inr (.inr 86)), some (.inl x1), some (.inl x2), some (.inl x3), none], [], (am_sh, am_mm U))) (σ2 := ((d + 1), 54, 111, [some (.inr (.inr 86)), some (.inl x1), some (.inl x2), some (.inl x3), none], [], (am_sh, am_mm U))) 3 (fun _ => rfl) (fun hc => ?_) (fun hc => ?_)
    · have ha11 := ha1.1 hc
      refine ev_br (P := ¬ x2 = 20) (σ1 := ((d + 1), 54, 134, [some (.inr (.inr 86)), some (.inl x1), some (.inl x2), some (.inl x3), none], [], (am_sh, am_mm U))) (σ2 := ((d + 1), 54, 127, [some (.inr (.inr 86)), some (.inl x1), some (.inl x2), some (.inl x3), none], [], (am_sh, am_mm U))) 3 (fun _ => rfl) (fun hc => ?_) (fun hc => ?_)
      · have ha111 := ha11.1 hc
        refine ev_br (P := ¬ x2 = 21) (σ1 := ((d + 1), 54, 147, [some (.inr (.inr 86)), some (.inl x1), some (.inl x2), some (.inl x3), none], [], (am_sh, am_mm U))) (σ2 := ((d + 1), 54, 140, [some (.inr (.inr 86)), some (.inl x1), some (.inl x2), some (.inl x3), none], [], (am_sh, am_mm U))) 3 (fun _ => rfl) (fun hc => ?_) (fun hc => ?_)
        · have ha1111 := ha111.1 hc
          refine ev_seg (σ1 := ((d + 1), 54, 152, [some (.inr (.inr 86)), some (.inl x1), some (.inl x2), some (.inl x3), none], [.inl x2, .inr (.inl (U 86 76))], (am_sh, am_mm U))) 3 (fun _ => rfl) ?_
          obtain ⟨r1, U1, ha1111c, ha1111a⟩ := ha1111
          refine ev_cal (σc := (d, 150, 0, [some (.inr (.inl (U 86 76))), none, some (.inl x2), none, none, none], [], (am_sh, am_mm U))) (fun _ => rfl) ha1111c ?_
          show Ev (am_kz N X) ((d + 1), 54, 155, [some (.inr (.inr 86)), some (.inl x1), some (.inl x2), some (.inl x3), none], [.inl r1], (am_sh, am_mm U1)) R
          subst ha1111a
          exact ev_end 1 (fun _ => rfl)
        · have ha1112 := ha111.2 hc
          subst ha1112
          exact ev_end 4 (fun _ => rfl)
      · have ha112 := ha11.2 hc
        subst ha112
        exact ev_end 4 (fun _ => rfl)
    · have ha12 := ha1.2 hc
      refine ev_seg (σ1 := ((d + 1), 54, 115, [some (.inr (.inr 86)), some (.inl x1), some (.inl x2), some (.inl x3), none], [.inr (.inl (U 86 76))], (am_sh, am_mm U))) 2 (fun _ => rfl) ?_
      obtain ⟨r2, U2, ha12c, ha12a⟩ := ha12
      refine ev_cal (σc := (d, 149, 0, [some (.inr (.inl (U 86 76))), none, none, none, none], [], (am_sh, am_mm U))) (fun _ => rfl) ha12c ?_
      show Ev (am_kz N X) ((d + 1), 54, 118, [some (.inr (.inr 86)), some (.inl x1), some (.inl x2), some (.inl x3), none], [.inl r2], (am_sh, am_mm U2)) R
      subst ha12a
      exact ev_end 2 (fun _ => rfl)
  · have ha2 := ha.2 hc
    refine ev_seg (σ1 := ((d + 1), 54, 53, [some (.inr (.inr 86)), some (.inl x1), some (.inl x2), some (.inl x3), some (.inl 0)], [], (am_sh, am_mm U))) 2 (fun _ => rfl) ?_
    exact ha2
set_option maxRecDepth 8000 in
theorem st54_86_53 (N : Nat) (X : Nat → Int) (d : Nat) (x1 x2 x3 x4 : Int) (U : Nat → Nat → Int) (R : Option am_V × am_M) (h : ((((U 122 0) ≤ x4 : Prop)) → Ev (am_kz N X) ((d + 1), 54, 37, [some (.inr (.inr 86)), some (.inl x1), some (.inl x2), some (.inl (w32 (x3 + 1))), some (.inl x4)], [], (am_sh, am_mm U)) R) ∧ (¬ ((U 122 0) ≤ x4) → ∃ (r1 : Int) (U1 : Nat → Nat → Int), Ev (am_kz N X) (d, 109, 0, [some (.inr (.inr 86)), some (.inl x3)], [], (am_sh, am_mm U)) (some (.inl r1), (am_sh, am_mm U1)) ∧ (((¬ r1 = x1 : Prop)) → Ev (am_kz N X) ((d + 1), 54, 53, [some (.inr (.inr 86)), some (.inl x1), some (.inl x2), some (.inl x3), some (.inl (w32 (x4 + 1)))], [], (am_sh, am_mm U1)) R) ∧ (¬ (¬ r1 = x1) → (0 ≤ x4 ∧ x4 < 352) ∧ (((¬ (U1 124 x4.toNat) = x3 : Prop)) → Ev (am_kz N X) ((d + 1), 54, 53, [some (.inr (.inr 86)), some (.inl x1), some (.inl x2), some (.inl x3), some (.inl (w32 (x4 + 1)))], [], (am_sh, am_mm U1)) R) ∧ (¬ (¬ (U1 124 x4.toNat) = x3) → ∃ (r2 : Int) (U2 : Nat → Nat → Int), Ev (am_kz N X) (d, 121, 0, [some (.inr (.inr 86)), some (.inl x4)], [], (am_sh, am_mm U1)) (some (.inr (.inl r2)), (am_sh, am_mm U2)) ∧ ∃ U3 : Nat → Nat → Int, Ev (am_kz N X) (d, 160, 0, [some (.inr (.inr 86)), some (.inr (.inl r2)), none, none, none, none, none, none, none], [], (am_sh, am_mm U2)) (none, (am_sh, am_mm U3)) ∧ Ev (am_kz N X) ((d + 1), 54, 53, [some (.inr (.inr 86)), some (.inl x1), some (.inl x2), some (.inl x3), some (.inl (w32 (x4 + 1)))], [], (am_sh, am_mm U3)) R)))) : Ev (am_kz N X) ((d + 1), 54, 53, [some (.inr (.inr 86)), some (.inl x1), some (.inl x2), some (.inl x3), some (.inl x4)], [], (am_sh, am_mm U)) R := by
  refine ev_seg (σ1 := ((d + 1), 54, 60, [some (.inr (.inr 86)), some (.inl x1), some (.inl x2), some (.inl x3), some (.inl x4)], [.inl 0, .inr (.inr 122), .inl x4], (am_sh, am_mm U))) 4 (fun _ => rfl) ?_
  refine eu_iald 122 (n := 22) rfl (by decide) rfl (fun _ => rfl) (by decide) ?_
  show Ev (am_kz N X) ((d + 1), 54, 61, [some (.inr (.inr 86)), some (.inl x1), some (.inl x2), some (.inl x3), some (.inl x4)], [.inl (U 122 0), .inl x4], (am_sh, am_mm U)) R
  refine ev_br (P := (U 122 0) ≤ x4) (σ1 := ((d + 1), 54, 100, [some (.inr (.inr 86)), some (.inl x1), some (.inl x2), some (.inl x3), some (.inl x4)], [], (am_sh, am_mm U))) (σ2 := ((d + 1), 54, 64, [some (.inr (.inr 86)), some (.inl x1), some (.inl x2), some (.inl x3), some (.inl x4)], [], (am_sh, am_mm U))) 1 (fun _ => rfl) (fun hc => ?_) (fun hc => ?_)
  · have h1 := h.1 hc
    refine ev_seg (σ1 := ((d + 1), 54, 37, [some (.inr (.inr 86)), some (.inl x1), some (.inl x2), some (.inl (w32 (x3 + 1))), some (.inl x4)], [], (am_sh, am_mm U))) 2 (fun _ => rfl) ?_
    exact h1
  · have h2 := h.2 hc
    refine ev_seg (σ1 := ((d + 1), 54, 66, [some (.inr (.inr 86)), some (.inl x1), some (.inl x2), some (.inl x3), some (.inl x4)], [.inl x3, .inr (.inr 86)], (am_sh, am_mm U))) 2 (fun _ => rfl) ?_
    obtain ⟨r1, U1, h2c, h2a⟩ := h2
    refine ev_cal (σc := (d, 109, 0, [some (.inr (.inr 86)), some (.inl x3)], [], (am_sh, am_mm U))) (fun _ => rfl) h2c ?_
    show Ev (am_kz N X) ((d + 1), 54, 69, [some (.inr (.inr 86)), some (.inl x1), some (.inl x2), some (.inl x3), some (.inl x4)], [.inl r1], (am_sh, am_mm U1)) R
    refine ev_br (P := ¬ r1 = x1) (σ1 := ((d + 1), 54, 94, [some (.inr (.inr 86)), some (.inl x1), some (.inl x2), some (.inl x3), some (.inl x4)], [], (am_sh, am_mm U1))) (σ2 := ((d + 1), 54, 73, [some (.inr (.inr 86)), some (.inl x1), some (.inl x2), some (.inl x3), some (.inl x4)], [], (am_sh, am_mm U1))) 2 (fun _ => rfl) (fun hc => ?_) (fun hc => ?_)
    · have h2a1 := h2a.1 hc
      refine ev_seg (σ1 := ((d + 1), 54, 53, [some (.inr (.inr 86)), some (.inl x1), some (.inl x2), some (.inl x3), some (.inl (w32 (x4 + 1)))], [], (am_sh, am_mm U1))) 2 (fun _ => rfl) ?_
      exact h2a1
    · have h2a2 := h2a.2 hc
      refine ev_seg (σ1 := ((d + 1), 54, 79, [some (.inr (.inr 86)), some (.inl x1), some (.inl x2), some (.inl x3), some (.inl x4)], [.inl x4, .inr (.inr 124)], (am_sh, am_mm U1))) 3 (fun _ => rfl) ?_
      refine eu_iald 124 (n := 352) rfl (by decide) rfl (fun _ => rfl) h2a2.1 ?_
      have h2a2a := h2a2.2
      refine ev_br (P := ¬ (U1 124 x4.toNat) = x3) (σ1 := ((d + 1), 54, 94, [some (.inr (.inr 86)), some (.inl x1), some (.inl x2), some (.inl x3), some (.inl x4)], [], (am_sh, am_mm U1))) (σ2 := ((d + 1), 54, 84, [some (.inr (.inr 86)), some (.inl x1), some (.inl x2), some (.inl x3), some (.inl x4)], [], (am_sh, am_mm U1))) 2 (fun _ => rfl) (fun hc => ?_) (fun hc => ?_)
      · have h2a2a1 := h2a2a.1 hc
        refine ev_seg (σ1 := ((d + 1), 54, 53, [some (.inr (.inr 86)), some (.inl x1), some (.inl x2), some (.inl x3), some (.inl (w32 (x4 + 1)))], [], (am_sh, am_mm U1))) 2 (fun _ => rfl) ?_
        exact h2a2a1
      · have h2a2a2 := h2a2a.2 hc
        refine ev_seg (σ1 := ((d + 1), 54, 88, [some (.inr (.inr 86)), some (.inl x1), some (.inl x2), some (.inl x3), some (.inl x4)], [.inl x4, .inr (.inr 86), .inr (.inr 86)], (am_sh, am_mm U1))) 3 (fun _ => rfl) ?_
        obtain ⟨r2, U2, h2a2a2c, h2a2a2a⟩ := h2a2a2
        refine ev_cal (σc := (d, 121, 0, [some (.inr (.inr 86)), some (.inl x4)], [], (am_sh, am_mm U1))) (fun _ => rfl) h2a2a2c ?_
        show Ev (am_kz N X) ((d + 1), 54, 91, [some (.inr (.inr 86)), some (.inl x1), some (.inl x2), some (.inl x3), some (.inl x4)], [.inr (.inl r2), .inr (.inr 86)], (am_sh, am_mm U2)) R
        obtain ⟨U3, h2a2a2ac, h2a2a2aa⟩ := h2a2a2a
        refine ev_cal (σc := (d, 160, 0, [some (.inr (.inr 86)), some (.inr (.inl r2)), none, none, none, none, none, none, none], [], (am_sh, am_mm U2))) (fun _ => rfl) h2a2a2ac ?_
        show Ev (am_kz N X) ((d + 1), 54, 94, [some (.inr (.inr 86)), some (.inl x1), some (.inl x2), some (.inl x3), some (.inl x4)], [], (am_sh, am_mm U3)) R
        refine ev_seg (σ1 := ((d + 1), 54, 53, [some (.inr (.inr 86)), some (.inl x1), some (.inl x2), some (.inl x3), some (.inl (w32 (x4 + 1)))], [], (am_sh, am_mm U3))) 2 (fun _ => rfl) ?_
        exact h2a2a2aa
set_option maxRecDepth 8000 in
theorem st55_1_0 (N : Nat) (X : Nat → Int) (d : Nat) (x1 x2 : Int) (U : Nat → Nat → Int) (R : Option am_V × am_M) (h : ∃ (r1 : Int) (U1 : Nat → Nat → Int), Ev (am_kz N X) (d, 102, 0, [some (.inr (.inr 1)), some (.inl x1)], [], (am_sh, am_mm U)) (some (.inl r1), (am_sh, am_mm U1)) ∧ (((¬ r1 = 0 : Prop)) → ∃ (r2 : Int) (U2 : Nat → Nat → Int), Ev (am_kz N X) (d, 106, 0, [some (.inr (.inr 16)), some (.inl x1)], [], (am_sh, am_mm U1)) (some (.inl r2), (am_sh, am_mm U2)) ∧ (((¬ r2 = 0 : Prop)) → ∃ U3 : Nat → Nat → Int, Ev (am_kz N X) (d, 147, 0, [some (.inr (.inr 82)), some (.inr (.inl 1)), none, none, none, none], [], (am_sh, am_mm U2)) (none, (am_sh, am_mm U3)) ∧ Ev (am_kz N X) ((d + 1), 55, 35, [some (.inr (.inr 1)), some (.inl x1), some (.inl x2), some (.inl 0)], [], (am_sh, am_mm U3)) R) ∧ (¬ (¬ r2 = 0) → ∃ U4 : Nat → Nat → Int, Ev (am_kz N X) (d, 147, 0, [some (.inr (.inr 82)), some (.inr (.inl 0)), none, none, none, none], [], (am_sh, am_mm U2)) (none, (am_sh, am_mm U4)) ∧ Ev (am_kz N X) ((d + 1), 55, 35, [some (.inr (.inr 1)), some (.inl x1), some (.inl x2), some (.inl 0)], [], (am_sh, am_mm U4)) R)) ∧ (¬ (¬ r1 = 0) → R = (some (.inl (-1)), (am_sh, am_mm U1)))) : Ev (am_kz N X) ((d + 1), 55, 0, [some (.inr (.inr 1)), some (.inl x1), some (.inl x2), none], [], (am_sh, am_mm U)) R := by
  refine ev_seg (σ1 := ((d + 1), 55, 2, [some (.inr (.inr 1)), some (.inl x1), some (.inl x2), none], [.inl x1, .inr (.inr 1)], (am_sh, am_mm U))) 2 (fun _ => rfl) ?_
  obtain ⟨r1, U1, hc, ha⟩ := h
  refine ev_cal (σc := (d, 102, 0, [some (.inr (.inr 1)), some (.inl x1)], [], (am_sh, am_mm U))) (fun _ => rfl) hc ?_
  show Ev (am_kz N X) ((d + 1), 55, 5, [some (.inr (.inr 1)), some (.inl x1), some (.inl x2), none], [.inl r1], (am_sh, am_mm U1)) R
  refine ev_br (P := ¬ r1 = 0) (σ1 := ((d + 1), 55, 10, [some (.inr (.inr 1)), some (.inl x1), some (.inl x2), none], [], (am_sh, am_mm U1))) (σ2 := ((d + 1), 55, 8, [some (.inr (.inr 1)), some (.inl x1), some (.inl x2), none], [], (am_sh, am_mm U1))) 1 (fun _ => rfl) (fun hc => ?_) (fun hc => ?_)
  · have ha1 := ha.1 hc
    refine ev_seg (σ1 := ((d + 1), 55, 19, [some (.inr (.inr 1)), some (.inl x1), some (.inl x2), none], [.inl x1, .inr (.inr 16), .inr (.inr 82)], (am_sh, am_mm U1))) 5 (fun _ => rfl) ?_
    obtain ⟨r2, U2, ha1c, ha1a⟩ := ha1
    refine ev_cal (σc := (d, 106, 0, [some (.inr (.inr 16)), some (.inl x1)], [], (am_sh, am_mm U1))) (fun _ => rfl) ha1c ?_
    show Ev (am_kz N X) ((d + 1), 55, 22, [some (.inr (.inr 1)), some (.inl x1), some (.inl x2), none], [.inl r2, .inr (.inr 82)], (am_sh, am_mm U2)) R
    refine ev_br (P := ¬ r2 = 0) (σ1 := ((d + 1), 55, 29, [some (.inr (.inr 1)), some (.inl x1), some (.inl x2), none], [.inr (.inr 82)], (am_sh, am_mm U2))) (σ2 := ((d + 1), 55, 25, [some (.inr (.inr 1)), some (.inl x1), some (.inl x2), none], [.inr (.inr 82)], (am_sh, am_mm U2))) 1 (fun _ => rfl) (fun hc => ?_) (fun hc => ?_)
    · have ha1a1 := ha1a.1 hc
      refine ev_seg (σ1 := ((d + 1), 55, 30, [some (.inr (.inr 1)), some (.inl x1), some (.inl x2), none], [.inr (.inl 1), .inr (.inr 82)], (am_sh, am_mm U2))) 1 (fun _ => rfl) ?_
      obtain ⟨U3, ha1a1c, ha1a1a⟩ := ha1a1
      refine ev_cal (σc := (d, 147, 0, [some (.inr (.inr 82)), some (.inr (.inl 1)), none, none, none, none], [], (am_sh, am_mm U2))) (fun _ => rfl) ha1a1c ?_
      show Ev (am_kz N X) ((d + 1), 55, 33, [some (.inr (.inr 1)), some (.inl x1), some (.inl x2), none], [], (am_sh, am_mm U3)) R
      refine ev_seg (σ1 := ((d + 1), 55, 35, [some (.inr (.inr 1)), some (.inl x1), some (.inl x2), some (.inl 0)], [], (am_sh, am_mm U3))) 2 (fun _ => rfl) ?_
      exact ha1a1a
    · have ha1a2 := ha1a.2 hc
      refine ev_seg (σ1 := ((d + 1), 55, 30, [some (.inr (.inr 1)), some (.inl x1), some (.inl x2), none], [.inr (.inl 0), .inr (.inr 82)], (am_sh, am_mm U2))) 2 (fun _ => rfl) ?_
      obtain ⟨U4, ha1a2c, ha1a2a⟩ := ha1a2
      refine ev_cal (σc := (d, 147, 0, [some (.inr (.inr 82)), some (.inr (.inl 0)), none, none, none, none], [], (am_sh, am_mm U2))) (fun _ => rfl) ha1a2c ?_
      show Ev (am_kz N X) ((d + 1), 55, 33, [some (.inr (.inr 1)), some (.inl x1), some (.inl x2), none], [], (am_sh, am_mm U4)) R
      refine ev_seg (σ1 := ((d + 1), 55, 35, [some (.inr (.inr 1)), some (.inl x1), some (.inl x2), some (.inl 0)], [], (am_sh, am_mm U4))) 2 (fun _ => rfl) ?_
      exact ha1a2a
  · have ha2 := ha.2 hc
    subst ha2
    exact ev_end 2 (fun _ => rfl)
set_option maxRecDepth 8000 in
theorem st55_1_35 (N : Nat) (X : Nat → Int) (d : Nat) (x1 x2 x3 : Int) (U : Nat → Nat → Int) (R : Option am_V × am_M) (h : ((((U 16 0) ≤ x3 : Prop)) → ∃ (r1 : Int) (U1 : Nat → Nat → Int), Ev (am_kz N X) (d, 148, 0, [some (.inr (.inr 82)), some (.inl x2)], [], (am_sh, am_mm U)) (some (.inl r1), (am_sh, am_mm U1)) ∧ R = (some (.inl r1), (am_sh, am_mm U1))) ∧ (¬ ((U 16 0) ≤ x3) → (0 ≤ x3 ∧ x3 < 16) ∧ (((¬ (U 18 x3.toNat) = x1 : Prop)) → Ev (am_kz N X) ((d + 1), 55, 35, [some (.inr (.inr 1)), some (.inl x1), some (.inl x2), some (.inl (w32 (x3 + 1)))], [], (am_sh, am_mm U)) R) ∧ (¬ (¬ (U 18 x3.toNat) = x1) → (0 ≤ x3 ∧ x3 < 16) ∧ ∃ U2 : Nat → Nat → Int, Ev (am_kz N X) (d, 161, 0, [some (.inr (.inr 82)), some (.inl (if 0 ≤ (U 17 x3.toNat) then (U 17 x3.toNat) else w32 (-(U 17 x3.toNat)))), none, none, none, none, none, none], [], (am_sh, am_mm U)) (none, (am_sh, am_mm U2)) ∧ Ev (am_kz N X) ((d + 1), 55, 35, [some (.inr (.inr 1)), some (.inl x1), some (.inl x2), some (.inl (w32 (x3 + 1)))], [], (am_sh, am_mm U2)) R))) : Ev (am_kz N X) ((d + 1), 55, 35, [some (.inr (.inr 1)), some (.inl x1), some (.inl x2), some (.inl x3)], [], (am_sh, am_mm U)) R := by
  refine ev_br (P := (U 16 0) ≤ x3) (σ1 := ((d + 1), 55, 84, [some (.inr (.inr 1)), some (.inl x1), some (.inl x2), some (.inl x3)], [], (am_sh, am_mm U))) (σ2 := ((d + 1), 55, 46, [some (.inr (.inr 1)), some (.inl x1), some (.inl x2), some (.inl x3)], [], (am_sh, am_mm U))) 5 (fun _ => rfl) (fun hc => ?_) (fun hc => ?_)
  · have h1 := h.1 hc
    refine ev_seg (σ1 := ((d + 1), 55, 89, [some (.inr (.inr 1)), some (.inl x1), some (.inl x2), some (.inl x3)], [.inl x2, .inr (.inr 82)], (am_sh, am_mm U))) 3 (fun _ => rfl) ?_
    obtain ⟨r1, U1, h1c, h1a⟩ := h1
    refine ev_cal (σc := (d, 148, 0, [some (.inr (.inr 82)), some (.inl x2)], [], (am_sh, am_mm U))) (fun _ => rfl) h1c ?_
    show Ev (am_kz N X) ((d + 1), 55, 92, [some (.inr (.inr 1)), some (.inl x1), some (.inl x2), some (.inl x3)], [.inl r1], (am_sh, am_mm U1)) R
    subst h1a
    exact ev_end 1 (fun _ => rfl)
  · have h2 := h.2 hc
    refine ev_seg (σ1 := ((d + 1), 55, 54, [some (.inr (.inr 1)), some (.inl x1), some (.inl x2), some (.inl x3)], [.inl x3, .inr (.inr 18)], (am_sh, am_mm U))) 4 (fun _ => rfl) ?_
    refine eu_iald 18 (n := 16) rfl (by decide) rfl (fun _ => rfl) h2.1 ?_
    have h2a := h2.2
    refine ev_br (P := ¬ (U 18 x3.toNat) = x1) (σ1 := ((d + 1), 55, 78, [some (.inr (.inr 1)), some (.inl x1), some (.inl x2), some (.inl x3)], [], (am_sh, am_mm U))) (σ2 := ((d + 1), 55, 59, [some (.inr (.inr 1)), some (.inl x1), some (.inl x2), some (.inl x3)], [], (am_sh, am_mm U))) 2 (fun _ => rfl) (fun hc => ?_) (fun hc => ?_)
    · have h2a1 := h2a.1 hc
      refine ev_seg (σ1 := ((d + 1), 55, 35, [some (.inr (.inr 1)), some (.inl x1), some (.inl x2), some (.inl (w32 (x3 + 1)))], [], (am_sh, am_mm U))) 2 (fun _ => rfl) ?_
      exact h2a1
    · have h2a2 := h2a.2 hc
      refine ev_seg (σ1 := ((d + 1), 55, 71, [some (.inr (.inr 1)), some (.inl x1), some (.inl x2), some (.inl x3)], [.inl x3, .inr (.inr 17), .inr (.inr 82)], (am_sh, am_mm U))) 6 (fun _ => rfl) ?_
      refine eu_iald 17 (n := 16) rfl (by decide) rfl (fun _ => rfl) h2a2.1 ?_
      have h2a2a := h2a2.2
      refine ev_seg (σ1 := ((d + 1), 55, 75, [some (.inr (.inr 1)), some (.inl x1), some (.inl x2), some (.inl x3)], [.inl (if 0 ≤ (U 17 x3.toNat) then (U 17 x3.toNat) else w32 (-(U 17 x3.toNat))), .inr (.inr 82)], (am_sh, am_mm U))) 1 (fun _ => rfl) ?_
      obtain ⟨U2, h2a2ac, h2a2aa⟩ := h2a2a
      refine ev_cal (σc := (d, 161, 0, [some (.inr (.inr 82)), some (.inl (if 0 ≤ (U 17 x3.toNat) then (U 17 x3.toNat) else w32 (-(U 17 x3.toNat)))), none, none, none, none, none, none], [], (am_sh, am_mm U))) (fun _ => rfl) h2a2ac ?_
      show Ev (am_kz N X) ((d + 1), 55, 78, [some (.inr (.inr 1)), some (.inl x1), some (.inl x2), some (.inl x3)], [], (am_sh, am_mm U2)) R
      refine ev_seg (σ1 := ((d + 1), 55, 35, [some (.inr (.inr 1)), some (.inl x1), some (.inl x2), some (.inl (w32 (x3 + 1)))], [], (am_sh, am_mm U2))) 2 (fun _ => rfl) ?_
      exact h2a2aa
set_option maxRecDepth 8000 in
theorem st56_86_0 (N : Nat) (X : Nat → Int) (d : Nat) (x1 x2 : Int) (U : Nat → Nat → Int) (R : Option am_V × am_M) (h : ∃ (r1 : Int) (U1 : Nat → Nat → Int), Ev (am_kz N X) (d, 108, 0, [some (.inr (.inr 86)), some (.inl x1)], [], (am_sh, am_mm U)) (some (.inl r1), (am_sh, am_mm U1)) ∧ (((¬ r1 = 0 : Prop)) → ∃ (r2 : Int) (U2 : Nat → Nat → Int), Ev (am_kz N X) (d, 111, 0, [some (.inr (.inr 86)), some (.inl 0), some (.inl x1), none, none], [], (am_sh, am_mm U1)) (some (.inl r2), (am_sh, am_mm U2)) ∧ (((¬ r2 = 0 : Prop)) → Ev (am_kz N X) ((d + 1), 56, 37, [some (.inr (.inr 86)), some (.inl x1), some (.inl x2), some (.inl 0)], [], (am_sh, am_mm (am_upd (am_upd U2 133 0 1) 86 80 1))) R) ∧ (¬ (¬ r2 = 0) → Ev (am_kz N X) ((d + 1), 56, 37, [some (.inr (.inr 86)), some (.inl x1), some (.inl x2), some (.inl 0)], [], (am_sh, am_mm (am_upd (am_upd U2 133 0 0) 86 80 1))) R)) ∧ (¬ (¬ r1 = 0) → R = (some (.inl (-1)), (am_sh, am_mm U1)))) : Ev (am_kz N X) ((d + 1), 56, 0, [some (.inr (.inr 86)), some (.inl x1), some (.inl x2), none], [], (am_sh, am_mm U)) R := by
  refine ev_seg (σ1 := ((d + 1), 56, 2, [some (.inr (.inr 86)), some (.inl x1), some (.inl x2), none], [.inl x1, .inr (.inr 86)], (am_sh, am_mm U))) 2 (fun _ => rfl) ?_
  obtain ⟨r1, U1, hc, ha⟩ := h
  refine ev_cal (σc := (d, 108, 0, [some (.inr (.inr 86)), some (.inl x1)], [], (am_sh, am_mm U))) (fun _ => rfl) hc ?_
  show Ev (am_kz N X) ((d + 1), 56, 5, [some (.inr (.inr 86)), some (.inl x1), some (.inl x2), none], [.inl r1], (am_sh, am_mm U1)) R
  refine ev_br (P := ¬ r1 = 0) (σ1 := ((d + 1), 56, 10, [some (.inr (.inr 86)), some (.inl x1), some (.inl x2), none], [], (am_sh, am_mm U1))) (σ2 := ((d + 1), 56, 8, [some (.inr (.inr 86)), some (.inl x1), some (.inl x2), none], [], (am_sh, am_mm U1))) 1 (fun _ => rfl) (fun hc => ?_) (fun hc => ?_)
  · have ha1 := ha.1 hc
    refine ev_seg (σ1 := ((d + 1), 56, 18, [some (.inr (.inr 86)), some (.inl x1), some (.inl x2), none], [.inl x1, .inl 0, .inr (.inr 86), .inl 0, .inr (.inr 133)], (am_sh, am_mm U1))) 6 (fun _ => rfl) ?_
    obtain ⟨r2, U2, ha1c, ha1a⟩ := ha1
    refine ev_cal (σc := (d, 111, 0, [some (.inr (.inr 86)), some (.inl 0), some (.inl x1), none, none], [], (am_sh, am_mm U1))) (fun _ => rfl) ha1c ?_
    show Ev (am_kz N X) ((d + 1), 56, 21, [some (.inr (.inr 86)), some (.inl x1), some (.inl x2), none], [.inl r2, .inl 0, .inr (.inr 133)], (am_sh, am_mm U2)) R
    refine ev_br (P := ¬ r2 = 0) (σ1 := ((d + 1), 56, 28, [some (.inr (.inr 86)), some (.inl x1), some (.inl x2), none], [.inl 0, .inr (.inr 133)], (am_sh, am_mm U2))) (σ2 := ((d + 1), 56, 24, [some (.inr (.inr 86)), some (.inl x1), some (.inl x2), none], [.inl 0, .inr (.inr 133)], (am_sh, am_mm U2))) 1 (fun _ => rfl) (fun hc => ?_) (fun hc => ?_)
    · have ha1a1 := ha1a.1 hc
      refine ev_seg (σ1 := ((d + 1), 56, 29, [some (.inr (.inr 86)), some (.inl x1), some (.inl x2), none], [.inl 1, .inl 0, .inr (.inr 133)], (am_sh, am_mm U2))) 1 (fun _ => rfl) ?_
      refine eu_iast 133 (n := 80) rfl (by decide) rfl (fun _ => rfl) (by decide) ?_
      show Ev (am_kz N X) ((d + 1), 56, 30, [some (.inr (.inr 86)), some (.inl x1), some (.inl x2), none], [], (am_sh, am_mm (am_upd U2 133 0 1))) R
      refine ev_seg (σ1 := ((d + 1), 56, 32, [some (.inr (.inr 86)), some (.inl x1), some (.inl x2), none], [.inl 1, .inr (.inr 86)], (am_sh, am_mm (am_upd U2 133 0 1)))) 2 (fun _ => rfl) ?_
      refine eu_puti 86 (n := 90) rfl (by decide) rfl rfl ?_
      refine ev_seg (σ1 := ((d + 1), 56, 37, [some (.inr (.inr 86)), some (.inl x1), some (.inl x2), some (.inl 0)], [], (am_sh, am_mm (am_upd (am_upd U2 133 0 1) 86 80 1)))) 2 (fun _ => rfl) ?_
      exact ha1a1
    · have ha1a2 := ha1a.2 hc
      refine ev_seg (σ1 := ((d + 1), 56, 29, [some (.inr (.inr 86)), some (.inl x1), some (.inl x2), none], [.inl 0, .inl 0, .inr (.inr 133)], (am_sh, am_mm U2))) 2 (fun _ => rfl) ?_
      refine eu_iast 133 (n := 80) rfl (by decide) rfl (fun _ => rfl) (by decide) ?_
      show Ev (am_kz N X) ((d + 1), 56, 30, [some (.inr (.inr 86)), some (.inl x1), some (.inl x2), none], [], (am_sh, am_mm (am_upd U2 133 0 0))) R
      refine ev_seg (σ1 := ((d + 1), 56, 32, [some (.inr (.inr 86)), some (.inl x1), some (.inl x2), none], [.inl 1, .inr (.inr 86)], (am_sh, am_mm (am_upd U2 133 0 0)))) 2 (fun _ => rfl) ?_
      refine eu_puti 86 (n := 90) rfl (by decide) rfl rfl ?_
      refine ev_seg (σ1 := ((d + 1), 56, 37, [some (.inr (.inr 86)), some (.inl x1), some (.inl x2), some (.inl 0)], [], (am_sh, am_mm (am_upd (am_upd U2 133 0 0) 86 80 1)))) 2 (fun _ => rfl) ?_
      exact ha1a2
  · have ha2 := ha.2 hc
    subst ha2
    exact ev_end 2 (fun _ => rfl)
set_option maxRecDepth 8000 in
theorem st56_86_37 (N : Nat) (X : Nat → Int) (d : Nat) (x1 x2 x3 : Int) (U : Nat → Nat → Int) (R : Option am_V × am_M) (h : ((((U 122 0) ≤ x3 : Prop)) → (((¬ x2 = (-1) : Prop)) → ∃ (r1 : Int) (U1 : Nat → Nat → Int), Ev (am_kz N X) (d, 103, 0, [some (.inl x2), some (.inl 0), some (.inl (w32 ((U 86 80) - 1)))], [], (am_sh, am_mm U)) (some (.inl r1), (am_sh, am_mm U1)) ∧ (((r1 = 0 : Prop)) → R = (some (.inl (-1)), (am_sh, am_mm U1))) ∧ (¬ (r1 = 0) → (0 ≤ x2 ∧ x2 < 80) ∧ R = (some (.inl (U1 133 x2.toNat)), (am_sh, am_mm U1)))) ∧ (¬ (¬ x2 = (-1)) → R = (some (.inl (U 86 80)), (am_sh, am_mm U)))) ∧ (¬ ((U 122 0) ≤ x3) → (0 ≤ x3 ∧ x3 < 352) ∧ (((¬ (U 124 x3.toNat) = x1 : Prop)) → Ev (am_kz N X) ((d + 1), 56, 37, [some (.inr (.inr 86)), some (.inl x1), some (.inl x2), some (.inl (w32 (x3 + 1)))], [], (am_sh, am_mm U)) R) ∧ (¬ (¬ (U 124 x3.toNat) = x1) → ∃ (r2 : Int) (U2 : Nat → Nat → Int), Ev (am_kz N X) (d, 121, 0, [some (.inr (.inr 86)), some (.inl x3)], [], (am_sh, am_mm U)) (some (.inr (.inl r2)), (am_sh, am_mm U2)) ∧ ∃ U3 : Nat → Nat → Int, Ev (am_kz N X) (d, 162, 0, [some (.inr (.inr 86)), some (.inr (.inl r2)), none, none, none, none], [], (am_sh, am_mm U2)) (none, (am_sh, am_mm U3)) ∧ Ev (am_kz N X) ((d + 1), 56, 37, [some (.inr (.inr 86)), some (.inl x1), some (.inl x2), some (.inl (w32 (x3 + 1)))], [], (am_sh, am_mm U3)) R))) : Ev (am_kz N X) ((d + 1), 56, 37, [some (.inr (.inr 86)), some (.inl x1), some (.inl x2), some (.inl x3)], [], (am_sh, am_mm U)) R := by
  refine ev_seg (σ1 := ((d + 1), 56, 43, [some (.inr (.inr 86)), some (.inl x1), some (.inl x2), some (.inl x3)], [.inl 0, .inr (.inr 122), .inl x3], (am_sh, am_mm U))) 4 (fun _ => rfl) ?_
  refine eu_iald 122 (n := 22) rfl (by decide) rfl (fun _ => rfl) (by decide) ?_
  show Ev (am_kz N X) ((d + 1), 56, 44, [some (.inr (.inr 86)), some (.inl x1), some (.inl x2), some (.inl x3)], [.inl (U 122 0), .inl x3], (am_sh, am_mm U)) R
  refine ev_br (P := (U 122 0) ≤ x3) (σ1 := ((d + 1), 56, 72, [some (.inr (.inr 86)), some (.inl x1), some (.inl x2), some (.inl x3)], [], (am_sh, am_mm U))) (σ2 := ((d + 1), 56, 47, [some (.inr (.inr 86)), some (.inl x1), some (.inl x2), some (.inl x3)], [], (am_sh, am_mm U))) 1 (fun _ => rfl) (fun hc => ?_) (fun hc => ?_)
  · have h1 := h.1 hc
    refine ev_br (P := ¬ x2 = (-1)) (σ1 := ((d + 1), 56, 84, [some (.inr (.inr 86)), some (.inl x1), some (.inl x2), some (.inl x3)], [], (am_sh, am_mm U))) (σ2 := ((d + 1), 56, 77, [some (.inr (.inr 86)), some (.inl x1), some (.inl x2), some (.inl x3)], [], (am_sh, am_mm U))) 3 (fun _ => rfl) (fun hc => ?_) (fun hc => ?_)
    · have h11 := h1.1 hc
      refine ev_seg (σ1 := ((d + 1), 56, 92, [some (.inr (.inr 86)), some (.inl x1), some (.inl x2), some (.inl x3)], [.inl (w32 ((U 86 80) - 1)), .inl 0, .inl x2], (am_sh, am_mm U))) 6 (fun _ => rfl) ?_
      obtain ⟨r1, U1, h11c, h11a⟩ := h11
      refine ev_cal (σc := (d, 103, 0, [some (.inl x2), some (.inl 0), some (.inl (w32 ((U 86 80) - 1)))], [], (am_sh, am_mm U))) (fun _ => rfl) h11c ?_
      show Ev (am_kz N X) ((d + 1), 56, 95, [some (.inr (.inr 86)), some (.inl x1), some (.inl x2), some (.inl x3)], [.inl r1], (am_sh, am_mm U1)) R
      refine ev_br (P := r1 = 0) (σ1 := ((d + 1), 56, 107, [some (.inr (.inr 86)), some (.inl x1), some (.inl x2), some (.inl x3)], [], (am_sh, am_mm U1))) (σ2 := ((d + 1), 56, 98, [some (.inr (.inr 86)), some (.inl x1), some (.inl x2), some (.inl x3)], [], (am_sh, am_mm U1))) 1 (fun _ => rfl) (fun hc => ?_) (fun hc => ?_)
      · have h11a1 := h11a.1 hc
        subst h11a1
        exact ev_end 2 (fun _ => rfl)
      · have h11a2 := h11a.2 hc
        refine ev_seg (σ1 := ((d + 1), 56, 103, [some (.inr (.inr 86)), some (.inl x1), some (.inl x2), some (.inl x3)], [.inl x2, .inr (.inr 133)], (am_sh, am_mm U1))) 3 (fun _ => rfl) ?_
        refine eu_iald 133 (n := 80) rfl (by decide) rfl (fun _ => rfl) h11a2.1 ?_
        have h11a2a := h11a2.2
        subst h11a2a
        exact ev_end 2 (fun _ => rfl)
    · have h12 := h1.2 hc
      subst h12
      exact ev_end 4 (fun _ => rfl)
  · have h2 := h.2 hc
    refine ev_seg (σ1 := ((d + 1), 56, 52, [some (.inr (.inr 86)), some (.inl x1), some (.inl x2), some (.inl x3)], [.inl x3, .inr (.inr 124)], (am_sh, am_mm U))) 3 (fun _ => rfl) ?_
    refine eu_iald 124 (n := 352) rfl (by decide) rfl (fun _ => rfl) h2.1 ?_
    have h2a := h2.2
    refine ev_br (P := ¬ (U 124 x3.toNat) = x1) (σ1 := ((d + 1), 56, 66, [some (.inr (.inr 86)), some (.inl x1), some (.inl x2), some (.inl x3)], [], (am_sh, am_mm U))) (σ2 := ((d + 1), 56, 57, [some (.inr (.inr 86)), some (.inl x1), some (.inl x2), some (.inl x3)], [], (am_sh, am_mm U))) 2 (fun _ => rfl) (fun hc => ?_) (fun hc => ?_)
    · have h2a1 := h2a.1 hc
      refine ev_seg (σ1 := ((d + 1), 56, 37, [some (.inr (.inr 86)), some (.inl x1), some (.inl x2), some (.inl (w32 (x3 + 1)))], [], (am_sh, am_mm U))) 2 (fun _ => rfl) ?_
      exact h2a1
    · have h2a2 := h2a.2 hc
      refine ev_seg (σ1 := ((d + 1), 56, 60, [some (.inr (.inr 86)), some (.inl x1), some (.inl x2), some (.inl x3)], [.inl x3, .inr (.inr 86), .inr (.inr 86)], (am_sh, am_mm U))) 3 (fun _ => rfl) ?_
      obtain ⟨r2, U2, h2a2c, h2a2a⟩ := h2a2
      refine ev_cal (σc := (d, 121, 0, [some (.inr (.inr 86)), some (.inl x3)], [], (am_sh, am_mm U))) (fun _ => rfl) h2a2c ?_
      show Ev (am_kz N X) ((d + 1), 56, 63, [some (.inr (.inr 86)), some (.inl x1), some (.inl x2), some (.inl x3)], [.inr (.inl r2), .inr (.inr 86)], (am_sh, am_mm U2)) R
      obtain ⟨U3, h2a2ac, h2a2aa⟩ := h2a2a
      refine ev_cal (σc := (d, 162, 0, [some (.inr (.inr 86)), some (.inr (.inl r2)), none, none, none, none], [], (am_sh, am_mm U2))) (fun _ => rfl) h2a2ac ?_
      show Ev (am_kz N X) ((d + 1), 56, 66, [some (.inr (.inr 86)), some (.inl x1), some (.inl x2), some (.inl x3)], [], (am_sh, am_mm U3)) R
      refine ev_seg (σ1 := ((d + 1), 56, 37, [some (.inr (.inr 86)), some (.inl x1), some (.inl x2), some (.inl (w32 (x3 + 1)))], [], (am_sh, am_mm U3))) 2 (fun _ => rfl) ?_
      exact h2a2aa
set_option maxRecDepth 8000 in
theorem st57_1_0 (N : Nat) (X : Nat → Int) (d : Nat) (x1 : Int) (U : Nat → Nat → Int) (R : Option am_V × am_M) (h : ∃ (r1 : Int) (U1 : Nat → Nat → Int), Ev (am_kz N X) (d, 102, 0, [some (.inr (.inr 1)), some (.inl x1)], [], (am_sh, am_mm U)) (some (.inl r1), (am_sh, am_mm U1)) ∧ (((r1 = 0 : Prop)) → R = (some (.inl (-1000000000)), (am_sh, am_mm U1))) ∧ (¬ (r1 = 0) → (0 ≤ x1 ∧ x1 < 12) ∧ R = (some (.inl (U1 10 x1.toNat)), (am_sh, am_mm U1)))) : Ev (am_kz N X) ((d + 1), 57, 0, [some (.inr (.inr 1)), some (.inl x1)], [], (am_sh, am_mm U)) R := by
  refine ev_seg (σ1 := ((d + 1), 57, 2, [some (.inr (.inr 1)), some (.inl x1)], [.inl x1, .inr (.inr 1)], (am_sh, am_mm U))) 2 (fun _ => rfl) ?_
  obtain ⟨r1, U1, hc, ha⟩ := h
  refine ev_cal (σc := (d, 102, 0, [some (.inr (.inr 1)), some (.inl x1)], [], (am_sh, am_mm U))) (fun _ => rfl) hc ?_
  show Ev (am_kz N X) ((d + 1), 57, 5, [some (.inr (.inr 1)), some (.inl x1)], [.inl r1], (am_sh, am_mm U1)) R
  refine ev_br (P := r1 = 0) (σ1 := ((d + 1), 57, 20, [some (.inr (.inr 1)), some (.inl x1)], [], (am_sh, am_mm U1))) (σ2 := ((d + 1), 57, 8, [some (.inr (.inr 1)), some (.inl x1)], [], (am_sh, am_mm U1))) 1 (fun _ => rfl) (fun hc => ?_) (fun hc => ?_)
  · have ha1 := ha.1 hc
    subst ha1
    exact ev_end 2 (fun _ => rfl)
  · have ha2 := ha.2 hc
    refine ev_seg (σ1 := ((d + 1), 57, 16, [some (.inr (.inr 1)), some (.inl x1)], [.inl x1, .inr (.inr 10)], (am_sh, am_mm U1))) 4 (fun _ => rfl) ?_
    refine eu_iald 10 (n := 12) rfl (by decide) rfl (fun _ => rfl) ha2.1 ?_
    have ha2a := ha2.2
    subst ha2a
    exact ev_end 2 (fun _ => rfl)
set_option maxRecDepth 8000 in
theorem st58_86_0 (N : Nat) (X : Nat → Int) (d : Nat) (x1 : Int) (U : Nat → Nat → Int) (R : Option am_V × am_M) (h : ∃ (r1 : Int) (U1 : Nat → Nat → Int), Ev (am_kz N X) (d, 108, 0, [some (.inr (.inr 86)), some (.inl x1)], [], (am_sh, am_mm U)) (some (.inl r1), (am_sh, am_mm U1)) ∧ (((r1 = 0 : Prop)) → R = (some (.inl (-1000000000)), (am_sh, am_mm U1))) ∧ (¬ (r1 = 0) → ∃ (r2 : Int) (U2 : Nat → Nat → Int), Ev (am_kz N X) (d, 163, 0, [some (.inr (.inr 86)), some (.inl x1), none, none, none], [], (am_sh, am_mm U1)) (some (.inl r2), (am_sh, am_mm U2)) ∧ R = (some (.inl r2), (am_sh, am_mm U2)))) : Ev (am_kz N X) ((d + 1), 58, 0, [some (.inr (.inr 86)), some (.inl x1)], [], (am_sh, am_mm U)) R := by
  refine ev_seg (σ1 := ((d + 1), 58, 2, [some (.inr (.inr 86)), some (.inl x1)], [.inl x1, .inr (.inr 86)], (am_sh, am_mm U))) 2 (fun _ => rfl) ?_
  obtain ⟨r1, U1, hc, ha⟩ := h
  refine ev_cal (σc := (d, 108, 0, [some (.inr (.inr 86)), some (.inl x1)], [], (am_sh, am_mm U))) (fun _ => rfl) hc ?_
  show Ev (am_kz N X) ((d + 1), 58, 5, [some (.inr (.inr 86)), some (.inl x1)], [.inl r1], (am_sh, am_mm U1)) R
  refine ev_br (P := r1 = 0) (σ1 := ((d + 1), 58, 16, [some (.inr (.inr 86)), some (.inl x1)], [], (am_sh, am_mm U1))) (σ2 := ((d + 1), 58, 8, [some (.inr (.inr 86)), some (.inl x1)], [], (am_sh, am_mm U1))) 1 (fun _ => rfl) (fun hc => ?_) (fun hc => ?_)
  · have ha1 := ha.1 hc
    subst ha1
    exact ev_end 2 (fun _ => rfl)
  · have ha2 := ha.2 hc
    refine ev_seg (σ1 := ((d + 1), 58, 10, [some (.inr (.inr 86)), some (.inl x1)], [.inl x1, .inr (.inr 86)], (am_sh, am_mm U1))) 2 (fun _ => rfl) ?_
    obtain ⟨r2, U2, ha2c, ha2a⟩ := ha2
    refine ev_cal (σc := (d, 163, 0, [some (.inr (.inr 86)), some (.inl x1), none, none, none], [], (am_sh, am_mm U1))) (fun _ => rfl) ha2c ?_
    show Ev (am_kz N X) ((d + 1), 58, 13, [some (.inr (.inr 86)), some (.inl x1)], [.inl r2], (am_sh, am_mm U2)) R
    subst ha2a
    exact ev_end 2 (fun _ => rfl)
set_option maxRecDepth 8000 in
theorem st59_1_0 (N : Nat) (X : Nat → Int) (d : Nat) (U : Nat → Nat → Int) (R : Option am_V × am_M) (h : ∃ (r1 : Int) (U1 : Nat → Nat → Int), Ev (am_kz N X) (d, 164, 0, [some (.inr (.inr 3)), some (.inr (.inr 44)), none, none], [], (am_sh, am_mm U)) (some (.inl r1), (am_sh, am_mm U1)) ∧ R = (some (.inl r1), (am_sh, am_mm U1))) : Ev (am_kz N X) ((d + 1), 59, 0, [some (.inr (.inr 1))], [], (am_sh, am_mm U)) R := by
  refine ev_seg (σ1 := ((d + 1), 59, 8, [some (.inr (.inr 1))], [.inr (.inr 44), .inr (.inr 3)], (am_sh, am_mm U))) 4 (fun _ => rfl) ?_
  obtain ⟨r1, U1, hc, ha⟩ := h
  refine ev_cal (σc := (d, 164, 0, [some (.inr (.inr 3)), some (.inr (.inr 44)), none, none], [], (am_sh, am_mm U))) (fun _ => rfl) hc ?_
  show Ev (am_kz N X) ((d + 1), 59, 11, [some (.inr (.inr 1))], [.inl r1], (am_sh, am_mm U1)) R
  subst ha
  exact ev_end 1 (fun _ => rfl)
set_option maxRecDepth 8000 in
theorem st60_86_0 (N : Nat) (X : Nat → Int) (d : Nat) (U : Nat → Nat → Int) (R : Option am_V × am_M) (h : (0 ≤ (U 86 13) ∧ (U 86 13) < 2) ∧ Ev (am_kz N X) ((d + 1), 60, 19, [some (.inr (.inr 86)), some (.inl (U 90 (U 86 13).toNat)), some (.inl 1), none, none, none, none], [], (am_sh, am_mm (am_upd U 134 0 0))) R) : Ev (am_kz N X) ((d + 1), 60, 0, [some (.inr (.inr 86)), none, none, none, none, none, none], [], (am_sh, am_mm U)) R := by
  refine ev_seg (σ1 := ((d + 1), 60, 8, [some (.inr (.inr 86)), none, none, none, none, none, none], [.inl (U 86 13), .inr (.inr 90)], (am_sh, am_mm U))) 4 (fun _ => rfl) ?_
  refine eu_iald 90 (n := 2) rfl (by decide) rfl (fun _ => rfl) h.1 ?_
  have ha := h.2
  refine ev_seg (σ1 := ((d + 1), 60, 16, [some (.inr (.inr 86)), some (.inl (U 90 (U 86 13).toNat)), none, none, none, none, none], [.inl 0, .inl 0, .inr (.inr 134)], (am_sh, am_mm U))) 5 (fun _ => rfl) ?_
  refine eu_iast 134 (n := 4096) rfl (by decide) rfl (fun _ => rfl) (by decide) ?_
  show Ev (am_kz N X) ((d + 1), 60, 17, [some (.inr (.inr 86)), some (.inl (U 90 (U 86 13).toNat)), none, none, none, none, none], [], (am_sh, am_mm (am_upd U 134 0 0))) R
  refine ev_seg (σ1 := ((d + 1), 60, 19, [some (.inr (.inr 86)), some (.inl (U 90 (U 86 13).toNat)), some (.inl 1), none, none, none, none], [], (am_sh, am_mm (am_upd U 134 0 0)))) 2 (fun _ => rfl) ?_
  exact ha
set_option maxRecDepth 8000 in
theorem st60_86_19 (N : Nat) (X : Nat → Int) (d : Nat) (x1 x2 : Int) (U : Nat → Nat → Int) (R : Option am_V × am_M) (h : ((((am_shl 1 x1) ≤ x2 : Prop)) → (0 ≤ (w32 ((am_shl 1 x1) - 1)) ∧ (w32 ((am_shl 1 x1) - 1)) < 4096) ∧ R = (some (.inl (w32 (x1 - (U 134 (w32 ((am_shl 1 x1) - 1)).toNat)))), (am_sh, am_mm U))) ∧ (¬ ((am_shl 1 x1) ≤ x2) → Ev (am_kz N X) ((d + 1), 60, 34, [some (.inr (.inr 86)), some (.inl x1), some (.inl x2), some (.inl 0), some (.inl 0), some (.inl 0), none], [], (am_sh, am_mm U)) R)) : Ev (am_kz N X) ((d + 1), 60, 19, [some (.inr (.inr 86)), some (.inl x1), some (.inl x2), none, none, none, none], [], (am_sh, am_mm U)) R := by
  refine ev_br (P := (am_shl 1 x1) ≤ x2) (σ1 := ((d + 1), 60, 122, [some (.inr (.inr 86)), some (.inl x1), some (.inl x2), none, none, none, none], [], (am_sh, am_mm U))) (σ2 := ((d + 1), 60, 26, [some (.inr (.inr 86)), some (.inl x1), some (.inl x2), none, none, none, none], [], (am_sh, am_mm U))) 5 (fun _ => rfl) (fun hc => ?_) (fun hc => ?_)
  · have h1 := h.1 hc
    refine ev_seg (σ1 := ((d + 1), 60, 132, [some (.inr (.inr 86)), some (.inl x1), some (.inl x2), none, none, none, none], [.inl (w32 ((am_shl 1 x1) - 1)), .inr (.inr 134), .inl x1], (am_sh, am_mm U))) 8 (fun _ => rfl) ?_
    refine eu_iald 134 (n := 4096) rfl (by decide) rfl (fun _ => rfl) h1.1 ?_
    have h1a := h1.2
    subst h1a
    exact ev_end 2 (fun _ => rfl)
  · have h2 := h.2 hc
    refine ev_seg (σ1 := ((d + 1), 60, 34, [some (.inr (.inr 86)), some (.inl x1), some (.inl x2), some (.inl 0), some (.inl 0), some (.inl 0), none], [], (am_sh, am_mm U))) 6 (fun _ => rfl) ?_
    exact h2
set_option maxRecDepth 8000 in
theorem st60_86_34 (N : Nat) (X : Nat → Int) (d : Nat) (x1 x2 x3 x4 x5 : Int) (U : Nat → Nat → Int) (R : Option am_V × am_M) (h : (((x1 ≤ x5 : Prop)) → (((¬ x3 = 0 : Prop)) → (0 ≤ x2 ∧ x2 < 4096) ∧ Ev (am_kz N X) ((d + 1), 60, 19, [some (.inr (.inr 86)), some (.inl x1), some (.inl (w32 (x2 + 1))), some (.inl x3), some (.inl x4), some (.inl x5), none], [], (am_sh, am_mm (am_upd U 134 x2.toNat (w32 (x4 + 0))))) R) ∧ (¬ (¬ x3 = 0) → (0 ≤ x2 ∧ x2 < 4096) ∧ Ev (am_kz N X) ((d + 1), 60, 19, [some (.inr (.inr 86)), some (.inl x1), some (.inl (w32 (x2 + 1))), some (.inl x3), some (.inl x4), some (.inl x5), none], [], (am_sh, am_mm (am_upd U 134 x2.toNat (w32 (x4 + 1))))) R)) ∧ (¬ (x1 ≤ x5) → (((¬ (am_and (am_shr x2 x5) 1) = 0 : Prop)) → ∃ (r1 : Int) (U1 : Nat → Nat → Int), Ev (am_kz N X) (d, 163, 0, [some (.inr (.inr 86)), some (.inl x5), none, none, none], [], (am_sh, am_mm U)) (some (.inl r1), (am_sh, am_mm U1)) ∧ (0 ≤ (am_and x2 (am_xor (am_shl 1 x5) (-1))) ∧ (am_and x2 (am_xor (am_shl 1 x5) (-1))) < 4096) ∧ ((((U1 134 (am_and x2 (am_xor (am_shl 1 x5) (-1))).toNat) ≤ x4 : Prop)) → Ev (am_kz N X) ((d + 1), 60, 34, [some (.inr (.inr 86)), some (.inl x1), some (.inl x2), some (.inl (w32 (x3 + r1))), some (.inl x4), some (.inl (w32 (x5 + 1))), some (.inl (U1 134 (am_and x2 (am_xor (am_shl 1 x5) (-1))).toNat))], [], (am_sh, am_mm U1)) R) ∧ (¬ ((U1 134 (am_and x2 (am_xor (am_shl 1 x5) (-1))).toNat) ≤ x4) → Ev (am_kz N X) ((d + 1), 60, 34, [some (.inr (.inr 86)), some (.inl x1), some (.inl x2), some (.inl (w32 (x3 + r1))), some (.inl (U1 134 (am_and x2 (am_xor (am_shl 1 x5) (-1))).toNat)), some (.inl (w32 (x5 + 1))), some (.inl (U1 134 (am_and x2 (am_xor (am_shl 1 x5) (-1))).toNat))], [], (am_sh, am_mm U1)) R)) ∧ (¬ (¬ (am_and (am_shr x2 x5) 1) = 0) → Ev (am_kz N X) ((d + 1), 60, 34, [some (.inr (.inr 86)), some (.inl x1), some (.inl x2), some (.inl x3), some (.inl x4), some (.inl (w32 (x5 + 1))), none], [], (am_sh, am_mm U)) R))) : Ev (am_kz N X) ((d + 1), 60, 34, [some (.inr (.inr 86)), some (.inl x1), some (.inl x2), some (.inl x3), some (.inl x4), some (.inl x5), none], [], (am_sh, am_mm U)) R := by
  refine ev_br (P := x1 ≤ x5) (σ1 := ((d + 1), 60, 98, [some (.inr (.inr 86)), some (.inl x1), some (.inl x2), some (.inl x3), some (.inl x4), some (.inl x5), none], [], (am_sh, am_mm U))) (σ2 := ((d + 1), 60, 40, [some (.inr (.inr 86)), some (.inl x1), some (.inl x2), some (.inl x3), some (.inl x4), some (.inl x5), none], [], (am_sh, am_mm U))) 3 (fun _ => rfl) (fun hc => ?_) (fun hc => ?_)
  · have h1 := h.1 hc
    refine ev_br (P := ¬ x3 = 0) (σ1 := ((d + 1), 60, 113, [some (.inr (.inr 86)), some (.inl x1), some (.inl x2), some (.inl x3), some (.inl x4), some (.inl x5), none], [.inl x4, .inl x2, .inr (.inr 134)], (am_sh, am_mm U))) (σ2 := ((d + 1), 60, 109, [some (.inr (.inr 86)), some (.inl x1), some (.inl x2), some (.inl x3), some (.inl x4), some (.inl x5), none], [.inl x4, .inl x2, .inr (.inr 134)], (am_sh, am_mm U))) 6 (fun _ => rfl) (fun hc => ?_) (fun hc => ?_)
    · have h11 := h1.1 hc
      refine ev_seg (σ1 := ((d + 1), 60, 115, [some (.inr (.inr 86)), some (.inl x1), some (.inl x2), some (.inl x3), some (.inl x4), some (.inl x5), none], [.inl (w32 (x4 + 0)), .inl x2, .inr (.inr 134)], (am_sh, am_mm U))) 2 (fun _ => rfl) ?_
      refine eu_iast 134 (n := 4096) rfl (by decide) rfl (fun _ => rfl) h11.1 ?_
      have h11a := h11.2
      refine ev_seg (σ1 := ((d + 1), 60, 19, [some (.inr (.inr 86)), some (.inl x1), some (.inl (w32 (x2 + 1))), some (.inl x3), some (.inl x4), some (.inl x5), none], [], (am_sh, am_mm (am_upd U 134 x2.toNat (w32 (x4 + 0)))))) 2 (fun _ => rfl) ?_
      exact h11a
    · have h12 := h1.2 hc
      refine ev_seg (σ1 := ((d + 1), 60, 115, [some (.inr (.inr 86)), some (.inl x1), some (.inl x2), some (.inl x3), some (.inl x4), some (.inl x5), none], [.inl (w32 (x4 + 1)), .inl x2, .inr (.inr 134)], (am_sh, am_mm U))) 3 (fun _ => rfl) ?_
      refine eu_iast 134 (n := 4096) rfl (by decide) rfl (fun _ => rfl) h12.1 ?_
      have h12a := h12.2
      refine ev_seg (σ1 := ((d + 1), 60, 19, [some (.inr (.inr 86)), some (.inl x1), some (.inl (w32 (x2 + 1))), some (.inl x3), some (.inl x4), some (.inl x5), none], [], (am_sh, am_mm (am_upd U 134 x2.toNat (w32 (x4 + 1)))))) 2 (fun _ => rfl) ?_
      exact h12a
  · have h2 := h.2 hc
    refine ev_br (P := ¬ (am_and (am_shr x2 x5) 1) = 0) (σ1 := ((d + 1), 60, 52, [some (.inr (.inr 86)), some (.inl x1), some (.inl x2), some (.inl x3), some (.inl x4), some (.inl x5), none], [], (am_sh, am_mm U))) (σ2 := ((d + 1), 60, 49, [some (.inr (.inr 86)), some (.inl x1), some (.inl x2), some (.inl x3), some (.inl x4), some (.inl x5), none], [], (am_sh, am_mm U))) 6 (fun _ => rfl) (fun hc => ?_) (fun hc => ?_)
    · have h21 := h2.1 hc
      refine ev_seg (σ1 := ((d + 1), 60, 56, [some (.inr (.inr 86)), some (.inl x1), some (.inl x2), some (.inl x3), some (.inl x4), some (.inl x5), none], [.inl x5, .inr (.inr 86), .inl x3], (am_sh, am_mm U))) 3 (fun _ => rfl) ?_
      obtain ⟨r1, U1, h21c, h21a⟩ := h21
      refine ev_cal (σc := (d, 163, 0, [some (.inr (.inr 86)), some (.inl x5), none, none, none], [], (am_sh, am_mm U))) (fun _ => rfl) h21c ?_
      show Ev (am_kz N X) ((d + 1), 60, 59, [some (.inr (.inr 86)), some (.inl x1), some (.inl x2), some (.inl x3), some (.inl x4), some (.inl x5), none], [.inl r1, .inl x3], (am_sh, am_mm U1)) R
      refine ev_seg (σ1 := ((d + 1), 60, 73, [some (.inr (.inr 86)), some (.inl x1), some (.inl x2), some (.inl (w32 (x3 + r1))), some (.inl x4), some (.inl x5), none], [.inl (am_and x2 (am_xor (am_shl 1 x5) (-1))), .inr (.inr 134)], (am_sh, am_mm U1))) 11 (fun _ => rfl) ?_
      refine eu_iald 134 (n := 4096) rfl (by decide) rfl (fun _ => rfl) h21a.1 ?_
      have h21aa := h21a.2
      refine ev_br (P := (U1 134 (am_and x2 (am_xor (am_shl 1 x5) (-1))).toNat) ≤ x4) (σ1 := ((d + 1), 60, 88, [some (.inr (.inr 86)), some (.inl x1), some (.inl x2), some (.inl (w32 (x3 + r1))), some (.inl x4), some (.inl x5), some (.inl (U1 134 (am_and x2 (am_xor (am_shl 1 x5) (-1))).toNat))], [], (am_sh, am_mm U1))) (σ2 := ((d + 1), 60, 83, [some (.inr (.inr 86)), some (.inl x1), some (.inl x2), some (.inl (w32 (x3 + r1))), some (.inl x4), some (.inl x5), some (.inl (U1 134 (am_and x2 (am_xor (am_shl 1 x5) (-1))).toNat))], [], (am_sh, am_mm U1))) 4 (fun _ => rfl) (fun hc => ?_) (fun hc => ?_)
      · have h21aa1 := h21aa.1 hc
        refine ev_seg (σ1 := ((d + 1), 60, 34, [some (.inr (.inr 86)), some (.inl x1), some (.inl x2), some (.inl (w32 (x3 + r1))), some (.inl x4), some (.inl (w32 (x5 + 1))), some (.inl (U1 134 (am_and x2 (am_xor (am_shl 1 x5) (-1))).toNat))], [], (am_sh, am_mm U1))) 4 (fun _ => rfl) ?_
        exact h21aa1
      · have h21aa2 := h21aa.2 hc
        refine ev_seg (σ1 := ((d + 1), 60, 34, [some (.inr (.inr 86)), some (.inl x1), some (.inl x2), some (.inl (w32 (x3 + r1))), some (.inl (U1 134 (am_and x2 (am_xor (am_shl 1 x5) (-1))).toNat)), some (.inl (w32 (x5 + 1))), some (.inl (U1 134 (am_and x2 (am_xor (am_shl 1 x5) (-1))).toNat))], [], (am_sh, am_mm U1))) 5 (fun _ => rfl) ?_
        exact h21aa2
    · have h22 := h2.2 hc
      refine ev_seg (σ1 := ((d + 1), 60, 34, [some (.inr (.inr 86)), some (.inl x1), some (.inl x2), some (.inl x3), some (.inl x4), some (.inl (w32 (x5 + 1))), none], [], (am_sh, am_mm U))) 3 (fun _ => rfl) ?_
      exact h22
set_option maxRecDepth 8000 in
theorem st61_1_0 (N : Nat) (X : Nat → Int) (d : Nat) (U : Nat → Nat → Int) (R : Option am_V × am_M) (h : ∃ (r1 : Int) (U1 : Nat → Nat → Int), Ev (am_kz N X) (d, 165, 0, [some (.inr (.inr 2)), some (.inl (U 1 1)), none], [], (am_sh, am_mm (am_upd U 1 1 0))) (some (.inl r1), (am_sh, am_mm U1)) ∧ (((¬ r1 = 0 : Prop)) → ∃ U2 : Nat → Nat → Int, Ev (am_kz N X) (d, 166, 0, [some (.inr (.inr 78)), some (.inr (.inr 2))], [], (am_sh, am_mm U1)) (none, (am_sh, am_mm U2)) ∧ R = (some (.inl (U2 78 5)), (am_sh, am_mm U2))) ∧ (¬ (¬ r1 = 0) → ∃ (r3 : Int) (U3 : Nat → Nat → Int), Ev (am_kz N X) (d, 83, 0, [some (.inr (.inr 1)), some (.inl 5)], [], (am_sh, am_mm U1)) (some (.inl r3), (am_sh, am_mm U3)) ∧ R = (some (.inl (-1)), (am_sh, am_mm U3)))) : Ev (am_kz N X) ((d + 1), 61, 0, [some (.inr (.inr 1)), none], [], (am_sh, am_mm U)) R := by
  refine ev_seg (σ1 := ((d + 1), 61, 7, [some (.inr (.inr 1)), some (.inl (U 1 1))], [.inl 0, .inr (.inr 1)], (am_sh, am_mm U))) 5 (fun _ => rfl) ?_
  refine eu_puti 1 (n := 19) rfl (by decide) rfl rfl ?_
  refine ev_seg (σ1 := ((d + 1), 61, 15, [some (.inr (.inr 1)), some (.inl (U 1 1))], [.inl (U 1 1), .inr (.inr 2)], (am_sh, am_mm (am_upd U 1 1 0)))) 3 (fun _ => rfl) ?_
  obtain ⟨r1, U1, hc, ha⟩ := h
  refine ev_cal (σc := (d, 165, 0, [some (.inr (.inr 2)), some (.inl (U 1 1)), none], [], (am_sh, am_mm (am_upd U 1 1 0)))) (fun _ => rfl) hc ?_
  show Ev (am_kz N X) ((d + 1), 61, 18, [some (.inr (.inr 1)), some (.inl (U 1 1))], [.inl r1], (am_sh, am_mm U1)) R
  refine ev_br (P := ¬ r1 = 0) (σ1 := ((d + 1), 61, 29, [some (.inr (.inr 1)), some (.inl (U 1 1))], [], (am_sh, am_mm U1))) (σ2 := ((d + 1), 61, 21, [some (.inr (.inr 1)), some (.inl (U 1 1))], [], (am_sh, am_mm U1))) 1 (fun _ => rfl) (fun hc => ?_) (fun hc => ?_)
  · have ha1 := ha.1 hc
    refine ev_seg (σ1 := ((d + 1), 61, 37, [some (.inr (.inr 1)), some (.inl (U 1 1))], [.inr (.inr 2), .inr (.inr 78)], (am_sh, am_mm U1))) 4 (fun _ => rfl) ?_
    obtain ⟨U2, ha1c, ha1a⟩ := ha1
    refine ev_cal (σc := (d, 166, 0, [some (.inr (.inr 78)), some (.inr (.inr 2))], [], (am_sh, am_mm U1))) (fun _ => rfl) ha1c ?_
    show Ev (am_kz N X) ((d + 1), 61, 40, [some (.inr (.inr 1)), some (.inl (U 1 1))], [], (am_sh, am_mm U2)) R
    subst ha1a
    exact ev_end 4 (fun _ => rfl)
  · have ha2 := ha.2 hc
    refine ev_seg (σ1 := ((d + 1), 61, 23, [some (.inr (.inr 1)), some (.inl (U 1 1))], [.inl 5, .inr (.inr 1)], (am_sh, am_mm U1))) 2 (fun _ => rfl) ?_
    obtain ⟨r3, U3, ha2c, ha2a⟩ := ha2
    refine ev_cal (σc := (d, 83, 0, [some (.inr (.inr 1)), some (.inl 5)], [], (am_sh, am_mm U1))) (fun _ => rfl) ha2c ?_
    show Ev (am_kz N X) ((d + 1), 61, 26, [some (.inr (.inr 1)), some (.inl (U 1 1))], [.inl r3], (am_sh, am_mm U3)) R
    subst ha2a
    exact ev_end 3 (fun _ => rfl)
set_option maxRecDepth 8000 in
theorem st62_86_0 (N : Nat) (X : Nat → Int) (d : Nat) (U : Nat → Nat → Int) (R : Option am_V × am_M) (h : ((((U 86 1) ≤ 1 : Prop)) → Ev (am_kz N X) ((d + 1), 62, 75, [some (.inr (.inr 86)), some (.inl (U 86 1)), some (.inl 0), some (.inl 2)], [], (am_sh, am_mm (am_upd U 86 1 0))) R) ∧ (¬ ((U 86 1) ≤ 1) → ∃ (r1 : Int) (U1 : Nat → Nat → Int), Ev (am_kz N X) (d, 103, 0, [some (.inl ((am_upd U 86 1 0) 87 0)), some (.inl 2), some (.inl 4)], [], (am_sh, am_mm (am_upd U 86 1 0))) (some (.inl r1), (am_sh, am_mm U1)) ∧ (((r1 = 0 : Prop)) → Ev (am_kz N X) ((d + 1), 62, 75, [some (.inr (.inr 86)), some (.inl (U 86 1)), some (.inl 0), some (.inl 2)], [], (am_sh, am_mm U1)) R) ∧ (¬ (r1 = 0) → ∃ (r2 : Int) (U2 : Nat → Nat → Int), Ev (am_kz N X) (d, 103, 0, [some (.inl (U1 87 1)), some (.inl 1), some (.inl 24)], [], (am_sh, am_mm U1)) (some (.inl r2), (am_sh, am_mm U2)) ∧ (((r2 = 0 : Prop)) → Ev (am_kz N X) ((d + 1), 62, 75, [some (.inr (.inr 86)), some (.inl (U 86 1)), some (.inl 0), some (.inl 2)], [], (am_sh, am_mm U2)) R) ∧ (¬ (r2 = 0) → (((¬ (U 86 1) = (w32 (2 + (w32 (Int.tdiv (w32 ((U2 87 0) * (w32 ((U2 87 0) - 1)))) 2)))) : Prop)) → Ev (am_kz N X) ((d + 1), 62, 75, [some (.inr (.inr 86)), some (.inl (U 86 1)), some (.inl 0), some (.inl 2)], [], (am_sh, am_mm U2)) R) ∧ (¬ (¬ (U 86 1) = (w32 (2 + (w32 (Int.tdiv (w32 ((U2 87 0) * (w32 ((U2 87 0) - 1)))) 2))))) → Ev (am_kz N X) ((d + 1), 62, 75, [some (.inr (.inr 86)), some (.inl (U 86 1)), some (.inl 1), some (.inl 2)], [], (am_sh, am_mm U2)) R))))) : Ev (am_kz N X) ((d + 1), 62, 0, [some (.inr (.inr 86)), none, none, none], [], (am_sh, am_mm U)) R := by
  refine ev_seg (σ1 := ((d + 1), 62, 7, [some (.inr (.inr 86)), some (.inl (U 86 1)), none, none], [.inl 0, .inr (.inr 86)], (am_sh, am_mm U))) 5 (fun _ => rfl) ?_
  refine eu_puti 86 (n := 90) rfl (by decide) rfl rfl ?_
  refine ev_br (P := (U 86 1) ≤ 1) (σ1 := ((d + 1), 62, 71, [some (.inr (.inr 86)), some (.inl (U 86 1)), none, none], [], (am_sh, am_mm (am_upd U 86 1 0)))) (σ2 := ((d + 1), 62, 15, [some (.inr (.inr 86)), some (.inl (U 86 1)), none, none], [], (am_sh, am_mm (am_upd U 86 1 0)))) 3 (fun _ => rfl) (fun hc => ?_) (fun hc => ?_)
  · have h1 := h.1 hc
    refine ev_seg (σ1 := ((d + 1), 62, 75, [some (.inr (.inr 86)), some (.inl (U 86 1)), some (.inl 0), some (.inl 2)], [], (am_sh, am_mm (am_upd U 86 1 0)))) 4 (fun _ => rfl) ?_
    exact h1
  · have h2 := h.2 hc
    refine ev_seg (σ1 := ((d + 1), 62, 20, [some (.inr (.inr 86)), some (.inl (U 86 1)), none, none], [.inl 0, .inr (.inr 87)], (am_sh, am_mm (am_upd U 86 1 0)))) 3 (fun _ => rfl) ?_
    refine eu_iald 87 (n := 1800) rfl (by decide) rfl (fun _ => rfl) (by decide) ?_
    show Ev (am_kz N X) ((d + 1), 62, 21, [some (.inr (.inr 86)), some (.inl (U 86 1)), none, none], [.inl ((am_upd U 86 1 0) 87 0)], (am_sh, am_mm (am_upd U 86 1 0))) R
    refine ev_seg (σ1 := ((d + 1), 62, 23, [some (.inr (.inr 86)), some (.inl (U 86 1)), none, none], [.inl 4, .inl 2, .inl ((am_upd U 86 1 0) 87 0)], (am_sh, am_mm (am_upd U 86 1 0)))) 2 (fun _ => rfl) ?_
    obtain ⟨r1, U1, h2c, h2a⟩ := h2
    refine ev_cal (σc := (d, 103, 0, [some (.inl ((am_upd U 86 1 0) 87 0)), some (.inl 2), some (.inl 4)], [], (am_sh, am_mm (am_upd U 86 1 0)))) (fun _ => rfl) h2c ?_
    show Ev (am_kz N X) ((d + 1), 62, 26, [some (.inr (.inr 86)), some (.inl (U 86 1)), none, none], [.inl r1], (am_sh, am_mm U1)) R
    refine ev_br (P := r1 = 0) (σ1 := ((d + 1), 62, 71, [some (.inr (.inr 86)), some (.inl (U 86 1)), none, none], [], (am_sh, am_mm U1))) (σ2 := ((d + 1), 62, 29, [some (.inr (.inr 86)), some (.inl (U 86 1)), none, none], [], (am_sh, am_mm U1))) 1 (fun _ => rfl) (fun hc => ?_) (fun hc => ?_)
    · have h2a1 := h2a.1 hc
      refine ev_seg (σ1 := ((d + 1), 62, 75, [some (.inr (.inr 86)), some (.inl (U 86 1)), some (.inl 0), some (.inl 2)], [], (am_sh, am_mm U1))) 4 (fun _ => rfl) ?_
      exact h2a1
    · have h2a2 := h2a.2 hc
      refine ev_seg (σ1 := ((d + 1), 62, 34, [some (.inr (.inr 86)), some (.inl (U 86 1)), none, none], [.inl 1, .inr (.inr 87)], (am_sh, am_mm U1))) 3 (fun _ => rfl) ?_
      refine eu_iald 87 (n := 1800) rfl (by decide) rfl (fun _ => rfl) (by decide) ?_
      show Ev (am_kz N X) ((d + 1), 62, 35, [some (.inr (.inr 86)), some (.inl (U 86 1)), none, none], [.inl (U1 87 1)], (am_sh, am_mm U1)) R
      refine ev_seg (σ1 := ((d + 1), 62, 38, [some (.inr (.inr 86)), some (.inl (U 86 1)), none, none], [.inl 24, .inl 1, .inl (U1 87 1)], (am_sh, am_mm U1))) 2 (fun _ => rfl) ?_
      obtain ⟨r2, U2, h2a2c, h2a2a⟩ := h2a2
      refine ev_cal (σc := (d, 103, 0, [some (.inl (U1 87 1)), some (.inl 1), some (.inl 24)], [], (am_sh, am_mm U1))) (fun _ => rfl) h2a2c ?_
      show Ev (am_kz N X) ((d + 1), 62, 41, [some (.inr (.inr 86)), some (.inl (U 86 1)), none, none], [.inl r2], (am_sh, am_mm U2)) R
      refine ev_br (P := r2 = 0) (σ1 := ((d + 1), 62, 71, [some (.inr (.inr 86)), some (.inl (U 86 1)), none, none], [], (am_sh, am_mm U2))) (σ2 := ((d + 1), 62, 44, [some (.inr (.inr 86)), some (.inl (U 86 1)), none, none], [], (am_sh, am_mm U2))) 1 (fun _ => rfl) (fun hc => ?_) (fun hc => ?_)
      · have h2a2a1 := h2a2a.1 hc
        refine ev_seg (σ1 := ((d + 1), 62, 75, [some (.inr (.inr 86)), some (.inl (U 86 1)), some (.inl 0), some (.inl 2)], [], (am_sh, am_mm U2))) 4 (fun _ => rfl) ?_
        exact h2a2a1
      · have h2a2a2 := h2a2a.2 hc
        refine ev_seg (σ1 := ((d + 1), 62, 51, [some (.inr (.inr 86)), some (.inl (U 86 1)), none, none], [.inl 0, .inr (.inr 87), .inl 2, .inl (U 86 1)], (am_sh, am_mm U2))) 5 (fun _ => rfl) ?_
        refine eu_iald 87 (n := 1800) rfl (by decide) rfl (fun _ => rfl) (by decide) ?_
        show Ev (am_kz N X) ((d + 1), 62, 52, [some (.inr (.inr 86)), some (.inl (U 86 1)), none, none], [.inl (U2 87 0), .inl 2, .inl (U 86 1)], (am_sh, am_mm U2)) R
        refine ev_seg (σ1 := ((d + 1), 62, 57, [some (.inr (.inr 86)), some (.inl (U 86 1)), none, none], [.inl 0, .inr (.inr 87), .inl (U2 87 0), .inl 2, .inl (U 86 1)], (am_sh, am_mm U2))) 3 (fun _ => rfl) ?_
        refine eu_iald 87 (n := 1800) rfl (by decide) rfl (fun _ => rfl) (by decide) ?_
        show Ev (am_kz N X) ((d + 1), 62, 58, [some (.inr (.inr 86)), some (.inl (U 86 1)), none, none], [.inl (U2 87 0), .inl (U2 87 0), .inl 2, .inl (U 86 1)], (am_sh, am_mm U2)) R
        refine ev_seg (σ1 := ((d + 1), 62, 62, [some (.inr (.inr 86)), some (.inl (U 86 1)), none, none], [.inl 2, .inl (w32 ((U2 87 0) * (w32 ((U2 87 0) - 1)))), .inl 2, .inl (U 86 1)], (am_sh, am_mm U2))) 4 (fun _ => rfl) ?_
        refine ev_idiv rfl (by decide) ?_
        refine ev_br (P := ¬ (U 86 1) = (w32 (2 + (w32 (Int.tdiv (w32 ((U2 87 0) * (w32 ((U2 87 0) - 1)))) 2))))) (σ1 := ((d + 1), 62, 71, [some (.inr (.inr 86)), some (.inl (U 86 1)), none, none], [], (am_sh, am_mm U2))) (σ2 := ((d + 1), 62, 67, [some (.inr (.inr 86)), some (.inl (U 86 1)), none, none], [], (am_sh, am_mm U2))) 2 (fun _ => rfl) (fun hc => ?_) (fun hc => ?_)
        · have h2a2a21 := h2a2a2.1 hc
          refine ev_seg (σ1 := ((d + 1), 62, 75, [some (.inr (.inr 86)), some (.inl (U 86 1)), some (.inl 0), some (.inl 2)], [], (am_sh, am_mm U2))) 4 (fun _ => rfl) ?_
          exact h2a2a21
        · have h2a2a22 := h2a2a2.2 hc
          refine ev_seg (σ1 := ((d + 1), 62, 75, [some (.inr (.inr 86)), some (.inl (U 86 1)), some (.inl 1), some (.inl 2)], [], (am_sh, am_mm U2))) 5 (fun _ => rfl) ?_
          exact h2a2a22
set_option maxRecDepth 8000 in
theorem st62_86_75 (N : Nat) (X : Nat → Int) (d : Nat) (x1 x2 x3 : Int) (U : Nat → Nat → Int) (R : Option am_V × am_M) (h : (((x1 ≤ x3 : Prop)) → (((¬ x2 = 0 : Prop)) → Ev (am_kz N X) ((d + 1), 62, 138, [some (.inr (.inr 86)), some (.inl x1), some (.inl x2), some (.inl 2)], [], (am_sh, am_mm (am_upd (am_upd U 86 82 (U 87 0)) 86 83 ((am_upd U 86 82 (U 87 0)) 87 1)))) R) ∧ (¬ (¬ x2 = 0) → ∃ (r1 : Int) (U1 : Nat → Nat → Int), Ev (am_kz N X) (d, 85, 0, [some (.inr (.inr 86)), some (.inl 5)], [], (am_sh, am_mm U)) (some (.inl r1), (am_sh, am_mm U1)) ∧ R = (some (.inl r1), (am_sh, am_mm U1)))) ∧ (¬ (x1 ≤ x3) → (((x2 = 0 : Prop)) → (((¬ x2 = 0 : Prop)) → Ev (am_kz N X) ((d + 1), 62, 138, [some (.inr (.inr 86)), some (.inl x1), some (.inl x2), some (.inl 2)], [], (am_sh, am_mm (am_upd (am_upd U 86 82 (U 87 0)) 86 83 ((am_upd U 86 82 (U 87 0)) 87 1)))) R) ∧ (¬ (¬ x2 = 0) → ∃ (r2 : Int) (U2 : Nat → Nat → Int), Ev (am_kz N X) (d, 85, 0, [some (.inr (.inr 86)), some (.inl 5)], [], (am_sh, am_mm U)) (some (.inl r2), (am_sh, am_mm U2)) ∧ R = (some (.inl r2), (am_sh, am_mm U2)))) ∧ (¬ (x2 = 0) → (0 ≤ x3 ∧ x3 < 1800) ∧ (((2 ≤ (U 87 x3.toNat) : Prop)) → Ev (am_kz N X) ((d + 1), 62, 75, [some (.inr (.inr 86)), some (.inl x1), some (.inl 0), some (.inl (w32 (x3 + 1)))], [], (am_sh, am_mm U)) R) ∧ (¬ (2 ≤ (U 87 x3.toNat)) → Ev (am_kz N X) ((d + 1), 62, 75, [some (.inr (.inr 86)), some (.inl x1), some (.inl 1), some (.inl (w32 (x3 + 1)))], [], (am_sh, am_mm U)) R)))) : Ev (am_kz N X) ((d + 1), 62, 75, [some (.inr (.inr 86)), some (.inl x1), some (.inl x2), some (.inl x3)], [], (am_sh, am_mm U)) R := by
  refine ev_br (P := x1 ≤ x3) (σ1 := ((d + 1), 62, 106, [some (.inr (.inr 86)), some (.inl x1), some (.inl x2), some (.inl x3)], [], (am_sh, am_mm U))) (σ2 := ((d + 1), 62, 80, [some (.inr (.inr 86)), some (.inl x1), some (.inl x2), some (.inl x3)], [], (am_sh, am_mm U))) 3 (fun _ => rfl) (fun hc => ?_) (fun hc => ?_)
  · have h1 := h.1 hc
    refine ev_br (P := ¬ x2 = 0) (σ1 := ((d + 1), 62, 116, [some (.inr (.inr 86)), some (.inl x1), some (.inl x2), some (.inl x3)], [], (am_sh, am_mm U))) (σ2 := ((d + 1), 62, 110, [some (.inr (.inr 86)), some (.inl x1), some (.inl x2), some (.inl x3)], [], (am_sh, am_mm U))) 2 (fun _ => rfl) (fun hc => ?_) (fun hc => ?_)
    · have h11 := h1.1 hc
      refine ev_seg (σ1 := ((d + 1), 62, 122, [some (.inr (.inr 86)), some (.inl x1), some (.inl x2), some (.inl x3)], [.inl 0, .inr (.inr 87), .inr (.inr 86)], (am_sh, am_mm U))) 4 (fun _ => rfl) ?_
      refine eu_iald 87 (n := 1800) rfl (by decide) rfl (fun _ => rfl) (by decide) ?_
      show Ev (am_kz N X) ((d + 1), 62, 123, [some (.inr (.inr 86)), some (.inl x1), some (.inl x2), some (.inl x3)], [.inl (U 87 0), .inr (.inr 86)], (am_sh, am_mm U)) R
      refine eu_puti 86 (n := 90) rfl (by decide) rfl rfl ?_
      refine ev_seg (σ1 := ((d + 1), 62, 132, [some (.inr (.inr 86)), some (.inl x1), some (.inl x2), some (.inl x3)], [.inl 1, .inr (.inr 87), .inr (.inr 86)], (am_sh, am_mm (am_upd U 86 82 (U 87 0))))) 4 (fun _ => rfl) ?_
      refine eu_iald 87 (n := 1800) rfl (by decide) rfl (fun _ => rfl) (by decide) ?_
      show Ev (am_kz N X) ((d + 1), 62, 133, [some (.inr (.inr 86)), some (.inl x1), some (.inl x2), some (.inl x3)], [.inl ((am_upd U 86 82 (U 87 0)) 87 1), .inr (.inr 86)], (am_sh, am_mm (am_upd U 86 82 (U 87 0)))) R
      refine eu_puti 86 (n := 90) rfl (by decide) rfl rfl ?_
      refine ev_seg (σ1 := ((d + 1), 62, 138, [some (.inr (.inr 86)), some (.inl x1), some (.inl x2), some (.inl 2)], [], (am_sh, am_mm (am_upd (am_upd U 86 82 (U 87 0)) 86 83 ((am_upd U 86 82 (U 87 0)) 87 1))))) 2 (fun _ => rfl) ?_
      exact h11
    · have h12 := h1.2 hc
      refine ev_seg (σ1 := ((d + 1), 62, 112, [some (.inr (.inr 86)), some (.inl x1), some (.inl x2), some (.inl x3)], [.inl 5, .inr (.inr 86)], (am_sh, am_mm U))) 2 (fun _ => rfl) ?_
      obtain ⟨r1, U1, h12c, h12a⟩ := h12
      refine ev_cal (σc := (d, 85, 0, [some (.inr (.inr 86)), some (.inl 5)], [], (am_sh, am_mm U))) (fun _ => rfl) h12c ?_
      show Ev (am_kz N X) ((d + 1), 62, 115, [some (.inr (.inr 86)), some (.inl x1), some (.inl x2), some (.inl x3)], [.inl r1], (am_sh, am_mm U1)) R
      subst h12a
      exact ev_end 1 (fun _ => rfl)
  · have h2 := h.2 hc
    refine ev_br (P := x2 = 0) (σ1 := ((d + 1), 62, 106, [some (.inr (.inr 86)), some (.inl x1), some (.inl x2), some (.inl x3)], [], (am_sh, am_mm U))) (σ2 := ((d + 1), 62, 84, [some (.inr (.inr 86)), some (.inl x1), some (.inl x2), some (.inl x3)], [], (am_sh, am_mm U))) 2 (fun _ => rfl) (fun hc => ?_) (fun hc => ?_)
    · have h21 := h2.1 hc
      refine ev_br (P := ¬ x2 = 0) (σ1 := ((d + 1), 62, 116, [some (.inr (.inr 86)), some (.inl x1), some (.inl x2), some (.inl x3)], [], (am_sh, am_mm U))) (σ2 := ((d + 1), 62, 110, [some (.inr (.inr 86)), some (.inl x1), some (.inl x2), some (.inl x3)], [], (am_sh, am_mm U))) 2 (fun _ => rfl) (fun hc => ?_) (fun hc => ?_)
      · have h211 := h21.1 hc
        refine ev_seg (σ1 := ((d + 1), 62, 122, [some (.inr (.inr 86)), some (.inl x1), some (.inl x2), some (.inl x3)], [.inl 0, .inr (.inr 87), .inr (.inr 86)], (am_sh, am_mm U))) 4 (fun _ => rfl) ?_
        refine eu_iald 87 (n := 1800) rfl (by decide) rfl (fun _ => rfl) (by decide) ?_
        show Ev (am_kz N X) ((d + 1), 62, 123, [some (.inr (.inr 86)), some (.inl x1), some (.inl x2), some (.inl x3)], [.inl (U 87 0), .inr (.inr 86)], (am_sh, am_mm U)) R
        refine eu_puti 86 (n := 90) rfl (by decide) rfl rfl ?_
        refine ev_seg (σ1 := ((d + 1), 62, 132, [some (.inr (.inr 86)), some (.inl x1), some (.inl x2), some (.inl x3)], [.inl 1, .inr (.inr 87), .inr (.inr 86)], (am_sh, am_mm (am_upd U 86 82 (U 87 0))))) 4 (fun _ => rfl) ?_
        refine eu_iald 87 (n := 1800) rfl (by decide) rfl (fun _ => rfl) (by decide) ?_
        show Ev (am_kz N X) ((d + 1), 62, 133, [some (.inr (.inr 86)), some (.inl x1), some (.inl x2), some (.inl x3)], [.inl ((am_upd U 86 82 (U 87 0)) 87 1), .inr (.inr 86)], (am_sh, am_mm (am_upd U 86 82 (U 87 0)))) R
        refine eu_puti 86 (n := 90) rfl (by decide) rfl rfl ?_
        refine ev_seg (σ1 := ((d + 1), 62, 138, [some (.inr (.inr 86)), some (.inl x1), some (.inl x2), some (.inl 2)], [], (am_sh, am_mm (am_upd (am_upd U 86 82 (U 87 0)) 86 83 ((am_upd U 86 82 (U 87 0)) 87 1))))) 2 (fun _ => rfl) ?_
        exact h211
      · have h212 := h21.2 hc
        refine ev_seg (σ1 := ((d + 1), 62, 112, [some (.inr (.inr 86)), some (.inl x1), some (.inl x2), some (.inl x3)], [.inl 5, .inr (.inr 86)], (am_sh, am_mm U))) 2 (fun _ => rfl) ?_
        obtain ⟨r2, U2, h212c, h212a⟩ := h212
        refine ev_cal (σc := (d, 85, 0, [some (.inr (.inr 86)), some (.inl 5)], [], (am_sh, am_mm U))) (fun _ => rfl) h212c ?_
        show Ev (am_kz N X) ((d + 1), 62, 115, [some (.inr (.inr 86)), some (.inl x1), some (.inl x2), some (.inl x3)], [.inl r2], (am_sh, am_mm U2)) R
        subst h212a
        exact ev_end 1 (fun _ => rfl)
    · have h22 := h2.2 hc
      refine ev_seg (σ1 := ((d + 1), 62, 89, [some (.inr (.inr 86)), some (.inl x1), some (.inl x2), some (.inl x3)], [.inl x3, .inr (.inr 87)], (am_sh, am_mm U))) 3 (fun _ => rfl) ?_
      refine eu_iald 87 (n := 1800) rfl (by decide) rfl (fun _ => rfl) h22.1 ?_
      have h22a := h22.2
      refine ev_br (P := 2 ≤ (U 87 x3.toNat)) (σ1 := ((d + 1), 62, 98, [some (.inr (.inr 86)), some (.inl x1), some (.inl x2), some (.inl x3)], [], (am_sh, am_mm U))) (σ2 := ((d + 1), 62, 94, [some (.inr (.inr 86)), some (.inl x1), some (.inl x2), some (.inl x3)], [], (am_sh, am_mm U))) 2 (fun _ => rfl) (fun hc => ?_) (fun hc => ?_)
      · have h22a1 := h22a.1 hc
        refine ev_seg (σ1 := ((d + 1), 62, 75, [some (.inr (.inr 86)), some (.inl x1), some (.inl 0), some (.inl (w32 (x3 + 1)))], [], (am_sh, am_mm U))) 4 (fun _ => rfl) ?_
        exact h22a1
      · have h22a2 := h22a.2 hc
        refine ev_seg (σ1 := ((d + 1), 62, 75, [some (.inr (.inr 86)), some (.inl x1), some (.inl 1), some (.inl (w32 (x3 + 1)))], [], (am_sh, am_mm U))) 5 (fun _ => rfl) ?_
        exact h22a2
set_option maxRecDepth 8000 in
theorem st62_86_138 (N : Nat) (X : Nat → Int) (d : Nat) (x1 x2 x3 : Int) (U : Nat → Nat → Int) (R : Option am_V × am_M) (h : (((x1 ≤ x3 : Prop)) → ∃ U1 : Nat → Nat → Int, Ev (am_kz N X) (d, 167, 0, [some (.inr (.inr 86)), none, none, none, none], [], (am_sh, am_mm U)) (none, (am_sh, am_mm U1)) ∧ R = (some (.inl (U1 86 84)), (am_sh, am_mm U1))) ∧ (¬ (x1 ≤ x3) → (0 ≤ x3 ∧ x3 < 1800) ∧ (0 ≤ (w32 (x3 - 2)) ∧ (w32 (x3 - 2)) < 6) ∧ Ev (am_kz N X) ((d + 1), 62, 138, [some (.inr (.inr 86)), some (.inl x1), some (.inl x2), some (.inl (w32 (x3 + 1)))], [], (am_sh, am_mm (am_upd U 135 (w32 (x3 - 2)).toNat (U 87 x3.toNat)))) R)) : Ev (am_kz N X) ((d + 1), 62, 138, [some (.inr (.inr 86)), some (.inl x1), some (.inl x2), some (.inl x3)], [], (am_sh, am_mm U)) R := by
  refine ev_br (P := x1 ≤ x3) (σ1 := ((d + 1), 62, 163, [some (.inr (.inr 86)), some (.inl x1), some (.inl x2), some (.inl x3)], [], (am_sh, am_mm U))) (σ2 := ((d + 1), 62, 143, [some (.inr (.inr 86)), some (.inl x1), some (.inl x2), some (.inl x3)], [], (am_sh, am_mm U))) 3 (fun _ => rfl) (fun hc => ?_) (fun hc => ?_)
  · have h1 := h.1 hc
    refine ev_seg (σ1 := ((d + 1), 62, 164, [some (.inr (.inr 86)), some (.inl x1), some (.inl x2), some (.inl x3)], [.inr (.inr 86)], (am_sh, am_mm U))) 1 (fun _ => rfl) ?_
    obtain ⟨U1, h1c, h1a⟩ := h1
    refine ev_cal (σc := (d, 167, 0, [some (.inr (.inr 86)), none, none, none, none], [], (am_sh, am_mm U))) (fun _ => rfl) h1c ?_
    show Ev (am_kz N X) ((d + 1), 62, 167, [some (.inr (.inr 86)), some (.inl x1), some (.inl x2), some (.inl x3)], [], (am_sh, am_mm U1)) R
    subst h1a
    exact ev_end 3 (fun _ => rfl)
  · have h2 := h.2 hc
    refine ev_seg (σ1 := ((d + 1), 62, 155, [some (.inr (.inr 86)), some (.inl x1), some (.inl x2), some (.inl x3)], [.inl x3, .inr (.inr 87), .inl (w32 (x3 - 2)), .inr (.inr 135)], (am_sh, am_mm U))) 8 (fun _ => rfl) ?_
    refine eu_iald 87 (n := 1800) rfl (by decide) rfl (fun _ => rfl) h2.1 ?_
    have h2a := h2.2
    refine eu_iast 135 (n := 6) rfl (by decide) rfl (fun _ => rfl) h2a.1 ?_
    have h2aa := h2a.2
    refine ev_seg (σ1 := ((d + 1), 62, 138, [some (.inr (.inr 86)), some (.inl x1), some (.inl x2), some (.inl (w32 (x3 + 1)))], [], (am_sh, am_mm (am_upd U 135 (w32 (x3 - 2)).toNat (U 87 x3.toNat))))) 2 (fun _ => rfl) ?_
    exact h2aa
set_option maxRecDepth 8000 in
theorem st63_1_0 (N : Nat) (X : Nat → Int) (d : Nat) (x1 : Int) (U : Nat → Nat → Int) (R : Option am_V × am_M) (h : ∃ (r1 : Int) (U1 : Nat → Nat → Int), Ev (am_kz N X) (d, 168, 0, [some (.inr (.inr 78)), some (.inl x1)], [], (am_sh, am_mm U)) (some (.inl r1), (am_sh, am_mm U1)) ∧ R = (some (.inl r1), (am_sh, am_mm U1))) : Ev (am_kz N X) ((d + 1), 63, 0, [some (.inr (.inr 1)), some (.inl x1)], [], (am_sh, am_mm U)) R := by
  refine ev_seg (σ1 := ((d + 1), 63, 5, [some (.inr (.inr 1)), some (.inl x1)], [.inl x1, .inr (.inr 78)], (am_sh, am_mm U))) 3 (fun _ => rfl) ?_
  obtain ⟨r1, U1, hc, ha⟩ := h
  refine ev_cal (σc := (d, 168, 0, [some (.inr (.inr 78)), some (.inl x1)], [], (am_sh, am_mm U))) (fun _ => rfl) hc ?_
  show Ev (am_kz N X) ((d + 1), 63, 8, [some (.inr (.inr 1)), some (.inl x1)], [.inl r1], (am_sh, am_mm U1)) R
  subst ha
  exact ev_end 1 (fun _ => rfl)
set_option maxRecDepth 8000 in
theorem st64_86_0 (N : Nat) (X : Nat → Int) (d : Nat) (x1 : Int) (U : Nat → Nat → Int) (R : Option am_V × am_M) (h : ∃ (r1 : Int) (U1 : Nat → Nat → Int), Ev (am_kz N X) (d, 103, 0, [some (.inl x1), some (.inl 0), some (.inl (w32 ((U 86 82) - 1)))], [], (am_sh, am_mm U)) (some (.inl r1), (am_sh, am_mm U1)) ∧ (((r1 = 0 : Prop)) → R = (some (.inl (-1)), (am_sh, am_mm U1))) ∧ (¬ (r1 = 0) → ((((U1 86 84) ≤ 0 : Prop)) → R = (some (.inl (-1)), (am_sh, am_mm U1))) ∧ (¬ ((U1 86 84) ≤ 0) → (0 ≤ x1 ∧ x1 < 4) ∧ R = (some (.inl (U1 137 x1.toNat)), (am_sh, am_mm U1))))) : Ev (am_kz N X) ((d + 1), 64, 0, [some (.inr (.inr 86)), some (.inl x1)], [], (am_sh, am_mm U)) R := by
  refine ev_seg (σ1 := ((d + 1), 64, 8, [some (.inr (.inr 86)), some (.inl x1)], [.inl (w32 ((U 86 82) - 1)), .inl 0, .inl x1], (am_sh, am_mm U))) 6 (fun _ => rfl) ?_
  obtain ⟨r1, U1, hc, ha⟩ := h
  refine ev_cal (σc := (d, 103, 0, [some (.inl x1), some (.inl 0), some (.inl (w32 ((U 86 82) - 1)))], [], (am_sh, am_mm U))) (fun _ => rfl) hc ?_
  show Ev (am_kz N X) ((d + 1), 64, 11, [some (.inr (.inr 86)), some (.inl x1)], [.inl r1], (am_sh, am_mm U1)) R
  refine ev_br (P := r1 = 0) (σ1 := ((d + 1), 64, 30, [some (.inr (.inr 86)), some (.inl x1)], [], (am_sh, am_mm U1))) (σ2 := ((d + 1), 64, 14, [some (.inr (.inr 86)), some (.inl x1)], [], (am_sh, am_mm U1))) 1 (fun _ => rfl) (fun hc => ?_) (fun hc => ?_)
  · have ha1 := ha.1 hc
    subst ha1
    exact ev_end 2 (fun _ => rfl)
  · have ha2 := ha.2 hc
    refine ev_br (P := (U1 86 84) ≤ 0) (σ1 := ((d + 1), 64, 30, [some (.inr (.inr 86)), some (.inl x1)], [], (am_sh, am_mm U1))) (σ2 := ((d + 1), 64, 21, [some (.inr (.inr 86)), some (.inl x1)], [], (am_sh, am_mm U1))) 3 (fun _ => rfl) (fun hc => ?_) (fun hc => ?_)
    · have ha21 := ha2.1 hc
      subst ha21
      exact ev_end 2 (fun _ => rfl)
    · have ha22 := ha2.2 hc
      refine ev_seg (σ1 := ((d + 1), 64, 26, [some (.inr (.inr 86)), some (.inl x1)], [.inl x1, .inr (.inr 137)], (am_sh, am_mm U1))) 3 (fun _ => rfl) ?_
      refine eu_iald 137 (n := 4) rfl (by decide) rfl (fun _ => rfl) ha22.1 ?_
      have ha22a := ha22.2
      subst ha22a
      exact ev_end 2 (fun _ => rfl)
set_option maxRecDepth 8000 in
theorem st65_1_0 (N : Nat) (X : Nat → Int) (d : Nat) (U : Nat → Nat → Int) (R : Option am_V × am_M) (h : ∃ (r1 : Int) (U1 : Nat → Nat → Int), Ev (am_kz N X) (d, 169, 0, [some (.inr (.inr 16)), some (.inr (.inr 84)), none, none, none], [], (am_sh, am_mm U)) (some (.inl r1), (am_sh, am_mm U1)) ∧ R = (some (.inl ((am_upd U1 1 16 r1) 1 16)), (am_sh, am_mm (am_upd U1 1 16 r1)))) : Ev (am_kz N X) ((d + 1), 65, 0, [some (.inr (.inr 1))], [], (am_sh, am_mm U)) R := by
  refine ev_seg (σ1 := ((d + 1), 65, 9, [some (.inr (.inr 1))], [.inr (.inr 84), .inr (.inr 16), .inr (.inr 1)], (am_sh, am_mm U))) 5 (fun _ => rfl) ?_
  obtain ⟨r1, U1, hc, ha⟩ := h
  refine ev_cal (σc := (d, 169, 0, [some (.inr (.inr 16)), some (.inr (.inr 84)), none, none, none], [], (am_sh, am_mm U))) (fun _ => rfl) hc ?_
  show Ev (am_kz N X) ((d + 1), 65, 12, [some (.inr (.inr 1))], [.inl r1, .inr (.inr 1)], (am_sh, am_mm U1)) R
  refine eu_puti 1 (n := 19) rfl (by decide) rfl rfl ?_
  subst ha
  exact ev_end 3 (fun _ => rfl)
set_option maxRecDepth 8000 in
theorem st66_86_0 (N : Nat) (X : Nat → Int) (d : Nat) (U : Nat → Nat → Int) (R : Option am_V × am_M) (h : ∃ U1 : Nat → Nat → Int, Ev (am_kz N X) (d, 170, 0, [some (.inr (.inr 86)), some (.inl (am_shr ((am_upd U 86 89 0) 120 0) 8))], [], (am_sh, am_mm (am_upd U 86 89 0))) (none, (am_sh, am_mm U1)) ∧ ∃ U2 : Nat → Nat → Int, Ev (am_kz N X) (d, 170, 0, [some (.inr (.inr 86)), some (.inl (U1 120 0))], [], (am_sh, am_mm U1)) (none, (am_sh, am_mm U2)) ∧ ∃ U3 : Nat → Nat → Int, Ev (am_kz N X) (d, 170, 0, [some (.inr (.inr 86)), some (.inl (U2 121 0))], [], (am_sh, am_mm U2)) (none, (am_sh, am_mm U3)) ∧ ∃ U4 : Nat → Nat → Int, Ev (am_kz N X) (d, 170, 0, [some (.inr (.inr 86)), some (.inl (U3 122 0))], [], (am_sh, am_mm U3)) (none, (am_sh, am_mm U4)) ∧ Ev (am_kz N X) ((d + 1), 66, 50, [some (.inr (.inr 86)), some (.inl 0), none], [], (am_sh, am_mm U4)) R) : Ev (am_kz N X) ((d + 1), 66, 0, [some (.inr (.inr 86)), none, none], [], (am_sh, am_mm U)) R := by
  refine ev_seg (σ1 := ((d + 1), 66, 2, [some (.inr (.inr 86)), none, none], [.inl 0, .inr (.inr 86)], (am_sh, am_mm U))) 2 (fun _ => rfl) ?_
  refine eu_puti 86 (n := 90) rfl (by decide) rfl rfl ?_
  refine ev_seg (σ1 := ((d + 1), 66, 11, [some (.inr (.inr 86)), none, none], [.inl 0, .inr (.inr 120), .inr (.inr 86)], (am_sh, am_mm (am_upd U 86 89 0)))) 4 (fun _ => rfl) ?_
  refine eu_iald 120 (n := 22) rfl (by decide) rfl (fun _ => rfl) (by decide) ?_
  show Ev (am_kz N X) ((d + 1), 66, 12, [some (.inr (.inr 86)), none, none], [.inl ((am_upd U 86 89 0) 120 0), .inr (.inr 86)], (am_sh, am_mm (am_upd U 86 89 0))) R
  refine ev_seg (σ1 := ((d + 1), 66, 15, [some (.inr (.inr 86)), none, none], [.inl (am_shr ((am_upd U 86 89 0) 120 0) 8), .inr (.inr 86)], (am_sh, am_mm (am_upd U 86 89 0)))) 2 (fun _ => rfl) ?_
  obtain ⟨U1, hc, ha⟩ := h
  refine ev_cal (σc := (d, 170, 0, [some (.inr (.inr 86)), some (.inl (am_shr ((am_upd U 86 89 0) 120 0) 8))], [], (am_sh, am_mm (am_upd U 86 89 0)))) (fun _ => rfl) hc ?_
  show Ev (am_kz N X) ((d + 1), 66, 18, [some (.inr (.inr 86)), none, none], [], (am_sh, am_mm U1)) R
  refine ev_seg (σ1 := ((d + 1), 66, 24, [some (.inr (.inr 86)), none, none], [.inl 0, .inr (.inr 120), .inr (.inr 86)], (am_sh, am_mm U1))) 4 (fun _ => rfl) ?_
  refine eu_iald 120 (n := 22) rfl (by decide) rfl (fun _ => rfl) (by decide) ?_
  show Ev (am_kz N X) ((d + 1), 66, 25, [some (.inr (.inr 86)), none, none], [.inl (U1 120 0), .inr (.inr 86)], (am_sh, am_mm U1)) R
  obtain ⟨U2, hac, haa⟩ := ha
  refine ev_cal (σc := (d, 170, 0, [some (.inr (.inr 86)), some (.inl (U1 120 0))], [], (am_sh, am_mm U1))) (fun _ => rfl) hac ?_
  show Ev (am_kz N X) ((d + 1), 66, 28, [some (.inr (.inr 86)), none, none], [], (am_sh, am_mm U2)) R
  refine ev_seg (σ1 := ((d + 1), 66, 34, [some (.inr (.inr 86)), none, none], [.inl 0, .inr (.inr 121), .inr (.inr 86)], (am_sh, am_mm U2))) 4 (fun _ => rfl) ?_
  refine eu_iald 121 (n := 22) rfl (by decide) rfl (fun _ => rfl) (by decide) ?_
  show Ev (am_kz N X) ((d + 1), 66, 35, [some (.inr (.inr 86)), none, none], [.inl (U2 121 0), .inr (.inr 86)], (am_sh, am_mm U2)) R
  obtain ⟨U3, haac, haaa⟩ := haa
  refine ev_cal (σc := (d, 170, 0, [some (.inr (.inr 86)), some (.inl (U2 121 0))], [], (am_sh, am_mm U2))) (fun _ => rfl) haac ?_
  show Ev (am_kz N X) ((d + 1), 66, 38, [some (.inr (.inr 86)), none, none], [], (am_sh, am_mm U3)) R
  refine ev_seg (σ1 := ((d + 1), 66, 44, [some (.inr (.inr 86)), none, none], [.inl 0, .inr (.inr 122), .inr (.inr 86)], (am_sh, am_mm U3))) 4 (fun _ => rfl) ?_
  refine eu_iald 122 (n := 22) rfl (by decide) rfl (fun _ => rfl) (by decide) ?_
  show Ev (am_kz N X) ((d + 1), 66, 45, [some (.inr (.inr 86)), none, none], [.inl (U3 122 0), .inr (.inr 86)], (am_sh, am_mm U3)) R
  obtain ⟨U4, haaac, haaaa⟩ := haaa
  refine ev_cal (σc := (d, 170, 0, [some (.inr (.inr 86)), some (.inl (U3 122 0))], [], (am_sh, am_mm U3))) (fun _ => rfl) haaac ?_
  show Ev (am_kz N X) ((d + 1), 66, 48, [some (.inr (.inr 86)), none, none], [], (am_sh, am_mm U4)) R
  refine ev_seg (σ1 := ((d + 1), 66, 50, [some (.inr (.inr 86)), some (.inl 0), none], [], (am_sh, am_mm U4))) 2 (fun _ => rfl) ?_
  exact haaaa
set_option maxRecDepth 8000 in
theorem st66_86_50 (N : Nat) (X : Nat → Int) (d : Nat) (x1 : Int) (U : Nat → Nat → Int) (R : Option am_V × am_M) (h : ((((U 122 0) ≤ x1 : Prop)) → Ev (am_kz N X) ((d + 1), 66, 108, [some (.inr (.inr 86)), some (.inl 73), some (.inl 0)], [], (am_sh, am_mm U)) R) ∧ (¬ ((U 122 0) ≤ x1) → Ev (am_kz N X) ((d + 1), 66, 63, [some (.inr (.inr 86)), some (.inl x1), some (.inl 24)], [], (am_sh, am_mm U)) R)) : Ev (am_kz N X) ((d + 1), 66, 50, [some (.inr (.inr 86)), some (.inl x1), none], [], (am_sh, am_mm U)) R := by
  refine ev_seg (σ1 := ((d + 1), 66, 56, [some (.inr (.inr 86)), some (.inl x1), none], [.inl 0, .inr (.inr 122), .inl x1], (am_sh, am_mm U))) 4 (fun _ => rfl) ?_
  refine eu_iald 122 (n := 22) rfl (by decide) rfl (fun _ => rfl) (by decide) ?_
  show Ev (am_kz N X) ((d + 1), 66, 57, [some (.inr (.inr 86)), some (.inl x1), none], [.inl (U 122 0), .inl x1], (am_sh, am_mm U)) R
  refine ev_br (P := (U 122 0) ≤ x1) (σ1 := ((d + 1), 66, 103, [some (.inr (.inr 86)), some (.inl x1), none], [], (am_sh, am_mm U))) (σ2 := ((d + 1), 66, 60, [some (.inr (.inr 86)), some (.inl x1), none], [], (am_sh, am_mm U))) 1 (fun _ => rfl) (fun hc => ?_) (fun hc => ?_)
  · have h1 := h.1 hc
    refine ev_seg (σ1 := ((d + 1), 66, 108, [some (.inr (.inr 86)), some (.inl 73), some (.inl 0)], [], (am_sh, am_mm U))) 4 (fun _ => rfl) ?_
    exact h1
  · have h2 := h.2 hc
    refine ev_seg (σ1 := ((d + 1), 66, 63, [some (.inr (.inr 86)), some (.inl x1), some (.inl 24)], [], (am_sh, am_mm U))) 2 (fun _ => rfl) ?_
    exact h2
set_option maxRecDepth 8000 in
theorem st66_86_108 (N : Nat) (X : Nat → Int) (d : Nat) (x1 x2 : Int) (U : Nat → Nat → Int) (R : Option am_V × am_M) (h : ((((U 86 89) ≤ x2 : Prop)) → ∃ U1 : Nat → Nat → Int, Ev (am_kz N X) (d, 170, 0, [some (.inr (.inr 86)), some (.inl x1)], [], (am_sh, am_mm U)) (none, (am_sh, am_mm U1)) ∧ R = (some (.inl (U1 86 89)), (am_sh, am_mm U1))) ∧ (¬ ((U 86 89) ≤ x2) → (0 ≤ x2 ∧ x2 < 90) ∧ Ev (am_kz N X) ((d + 1), 66, 108, [some (.inr (.inr 86)), some (.inl (Int.tmod (w32 ((w32 (5 * x1)) + (U 138 x2.toNat))) 251)), some (.inl (w32 (x2 + 1)))], [], (am_sh, am_mm U)) R)) : Ev (am_kz N X) ((d + 1), 66, 108, [some (.inr (.inr 86)), some (.inl x1), some (.inl x2)], [], (am_sh, am_mm U)) R := by
  refine ev_br (P := (U 86 89) ≤ x2) (σ1 := ((d + 1), 66, 137, [some (.inr (.inr 86)), some (.inl x1), some (.inl x2)], [], (am_sh, am_mm U))) (σ2 := ((d + 1), 66, 116, [some (.inr (.inr 86)), some (.inl x1), some (.inl x2)], [], (am_sh, am_mm U))) 4 (fun _ => rfl) (fun hc => ?_) (fun hc => ?_)
  · have h1 := h.1 hc
    refine ev_seg (σ1 := ((d + 1), 66, 139, [some (.inr (.inr 86)), some (.inl x1), some (.inl x2)], [.inl x1, .inr (.inr 86)], (am_sh, am_mm U))) 2 (fun _ => rfl) ?_
    obtain ⟨U1, h1c, h1a⟩ := h1
    refine ev_cal (σc := (d, 170, 0, [some (.inr (.inr 86)), some (.inl x1)], [], (am_sh, am_mm U))) (fun _ => rfl) h1c ?_
    show Ev (am_kz N X) ((d + 1), 66, 142, [some (.inr (.inr 86)), some (.inl x1), some (.inl x2)], [], (am_sh, am_mm U1)) R
    subst h1a
    exact ev_end 3 (fun _ => rfl)
  · have h2 := h.2 hc
    refine ev_seg (σ1 := ((d + 1), 66, 124, [some (.inr (.inr 86)), some (.inl x1), some (.inl x2)], [.inl x2, .inr (.inr 138), .inl (w32 (5 * x1))], (am_sh, am_mm U))) 6 (fun _ => rfl) ?_
    refine eu_iald 138 (n := 90) rfl (by decide) rfl (fun _ => rfl) h2.1 ?_
    have h2a := h2.2
    refine ev_seg (σ1 := ((d + 1), 66, 129, [some (.inr (.inr 86)), some (.inl x1), some (.inl x2)], [.inl 251, .inl (w32 ((w32 (5 * x1)) + (U 138 x2.toNat)))], (am_sh, am_mm U))) 2 (fun _ => rfl) ?_
    refine ev_irem rfl (by decide) ?_
    refine ev_seg (σ1 := ((d + 1), 66, 108, [some (.inr (.inr 86)), some (.inl (Int.tmod (w32 ((w32 (5 * x1)) + (U 138 x2.toNat))) 251)), some (.inl (w32 (x2 + 1)))], [], (am_sh, am_mm U))) 3 (fun _ => rfl) ?_
    exact h2a
set_option maxRecDepth 8000 in
theorem st66_86_63 (N : Nat) (X : Nat → Int) (d : Nat) (x1 x2 : Int) (U : Nat → Nat → Int) (R : Option am_V × am_M) (h : (((x2 < 0 : Prop)) → (0 ≤ x1 ∧ x1 < 352) ∧ ∃ U1 : Nat → Nat → Int, Ev (am_kz N X) (d, 170, 0, [some (.inr (.inr 86)), some (.inl (w32 ((U 124 x1.toNat) + 1)))], [], (am_sh, am_mm U)) (none, (am_sh, am_mm U1)) ∧ Ev (am_kz N X) ((d + 1), 66, 50, [some (.inr (.inr 86)), some (.inl (w32 (x1 + 1))), some (.inl x2)], [], (am_sh, am_mm U1)) R) ∧ (¬ (x2 < 0) → (0 ≤ x1 ∧ x1 < 352) ∧ ∃ U2 : Nat → Nat → Int, Ev (am_kz N X) (d, 170, 0, [some (.inr (.inr 86)), some (.inl (am_shr (U 123 x1.toNat) x2))], [], (am_sh, am_mm U)) (none, (am_sh, am_mm U2)) ∧ Ev (am_kz N X) ((d + 1), 66, 63, [some (.inr (.inr 86)), some (.inl x1), some (.inl (w32 (x2 + (-8))))], [], (am_sh, am_mm U2)) R)) : Ev (am_kz N X) ((d + 1), 66, 63, [some (.inr (.inr 86)), some (.inl x1), some (.inl x2)], [], (am_sh, am_mm U)) R := by
  refine ev_br (P := x2 < 0) (σ1 := ((d + 1), 66, 85, [some (.inr (.inr 86)), some (.inl x1), some (.inl x2)], [], (am_sh, am_mm U))) (σ2 := ((d + 1), 66, 67, [some (.inr (.inr 86)), some (.inl x1), some (.inl x2)], [], (am_sh, am_mm U))) 2 (fun _ => rfl) (fun hc => ?_) (fun hc => ?_)
  · have h1 := h.1 hc
    refine ev_seg (σ1 := ((d + 1), 66, 91, [some (.inr (.inr 86)), some (.inl x1), some (.inl x2)], [.inl x1, .inr (.inr 124), .inr (.inr 86)], (am_sh, am_mm U))) 4 (fun _ => rfl) ?_
    refine eu_iald 124 (n := 352) rfl (by decide) rfl (fun _ => rfl) h1.1 ?_
    have h1a := h1.2
    refine ev_seg (σ1 := ((d + 1), 66, 94, [some (.inr (.inr 86)), some (.inl x1), some (.inl x2)], [.inl (w32 ((U 124 x1.toNat) + 1)), .inr (.inr 86)], (am_sh, am_mm U))) 2 (fun _ => rfl) ?_
    obtain ⟨U1, h1ac, h1aa⟩ := h1a
    refine ev_cal (σc := (d, 170, 0, [some (.inr (.inr 86)), some (.inl (w32 ((U 124 x1.toNat) + 1)))], [], (am_sh, am_mm U))) (fun _ => rfl) h1ac ?_
    show Ev (am_kz N X) ((d + 1), 66, 97, [some (.inr (.inr 86)), some (.inl x1), some (.inl x2)], [], (am_sh, am_mm U1)) R
    refine ev_seg (σ1 := ((d + 1), 66, 50, [some (.inr (.inr 86)), some (.inl (w32 (x1 + 1))), some (.inl x2)], [], (am_sh, am_mm U1))) 2 (fun _ => rfl) ?_
    exact h1aa
  · have h2 := h.2 hc
    refine ev_seg (σ1 := ((d + 1), 66, 73, [some (.inr (.inr 86)), some (.inl x1), some (.inl x2)], [.inl x1, .inr (.inr 123), .inr (.inr 86)], (am_sh, am_mm U))) 4 (fun _ => rfl) ?_
    refine eu_iald 123 (n := 352) rfl (by decide) rfl (fun _ => rfl) h2.1 ?_
    have h2a := h2.2
    refine ev_seg (σ1 := ((d + 1), 66, 76, [some (.inr (.inr 86)), some (.inl x1), some (.inl x2)], [.inl (am_shr (U 123 x1.toNat) x2), .inr (.inr 86)], (am_sh, am_mm U))) 2 (fun _ => rfl) ?_
    obtain ⟨U2, h2ac, h2aa⟩ := h2a
    refine ev_cal (σc := (d, 170, 0, [some (.inr (.inr 86)), some (.inl (am_shr (U 123 x1.toNat) x2))], [], (am_sh, am_mm U))) (fun _ => rfl) h2ac ?_
    show Ev (am_kz N X) ((d + 1), 66, 79, [some (.inr (.inr 86)), some (.inl x1), some (.inl x2)], [], (am_sh, am_mm U2)) R
    refine ev_seg (σ1 := ((d + 1), 66, 63, [some (.inr (.inr 86)), some (.inl x1), some (.inl (w32 (x2 + (-8))))], [], (am_sh, am_mm U2))) 2 (fun _ => rfl) ?_
    exact h2aa
set_option maxRecDepth 8000 in
theorem st67_1_0 (N : Nat) (X : Nat → Int) (d : Nat) (x1 : Int) (U : Nat → Nat → Int) (R : Option am_V × am_M) (h : (((x1 < 0 : Prop)) → R = (some (.inl (-1)), (am_sh, am_mm U))) ∧ (¬ (x1 < 0) → ((((U 1 16) ≤ x1 : Prop)) → R = (some (.inl (-1)), (am_sh, am_mm U))) ∧ (¬ ((U 1 16) ≤ x1) → (0 ≤ x1 ∧ x1 < 85) ∧ R = (some (.inl (U 84 x1.toNat)), (am_sh, am_mm U))))) : Ev (am_kz N X) (d, 67, 0, [some (.inr (.inr 1)), some (.inl x1)], [], (am_sh, am_mm U)) R := by
  refine ev_br (P := x1 < 0) (σ1 := (d, 67, 21, [some (.inr (.inr 1)), some (.inl x1)], [], (am_sh, am_mm U))) (σ2 := (d, 67, 4, [some (.inr (.inr 1)), some (.inl x1)], [], (am_sh, am_mm U))) 2 (fun _ => rfl) (fun hc => ?_) (fun hc => ?_)
  · have h1 := h.1 hc
    subst h1
    exact ev_end 2 (fun _ => rfl)
  · have h2 := h.2 hc
    refine ev_br (P := (U 1 16) ≤ x1) (σ1 := (d, 67, 21, [some (.inr (.inr 1)), some (.inl x1)], [], (am_sh, am_mm U))) (σ2 := (d, 67, 12, [some (.inr (.inr 1)), some (.inl x1)], [], (am_sh, am_mm U))) 4 (fun _ => rfl) (fun hc => ?_) (fun hc => ?_)
    · have h21 := h2.1 hc
      subst h21
      exact ev_end 2 (fun _ => rfl)
    · have h22 := h2.2 hc
      refine ev_seg (σ1 := (d, 67, 17, [some (.inr (.inr 1)), some (.inl x1)], [.inl x1, .inr (.inr 84)], (am_sh, am_mm U))) 3 (fun _ => rfl) ?_
      refine eu_iald 84 (n := 85) rfl (by decide) rfl (fun _ => rfl) h22.1 ?_
      have h22a := h22.2
      subst h22a
      exact ev_end 2 (fun _ => rfl)
set_option maxRecDepth 8000 in
theorem st68_86_0 (N : Nat) (X : Nat → Int) (d : Nat) (x1 : Int) (U : Nat → Nat → Int) (R : Option am_V × am_M) (h : ∃ (r1 : Int) (U1 : Nat → Nat → Int), Ev (am_kz N X) (d, 103, 0, [some (.inl x1), some (.inl 0), some (.inl (w32 ((U 86 89) - 1)))], [], (am_sh, am_mm U)) (some (.inl r1), (am_sh, am_mm U1)) ∧ (((r1 = 0 : Prop)) → R = (some (.inl (-1)), (am_sh, am_mm U1))) ∧ (¬ (r1 = 0) → (0 ≤ x1 ∧ x1 < 90) ∧ R = (some (.inl (U1 138 x1.toNat)), (am_sh, am_mm U1)))) : Ev (am_kz N X) ((d + 1), 68, 0, [some (.inr (.inr 86)), some (.inl x1)], [], (am_sh, am_mm U)) R := by
  refine ev_seg (σ1 := ((d + 1), 68, 8, [some (.inr (.inr 86)), some (.inl x1)], [.inl (w32 ((U 86 89) - 1)), .inl 0, .inl x1], (am_sh, am_mm U))) 6 (fun _ => rfl) ?_
  obtain ⟨r1, U1, hc, ha⟩ := h
  refine ev_cal (σc := (d, 103, 0, [some (.inl x1), some (.inl 0), some (.inl (w32 ((U 86 89) - 1)))], [], (am_sh, am_mm U))) (fun _ => rfl) hc ?_
  show Ev (am_kz N X) ((d + 1), 68, 11, [some (.inr (.inr 86)), some (.inl x1)], [.inl r1], (am_sh, am_mm U1)) R
  refine ev_br (P := r1 = 0) (σ1 := ((d + 1), 68, 23, [some (.inr (.inr 86)), some (.inl x1)], [], (am_sh, am_mm U1))) (σ2 := ((d + 1), 68, 14, [some (.inr (.inr 86)), some (.inl x1)], [], (am_sh, am_mm U1))) 1 (fun _ => rfl) (fun hc => ?_) (fun hc => ?_)
  · have ha1 := ha.1 hc
    subst ha1
    exact ev_end 2 (fun _ => rfl)
  · have ha2 := ha.2 hc
    refine ev_seg (σ1 := ((d + 1), 68, 19, [some (.inr (.inr 86)), some (.inl x1)], [.inl x1, .inr (.inr 138)], (am_sh, am_mm U1))) 3 (fun _ => rfl) ?_
    refine eu_iald 138 (n := 90) rfl (by decide) rfl (fun _ => rfl) ha2.1 ?_
    have ha2a := ha2.2
    subst ha2a
    exact ev_end 2 (fun _ => rfl)
set_option maxRecDepth 8000 in
theorem st69_1_0 (N : Nat) (X : Nat → Int) (d : Nat) (U : Nat → Nat → Int) (R : Option am_V × am_M) (h : ∃ (r1 : Int) (U1 : Nat → Nat → Int), Ev (am_kz N X) (d, 171, 0, [some (.inr (.inr 21)), some (.inr (.inr 2)), some (.inl (U 1 1)), some (.inr (.inr 3)), none, none], [], (am_sh, am_mm (am_upd U 1 1 0))) (some (.inl r1), (am_sh, am_mm U1)) ∧ (((¬ r1 = 0 : Prop)) → ∃ U2 : Nat → Nat → Int, Ev (am_kz N X) (d, 89, 0, [some (.inr (.inr 16)), some (.inr (.inr 21)), none], [], (am_sh, am_mm U1)) (none, (am_sh, am_mm U2)) ∧ ∃ U3 : Nat → Nat → Int, Ev (am_kz N X) (d, 91, 0, [some (.inr (.inr 56))], [], (am_sh, am_mm U2)) (none, (am_sh, am_mm U3)) ∧ ∃ U4 : Nat → Nat → Int, Ev (am_kz N X) (d, 92, 0, [some (.inr (.inr 1))], [], (am_sh, am_mm U3)) (none, (am_sh, am_mm U4)) ∧ R = (some (.inl 1), (am_sh, am_mm U4))) ∧ (¬ (¬ r1 = 0) → ∃ (r5 : Int) (U5 : Nat → Nat → Int), Ev (am_kz N X) (d, 83, 0, [some (.inr (.inr 1)), some (.inl 5)], [], (am_sh, am_mm U1)) (some (.inl r5), (am_sh, am_mm U5)) ∧ (r5 = 0 ∨ r5 = 1) ∧ R = (some (.inl r5), (am_sh, am_mm U5)))) : Ev (am_kz N X) ((d + 1), 69, 0, [some (.inr (.inr 1)), none], [], (am_sh, am_mm U)) R := by
  refine ev_seg (σ1 := ((d + 1), 69, 7, [some (.inr (.inr 1)), some (.inl (U 1 1))], [.inl 0, .inr (.inr 1)], (am_sh, am_mm U))) 5 (fun _ => rfl) ?_
  refine eu_puti 1 (n := 19) rfl (by decide) rfl rfl ?_
  refine ev_seg (σ1 := ((d + 1), 69, 23, [some (.inr (.inr 1)), some (.inl (U 1 1))], [.inr (.inr 3), .inl (U 1 1), .inr (.inr 2), .inr (.inr 21)], (am_sh, am_mm (am_upd U 1 1 0)))) 7 (fun _ => rfl) ?_
  obtain ⟨r1, U1, hc, ha⟩ := h
  refine ev_cal (σc := (d, 171, 0, [some (.inr (.inr 21)), some (.inr (.inr 2)), some (.inl (U 1 1)), some (.inr (.inr 3)), none, none], [], (am_sh, am_mm (am_upd U 1 1 0)))) (fun _ => rfl) hc ?_
  show Ev (am_kz N X) ((d + 1), 69, 26, [some (.inr (.inr 1)), some (.inl (U 1 1))], [.inl r1], (am_sh, am_mm U1)) R
  refine ev_br (P := ¬ r1 = 0) (σ1 := ((d + 1), 69, 35, [some (.inr (.inr 1)), some (.inl (U 1 1))], [], (am_sh, am_mm U1))) (σ2 := ((d + 1), 69, 29, [some (.inr (.inr 1)), some (.inl (U 1 1))], [], (am_sh, am_mm U1))) 1 (fun _ => rfl) (fun hc => ?_) (fun hc => ?_)
  · have ha1 := ha.1 hc
    refine ev_seg (σ1 := ((d + 1), 69, 43, [some (.inr (.inr 1)), some (.inl (U 1 1))], [.inr (.inr 21), .inr (.inr 16)], (am_sh, am_mm U1))) 4 (fun _ => rfl) ?_
    obtain ⟨U2, ha1c, ha1a⟩ := ha1
    refine ev_cal (σc := (d, 89, 0, [some (.inr (.inr 16)), some (.inr (.inr 21)), none], [], (am_sh, am_mm U1))) (fun _ => rfl) ha1c ?_
    show Ev (am_kz N X) ((d + 1), 69, 46, [some (.inr (.inr 1)), some (.inl (U 1 1))], [], (am_sh, am_mm U2)) R
    refine ev_seg (σ1 := ((d + 1), 69, 50, [some (.inr (.inr 1)), some (.inl (U 1 1))], [.inr (.inr 56)], (am_sh, am_mm U2))) 2 (fun _ => rfl) ?_
    obtain ⟨U3, ha1ac, ha1aa⟩ := ha1a
    refine ev_cal (σc := (d, 91, 0, [some (.inr (.inr 56))], [], (am_sh, am_mm U2))) (fun _ => rfl) ha1ac ?_
    show Ev (am_kz N X) ((d + 1), 69, 53, [some (.inr (.inr 1)), some (.inl (U 1 1))], [], (am_sh, am_mm U3)) R
    refine ev_seg (σ1 := ((d + 1), 69, 54, [some (.inr (.inr 1)), some (.inl (U 1 1))], [.inr (.inr 1)], (am_sh, am_mm U3))) 1 (fun _ => rfl) ?_
    obtain ⟨U4, ha1aac, ha1aaa⟩ := ha1aa
    refine ev_cal (σc := (d, 92, 0, [some (.inr (.inr 1))], [], (am_sh, am_mm U3))) (fun _ => rfl) ha1aac ?_
    show Ev (am_kz N X) ((d + 1), 69, 57, [some (.inr (.inr 1)), some (.inl (U 1 1))], [], (am_sh, am_mm U4)) R
    subst ha1aaa
    exact ev_end 2 (fun _ => rfl)
  · have ha2 := ha.2 hc
    refine ev_seg (σ1 := ((d + 1), 69, 31, [some (.inr (.inr 1)), some (.inl (U 1 1))], [.inl 5, .inr (.inr 1)], (am_sh, am_mm U1))) 2 (fun _ => rfl) ?_
    obtain ⟨r5, U5, ha2c, ha2a⟩ := ha2
    refine ev_cal (σc := (d, 83, 0, [some (.inr (.inr 1)), some (.inl 5)], [], (am_sh, am_mm U1))) (fun _ => rfl) ha2c ?_
    show Ev (am_kz N X) ((d + 1), 69, 34, [some (.inr (.inr 1)), some (.inl (U 1 1))], [.inl r5], (am_sh, am_mm U5)) R
    rw [ha2a.2]
    exact ev_retz rfl rfl ha2a.1
set_option maxRecDepth 8000 in
theorem st70_86_0 (N : Nat) (X : Nat → Int) (d : Nat) (U : Nat → Nat → Int) (R : Option am_V × am_M) (h : ∃ (r1 : Int) (U1 : Nat → Nat → Int), Ev (am_kz N X) (d, 172, 0, [some (.inr (.inr 86)), some (.inl (U 86 1)), none, none, none, none], [], (am_sh, am_mm (am_upd U 86 1 0))) (some (.inl r1), (am_sh, am_mm U1)) ∧ (((¬ r1 = 0 : Prop)) → ∃ U2 : Nat → Nat → Int, Ev (am_kz N X) (d, 144, 0, [some (.inr (.inr 86)), some (.inl 0), some (.inl 1), none], [], (am_sh, am_mm (am_upd (am_upd U1 120 1 (am_or (am_shl (U1 87 0) 8) (U1 87 1))) 121 1 ((am_upd U1 120 1 (am_or (am_shl (U1 87 0) 8) (U1 87 1))) 87 2)))) (none, (am_sh, am_mm U2)) ∧ R = (some (.inl 1), (am_sh, am_mm (am_upd U2 86 58 0)))) ∧ (¬ (¬ r1 = 0) → ∃ (r3 : Int) (U3 : Nat → Nat → Int), Ev (am_kz N X) (d, 85, 0, [some (.inr (.inr 86)), some (.inl 5)], [], (am_sh, am_mm U1)) (some (.inl r3), (am_sh, am_mm U3)) ∧ (((r3 < 0 : Prop)) → R = (some (.inl 0), (am_sh, am_mm U3))) ∧ (¬ (r3 < 0) → R = (some (.inl 1), (am_sh, am_mm U3))))) : Ev (am_kz N X) ((d + 1), 70, 0, [some (.inr (.inr 86)), none], [], (am_sh, am_mm U)) R := by
  refine ev_seg (σ1 := ((d + 1), 70, 7, [some (.inr (.inr 86)), some (.inl (U 86 1))], [.inl 0, .inr (.inr 86)], (am_sh, am_mm U))) 5 (fun _ => rfl) ?_
  refine eu_puti 86 (n := 90) rfl (by decide) rfl rfl ?_
  refine ev_seg (σ1 := ((d + 1), 70, 12, [some (.inr (.inr 86)), some (.inl (U 86 1))], [.inl (U 86 1), .inr (.inr 86)], (am_sh, am_mm (am_upd U 86 1 0)))) 2 (fun _ => rfl) ?_
  obtain ⟨r1, U1, hc, ha⟩ := h
  refine ev_cal (σc := (d, 172, 0, [some (.inr (.inr 86)), some (.inl (U 86 1)), none, none, none, none], [], (am_sh, am_mm (am_upd U 86 1 0)))) (fun _ => rfl) hc ?_
  show Ev (am_kz N X) ((d + 1), 70, 15, [some (.inr (.inr 86)), some (.inl (U 86 1))], [.inl r1], (am_sh, am_mm U1)) R
  refine ev_br (P := ¬ r1 = 0) (σ1 := ((d + 1), 70, 32, [some (.inr (.inr 86)), some (.inl (U 86 1))], [], (am_sh, am_mm U1))) (σ2 := ((d + 1), 70, 18, [some (.inr (.inr 86)), some (.inl (U 86 1))], [], (am_sh, am_mm U1))) 1 (fun _ => rfl) (fun hc => ?_) (fun hc => ?_)
  · have ha1 := ha.1 hc
    refine ev_seg (σ1 := ((d + 1), 70, 42, [some (.inr (.inr 86)), some (.inl (U 86 1))], [.inl 0, .inr (.inr 87), .inl 1, .inr (.inr 120)], (am_sh, am_mm U1))) 6 (fun _ => rfl) ?_
    refine eu_iald 87 (n := 1800) rfl (by decide) rfl (fun _ => rfl) (by decide) ?_
    show Ev (am_kz N X) ((d + 1), 70, 43, [some (.inr (.inr 86)), some (.inl (U 86 1))], [.inl (U1 87 0), .inl 1, .inr (.inr 120)], (am_sh, am_mm U1)) R
    refine ev_seg (σ1 := ((d + 1), 70, 51, [some (.inr (.inr 86)), some (.inl (U 86 1))], [.inl 1, .inr (.inr 87), .inl (am_shl (U1 87 0) 8), .inl 1, .inr (.inr 120)], (am_sh, am_mm U1))) 5 (fun _ => rfl) ?_
    refine eu_iald 87 (n := 1800) rfl (by decide) rfl (fun _ => rfl) (by decide) ?_
    show Ev (am_kz N X) ((d + 1), 70, 52, [some (.inr (.inr 86)), some (.inl (U 86 1))], [.inl (U1 87 1), .inl (am_shl (U1 87 0) 8), .inl 1, .inr (.inr 120)], (am_sh, am_mm U1)) R
    refine ev_seg (σ1 := ((d + 1), 70, 53, [some (.inr (.inr 86)), some (.inl (U 86 1))], [.inl (am_or (am_shl (U1 87 0) 8) (U1 87 1)), .inl 1, .inr (.inr 120)], (am_sh, am_mm U1))) 1 (fun _ => rfl) ?_
    refine eu_iast 120 (n := 22) rfl (by decide) rfl (fun _ => rfl) (by decide) ?_
    show Ev (am_kz N X) ((d + 1), 70, 54, [some (.inr (.inr 86)), some (.inl (U 86 1))], [], (am_sh, am_mm (am_upd U1 120 1 (am_or (am_shl (U1 87 0) 8) (U1 87 1))))) R
    refine ev_seg (σ1 := ((d + 1), 70, 64, [some (.inr (.inr 86)), some (.inl (U 86 1))], [.inl 2, .inr (.inr 87), .inl 1, .inr (.inr 121)], (am_sh, am_mm (am_upd U1 120 1 (am_or (am_shl (U1 87 0) 8) (U1 87 1)))))) 6 (fun _ => rfl) ?_
    refine eu_iald 87 (n := 1800) rfl (by decide) rfl (fun _ => rfl) (by decide) ?_
    show Ev (am_kz N X) ((d + 1), 70, 65, [some (.inr (.inr 86)), some (.inl (U 86 1))], [.inl ((am_upd U1 120 1 (am_or (am_shl (U1 87 0) 8) (U1 87 1))) 87 2), .inl 1, .inr (.inr 121)], (am_sh, am_mm (am_upd U1 120 1 (am_or (am_shl (U1 87 0) 8) (U1 87 1))))) R
    refine eu_iast 121 (n := 22) rfl (by decide) rfl (fun _ => rfl) (by decide) ?_
    show Ev (am_kz N X) ((d + 1), 70, 66, [some (.inr (.inr 86)), some (.inl (U 86 1))], [], (am_sh, am_mm (am_upd (am_upd U1 120 1 (am_or (am_shl (U1 87 0) 8) (U1 87 1))) 121 1 ((am_upd U1 120 1 (am_or (am_shl (U1 87 0) 8) (U1 87 1))) 87 2)))) R
    refine ev_seg (σ1 := ((d + 1), 70, 69, [some (.inr (.inr 86)), some (.inl (U 86 1))], [.inl 1, .inl 0, .inr (.inr 86)], (am_sh, am_mm (am_upd (am_upd U1 120 1 (am_or (am_shl (U1 87 0) 8) (U1 87 1))) 121 1 ((am_upd U1 120 1 (am_or (am_shl (U1 87 0) 8) (U1 87 1))) 87 2))))) 3 (fun _ => rfl) ?_
    obtain ⟨U2, ha1c, ha1a⟩ := ha1
    refine ev_cal (σc := (d, 144, 0, [some (.inr (.inr 86)), some (.inl 0), some (.inl 1), none], [], (am_sh, am_mm (am_upd (am_upd U1 120 1 (am_or (am_shl (U1 87 0) 8) (U1 87 1))) 121 1 ((am_upd U1 120 1 (am_or (am_shl (U1 87 0) 8) (U1 87 1))) 87 2))))) (fun _ => rfl) ha1c ?_
    show Ev (am_kz N X) ((d + 1), 70, 72, [some (.inr (.inr 86)), some (.inl (U 86 1))], [], (am_sh, am_mm U2)) R
    refine ev_seg (σ1 := ((d + 1), 70, 74, [some (.inr (.inr 86)), some (.inl (U 86 1))], [.inl 0, .inr (.inr 86)], (am_sh, am_mm U2))) 2 (fun _ => rfl) ?_
    refine eu_puti 86 (n := 90) rfl (by decide) rfl rfl ?_
    subst ha1a
    exact ev_end 2 (fun _ => rfl)
  · have ha2 := ha.2 hc
    refine ev_seg (σ1 := ((d + 1), 70, 20, [some (.inr (.inr 86)), some (.inl (U 86 1))], [.inl 5, .inr (.inr 86)], (am_sh, am_mm U1))) 2 (fun _ => rfl) ?_
    obtain ⟨r3, U3, ha2c, ha2a⟩ := ha2
    refine ev_cal (σc := (d, 85, 0, [some (.inr (.inr 86)), some (.inl 5)], [], (am_sh, am_mm U1))) (fun _ => rfl) ha2c ?_
    show Ev (am_kz N X) ((d + 1), 70, 23, [some (.inr (.inr 86)), some (.inl (U 86 1))], [.inl r3], (am_sh, am_mm U3)) R
    refine ev_br (P := r3 < 0) (σ1 := ((d + 1), 70, 30, [some (.inr (.inr 86)), some (.inl (U 86 1))], [], (am_sh, am_mm U3))) (σ2 := ((d + 1), 70, 26, [some (.inr (.inr 86)), some (.inl (U 86 1))], [], (am_sh, am_mm U3))) 1 (fun _ => rfl) (fun hc => ?_) (fun hc => ?_)
    · have ha2a1 := ha2a.1 hc
      subst ha2a1
      exact ev_end 2 (fun _ => rfl)
    · have ha2a2 := ha2a.2 hc
      subst ha2a2
      exact ev_end 3 (fun _ => rfl)
set_option maxRecDepth 8000 in
theorem st71_1_0 (N : Nat) (X : Nat → Int) (d : Nat) (x1 : Int) (U : Nat → Nat → Int) (R : Option am_V × am_M) (h : (((x1 < 0 : Prop)) → R = (some (.inl (-1)), (am_sh, am_mm U))) ∧ (¬ (x1 < 0) → (((6 ≤ x1 : Prop)) → R = (some (.inl (-1)), (am_sh, am_mm U))) ∧ (¬ (6 ≤ x1) → (0 ≤ x1 ∧ x1 < 6) ∧ R = (some (.inl (U 85 x1.toNat)), (am_sh, am_mm U))))) : Ev (am_kz N X) (d, 71, 0, [some (.inr (.inr 1)), some (.inl x1)], [], (am_sh, am_mm U)) R := by
  refine ev_br (P := x1 < 0) (σ1 := (d, 71, 22, [some (.inr (.inr 1)), some (.inl x1)], [], (am_sh, am_mm U))) (σ2 := (d, 71, 4, [some (.inr (.inr 1)), some (.inl x1)], [], (am_sh, am_mm U))) 2 (fun _ => rfl) (fun hc => ?_) (fun hc => ?_)
  · have h1 := h.1 hc
    subst h1
    exact ev_end 2 (fun _ => rfl)
  · have h2 := h.2 hc
    refine ev_br (P := 6 ≤ x1) (σ1 := (d, 71, 22, [some (.inr (.inr 1)), some (.inl x1)], [], (am_sh, am_mm U))) (σ2 := (d, 71, 13, [some (.inr (.inr 1)), some (.inl x1)], [], (am_sh, am_mm U))) 5 (fun _ => rfl) (fun hc => ?_) (fun hc => ?_)
    · have h21 := h2.1 hc
      subst h21
      exact ev_end 2 (fun _ => rfl)
    · have h22 := h2.2 hc
      refine ev_seg (σ1 := (d, 71, 18, [some (.inr (.inr 1)), some (.inl x1)], [.inl x1, .inr (.inr 85)], (am_sh, am_mm U))) 3 (fun _ => rfl) ?_
      refine eu_iald 85 (n := 6) rfl (by decide) rfl (fun _ => rfl) h22.1 ?_
      have h22a := h22.2
      subst h22a
      exact ev_end 2 (fun _ => rfl)
set_option maxRecDepth 8000 in
theorem st72_86_0 (N : Nat) (X : Nat → Int) (d : Nat) (x1 : Int) (U : Nat → Nat → Int) (R : Option am_V × am_M) (h : ∃ (r1 : Int) (U1 : Nat → Nat → Int), Ev (am_kz N X) (d, 103, 0, [some (.inl x1), some (.inl 0), some (.inl 5)], [], (am_sh, am_mm U)) (some (.inl r1), (am_sh, am_mm U1)) ∧ (((r1 = 0 : Prop)) → R = (some (.inl (-1)), (am_sh, am_mm U1))) ∧ (¬ (r1 = 0) → (0 ≤ x1 ∧ x1 < 6) ∧ R = (some (.inl (U1 119 x1.toNat)), (am_sh, am_mm U1)))) : Ev (am_kz N X) ((d + 1), 72, 0, [some (.inr (.inr 86)), some (.inl x1)], [], (am_sh, am_mm U)) R := by
  refine ev_seg (σ1 := ((d + 1), 72, 3, [some (.inr (.inr 86)), some (.inl x1)], [.inl 5, .inl 0, .inl x1], (am_sh, am_mm U))) 3 (fun _ => rfl) ?_
  obtain ⟨r1, U1, hc, ha⟩ := h
  refine ev_cal (σc := (d, 103, 0, [some (.inl x1), some (.inl 0), some (.inl 5)], [], (am_sh, am_mm U))) (fun _ => rfl) hc ?_
  show Ev (am_kz N X) ((d + 1), 72, 6, [some (.inr (.inr 86)), some (.inl x1)], [.inl r1], (am_sh, am_mm U1)) R
  refine ev_br (P := r1 = 0) (σ1 := ((d + 1), 72, 18, [some (.inr (.inr 86)), some (.inl x1)], [], (am_sh, am_mm U1))) (σ2 := ((d + 1), 72, 9, [some (.inr (.inr 86)), some (.inl x1)], [], (am_sh, am_mm U1))) 1 (fun _ => rfl) (fun hc => ?_) (fun hc => ?_)
  · have ha1 := ha.1 hc
    subst ha1
    exact ev_end 2 (fun _ => rfl)
  · have ha2 := ha.2 hc
    refine ev_seg (σ1 := ((d + 1), 72, 14, [some (.inr (.inr 86)), some (.inl x1)], [.inl x1, .inr (.inr 119)], (am_sh, am_mm U1))) 3 (fun _ => rfl) ?_
    refine eu_iald 119 (n := 6) rfl (by decide) rfl (fun _ => rfl) ha2.1 ?_
    have ha2a := ha2.2
    subst ha2a
    exact ev_end 2 (fun _ => rfl)
set_option maxRecDepth 8000 in
theorem st83_1_0 (N : Nat) (X : Nat → Int) (d : Nat) (x1 : Int) (U : Nat → Nat → Int) (R : Option am_V × am_M) (h : (((x1 < 0 : Prop)) → R = (some (.inl 0), (am_sh, am_mm U))) ∧ (¬ (x1 < 0) → (((6 ≤ x1 : Prop)) → R = (some (.inl 0), (am_sh, am_mm U))) ∧ (¬ (6 ≤ x1) → (0 ≤ x1 ∧ x1 < 6) ∧ (0 ≤ x1 ∧ x1 < 6) ∧ R = (some (.inl 0), (am_sh, am_mm (am_upd U 85 x1.toNat (w32 ((U 85 x1.toNat) + 1)))))))) : Ev (am_kz N X) (d, 83, 0, [some (.inr (.inr 1)), some (.inl x1)], [], (am_sh, am_mm U)) R := by
  refine ev_br (P := x1 < 0) (σ1 := (d, 83, 23, [some (.inr (.inr 1)), some (.inl x1)], [], (am_sh, am_mm U))) (σ2 := (d, 83, 4, [some (.inr (.inr 1)), some (.inl x1)], [], (am_sh, am_mm U))) 2 (fun _ => rfl) (fun hc => ?_) (fun hc => ?_)
  · have h1 := h.1 hc
    subst h1
    exact ev_end 2 (fun _ => rfl)
  · have h2 := h.2 hc
    refine ev_br (P := 6 ≤ x1) (σ1 := (d, 83, 23, [some (.inr (.inr 1)), some (.inl x1)], [], (am_sh, am_mm U))) (σ2 := (d, 83, 13, [some (.inr (.inr 1)), some (.inl x1)], [], (am_sh, am_mm U))) 5 (fun _ => rfl) (fun hc => ?_) (fun hc => ?_)
    · have h21 := h2.1 hc
      subst h21
      exact ev_end 2 (fun _ => rfl)
    · have h22 := h2.2 hc
      refine ev_seg (σ1 := (d, 83, 19, [some (.inr (.inr 1)), some (.inl x1)], [.inl x1, .inr (.inr 85), .inl x1, .inr (.inr 85)], (am_sh, am_mm U))) 4 (fun _ => rfl) ?_
      refine eu_iald 85 (n := 6) rfl (by decide) rfl (fun _ => rfl) h22.1 ?_
      have h22a := h22.2
      refine ev_seg (σ1 := (d, 83, 22, [some (.inr (.inr 1)), some (.inl x1)], [.inl (w32 ((U 85 x1.toNat) + 1)), .inl x1, .inr (.inr 85)], (am_sh, am_mm U))) 2 (fun _ => rfl) ?_
      refine eu_iast 85 (n := 6) rfl (by decide) rfl (fun _ => rfl) h22a.1 ?_
      have h22aa := h22a.2
      subst h22aa
      exact ev_end 2 (fun _ => rfl)
set_option maxRecDepth 8000 in
theorem st84_1_0 (N : Nat) (X : Nat → Int) (d : Nat) (x1 : Int) (U : Nat → Nat → Int) (R : Option am_V × am_M) (h : Ev (am_kz N X) (d, 84, 3, [some (.inr (.inr 1)), some (.inl x1), some (.inl 24)], [], (am_sh, am_mm U)) R) : Ev (am_kz N X) (d, 84, 0, [some (.inr (.inr 1)), some (.inl x1), none], [], (am_sh, am_mm U)) R := by
  refine ev_seg (σ1 := (d, 84, 3, [some (.inr (.inr 1)), some (.inl x1), some (.inl 24)], [], (am_sh, am_mm U))) 2 (fun _ => rfl) ?_
  exact h
set_option maxRecDepth 8000 in
theorem st84_1_3 (N : Nat) (X : Nat → Int) (d : Nat) (x1 x2 : Int) (U : Nat → Nat → Int) (R : Option am_V × am_M) (h : (((x2 < 0 : Prop)) → R = (none, (am_sh, am_mm U))) ∧ (¬ (x2 < 0) → (((1600 ≤ (U 1 1) : Prop)) → Ev (am_kz N X) (d, 84, 3, [some (.inr (.inr 1)), some (.inl x1), some (.inl (w32 (x2 + (-8))))], [], (am_sh, am_mm U)) R) ∧ (¬ (1600 ≤ (U 1 1)) → (0 ≤ (U 1 1) ∧ (U 1 1) < 1600) ∧ Ev (am_kz N X) (d, 84, 3, [some (.inr (.inr 1)), some (.inl x1), some (.inl (w32 (x2 + (-8))))], [], (am_sh, am_mm (am_upd (am_upd U 2 (U 1 1).toNat (am_and (am_ushr x1 x2) 255)) 1 1 (w32 (((am_upd U 2 (U 1 1).toNat (am_and (am_ushr x1 x2) 255)) 1 1) + 1))))) R))) : Ev (am_kz N X) (d, 84, 3, [some (.inr (.inr 1)), some (.inl x1), some (.inl x2)], [], (am_sh, am_mm U)) R := by
  refine ev_br (P := x2 < 0) (σ1 := (d, 84, 51, [some (.inr (.inr 1)), some (.inl x1), some (.inl x2)], [], (am_sh, am_mm U))) (σ2 := (d, 84, 7, [some (.inr (.inr 1)), some (.inl x1), some (.inl x2)], [], (am_sh, am_mm U))) 2 (fun _ => rfl) (fun hc => ?_) (fun hc => ?_)
  · have h1 := h.1 hc
    subst h1
    exact ev_end 1 (fun _ => rfl)
  · have h2 := h.2 hc
    refine ev_br (P := 1600 ≤ (U 1 1)) (σ1 := (d, 84, 45, [some (.inr (.inr 1)), some (.inl x1), some (.inl x2)], [], (am_sh, am_mm U))) (σ2 := (d, 84, 19, [some (.inr (.inr 1)), some (.inl x1), some (.inl x2)], [], (am_sh, am_mm U))) 6 (fun _ => rfl) (fun hc => ?_) (fun hc => ?_)
    · have h21 := h2.1 hc
      refine ev_seg (σ1 := (d, 84, 3, [some (.inr (.inr 1)), some (.inl x1), some (.inl (w32 (x2 + (-8))))], [], (am_sh, am_mm U))) 2 (fun _ => rfl) ?_
      exact h21
    · have h22 := h2.2 hc
      refine ev_seg (σ1 := (d, 84, 34, [some (.inr (.inr 1)), some (.inl x1), some (.inl x2)], [.inl (am_and (am_ushr x1 x2) 255), .inl (U 1 1), .inr (.inr 2)], (am_sh, am_mm U))) 9 (fun _ => rfl) ?_
      refine eu_iast 2 (n := 1600) rfl (by decide) rfl (fun _ => rfl) h22.1 ?_
      have h22a := h22.2
      refine ev_seg (σ1 := (d, 84, 42, [some (.inr (.inr 1)), some (.inl x1), some (.inl x2)], [.inl (w32 (((am_upd U 2 (U 1 1).toNat (am_and (am_ushr x1 x2) 255)) 1 1) + 1)), .inr (.inr 1)], (am_sh, am_mm (am_upd U 2 (U 1 1).toNat (am_and (am_ushr x1 x2) 255))))) 5 (fun _ => rfl) ?_
      refine eu_puti 1 (n := 19) rfl (by decide) rfl rfl ?_
      refine ev_seg (σ1 := (d, 84, 3, [some (.inr (.inr 1)), some (.inl x1), some (.inl (w32 (x2 + (-8))))], [], (am_sh, am_mm (am_upd (am_upd U 2 (U 1 1).toNat (am_and (am_ushr x1 x2) 255)) 1 1 (w32 (((am_upd U 2 (U 1 1).toNat (am_and (am_ushr x1 x2) 255)) 1 1) + 1)))))) 2 (fun _ => rfl) ?_
      exact h22a
set_option maxRecDepth 8000 in
theorem st86_86_0 (N : Nat) (X : Nat → Int) (d : Nat) (x1 : Int) (U : Nat → Nat → Int) (R : Option am_V × am_M) (h : Ev (am_kz N X) (d, 86, 3, [some (.inr (.inr 86)), some (.inl x1), some (.inl 24)], [], (am_sh, am_mm U)) R) : Ev (am_kz N X) (d, 86, 0, [some (.inr (.inr 86)), some (.inl x1), none], [], (am_sh, am_mm U)) R := by
  refine ev_seg (σ1 := (d, 86, 3, [some (.inr (.inr 86)), some (.inl x1), some (.inl 24)], [], (am_sh, am_mm U))) 2 (fun _ => rfl) ?_
  exact h
set_option maxRecDepth 8000 in
theorem st86_86_3 (N : Nat) (X : Nat → Int) (d : Nat) (x1 x2 : Int) (U : Nat → Nat → Int) (R : Option am_V × am_M) (h : (((x2 < 0 : Prop)) → R = (none, (am_sh, am_mm U))) ∧ (¬ (x2 < 0) → (0 ≤ (U 86 1) ∧ (U 86 1) < 1800) ∧ Ev (am_kz N X) (d, 86, 3, [some (.inr (.inr 86)), some (.inl x1), some (.inl (w32 (x2 + (-8))))], [], (am_sh, am_mm (am_upd (am_upd U 87 (U 86 1).toNat (am_and (am_shr x1 x2) 255)) 86 1 (w32 (((am_upd U 87 (U 86 1).toNat (am_and (am_shr x1 x2) 255)) 86 1) + 1))))) R)) : Ev (am_kz N X) (d, 86, 3, [some (.inr (.inr 86)), some (.inl x1), some (.inl x2)], [], (am_sh, am_mm U)) R := by
  refine ev_br (P := x2 < 0) (σ1 := (d, 86, 39, [some (.inr (.inr 86)), some (.inl x1), some (.inl x2)], [], (am_sh, am_mm U))) (σ2 := (d, 86, 7, [some (.inr (.inr 86)), some (.inl x1), some (.inl x2)], [], (am_sh, am_mm U))) 2 (fun _ => rfl) (fun hc => ?_) (fun hc => ?_)
  · have h1 := h.1 hc
    subst h1
    exact ev_end 1 (fun _ => rfl)
  · have h2 := h.2 hc
    refine ev_seg (σ1 := (d, 86, 22, [some (.inr (.inr 86)), some (.inl x1), some (.inl x2)], [.inl (am_and (am_shr x1 x2) 255), .inl (U 86 1), .inr (.inr 87)], (am_sh, am_mm U))) 9 (fun _ => rfl) ?_
    refine eu_iast 87 (n := 1800) rfl (by decide) rfl (fun _ => rfl) h2.1 ?_
    have h2a := h2.2
    refine ev_seg (σ1 := (d, 86, 30, [some (.inr (.inr 86)), some (.inl x1), some (.inl x2)], [.inl (w32 (((am_upd U 87 (U 86 1).toNat (am_and (am_shr x1 x2) 255)) 86 1) + 1)), .inr (.inr 86)], (am_sh, am_mm (am_upd U 87 (U 86 1).toNat (am_and (am_shr x1 x2) 255))))) 5 (fun _ => rfl) ?_
    refine eu_puti 86 (n := 90) rfl (by decide) rfl rfl ?_
    refine ev_seg (σ1 := (d, 86, 3, [some (.inr (.inr 86)), some (.inl x1), some (.inl (w32 (x2 + (-8))))], [], (am_sh, am_mm (am_upd (am_upd U 87 (U 86 1).toNat (am_and (am_shr x1 x2) 255)) 86 1 (w32 (((am_upd U 87 (U 86 1).toNat (am_and (am_shr x1 x2) 255)) 86 1) + 1)))))) 2 (fun _ => rfl) ?_
    exact h2a
set_option maxRecDepth 8000 in
theorem st85_86_0 (N : Nat) (X : Nat → Int) (d : Nat) (x1 : Int) (U : Nat → Nat → Int) (R : Option am_V × am_M) (h : (0 ≤ x1 ∧ x1 < 6) ∧ (0 ≤ x1 ∧ x1 < 6) ∧ R = (some (.inl (-1)), (am_sh, am_mm (am_upd U 119 x1.toNat (w32 ((U 119 x1.toNat) + 1)))))) : Ev (am_kz N X) (d, 85, 0, [some (.inr (.inr 86)), some (.inl x1)], [], (am_sh, am_mm U)) R := by
  refine ev_seg (σ1 := (d, 85, 6, [some (.inr (.inr 86)), some (.inl x1)], [.inl x1, .inr (.inr 119), .inl x1, .inr (.inr 119)], (am_sh, am_mm U))) 4 (fun _ => rfl) ?_
  refine eu_iald 119 (n := 6) rfl (by decide) rfl (fun _ => rfl) h.1 ?_
  have ha := h.2
  refine ev_seg (σ1 := (d, 85, 9, [some (.inr (.inr 86)), some (.inl x1)], [.inl (w32 ((U 119 x1.toNat) + 1)), .inl x1, .inr (.inr 119)], (am_sh, am_mm U))) 2 (fun _ => rfl) ?_
  refine eu_iast 119 (n := 6) rfl (by decide) rfl (fun _ => rfl) ha.1 ?_
  have haa := ha.2
  subst haa
  exact ev_end 2 (fun _ => rfl)
set_option maxRecDepth 8000 in
theorem st91_56_0 (N : Nat) (X : Nat → Int) (d : Nat) (U : Nat → Nat → Int) (R : Option am_V × am_M) (h : R = (none, (am_sh, am_mm (am_upd U 56 2 0)))) : Ev (am_kz N X) (d, 91, 0, [some (.inr (.inr 56))], [], (am_sh, am_mm U)) R := by
  refine ev_seg (σ1 := (d, 91, 2, [some (.inr (.inr 56))], [.inl 0, .inr (.inr 56)], (am_sh, am_mm U))) 2 (fun _ => rfl) ?_
  refine eu_puti 56 (n := 3) rfl (by decide) rfl rfl ?_
  subst h
  exact ev_end 1 (fun _ => rfl)
set_option maxRecDepth 8000 in
theorem st87_26_2_0 (N : Nat) (X : Nat → Int) (d : Nat) (x2 : Int) (U : Nat → Nat → Int) (R : Option am_V × am_M) (h : ∃ U1 : Nat → Nat → Int, Ev (am_kz N X) (d, 174, 0, [some (.inr (.inr 27)), some (.inr (.inr 2)), some (.inl x2), none, none], [], (am_sh, am_mm U)) (none, (am_sh, am_mm U1)) ∧ ∃ U2 : Nat → Nat → Int, Ev (am_kz N X) (d, 175, 0, [some (.inr (.inr 31))], [], (am_sh, am_mm U1)) (none, (am_sh, am_mm U2)) ∧ ∃ U3 : Nat → Nat → Int, Ev (am_kz N X) (d, 176, 0, [some (.inr (.inr 21))], [], (am_sh, am_mm U2)) (none, (am_sh, am_mm U3)) ∧ ∃ U4 : Nat → Nat → Int, Ev (am_kz N X) (d, 177, 0, [some (.inr (.inr 26))], [], (am_sh, am_mm (am_upd (am_upd (am_upd (am_upd U3 26 3 0) 26 4 0) 26 5 (-1)) 26 6 (-1)))) (none, (am_sh, am_mm U4)) ∧ Ev (am_kz N X) ((d + 1), 87, 49, [some (.inr (.inr 26)), some (.inr (.inr 2)), some (.inl x2), some (.inl 0)], [], (am_sh, am_mm U4)) R) : Ev (am_kz N X) ((d + 1), 87, 0, [some (.inr (.inr 26)), some (.inr (.inr 2)), some (.inl x2), none], [], (am_sh, am_mm U)) R := by
  refine ev_seg (σ1 := ((d + 1), 87, 6, [some (.inr (.inr 26)), some (.inr (.inr 2)), some (.inl x2), none], [.inl x2, .inr (.inr 2), .inr (.inr 27)], (am_sh, am_mm U))) 4 (fun _ => rfl) ?_
  obtain ⟨U1, hc, ha⟩ := h
  refine ev_cal (σc := (d, 174, 0, [some (.inr (.inr 27)), some (.inr (.inr 2)), some (.inl x2), none, none], [], (am_sh, am_mm U))) (fun _ => rfl) hc ?_
  show Ev (am_kz N X) ((d + 1), 87, 9, [some (.inr (.inr 26)), some (.inr (.inr 2)), some (.inl x2), none], [], (am_sh, am_mm U1)) R
  refine ev_seg (σ1 := ((d + 1), 87, 13, [some (.inr (.inr 26)), some (.inr (.inr 2)), some (.inl x2), none], [.inr (.inr 31)], (am_sh, am_mm U1))) 2 (fun _ => rfl) ?_
  obtain ⟨U2, hac, haa⟩ := ha
  refine ev_cal (σc := (d, 175, 0, [some (.inr (.inr 31))], [], (am_sh, am_mm U1))) (fun _ => rfl) hac ?_
  show Ev (am_kz N X) ((d + 1), 87, 16, [some (.inr (.inr 26)), some (.inr (.inr 2)), some (.inl x2), none], [], (am_sh, am_mm U2)) R
  refine ev_seg (σ1 := ((d + 1), 87, 20, [some (.inr (.inr 26)), some (.inr (.inr 2)), some (.inl x2), none], [.inr (.inr 21)], (am_sh, am_mm U2))) 2 (fun _ => rfl) ?_
  obtain ⟨U3, haac, haaa⟩ := haa
  refine ev_cal (σc := (d, 176, 0, [some (.inr (.inr 21))], [], (am_sh, am_mm U2))) (fun _ => rfl) haac ?_
  show Ev (am_kz N X) ((d + 1), 87, 23, [some (.inr (.inr 26)), some (.inr (.inr 2)), some (.inl x2), none], [], (am_sh, am_mm U3)) R
  refine ev_seg (σ1 := ((d + 1), 87, 25, [some (.inr (.inr 26)), some (.inr (.inr 2)), some (.inl x2), none], [.inl 0, .inr (.inr 26)], (am_sh, am_mm U3))) 2 (fun _ => rfl) ?_
  refine eu_puti 26 (n := 12) rfl (by decide) rfl rfl ?_
  refine ev_seg (σ1 := ((d + 1), 87, 30, [some (.inr (.inr 26)), some (.inr (.inr 2)), some (.inl x2), none], [.inl 0, .inr (.inr 26)], (am_sh, am_mm (am_upd U3 26 3 0)))) 2 (fun _ => rfl) ?_
  refine eu_puti 26 (n := 12) rfl (by decide) rfl rfl ?_
  refine ev_seg (σ1 := ((d + 1), 87, 35, [some (.inr (.inr 26)), some (.inr (.inr 2)), some (.inl x2), none], [.inl (-1), .inr (.inr 26)], (am_sh, am_mm (am_upd (am_upd U3 26 3 0) 26 4 0)))) 2 (fun _ => rfl) ?_
  refine eu_puti 26 (n := 12) rfl (by decide) rfl rfl ?_
  refine ev_seg (σ1 := ((d + 1), 87, 40, [some (.inr (.inr 26)), some (.inr (.inr 2)), some (.inl x2), none], [.inl (-1), .inr (.inr 26)], (am_sh, am_mm (am_upd (am_upd (am_upd U3 26 3 0) 26 4 0) 26 5 (-1))))) 2 (fun _ => rfl) ?_
  refine eu_puti 26 (n := 12) rfl (by decide) rfl rfl ?_
  refine ev_seg (σ1 := ((d + 1), 87, 44, [some (.inr (.inr 26)), some (.inr (.inr 2)), some (.inl x2), none], [.inr (.inr 26)], (am_sh, am_mm (am_upd (am_upd (am_upd (am_upd U3 26 3 0) 26 4 0) 26 5 (-1)) 26 6 (-1))))) 1 (fun _ => rfl) ?_
  obtain ⟨U4, haaac, haaaa⟩ := haaa
  refine ev_cal (σc := (d, 177, 0, [some (.inr (.inr 26))], [], (am_sh, am_mm (am_upd (am_upd (am_upd (am_upd U3 26 3 0) 26 4 0) 26 5 (-1)) 26 6 (-1))))) (fun _ => rfl) haaac ?_
  show Ev (am_kz N X) ((d + 1), 87, 47, [some (.inr (.inr 26)), some (.inr (.inr 2)), some (.inl x2), none], [], (am_sh, am_mm U4)) R
  refine ev_seg (σ1 := ((d + 1), 87, 49, [some (.inr (.inr 26)), some (.inr (.inr 2)), some (.inl x2), some (.inl 0)], [], (am_sh, am_mm U4))) 2 (fun _ => rfl) ?_
  exact haaaa
set_option maxRecDepth 8000 in
theorem st87_26_2_49 (N : Nat) (X : Nat → Int) (d : Nat) (x2 x3 : Int) (U : Nat → Nat → Int) (R : Option am_V × am_M) (h : (((80 < x3 : Prop)) → R = (some (.inl 1), (am_sh, am_mm U))) ∧ (¬ (80 < x3) → ((((U 26 7) = 0 : Prop)) → R = (some (.inl 1), (am_sh, am_mm U))) ∧ (¬ ((U 26 7) = 0) → ∃ (r1 : Int) (U1 : Nat → Nat → Int), Ev (am_kz N X) (d, 178, 0, [some (.inr (.inr 26)), none, none], [], (am_sh, am_mm U)) (some (.inl r1), (am_sh, am_mm U1)) ∧ (((¬ r1 = 0 : Prop)) → Ev (am_kz N X) ((d + 1), 87, 49, [some (.inr (.inr 26)), some (.inr (.inr 2)), some (.inl x2), some (.inl (w32 (x3 + 1)))], [], (am_sh, am_mm (am_upd U1 26 3 (w32 ((U1 26 3) + 1))))) R) ∧ (¬ (¬ r1 = 0) → R = (some (.inl 0), (am_sh, am_mm U1)))))) : Ev (am_kz N X) ((d + 1), 87, 49, [some (.inr (.inr 26)), some (.inr (.inr 2)), some (.inl x2), some (.inl x3)], [], (am_sh, am_mm U)) R := by
  refine ev_br (P := 80 < x3) (σ1 := ((d + 1), 87, 87, [some (.inr (.inr 26)), some (.inr (.inr 2)), some (.inl x2), some (.inl x3)], [], (am_sh, am_mm U))) (σ2 := ((d + 1), 87, 55, [some (.inr (.inr 26)), some (.inr (.inr 2)), some (.inl x2), some (.inl x3)], [], (am_sh, am_mm U))) 3 (fun _ => rfl) (fun hc => ?_) (fun hc => ?_)
  · have h1 := h.1 hc
    subst h1
    exact ev_end 2 (fun _ => rfl)
  · have h2 := h.2 hc
    refine ev_br (P := (U 26 7) = 0) (σ1 := ((d + 1), 87, 87, [some (.inr (.inr 26)), some (.inr (.inr 2)), some (.inl x2), some (.inl x3)], [], (am_sh, am_mm U))) (σ2 := ((d + 1), 87, 62, [some (.inr (.inr 26)), some (.inr (.inr 2)), some (.inl x2), some (.inl x3)], [], (am_sh, am_mm U))) 3 (fun _ => rfl) (fun hc => ?_) (fun hc => ?_)
    · have h21 := h2.1 hc
      subst h21
      exact ev_end 2 (fun _ => rfl)
    · have h22 := h2.2 hc
      refine ev_seg (σ1 := ((d + 1), 87, 63, [some (.inr (.inr 26)), some (.inr (.inr 2)), some (.inl x2), some (.inl x3)], [.inr (.inr 26)], (am_sh, am_mm U))) 1 (fun _ => rfl) ?_
      obtain ⟨r1, U1, h22c, h22a⟩ := h22
      refine ev_cal (σc := (d, 178, 0, [some (.inr (.inr 26)), none, none], [], (am_sh, am_mm U))) (fun _ => rfl) h22c ?_
      show Ev (am_kz N X) ((d + 1), 87, 66, [some (.inr (.inr 26)), some (.inr (.inr 2)), some (.inl x2), some (.inl x3)], [.inl r1], (am_sh, am_mm U1)) R
      refine ev_br (P := ¬ r1 = 0) (σ1 := ((d + 1), 87, 71, [some (.inr (.inr 26)), some (.inr (.inr 2)), some (.inl x2), some (.inl x3)], [], (am_sh, am_mm U1))) (σ2 := ((d + 1), 87, 69, [some (.inr (.inr 26)), some (.inr (.inr 2)), some (.inl x2), some (.inl x3)], [], (am_sh, am_mm U1))) 1 (fun _ => rfl) (fun hc => ?_) (fun hc => ?_)
      · have h22a1 := h22a.1 hc
        refine ev_seg (σ1 := ((d + 1), 87, 78, [some (.inr (.inr 26)), some (.inr (.inr 2)), some (.inl x2), some (.inl x3)], [.inl (w32 ((U1 26 3) + 1)), .inr (.inr 26)], (am_sh, am_mm U1))) 5 (fun _ => rfl) ?_
        refine eu_puti 26 (n := 12) rfl (by decide) rfl rfl ?_
        refine ev_seg (σ1 := ((d + 1), 87, 49, [some (.inr (.inr 26)), some (.inr (.inr 2)), some (.inl x2), some (.inl (w32 (x3 + 1)))], [], (am_sh, am_mm (am_upd U1 26 3 (w32 ((U1 26 3) + 1)))))) 2 (fun _ => rfl) ?_
        exact h22a1
      · have h22a2 := h22a.2 hc
        subst h22a2
        exact ev_end 2 (fun _ => rfl)
set_option maxRecDepth 8000 in
theorem st92_1_0 (N : Nat) (X : Nat → Int) (d : Nat) (U : Nat → Nat → Int) (R : Option am_V × am_M) (h : ∃ U1 : Nat → Nat → Int, Ev (am_kz N X) (d, 181, 0, [some (.inr (.inr 45))], [], (am_sh, am_mm U)) (none, (am_sh, am_mm U1)) ∧ ∃ U2 : Nat → Nat → Int, Ev (am_kz N X) (d, 182, 0, [some (.inr (.inr 48))], [], (am_sh, am_mm U1)) (none, (am_sh, am_mm U2)) ∧ ∃ U3 : Nat → Nat → Int, Ev (am_kz N X) (d, 183, 0, [some (.inr (.inr 52))], [], (am_sh, am_mm U2)) (none, (am_sh, am_mm U3)) ∧ R = (none, (am_sh, am_mm U3))) : Ev (am_kz N X) ((d + 1), 92, 0, [some (.inr (.inr 1))], [], (am_sh, am_mm U)) R := by
  refine ev_seg (σ1 := ((d + 1), 92, 4, [some (.inr (.inr 1))], [.inr (.inr 45)], (am_sh, am_mm U))) 2 (fun _ => rfl) ?_
  obtain ⟨U1, hc, ha⟩ := h
  refine ev_cal (σc := (d, 181, 0, [some (.inr (.inr 45))], [], (am_sh, am_mm U))) (fun _ => rfl) hc ?_
  show Ev (am_kz N X) ((d + 1), 92, 7, [some (.inr (.inr 1))], [], (am_sh, am_mm U1)) R
  refine ev_seg (σ1 := ((d + 1), 92, 11, [some (.inr (.inr 1))], [.inr (.inr 48)], (am_sh, am_mm U1))) 2 (fun _ => rfl) ?_
  obtain ⟨U2, hac, haa⟩ := ha
  refine ev_cal (σc := (d, 182, 0, [some (.inr (.inr 48))], [], (am_sh, am_mm U1))) (fun _ => rfl) hac ?_
  show Ev (am_kz N X) ((d + 1), 92, 14, [some (.inr (.inr 1))], [], (am_sh, am_mm U2)) R
  refine ev_seg (σ1 := ((d + 1), 92, 18, [some (.inr (.inr 1))], [.inr (.inr 52)], (am_sh, am_mm U2))) 2 (fun _ => rfl) ?_
  obtain ⟨U3, haac, haaa⟩ := haa
  refine ev_cal (σc := (d, 183, 0, [some (.inr (.inr 52))], [], (am_sh, am_mm U2))) (fun _ => rfl) haac ?_
  show Ev (am_kz N X) ((d + 1), 92, 21, [some (.inr (.inr 1))], [], (am_sh, am_mm U3)) R
  subst haaa
  exact ev_end 1 (fun _ => rfl)
set_option maxRecDepth 8000 in
theorem st89_16_21_0 (N : Nat) (X : Nat → Int) (d : Nat) (U : Nat → Nat → Int) (R : Option am_V × am_M) (h : ∃ U1 : Nat → Nat → Int, Ev (am_kz N X) (d, 176, 0, [some (.inr (.inr 16))], [], (am_sh, am_mm U)) (none, (am_sh, am_mm U1)) ∧ ((am_upd U1 16 1 (U1 21 1)) 21 2 = 0 ∨ (am_upd U1 16 1 (U1 21 1)) 21 2 = 1) ∧ Ev (am_kz N X) ((d + 1), 89, 22, [some (.inr (.inr 16)), some (.inr (.inr 21)), some (.inl 0)], [], (am_sh, am_mm (am_upd (am_upd U1 16 1 (U1 21 1)) 16 2 ((am_upd U1 16 1 (U1 21 1)) 21 2)))) R) : Ev (am_kz N X) ((d + 1), 89, 0, [some (.inr (.inr 16)), some (.inr (.inr 21)), none], [], (am_sh, am_mm U)) R := by
  refine ev_seg (σ1 := ((d + 1), 89, 1, [some (.inr (.inr 16)), some (.inr (.inr 21)), none], [.inr (.inr 16)], (am_sh, am_mm U))) 1 (fun _ => rfl) ?_
  obtain ⟨U1, hc, ha⟩ := h
  refine ev_cal (σc := (d, 176, 0, [some (.inr (.inr 16))], [], (am_sh, am_mm U))) (fun _ => rfl) hc ?_
  show Ev (am_kz N X) ((d + 1), 89, 4, [some (.inr (.inr 16)), some (.inr (.inr 21)), none], [], (am_sh, am_mm U1)) R
  refine ev_seg (σ1 := ((d + 1), 89, 9, [some (.inr (.inr 16)), some (.inr (.inr 21)), none], [.inl (U1 21 1), .inr (.inr 16)], (am_sh, am_mm U1))) 3 (fun _ => rfl) ?_
  refine eu_puti 16 (n := 7) rfl (by decide) rfl rfl ?_
  refine ev_seg (σ1 := ((d + 1), 89, 17, [some (.inr (.inr 16)), some (.inr (.inr 21)), none], [.inl ((am_upd U1 16 1 (U1 21 1)) 21 2), .inr (.inr 16)], (am_sh, am_mm (am_upd U1 16 1 (U1 21 1))))) 3 (fun _ => rfl) ?_
  refine eu_putz 16 (n := 7) rfl (by decide) rfl rfl ha.1 ?_
  have haa := ha.2
  refine ev_seg (σ1 := ((d + 1), 89, 22, [some (.inr (.inr 16)), some (.inr (.inr 21)), some (.inl 0)], [], (am_sh, am_mm (am_upd (am_upd U1 16 1 (U1 21 1)) 16 2 ((am_upd U1 16 1 (U1 21 1)) 21 2))))) 2 (fun _ => rfl) ?_
  exact haa
set_option maxRecDepth 8000 in
theorem st89_16_21_22 (N : Nat) (X : Nat → Int) (d : Nat) (x2 : Int) (U : Nat → Nat → Int) (R : Option am_V × am_M) (h : ((((U 21 0) ≤ x2 : Prop)) → R = (none, (am_sh, am_mm U))) ∧ (¬ ((U 21 0) ≤ x2) → (0 ≤ x2 ∧ x2 < 16) ∧ (0 ≤ x2 ∧ x2 < 16) ∧ ∃ U1 : Nat → Nat → Int, Ev (am_kz N X) (d, 180, 0, [some (.inr (.inr 16)), some (.inl (U 22 x2.toNat)), some (.inl (U 23 x2.toNat))], [], (am_sh, am_mm U)) (none, (am_sh, am_mm U1)) ∧ Ev (am_kz N X) ((d + 1), 89, 22, [some (.inr (.inr 16)), some (.inr (.inr 21)), some (.inl (w32 (x2 + 1)))], [], (am_sh, am_mm U1)) R)) : Ev (am_kz N X) ((d + 1), 89, 22, [some (.inr (.inr 16)), some (.inr (.inr 21)), some (.inl x2)], [], (am_sh, am_mm U)) R := by
  refine ev_br (P := (U 21 0) ≤ x2) (σ1 := ((d + 1), 89, 52, [some (.inr (.inr 16)), some (.inr (.inr 21)), some (.inl x2)], [], (am_sh, am_mm U))) (σ2 := ((d + 1), 89, 30, [some (.inr (.inr 16)), some (.inr (.inr 21)), some (.inl x2)], [], (am_sh, am_mm U))) 4 (fun _ => rfl) (fun hc => ?_) (fun hc => ?_)
  · have h1 := h.1 hc
    subst h1
    exact ev_end 1 (fun _ => rfl)
  · have h2 := h.2 hc
    refine ev_seg (σ1 := ((d + 1), 89, 36, [some (.inr (.inr 16)), some (.inr (.inr 21)), some (.inl x2)], [.inl x2, .inr (.inr 22), .inr (.inr 16)], (am_sh, am_mm U))) 4 (fun _ => rfl) ?_
    refine eu_iald 22 (n := 16) rfl (by decide) rfl (fun _ => rfl) h2.1 ?_
    have h2a := h2.2
    refine ev_seg (σ1 := ((d + 1), 89, 42, [some (.inr (.inr 16)), some (.inr (.inr 21)), some (.inl x2)], [.inl x2, .inr (.inr 23), .inl (U 22 x2.toNat), .inr (.inr 16)], (am_sh, am_mm U))) 3 (fun _ => rfl) ?_
    refine eu_iald 23 (n := 16) rfl (by decide) rfl (fun _ => rfl) h2a.1 ?_
    have h2aa := h2a.2
    obtain ⟨U1, h2aac, h2aaa⟩ := h2aa
    refine ev_cal (σc := (d, 180, 0, [some (.inr (.inr 16)), some (.inl (U 22 x2.toNat)), some (.inl (U 23 x2.toNat))], [], (am_sh, am_mm U))) (fun _ => rfl) h2aac ?_
    show Ev (am_kz N X) ((d + 1), 89, 46, [some (.inr (.inr 16)), some (.inr (.inr 21)), some (.inl x2)], [], (am_sh, am_mm U1)) R
    refine ev_seg (σ1 := ((d + 1), 89, 22, [some (.inr (.inr 16)), some (.inr (.inr 21)), some (.inl (w32 (x2 + 1)))], [], (am_sh, am_mm U1))) 2 (fun _ => rfl) ?_
    exact h2aaa
set_option maxRecDepth 8000 in
theorem st90_78_0 (N : Nat) (X : Nat → Int) (d : Nat) (U : Nat → Nat → Int) (R : Option am_V × am_M) (h : R = (none, (am_sh, am_mm (am_upd U 78 5 0)))) : Ev (am_kz N X) (d, 90, 0, [some (.inr (.inr 78))], [], (am_sh, am_mm U)) R := by
  refine ev_seg (σ1 := (d, 90, 2, [some (.inr (.inr 78))], [.inl 0, .inr (.inr 78)], (am_sh, am_mm U))) 2 (fun _ => rfl) ?_
  refine eu_puti 78 (n := 6) rfl (by decide) rfl rfl ?_
  subst h
  exact ev_end 1 (fun _ => rfl)
set_option maxRecDepth 8000 in
theorem st88_3_31_0 (N : Nat) (X : Nat → Int) (d : Nat) (U : Nat → Nat → Int) (R : Option am_V × am_M) (h : ∃ U1 : Nat → Nat → Int, Ev (am_kz N X) (d, 179, 0, [some (.inr (.inr 32)), some (.inr (.inr 4)), some (.inl 4)], [], (am_sh, am_mm (am_upd (am_upd (am_upd (am_upd (am_upd (am_upd (am_upd U 3 0 (U 31 0)) 3 1 ((am_upd U 3 0 (U 31 0)) 31 1)) 3 2 ((am_upd (am_upd U 3 0 (U 31 0)) 3 1 ((am_upd U 3 0 (U 31 0)) 31 1)) 31 2)) 3 3 ((am_upd (am_upd (am_upd U 3 0 (U 31 0)) 3 1 ((am_upd U 3 0 (U 31 0)) 31 1)) 3 2 ((am_upd (am_upd U 3 0 (U 31 0)) 3 1 ((am_upd U 3 0 (U 31 0)) 31 1)) 31 2)) 31 3)) 3 4 ((am_upd (am_upd (am_upd (am_upd U 3 0 (U 31 0)) 3 1 ((am_upd U 3 0 (U 31 0)) 31 1)) 3 2 ((am_upd (am_upd U 3 0 (U 31 0)) 3 1 ((am_upd U 3 0 (U 31 0)) 31 1)) 31 2)) 3 3 ((am_upd (am_upd (am_upd U 3 0 (U 31 0)) 3 1 ((am_upd U 3 0 (U 31 0)) 31 1)) 3 2 ((am_upd (am_upd U 3 0 (U 31 0)) 3 1 ((am_upd U 3 0 (U 31 0)) 31 1)) 31 2)) 31 3)) 31 4)) 3 5 ((am_upd (am_upd (am_upd (am_upd (am_upd U 3 0 (U 31 0)) 3 1 ((am_upd U 3 0 (U 31 0)) 31 1)) 3 2 ((am_upd (am_upd U 3 0 (U 31 0)) 3 1 ((am_upd U 3 0 (U 31 0)) 31 1)) 31 2)) 3 3 ((am_upd (am_upd (am_upd U 3 0 (U 31 0)) 3 1 ((am_upd U 3 0 (U 31 0)) 31 1)) 3 2 ((am_upd (am_upd U 3 0 (U 31 0)) 3 1 ((am_upd U 3 0 (U 31 0)) 31 1)) 31 2)) 31 3)) 3 4 ((am_upd (am_upd (am_upd (am_upd U 3 0 (U 31 0)) 3 1 ((am_upd U 3 0 (U 31 0)) 31 1)) 3 2 ((am_upd (am_upd U 3 0 (U 31 0)) 3 1 ((am_upd U 3 0 (U 31 0)) 31 1)) 31 2)) 3 3 ((am_upd (am_upd (am_upd U 3 0 (U 31 0)) 3 1 ((am_upd U 3 0 (U 31 0)) 31 1)) 3 2 ((am_upd (am_upd U 3 0 (U 31 0)) 3 1 ((am_upd U 3 0 (U 31 0)) 31 1)) 31 2)) 31 3)) 31 4)) 31 5)) 3 18 ((am_upd (am_upd (am_upd (am_upd (am_upd (am_upd U 3 0 (U 31 0)) 3 1 ((am_upd U 3 0 (U 31 0)) 31 1)) 3 2 ((am_upd (am_upd U 3 0 (U 31 0)) 3 1 ((am_upd U 3 0 (U 31 0)) 31 1)) 31 2)) 3 3 ((am_upd (am_upd (am_upd U 3 0 (U 31 0)) 3 1 ((am_upd U 3 0 (U 31 0)) 31 1)) 3 2 ((am_upd (am_upd U 3 0 (U 31 0)) 3 1 ((am_upd U 3 0 (U 31 0)) 31 1)) 31 2)) 31 3)) 3 4 ((am_upd (am_upd (am_upd (am_upd U 3 0 (U 31 0)) 3 1 ((am_upd U 3 0 (U 31 0)) 31 1)) 3 2 ((am_upd (am_upd U 3 0 (U 31 0)) 3 1 ((am_upd U 3 0 (U 31 0)) 31 1)) 31 2)) 3 3 ((am_upd (am_upd (am_upd U 3 0 (U 31 0)) 3 1 ((am_upd U 3 0 (U 31 0)) 31 1)) 3 2 ((am_upd (am_upd U 3 0 (U 31 0)) 3 1 ((am_upd U 3 0 (U 31 0)) 31 1)) 31 2)) 31 3)) 31 4)) 3 5 ((am_upd (am_upd (am_upd (am_upd (am_upd U 3 0 (U 31 0)) 3 1 ((am_upd U 3 0 (U 31 0)) 31 1)) 3 2 ((am_upd (am_upd U 3 0 (U 31 0)) 3 1 ((am_upd U 3 0 (U 31 0)) 31 1)) 31 2)) 3 3 ((am_upd (am_upd (am_upd U 3 0 (U 31 0)) 3 1 ((am_upd U 3 0 (U 31 0)) 31 1)) 3 2 ((am_upd (am_upd U 3 0 (U 31 0)) 3 1 ((am_upd U 3 0 (U 31 0)) 31 1)) 31 2)) 31 3)) 3 4 ((am_upd (am_upd (am_upd (am_upd U 3 0 (U 31 0)) 3 1 ((am_upd U 3 0 (U 31 0)) 31 1)) 3 2 ((am_upd (am_upd U 3 0 (U 31 0)) 3 1 ((am_upd U 3 0 (U 31 0)) 31 1)) 31 2)) 3 3 ((am_upd (am_upd (am_upd U 3 0 (U 31 0)) 3 1 ((am_upd U 3 0 (U 31 0)) 31 1)) 3 2 ((am_upd (am_upd U 3 0 (U 31 0)) 3 1 ((am_upd U 3 0 (U 31 0)) 31 1)) 31 2)) 31 3)) 31 4)) 31 5)) 31 18)))) (none, (am_sh, am_mm U1)) ∧ ∃ U2 : Nat → Nat → Int, Ev (am_kz N X) (d, 179, 0, [some (.inr (.inr 33)), some (.inr (.inr 5)), some (.inl 12)], [], (am_sh, am_mm U1)) (none, (am_sh, am_mm U2)) ∧ ∃ U3 : Nat → Nat → Int, Ev (am_kz N X) (d, 179, 0, [some (.inr (.inr 34)), some (.inr (.inr 6)), some (.inl 12)], [], (am_sh, am_mm U2)) (none, (am_sh, am_mm U3)) ∧ ∃ U4 : Nat → Nat → Int, Ev (am_kz N X) (d, 179, 0, [some (.inr (.inr 35)), some (.inr (.inr 7)), some (.inl 12)], [], (am_sh, am_mm U3)) (none, (am_sh, am_mm U4)) ∧ ∃ U5 : Nat → Nat → Int, Ev (am_kz N X) (d, 179, 0, [some (.inr (.inr 36)), some (.inr (.inr 8)), some (.inl 12)], [], (am_sh, am_mm U4)) (none, (am_sh, am_mm U5)) ∧ ∃ U6 : Nat → Nat → Int, Ev (am_kz N X) (d, 179, 0, [some (.inr (.inr 37)), some (.inr (.inr 9)), some (.inl 12)], [], (am_sh, am_mm U5)) (none, (am_sh, am_mm U6)) ∧ ∃ U7 : Nat → Nat → Int, Ev (am_kz N X) (d, 179, 0, [some (.inr (.inr 38)), some (.inr (.inr 10)), some (.inl 12)], [], (am_sh, am_mm U6)) (none, (am_sh, am_mm U7)) ∧ ∃ U8 : Nat → Nat → Int, Ev (am_kz N X) (d, 179, 0, [some (.inr (.inr 40)), some (.inr (.inr 12)), some (.inl 8)], [], (am_sh, am_mm U7)) (none, (am_sh, am_mm U8)) ∧ ∃ U9 : Nat → Nat → Int, Ev (am_kz N X) (d, 179, 0, [some (.inr (.inr 41)), some (.inr (.inr 13)), some (.inl 9)], [], (am_sh, am_mm U8)) (none, (am_sh, am_mm U9)) ∧ ∃ U10 : Nat → Nat → Int, Ev (am_kz N X) (d, 179, 0, [some (.inr (.inr 42)), some (.inr (.inr 14)), some (.inl 9)], [], (am_sh, am_mm U9)) (none, (am_sh, am_mm U10)) ∧ ∃ U11 : Nat → Nat → Int, Ev (am_kz N X) (d, 179, 0, [some (.inr (.inr 43)), some (.inr (.inr 15)), some (.inl (U10 3 18))], [], (am_sh, am_mm U10)) (none, (am_sh, am_mm U11)) ∧ R = (none, (am_sh, am_mm U11))) : Ev (am_kz N X) ((d + 1), 88, 0, [some (.inr (.inr 3)), some (.inr (.inr 31))], [], (am_sh, am_mm U)) R := by
  refine ev_seg (σ1 := ((d + 1), 88, 5, [some (.inr (.inr 3)), some (.inr (.inr 31))], [.inl (U 31 0), .inr (.inr 3)], (am_sh, am_mm U))) 3 (fun _ => rfl) ?_
  refine eu_puti 3 (n := 19) rfl (by decide) rfl rfl ?_
  refine ev_seg (σ1 := ((d + 1), 88, 13, [some (.inr (.inr 3)), some (.inr (.inr 31))], [.inl ((am_upd U 3 0 (U 31 0)) 31 1), .inr (.inr 3)], (am_sh, am_mm (am_upd U 3 0 (U 31 0))))) 3 (fun _ => rfl) ?_
  refine eu_puti 3 (n := 19) rfl (by decide) rfl rfl ?_
  refine ev_seg (σ1 := ((d + 1), 88, 21, [some (.inr (.inr 3)), some (.inr (.inr 31))], [.inl ((am_upd (am_upd U 3 0 (U 31 0)) 3 1 ((am_upd U 3 0 (U 31 0)) 31 1)) 31 2), .inr (.inr 3)], (am_sh, am_mm (am_upd (am_upd U 3 0 (U 31 0)) 3 1 ((am_upd U 3 0 (U 31 0)) 31 1))))) 3 (fun _ => rfl) ?_
  refine eu_puti 3 (n := 19) rfl (by decide) rfl rfl ?_
  refine ev_seg (σ1 := ((d + 1), 88, 29, [some (.inr (.inr 3)), some (.inr (.inr 31))], [.inl ((am_upd (am_upd (am_upd U 3 0 (U 31 0)) 3 1 ((am_upd U 3 0 (U 31 0)) 31 1)) 3 2 ((am_upd (am_upd U 3 0 (U 31 0)) 3 1 ((am_upd U 3 0 (U 31 0)) 31 1)) 31 2)) 31 3), .inr (.inr 3)], (am_sh, am_mm (am_upd (am_upd (am_upd U 3 0 (U 31 0)) 3 1 ((am_upd U 3 0 (U 31 0)) 31 1)) 3 2 ((am_upd (am_upd U 3 0 (U 31 0)) 3 1 ((am_upd U 3 0 (U 31 0)) 31 1)) 31 2))))) 3 (fun _ => rfl) ?_
  refine eu_puti 3 (n := 19) rfl (by decide) rfl rfl ?_
  refine ev_seg (σ1 := ((d + 1), 88, 37, [some (.inr (.inr 3)), some (.inr (.inr 31))], [.inl ((am_upd (am_upd (am_upd (am_upd U 3 0 (U 31 0)) 3 1 ((am_upd U 3 0 (U 31 0)) 31 1)) 3 2 ((am_upd (am_upd U 3 0 (U 31 0)) 3 1 ((am_upd U 3 0 (U 31 0)) 31 1)) 31 2)) 3 3 ((am_upd (am_upd (am_upd U 3 0 (U 31 0)) 3 1 ((am_upd U 3 0 (U 31 0)) 31 1)) 3 2 ((am_upd (am_upd U 3 0 (U 31 0)) 3 1 ((am_upd U 3 0 (U 31 0)) 31 1)) 31 2)) 31 3)) 31 4), .inr (.inr 3)], (am_sh, am_mm (am_upd (am_upd (am_upd (am_upd U 3 0 (U 31 0)) 3 1 ((am_upd U 3 0 (U 31 0)) 31 1)) 3 2 ((am_upd (am_upd U 3 0 (U 31 0)) 3 1 ((am_upd U 3 0 (U 31 0)) 31 1)) 31 2)) 3 3 ((am_upd (am_upd (am_upd U 3 0 (U 31 0)) 3 1 ((am_upd U 3 0 (U 31 0)) 31 1)) 3 2 ((am_upd (am_upd U 3 0 (U 31 0)) 3 1 ((am_upd U 3 0 (U 31 0)) 31 1)) 31 2)) 31 3))))) 3 (fun _ => rfl) ?_
  refine eu_puti 3 (n := 19) rfl (by decide) rfl rfl ?_
  refine ev_seg (σ1 := ((d + 1), 88, 45, [some (.inr (.inr 3)), some (.inr (.inr 31))], [.inl ((am_upd (am_upd (am_upd (am_upd (am_upd U 3 0 (U 31 0)) 3 1 ((am_upd U 3 0 (U 31 0)) 31 1)) 3 2 ((am_upd (am_upd U 3 0 (U 31 0)) 3 1 ((am_upd U 3 0 (U 31 0)) 31 1)) 31 2)) 3 3 ((am_upd (am_upd (am_upd U 3 0 (U 31 0)) 3 1 ((am_upd U 3 0 (U 31 0)) 31 1)) 3 2 ((am_upd (am_upd U 3 0 (U 31 0)) 3 1 ((am_upd U 3 0 (U 31 0)) 31 1)) 31 2)) 31 3)) 3 4 ((am_upd (am_upd (am_upd (am_upd U 3 0 (U 31 0)) 3 1 ((am_upd U 3 0 (U 31 0)) 31 1)) 3 2 ((am_upd (am_upd U 3 0 (U 31 0)) 3 1 ((am_upd U 3 0 (U 31 0)) 31 1)) 31 2)) 3 3 ((am_upd (am_upd (am_upd U 3 0 (U 31 0)) 3 1 ((am_upd U 3 0 (U 31 0)) 31 1)) 3 2 ((am_upd (am_upd U 3 0 (U 31 0)) 3 1 ((am_upd U 3 0 (U 31 0)) 31 1)) 31 2)) 31 3)) 31 4)) 31 5), .inr (.inr 3)], (am_sh, am_mm (am_upd (am_upd (am_upd (am_upd (am_upd U 3 0 (U 31 0)) 3 1 ((am_upd U 3 0 (U 31 0)) 31 1)) 3 2 ((am_upd (am_upd U 3 0 (U 31 0)) 3 1 ((am_upd U 3 0 (U 31 0)) 31 1)) 31 2)) 3 3 ((am_upd (am_upd (am_upd U 3 0 (U 31 0)) 3 1 ((am_upd U 3 0 (U 31 0)) 31 1)) 3 2 ((am_upd (am_upd U 3 0 (U 31 0)) 3 1 ((am_upd U 3 0 (U 31 0)) 31 1)) 31 2)) 31 3)) 3 4 ((am_upd (am_upd (am_upd (am_upd U 3 0 (U 31 0)) 3 1 ((am_upd U 3 0 (U 31 0)) 31 1)) 3 2 ((am_upd (am_upd U 3 0 (U 31 0)) 3 1 ((am_upd U 3 0 (U 31 0)) 31 1)) 31 2)) 3 3 ((am_upd (am_upd (am_upd U 3 0 (U 31 0)) 3 1 ((am_upd U 3 0 (U 31 0)) 31 1)) 3 2 ((am_upd (am_upd U 3 0 (U 31 0)) 3 1 ((am_upd U 3 0 (U 31 0)) 31 1)) 31 2)) 31 3)) 31 4))))) 3 (fun _ => rfl) ?_
  refine eu_puti 3 (n := 19) rfl (by decide) rfl rfl ?_
  refine ev_seg (σ1 := ((d + 1), 88, 53, [some (.inr (.inr 3)), some (.inr (.inr 31))], [.inl ((am_upd (am_upd (am_upd (am_upd (am_upd (am_upd U 3 0 (U 31 0)) 3 1 ((am_upd U 3 0 (U 31 0)) 31 1)) 3 2 ((am_upd (am_upd U 3 0 (U 31 0)) 3 1 ((am_upd U 3 0 (U 31 0)) 31 1)) 31 2)) 3 3 ((am_upd (am_upd (am_upd U 3 0 (U 31 0)) 3 1 ((am_upd U 3 0 (U 31 0)) 31 1)) 3 2 ((am_upd (am_upd U 3 0 (U 31 0)) 3 1 ((am_upd U 3 0 (U 31 0)) 31 1)) 31 2)) 31 3)) 3 4 ((am_upd (am_upd (am_upd (am_upd U 3 0 (U 31 0)) 3 1 ((am_upd U 3 0 (U 31 0)) 31 1)) 3 2 ((am_upd (am_upd U 3 0 (U 31 0)) 3 1 ((am_upd U 3 0 (U 31 0)) 31 1)) 31 2)) 3 3 ((am_upd (am_upd (am_upd U 3 0 (U 31 0)) 3 1 ((am_upd U 3 0 (U 31 0)) 31 1)) 3 2 ((am_upd (am_upd U 3 0 (U 31 0)) 3 1 ((am_upd U 3 0 (U 31 0)) 31 1)) 31 2)) 31 3)) 31 4)) 3 5 ((am_upd (am_upd (am_upd (am_upd (am_upd U 3 0 (U 31 0)) 3 1 ((am_upd U 3 0 (U 31 0)) 31 1)) 3 2 ((am_upd (am_upd U 3 0 (U 31 0)) 3 1 ((am_upd U 3 0 (U 31 0)) 31 1)) 31 2)) 3 3 ((am_upd (am_upd (am_upd U 3 0 (U 31 0)) 3 1 ((am_upd U 3 0 (U 31 0)) 31 1)) 3 2 ((am_upd (am_upd U 3 0 (U 31 0)) 3 1 ((am_upd U 3 0 (U 31 0)) 31 1)) 31 2)) 31 3)) 3 4 ((am_upd (am_upd (am_upd (am_upd U 3 0 (U 31 0)) 3 1 ((am_upd U 3 0 (U 31 0)) 31 1)) 3 2 ((am_upd (am_upd U 3 0 (U 31 0)) 3 1 ((am_upd U 3 0 (U 31 0)) 31 1)) 31 2)) 3 3 ((am_upd (am_upd (am_upd U 3 0 (U 31 0)) 3 1 ((am_upd U 3 0 (U 31 0)) 31 1)) 3 2 ((am_upd (am_upd U 3 0 (U 31 0)) 3 1 ((am_upd U 3 0 (U 31 0)) 31 1)) 31 2)) 31 3)) 31 4)) 31 5)) 31 18), .inr (.inr 3)], (am_sh, am_mm (am_upd (am_upd (am_upd (am_upd (am_upd (am_upd U 3 0 (U 31 0)) 3 1 ((am_upd U 3 0 (U 31 0)) 31 1)) 3 2 ((am_upd (am_upd U 3 0 (U 31 0)) 3 1 ((am_upd U 3 0 (U 31 0)) 31 1)) 31 2)) 3 3 ((am_upd (am_upd (am_upd U 3 0 (U 31 0)) 3 1 ((am_upd U 3 0 (U 31 0)) 31 1)) 3 2 ((am_upd (am_upd U 3 0 (U 31 0)) 3 1 ((am_upd U 3 0 (U 31 0)) 31 1)) 31 2)) 31 3)) 3 4 ((am_upd (am_upd (am_upd (am_upd U 3 0 (U 31 0)) 3 1 ((am_upd U 3 0 (U 31 0)) 31 1)) 3 2 ((am_upd (am_upd U 3 0 (U 31 0)) 3 1 ((am_upd U 3 0 (U 31 0)) 31 1)) 31 2)) 3 3 ((am_upd (am_upd (am_upd U 3 0 (U 31 0)) 3 1 ((am_upd U 3 0 (U 31 0)) 31 1)) 3 2 ((am_upd (am_upd U 3 0 (U 31 0)) 3 1 ((am_upd U 3 0 (U 31 0)) 31 1)) 31 2)) 31 3)) 31 4)) 3 5 ((am_upd (am_upd (am_upd (am_upd (am_upd U 3 0 (U 31 0)) 3 1 ((am_upd U 3 0 (U 31 0)) 31 1)) 3 2 ((am_upd (am_upd U 3 0 (U 31 0)) 3 1 ((am_upd U 3 0 (U 31 0)) 31 1)) 31 2)) 3 3 ((am_upd (am_upd (am_upd U 3 0 (U 31 0)) 3 1 ((am_upd U 3 0 (U 31 0)) 31 1)) 3 2 ((am_upd (am_upd U 3 0 (U 31 0)) 3 1 ((am_upd U 3 0 (U 31 0)) 31 1)) 31 2)) 31 3)) 3 4 ((am_upd (am_upd (am_upd (am_upd U 3 0 (U 31 0)) 3 1 ((am_upd U 3 0 (U 31 0)) 31 1)) 3 2 ((am_upd (am_upd U 3 0 (U 31 0)) 3 1 ((am_upd U 3 0 (U 31 0)) 31 1)) 31 2)) 3 3 ((am_upd (am_upd (am_upd U 3 0 (U 31 0)) 3 1 ((am_upd U 3 0 (U 31 0)) 31 1)) 3 2 ((am_upd (am_upd U 3 0 (U 31 0)) 3 1 ((am_upd U 3 0 (U 31 0)) 31 1)) 31 2)) 31 3)) 31 4)) 31 5))))) 3 (fun _ => rfl) ?_
  refine eu_puti 3 (n := 19) rfl (by decide) rfl rfl ?_
  refine ev_seg (σ1 := ((d + 1), 88, 69, [some (.inr (.inr 3)), some (.inr (.inr 31))], [.inl 4, .inr (.inr 4), .inr (.inr 32)], (am_sh, am_mm (am_upd (am_upd (am_upd (am_upd (am_upd (am_upd (am_upd U 3 0 (U 31 0)) 3 1 ((am_upd U 3 0 (U 31 0)) 31 1)) 3 2 ((am_upd (am_upd U 3 0 (U 31 0)) 3 1 ((am_upd U 3 0 (U 31 0)) 31 1)) 31 2)) 3 3 ((am_upd (am_upd (am_upd U 3 0 (U 31 0)) 3 1 ((am_upd U 3 0 (U 31 0)) 31 1)) 3 2 ((am_upd (am_upd U 3 0 (U 31 0)) 3 1 ((am_upd U 3 0 (U 31 0)) 31 1)) 31 2)) 31 3)) 3 4 ((am_upd (am_upd (am_upd (am_upd U 3 0 (U 31 0)) 3 1 ((am_upd U 3 0 (U 31 0)) 31 1)) 3 2 ((am_upd (am_upd U 3 0 (U 31 0)) 3 1 ((am_upd U 3 0 (U 31 0)) 31 1)) 31 2)) 3 3 ((am_upd (am_upd (am_upd U 3 0 (U 31 0)) 3 1 ((am_upd U 3 0 (U 31 0)) 31 1)) 3 2 ((am_upd (am_upd U 3 0 (U 31 0)) 3 1 ((am_upd U 3 0 (U 31 0)) 31 1)) 31 2)) 31 3)) 31 4)) 3 5 ((am_upd (am_upd (am_upd (am_upd (am_upd U 3 0 (U 31 0)) 3 1 ((am_upd U 3 0 (U 31 0)) 31 1)) 3 2 ((am_upd (am_upd U 3 0 (U 31 0)) 3 1 ((am_upd U 3 0 (U 31 0)) 31 1)) 31 2)) 3 3 ((am_upd (am_upd (am_upd U 3 0 (U 31 0)) 3 1 ((am_upd U 3 0 (U 31 0)) 31 1)) 3 2 ((am_upd (am_upd U 3 0 (U 31 0)) 3 1 ((am_upd U 3 0 (U 31 0)) 31 1)) 31 2)) 31 3)) 3 4 ((am_upd (am_upd (am_upd (am_upd U 3 0 (U 31 0)) 3 1 ((am_upd U 3 0 (U 31 0)) 31 1)) 3 2 ((am_upd (am_upd U 3 0 (U 31 0)) 3 1 ((am_upd U 3 0 (U 31 0)) 31 1)) 31 2)) 3 3 ((am_upd (am_upd (am_upd U 3 0 (U 31 0)) 3 1 ((am_upd U 3 0 (U 31 0)) 31 1)) 3 2 ((am_upd (am_upd U 3 0 (U 31 0)) 3 1 ((am_upd U 3 0 (U 31 0)) 31 1)) 31 2)) 31 3)) 31 4)) 31 5)) 3 18 ((am_upd (am_upd (am_upd (am_upd (am_upd (am_upd U 3 0 (U 31 0)) 3 1 ((am_upd U 3 0 (U 31 0)) 31 1)) 3 2 ((am_upd (am_upd U 3 0 (U 31 0)) 3 1 ((am_upd U 3 0 (U 31 0)) 31 1)) 31 2)) 3 3 ((am_upd (am_upd (am_upd U 3 0 (U 31 0)) 3 1 ((am_upd U 3 0 (U 31 0)) 31 1)) 3 2 ((am_upd (am_upd U 3 0 (U 31 0)) 3 1 ((am_upd U 3 0 (U 31 0)) 31 1)) 31 2)) 31 3)) 3 4 ((am_upd (am_upd (am_upd (am_upd U 3 0 (U 31 0)) 3 1 ((am_upd U 3 0 (U 31 0)) 31 1)) 3 2 ((am_upd (am_upd U 3 0 (U 31 0)) 3 1 ((am_upd U 3 0 (U 31 0)) 31 1)) 31 2)) 3 3 ((am_upd (am_upd (am_upd U 3 0 (U 31 0)) 3 1 ((am_upd U 3 0 (U 31 0)) 31 1)) 3 2 ((am_upd (am_upd U 3 0 (U 31 0)) 3 1 ((am_upd U 3 0 (U 31 0)) 31 1)) 31 2)) 31 3)) 31 4)) 3 5 ((am_upd (am_upd (am_upd (am_upd (am_upd U 3 0 (U 31 0)) 3 1 ((am_upd U 3 0 (U 31 0)) 31 1)) 3 2 ((am_upd (am_upd U 3 0 (U 31 0)) 3 1 ((am_upd U 3 0 (U 31 0)) 31 1)) 31 2)) 3 3 ((am_upd (am_upd (am_upd U 3 0 (U 31 0)) 3 1 ((am_upd U 3 0 (U 31 0)) 31 1)) 3 2 ((am_upd (am_upd U 3 0 (U 31 0)) 3 1 ((am_upd U 3 0 (U 31 0)) 31 1)) 31 2)) 31 3)) 3 4 ((am_upd (am_upd (am_upd (am_upd U 3 0 (U 31 0)) 3 1 ((am_upd U 3 0 (U 31 0)) 31 1)) 3 2 ((am_upd (am_upd U 3 0 (U 31 0)) 3 1 ((am_upd U 3 0 (U 31 0)) 31 1)) 31 2)) 3 3 ((am_upd (am_upd (am_upd U 3 0 (U 31 0)) 3 1 ((am_upd U 3 0 (U 31 0)) 31 1)) 3 2 ((am_upd (am_upd U 3 0 (U 31 0)) 3 1 ((am_upd U 3 0 (U 31 0)) 31 1)) 31 2)) 31 3)) 31 4)) 31 5)) 31 18))))) 7 (fun _ => rfl) ?_
  obtain ⟨U1, hc, ha⟩ := h
  refine ev_cal (σc := (d, 179, 0, [some (.inr (.inr 32)), some (.inr (.inr 4)), some (.inl 4)], [], (am_sh, am_mm (am_upd (am_upd (am_upd (am_upd (am_upd (am_upd (am_upd U 3 0 (U 31 0)) 3 1 ((am_upd U 3 0 (U 31 0)) 31 1)) 3 2 ((am_upd (am_upd U 3 0 (U 31 0)) 3 1 ((am_upd U 3 0 (U 31 0)) 31 1)) 31 2)) 3 3 ((am_upd (am_upd (am_upd U 3 0 (U 31 0)) 3 1 ((am_upd U 3 0 (U 31 0)) 31 1)) 3 2 ((am_upd (am_upd U 3 0 (U 31 0)) 3 1 ((am_upd U 3 0 (U 31 0)) 31 1)) 31 2)) 31 3)) 3 4 ((am_upd (am_upd (am_upd (am_upd U 3 0 (U 31 0)) 3 1 ((am_upd U 3 0 (U 31 0)) 31 1)) 3 2 ((am_upd (am_upd U 3 0 (U 31 0)) 3 1 ((am_upd U 3 0 (U 31 0)) 31 1)) 31 2)) 3 3 ((am_upd (am_upd (am_upd U 3 0 (U 31 0)) 3 1 ((am_upd U 3 0 (U 31 0)) 31 1)) 3 2 ((am_upd (am_upd U 3 0 (U 31 0)) 3 1 ((am_upd U 3 0 (U 31 0)) 31 1)) 31 2)) 31 3)) 31 4)) 3 5 ((am_upd (am_upd (am_upd (am_upd (am_upd U 3 0 (U 31 0)) 3 1 ((am_upd U 3 0 (U 31 0)) 31 1)) 3 2 ((am_upd (am_upd U 3 0 (U 31 0)) 3 1 ((am_upd U 3 0 (U 31 0)) 31 1)) 31 2)) 3 3 ((am_upd (am_upd (am_upd U 3 0 (U 31 0)) 3 1 ((am_upd U 3 0 (U 31 0)) 31 1)) 3 2 ((am_upd (am_upd U 3 0 (U 31 0)) 3 1 ((am_upd U 3 0 (U 31 0)) 31 1)) 31 2)) 31 3)) 3 4 ((am_upd (am_upd (am_upd (am_upd U 3 0 (U 31 0)) 3 1 ((am_upd U 3 0 (U 31 0)) 31 1)) 3 2 ((am_upd (am_upd U 3 0 (U 31 0)) 3 1 ((am_upd U 3 0 (U 31 0)) 31 1)) 31 2)) 3 3 ((am_upd (am_upd (am_upd U 3 0 (U 31 0)) 3 1 ((am_upd U 3 0 (U 31 0)) 31 1)) 3 2 ((am_upd (am_upd U 3 0 (U 31 0)) 3 1 ((am_upd U 3 0 (U 31 0)) 31 1)) 31 2)) 31 3)) 31 4)) 31 5)) 3 18 ((am_upd (am_upd (am_upd (am_upd (am_upd (am_upd U 3 0 (U 31 0)) 3 1 ((am_upd U 3 0 (U 31 0)) 31 1)) 3 2 ((am_upd (am_upd U 3 0 (U 31 0)) 3 1 ((am_upd U 3 0 (U 31 0)) 31 1)) 31 2)) 3 3 ((am_upd (am_upd (am_upd U 3 0 (U 31 0)) 3 1 ((am_upd U 3 0 (U 31 0)) 31 1)) 3 2 ((am_upd (am_upd U 3 0 (U 31 0)) 3 1 ((am_upd U 3 0 (U 31 0)) 31 1)) 31 2)) 31 3)) 3 4 ((am_upd (am_upd (am_upd (am_upd U 3 0 (U 31 0)) 3 1 ((am_upd U 3 0 (U 31 0)) 31 1)) 3 2 ((am_upd (am_upd U 3 0 (U 31 0)) 3 1 ((am_upd U 3 0 (U 31 0)) 31 1)) 31 2)) 3 3 ((am_upd (am_upd (am_upd U 3 0 (U 31 0)) 3 1 ((am_upd U 3 0 (U 31 0)) 31 1)) 3 2 ((am_upd (am_upd U 3 0 (U 31 0)) 3 1 ((am_upd U 3 0 (U 31 0)) 31 1)) 31 2)) 31 3)) 31 4)) 3 5 ((am_upd (am_upd (am_upd (am_upd (am_upd U 3 0 (U 31 0)) 3 1 ((am_upd U 3 0 (U 31 0)) 31 1)) 3 2 ((am_upd (am_upd U 3 0 (U 31 0)) 3 1 ((am_upd U 3 0 (U 31 0)) 31 1)) 31 2)) 3 3 ((am_upd (am_upd (am_upd U 3 0 (U 31 0)) 3 1 ((am_upd U 3 0 (U 31 0)) 31 1)) 3 2 ((am_upd (am_upd U 3 0 (U 31 0)) 3 1 ((am_upd U 3 0 (U 31 0)) 31 1)) 31 2)) 31 3)) 3 4 ((am_upd (am_upd (am_upd (am_upd U 3 0 (U 31 0)) 3 1 ((am_upd U 3 0 (U 31 0)) 31 1)) 3 2 ((am_upd (am_upd U 3 0 (U 31 0)) 3 1 ((am_upd U 3 0 (U 31 0)) 31 1)) 31 2)) 3 3 ((am_upd (am_upd (am_upd U 3 0 (U 31 0)) 3 1 ((am_upd U 3 0 (U 31 0)) 31 1)) 3 2 ((am_upd (am_upd U 3 0 (U 31 0)) 3 1 ((am_upd U 3 0 (U 31 0)) 31 1)) 31 2)) 31 3)) 31 4)) 31 5)) 31 18))))) (fun _ => rfl) hc ?_
  show Ev (am_kz N X) ((d + 1), 88, 72, [some (.inr (.inr 3)), some (.inr (.inr 31))], [], (am_sh, am_mm U1)) R
  refine ev_seg (σ1 := ((d + 1), 88, 85, [some (.inr (.inr 3)), some (.inr (.inr 31))], [.inl 12, .inr (.inr 5), .inr (.inr 33)], (am_sh, am_mm U1))) 7 (fun _ => rfl) ?_
  obtain ⟨U2, hac, haa⟩ := ha
  refine ev_cal (σc := (d, 179, 0, [some (.inr (.inr 33)), some (.inr (.inr 5)), some (.inl 12)], [], (am_sh, am_mm U1))) (fun _ => rfl) hac ?_
  show Ev (am_kz N X) ((d + 1), 88, 88, [some (.inr (.inr 3)), some (.inr (.inr 31))], [], (am_sh, am_mm U2)) R
  refine ev_seg (σ1 := ((d + 1), 88, 101, [some (.inr (.inr 3)), some (.inr (.inr 31))], [.inl 12, .inr (.inr 6), .inr (.inr 34)], (am_sh, am_mm U2))) 7 (fun _ => rfl) ?_
  obtain ⟨U3, haac, haaa⟩ := haa
  refine ev_cal (σc := (d, 179, 0, [some (.inr (.inr 34)), some (.inr (.inr 6)), some (.inl 12)], [], (am_sh, am_mm U2))) (fun _ => rfl) haac ?_
  show Ev (am_kz N X) ((d + 1), 88, 104, [some (.inr (.inr 3)), some (.inr (.inr 31))], [], (am_sh, am_mm U3)) R
  refine ev_seg (σ1 := ((d + 1), 88, 117, [some (.inr (.inr 3)), some (.inr (.inr 31))], [.inl 12, .inr (.inr 7), .inr (.inr 35)], (am_sh, am_mm U3))) 7 (fun _ => rfl) ?_
  obtain ⟨U4, haaac, haaaa⟩ := haaa
  refine ev_cal (σc := (d, 179, 0, [some (.inr (.inr 35)), some (.inr (.inr 7)), some (.inl 12)], [], (am_sh, am_mm U3))) (fun _ => rfl) haaac ?_
  show Ev (am_kz N X) ((d + 1), 88, 120, [some (.inr (.inr 3)), some (.inr (.inr 31))], [], (am_sh, am_mm U4)) R
  refine ev_seg (σ1 := ((d + 1), 88, 133, [some (.inr (.inr 3)), some (.inr (.inr 31))], [.inl 12, .inr (.inr 8), .inr (.inr 36)], (am_sh, am_mm U4))) 7 (fun _ => rfl) ?_
  obtain ⟨U5, haaaac, haaaaa⟩ := haaaa
  refine ev_cal (σc := (d, 179, 0, [some (.inr (.inr 36)), some (.inr (.inr 8)), some (.inl 12)], [], (am_sh, am_mm U4))) (fun _ => rfl) haaaac ?_
  show Ev (am_kz N X) ((d + 1), 88, 136, [some (.inr (.inr 3)), some (.inr (.inr 31))], [], (am_sh, am_mm U5)) R
  refine ev_seg (σ1 := ((d + 1), 88, 149, [some (.inr (.inr 3)), some (.inr (.inr 31))], [.inl 12, .inr (.inr 9), .inr (.inr 37)], (am_sh, am_mm U5))) 7 (fun _ => rfl) ?_
  obtain ⟨U6, haaaaac, haaaaaa⟩ := haaaaa
  refine ev_cal (σc := (d, 179, 0, [some (.inr (.inr 37)), some (.inr (.inr 9)), some (.inl 12)], [], (am_sh, am_mm U5))) (fun _ => rfl) haaaaac ?_
  show Ev (am_kz N X) ((d + 1), 88, 152, [some (.inr (.inr 3)), some (.inr (.inr 31))], [], (am_sh, am_mm U6)) R
  refine ev_seg (σ1 := ((d + 1), 88, 165, [some (.inr (.inr 3)), some (.inr (.inr 31))], [.inl 12, .inr (.inr 10), .inr (.inr 38)], (am_sh, am_mm U6))) 7 (fun _ => rfl) ?_
  obtain ⟨U7, haaaaaac, haaaaaaa⟩ := haaaaaa
  refine ev_cal (σc := (d, 179, 0, [some (.inr (.inr 38)), some (.inr (.inr 10)), some (.inl 12)], [], (am_sh, am_mm U6))) (fun _ => rfl) haaaaaac ?_
  show Ev (am_kz N X) ((d + 1), 88, 168, [some (.inr (.inr 3)), some (.inr (.inr 31))], [], (am_sh, am_mm U7)) R
  refine ev_seg (σ1 := ((d + 1), 88, 181, [some (.inr (.inr 3)), some (.inr (.inr 31))], [.inl 8, .inr (.inr 12), .inr (.inr 40)], (am_sh, am_mm U7))) 7 (fun _ => rfl) ?_
  obtain ⟨U8, haaaaaaac, haaaaaaaa⟩ := haaaaaaa
  refine ev_cal (σc := (d, 179, 0, [some (.inr (.inr 40)), some (.inr (.inr 12)), some (.inl 8)], [], (am_sh, am_mm U7))) (fun _ => rfl) haaaaaaac ?_
  show Ev (am_kz N X) ((d + 1), 88, 184, [some (.inr (.inr 3)), some (.inr (.inr 31))], [], (am_sh, am_mm U8)) R
  refine ev_seg (σ1 := ((d + 1), 88, 197, [some (.inr (.inr 3)), some (.inr (.inr 31))], [.inl 9, .inr (.inr 13), .inr (.inr 41)], (am_sh, am_mm U8))) 7 (fun _ => rfl) ?_
  obtain ⟨U9, haaaaaaaac, haaaaaaaaa⟩ := haaaaaaaa
  refine ev_cal (σc := (d, 179, 0, [some (.inr (.inr 41)), some (.inr (.inr 13)), some (.inl 9)], [], (am_sh, am_mm U8))) (fun _ => rfl) haaaaaaaac ?_
  show Ev (am_kz N X) ((d + 1), 88, 200, [some (.inr (.inr 3)), some (.inr (.inr 31))], [], (am_sh, am_mm U9)) R
  refine ev_seg (σ1 := ((d + 1), 88, 213, [some (.inr (.inr 3)), some (.inr (.inr 31))], [.inl 9, .inr (.inr 14), .inr (.inr 42)], (am_sh, am_mm U9))) 7 (fun _ => rfl) ?_
  obtain ⟨U10, haaaaaaaaac, haaaaaaaaaa⟩ := haaaaaaaaa
  refine ev_cal (σc := (d, 179, 0, [some (.inr (.inr 42)), some (.inr (.inr 14)), some (.inl 9)], [], (am_sh, am_mm U9))) (fun _ => rfl) haaaaaaaaac ?_
  show Ev (am_kz N X) ((d + 1), 88, 216, [some (.inr (.inr 3)), some (.inr (.inr 31))], [], (am_sh, am_mm U10)) R
  refine ev_seg (σ1 := ((d + 1), 88, 228, [some (.inr (.inr 3)), some (.inr (.inr 31))], [.inl (U10 3 18), .inr (.inr 15), .inr (.inr 43)], (am_sh, am_mm U10))) 6 (fun _ => rfl) ?_
  obtain ⟨U11, haaaaaaaaaac, haaaaaaaaaaa⟩ := haaaaaaaaaa
  refine ev_cal (σc := (d, 179, 0, [some (.inr (.inr 43)), some (.inr (.inr 15)), some (.inl (U10 3 18))], [], (am_sh, am_mm U10))) (fun _ => rfl) haaaaaaaaaac ?_
  show Ev (am_kz N X) ((d + 1), 88, 231, [some (.inr (.inr 3)), some (.inr (.inr 31))], [], (am_sh, am_mm U11)) R
  subst haaaaaaaaaaa
  exact ev_end 1 (fun _ => rfl)
set_option maxRecDepth 8000 in
theorem st94_86_0 (N : Nat) (X : Nat → Int) (d : Nat) (U : Nat → Nat → Int) (R : Option am_V × am_M) (h : ∃ U1 : Nat → Nat → Int, Ev (am_kz N X) (d, 186, 0, [some (.inr (.inr 86))], [], (am_sh, am_mm U)) (none, (am_sh, am_mm U1)) ∧ ((((U1 86 8) ≤ 0 : Prop)) → ∃ (r2 : Int) (U2 : Nat → Nat → Int), Ev (am_kz N X) (d, 187, 0, [some (.inr (.inr 86)), some (.inr (.inl 126943972648308)), none], [], (am_sh, am_mm U1)) (some (.inl r2), (am_sh, am_mm U2)) ∧ (((r2 = 0 : Prop)) → ∃ (r3 : Int) (U3 : Nat → Nat → Int), Ev (am_kz N X) (d, 187, 0, [some (.inr (.inr 86)), some (.inr (.inl 448546567013)), none], [], (am_sh, am_mm U2)) (some (.inl r3), (am_sh, am_mm U3)) ∧ (((r3 = 0 : Prop)) → ∃ (r4 : Int) (U4 : Nat → Nat → Int), Ev (am_kz N X) (d, 187, 0, [some (.inr (.inr 86)), some (.inr (.inl 1818324581)), none], [], (am_sh, am_mm U3)) (some (.inl r4), (am_sh, am_mm U4)) ∧ (((r4 = 0 : Prop)) → ∃ (r5 : Int) (U5 : Nat → Nat → Int), Ev (am_kz N X) (d, 187, 0, [some (.inr (.inr 86)), some (.inr (.inl 121450625394034)), none], [], (am_sh, am_mm U4)) (some (.inl r5), (am_sh, am_mm U5)) ∧ (((r5 = 0 : Prop)) → ∃ (r6 : Int) (U6 : Nat → Nat → Int), Ev (am_kz N X) (d, 187, 0, [some (.inr (.inr 86)), some (.inr (.inl 7102839)), none], [], (am_sh, am_mm U5)) (some (.inl r6), (am_sh, am_mm U6)) ∧ (((r6 = 0 : Prop)) → ∃ (r7 : Int) (U7 : Nat → Nat → Int), Ev (am_kz N X) (d, 187, 0, [some (.inr (.inr 86)), some (.inr (.inl 7824740)), none], [], (am_sh, am_mm U6)) (some (.inl r7), (am_sh, am_mm U7)) ∧ (((r7 = 0 : Prop)) → ∃ (r8 : Int) (U8 : Nat → Nat → Int), Ev (am_kz N X) (d, 187, 0, [some (.inr (.inr 86)), some (.inr (.inl 1870095731)), none], [], (am_sh, am_mm U7)) (some (.inl r8), (am_sh, am_mm U8)) ∧ (((r8 = 0 : Prop)) → ∃ (r9 : Int) (U9 : Nat → Nat → Int), Ev (am_kz N X) (d, 187, 0, [some (.inr (.inr 86)), some (.inr (.inl 1718186597)), none], [], (am_sh, am_mm U8)) (some (.inl r9), (am_sh, am_mm U9)) ∧ (((r9 = 0 : Prop)) → ∃ U10 : Nat → Nat → Int, Ev (am_kz N X) (d, 196, 0, [some (.inr (.inr 86)), some (.inl 1), some (.inl (U9 86 4))], [], (am_sh, am_mm U9)) (none, (am_sh, am_mm U10)) ∧ R = (none, (am_sh, am_mm U10))) ∧ (¬ (r9 = 0) → ∃ U11 : Nat → Nat → Int, Ev (am_kz N X) (d, 195, 0, [some (.inr (.inr 86)), none], [], (am_sh, am_mm U9)) (none, (am_sh, am_mm U11)) ∧ R = (none, (am_sh, am_mm U11)))) ∧ (¬ (r8 = 0) → ∃ U12 : Nat → Nat → Int, Ev (am_kz N X) (d, 194, 0, [some (.inr (.inr 86)), none], [], (am_sh, am_mm U8)) (none, (am_sh, am_mm U12)) ∧ R = (none, (am_sh, am_mm U12)))) ∧ (¬ (r7 = 0) → ∃ U13 : Nat → Nat → Int, Ev (am_kz N X) (d, 193, 0, [some (.inr (.inr 86))], [], (am_sh, am_mm U7)) (none, (am_sh, am_mm U13)) ∧ R = (none, (am_sh, am_mm U13)))) ∧ (¬ (r6 = 0) → ∃ U14 : Nat → Nat → Int, Ev (am_kz N X) (d, 192, 0, [some (.inr (.inr 86)), none], [], (am_sh, am_mm U6)) (none, (am_sh, am_mm U14)) ∧ R = (none, (am_sh, am_mm U14)))) ∧ (¬ (r5 = 0) → ∃ U15 : Nat → Nat → Int, Ev (am_kz N X) (d, 191, 0, [some (.inr (.inr 86)), none, none, none, none, none, none], [], (am_sh, am_mm U5)) (none, (am_sh, am_mm U15)) ∧ R = (none, (am_sh, am_mm U15)))) ∧ (¬ (r4 = 0) → ∃ U16 : Nat → Nat → Int, Ev (am_kz N X) (d, 190, 0, [some (.inr (.inr 86)), none, none, none], [], (am_sh, am_mm U4)) (none, (am_sh, am_mm U16)) ∧ R = (none, (am_sh, am_mm U16)))) ∧ (¬ (r3 = 0) → ∃ U17 : Nat → Nat → Int, Ev (am_kz N X) (d, 189, 0, [some (.inr (.inr 86)), none], [], (am_sh, am_mm U3)) (none, (am_sh, am_mm U17)) ∧ R = (none, (am_sh, am_mm U17)))) ∧ (¬ (r2 = 0) → ∃ U18 : Nat → Nat → Int, Ev (am_kz N X) (d, 188, 0, [some (.inr (.inr 86))], [], (am_sh, am_mm U2)) (none, (am_sh, am_mm U18)) ∧ R = (none, (am_sh, am_mm U18)))) ∧ (¬ ((U1 86 8) ≤ 0) → R = (none, (am_sh, am_mm U1)))) : Ev (am_kz N X) ((d + 1), 94, 0, [some (.inr (.inr 86))], [], (am_sh, am_mm U)) R := by
  refine ev_seg (σ1 := ((d + 1), 94, 1, [some (.inr (.inr 86))], [.inr (.inr 86)], (am_sh, am_mm U))) 1 (fun _ => rfl) ?_
  obtain ⟨U1, hc, ha⟩ := h
  refine ev_cal (σc := (d, 186, 0, [some (.inr (.inr 86))], [], (am_sh, am_mm U))) (fun _ => rfl) hc ?_
  show Ev (am_kz N X) ((d + 1), 94, 4, [some (.inr (.inr 86))], [], (am_sh, am_mm U1)) R
  refine ev_br (P := (U1 86 8) ≤ 0) (σ1 := ((d + 1), 94, 12, [some (.inr (.inr 86))], [], (am_sh, am_mm U1))) (σ2 := ((d + 1), 94, 11, [some (.inr (.inr 86))], [], (am_sh, am_mm U1))) 3 (fun _ => rfl) (fun hc => ?_) (fun hc => ?_)
  · have ha1 := ha.1 hc
    refine ev_seg (σ1 := ((d + 1), 94, 16, [some (.inr (.inr 86))], [.inr (.inl 126943972648308), .inr (.inr 86)], (am_sh, am_mm U1))) 2 (fun _ => rfl) ?_
    obtain ⟨r2, U2, ha1c, ha1a⟩ := ha1
    refine ev_cal (σc := (d, 187, 0, [some (.inr (.inr 86)), some (.inr (.inl 126943972648308)), none], [], (am_sh, am_mm U1))) (fun _ => rfl) ha1c ?_
    show Ev (am_kz N X) ((d + 1), 94, 19, [some (.inr (.inr 86))], [.inl r2], (am_sh, am_mm U2)) R
    refine ev_br (P := r2 = 0) (σ1 := ((d + 1), 94, 29, [some (.inr (.inr 86))], [], (am_sh, am_mm U2))) (σ2 := ((d + 1), 94, 22, [some (.inr (.inr 86))], [], (am_sh, am_mm U2))) 1 (fun _ => rfl) (fun hc => ?_) (fun hc => ?_)
    · have ha1a1 := ha1a.1 hc
      refine ev_seg (σ1 := ((d + 1), 94, 33, [some (.inr (.inr 86))], [.inr (.inl 448546567013), .inr (.inr 86)], (am_sh, am_mm U2))) 2 (fun _ => rfl) ?_
      obtain ⟨r3, U3, ha1a1c, ha1a1a⟩ := ha1a1
      refine ev_cal (σc := (d, 187, 0, [some (.inr (.inr 86)), some (.inr (.inl 448546567013)), none], [], (am_sh, am_mm U2))) (fun _ => rfl) ha1a1c ?_
      show Ev (am_kz N X) ((d + 1), 94, 36, [some (.inr (.inr 86))], [.inl r3], (am_sh, am_mm U3)) R
      refine ev_br (P := r3 = 0) (σ1 := ((d + 1), 94, 46, [some (.inr (.inr 86))], [], (am_sh, am_mm U3))) (σ2 := ((d + 1), 94, 39, [some (.inr (.inr 86))], [], (am_sh, am_mm U3))) 1 (fun _ => rfl) (fun hc => ?_) (fun hc => ?_)
      · have ha1a1a1 := ha1a1a.1 hc
        refine ev_seg (σ1 := ((d + 1), 94, 50, [some (.inr (.inr 86))], [.inr (.inl 1818324581), .inr (.inr 86)], (am_sh, am_mm U3))) 2 (fun _ => rfl) ?_
        obtain ⟨r4, U4, ha1a1a1c, ha1a1a1a⟩ := ha1a1a1
        refine ev_cal (σc := (d, 187, 0, [some (.inr (.inr 86)), some (.inr (.inl 1818324581)), none], [], (am_sh, am_mm U3))) (fun _ => rfl) ha1a1a1c ?_
        show Ev (am_kz N X) ((d + 1), 94, 53, [some (.inr (.inr 86))], [.inl r4], (am_sh, am_mm U4)) R
        refine ev_br (P := r4 = 0) (σ1 := ((d + 1), 94, 63, [some (.inr (.inr 86))], [], (am_sh, am_mm U4))) (σ2 := ((d + 1), 94, 56, [some (.inr (.inr 86))], [], (am_sh, am_mm U4))) 1 (fun _ => rfl) (fun hc => ?_) (fun hc => ?_)
        · have ha1a1a1a1 := ha1a1a1a.1 hc
          refine ev_seg (σ1 := ((d + 1), 94, 67, [some (.inr (.inr 86))], [.inr (.inl 121450625394034), .inr (.inr 86)], (am_sh, am_mm U4))) 2 (fun _ => rfl) ?_
          obtain ⟨r5, U5, ha1a1a1a1c, ha1a1a1a1a⟩ := ha1a1a1a1
          refine ev_cal (σc := (d, 187, 0, [some (.inr (.inr 86)), some (.inr (.inl 121450625394034)), none], [], (am_sh, am_mm U4))) (fun _ => rfl) ha1a1a1a1c ?_
          show Ev (am_kz N X) ((d + 1), 94, 70, [some (.inr (.inr 86))], [.inl r5], (am_sh, am_mm U5)) R
          refine ev_br (P := r5 = 0) (σ1 := ((d + 1), 94, 80, [some (.inr (.inr 86))], [], (am_sh, am_mm U5))) (σ2 := ((d + 1), 94, 73, [some (.inr (.inr 86))], [], (am_sh, am_mm U5))) 1 (fun _ => rfl) (fun hc => ?_) (fun hc => ?_)
          · have ha1a1a1a1a1 := ha1a1a1a1a.1 hc
            refine ev_seg (σ1 := ((d + 1), 94, 84, [some (.inr (.inr 86))], [.inr (.inl 7102839), .inr (.inr 86)], (am_sh, am_mm U5))) 2 (fun _ => rfl) ?_
            obtain ⟨r6, U6, ha1a1a1a1a1c, ha1a1a1a1a1a⟩ := ha1a1a1a1a1
            refine ev_cal (σc := (d, 187, 0, [some (.inr (.inr 86)), some (.inr (.inl 7102839)), none], [], (am_sh, am_mm U5))) (fun _ => rfl) ha1a1a1a1a1c ?_
            show Ev (am_kz N X) ((d + 1), 94, 87, [some (.inr (.inr 86))], [.inl r6], (am_sh, am_mm U6)) R
            refine ev_br (P := r6 = 0) (σ1 := ((d + 1), 94, 97, [some (.inr (.inr 86))], [], (am_sh, am_mm U6))) (σ2 := ((d + 1), 94, 90, [some (.inr (.inr 86))], [], (am_sh, am_mm U6))) 1 (fun _ => rfl) (fun hc => ?_) (fun hc => ?_)
            · have ha1a1a1a1a1a1 := ha1a1a1a1a1a.1 hc
              refine ev_seg (σ1 := ((d + 1), 94, 101, [some (.inr (.inr 86))], [.inr (.inl 7824740), .inr (.inr 86)], (am_sh, am_mm U6))) 2 (fun _ => rfl) ?_
              obtain ⟨r7, U7, ha1a1a1a1a1a1c, ha1a1a1a1a1a1a⟩ := ha1a1a1a1a1a1
              refine ev_cal (σc := (d, 187, 0, [some (.inr (.inr 86)), some (.inr (.inl 7824740)), none], [], (am_sh, am_mm U6))) (fun _ => rfl) ha1a1a1a1a1a1c ?_
              show Ev (am_kz N X) ((d + 1), 94, 104, [some (.inr (.inr 86))], [.inl r7], (am_sh, am_mm U7)) R
              refine ev_br (P := r7 = 0) (σ1 := ((d + 1), 94, 114, [some (.inr (.inr 86))], [], (am_sh, am_mm U7))) (σ2 := ((d + 1), 94, 107, [some (.inr (.inr 86))], [], (am_sh, am_mm U7))) 1 (fun _ => rfl) (fun hc => ?_) (fun hc => ?_)
              · have ha1a1a1a1a1a1a1 := ha1a1a1a1a1a1a.1 hc
                refine ev_seg (σ1 := ((d + 1), 94, 118, [some (.inr (.inr 86))], [.inr (.inl 1870095731), .inr (.inr 86)], (am_sh, am_mm U7))) 2 (fun _ => rfl) ?_
                obtain ⟨r8, U8, ha1a1a1a1a1a1a1c, ha1a1a1a1a1a1a1a⟩ := ha1a1a1a1a1a1a1
                refine ev_cal (σc := (d, 187, 0, [some (.inr (.inr 86)), some (.inr (.inl 1870095731)), none], [], (am_sh, am_mm U7))) (fun _ => rfl) ha1a1a1a1a1a1a1c ?_
                show Ev (am_kz N X) ((d + 1), 94, 121, [some (.inr (.inr 86))], [.inl r8], (am_sh, am_mm U8)) R
                refine ev_br (P := r8 = 0) (σ1 := ((d + 1), 94, 131, [some (.inr (.inr 86))], [], (am_sh, am_mm U8))) (σ2 := ((d + 1), 94, 124, [some (.inr (.inr 86))], [], (am_sh, am_mm U8))) 1 (fun _ => rfl) (fun hc => ?_) (fun hc => ?_)
                · have ha1a1a1a1a1a1a1a1 := ha1a1a1a1a1a1a1a.1 hc
                  refine ev_seg (σ1 := ((d + 1), 94, 135, [some (.inr (.inr 86))], [.inr (.inl 1718186597), .inr (.inr 86)], (am_sh, am_mm U8))) 2 (fun _ => rfl) ?_
                  obtain ⟨r9, U9, ha1a1a1a1a1a1a1a1c, ha1a1a1a1a1a1a1a1a⟩ := ha1a1a1a1a1a1a1a1
                  refine ev_cal (σc := (d, 187, 0, [some (.inr (.inr 86)), some (.inr (.inl 1718186597)), none], [], (am_sh, am_mm U8))) (fun _ => rfl) ha1a1a1a1a1a1a1a1c ?_
                  show Ev (am_kz N X) ((d + 1), 94, 138, [some (.inr (.inr 86))], [.inl r9], (am_sh, am_mm U9)) R
                  refine ev_br (P := r9 = 0) (σ1 := ((d + 1), 94, 148, [some (.inr (.inr 86))], [], (am_sh, am_mm U9))) (σ2 := ((d + 1), 94, 141, [some (.inr (.inr 86))], [], (am_sh, am_mm U9))) 1 (fun _ => rfl) (fun hc => ?_) (fun hc => ?_)
                  · have ha1a1a1a1a1a1a1a1a1 := ha1a1a1a1a1a1a1a1a.1 hc
                    refine ev_seg (σ1 := ((d + 1), 94, 154, [some (.inr (.inr 86))], [.inl (U9 86 4), .inl 1, .inr (.inr 86)], (am_sh, am_mm U9))) 4 (fun _ => rfl) ?_
                    obtain ⟨U10, ha1a1a1a1a1a1a1a1a1c, ha1a1a1a1a1a1a1a1a1a⟩ := ha1a1a1a1a1a1a1a1a1
                    refine ev_cal (σc := (d, 196, 0, [some (.inr (.inr 86)), some (.inl 1), some (.inl (U9 86 4))], [], (am_sh, am_mm U9))) (fun _ => rfl) ha1a1a1a1a1a1a1a1a1c ?_
                    show Ev (am_kz N X) ((d + 1), 94, 157, [some (.inr (.inr 86))], [], (am_sh, am_mm U10)) R
                    subst ha1a1a1a1a1a1a1a1a1a
                    exact ev_end 1 (fun _ => rfl)
                  · have ha1a1a1a1a1a1a1a1a2 := ha1a1a1a1a1a1a1a1a.2 hc
                    refine ev_seg (σ1 := ((d + 1), 94, 142, [some (.inr (.inr 86))], [.inr (.inr 86)], (am_sh, am_mm U9))) 1 (fun _ => rfl) ?_
                    obtain ⟨U11, ha1a1a1a1a1a1a1a1a2c, ha1a1a1a1a1a1a1a1a2a⟩ := ha1a1a1a1a1a1a1a1a2
                    refine ev_cal (σc := (d, 195, 0, [some (.inr (.inr 86)), none], [], (am_sh, am_mm U9))) (fun _ => rfl) ha1a1a1a1a1a1a1a1a2c ?_
                    show Ev (am_kz N X) ((d + 1), 94, 145, [some (.inr (.inr 86))], [], (am_sh, am_mm U11)) R
                    subst ha1a1a1a1a1a1a1a1a2a
                    exact ev_end 2 (fun _ => rfl)
                · have ha1a1a1a1a1a1a1a2 := ha1a1a1a1a1a1a1a.2 hc
                  refine ev_seg (σ1 := ((d + 1), 94, 125, [some (.inr (.inr 86))], [.inr (.inr 86)], (am_sh, am_mm U8))) 1 (fun _ => rfl) ?_
                  obtain ⟨U12, ha1a1a1a1a1a1a1a2c, ha1a1a1a1a1a1a1a2a⟩ := ha1a1a1a1a1a1a1a2
                  refine ev_cal (σc := (d, 194, 0, [some (.inr (.inr 86)), none], [], (am_sh, am_mm U8))) (fun _ => rfl) ha1a1a1a1a1a1a1a2c ?_
                  show Ev (am_kz N X) ((d + 1), 94, 128, [some (.inr (.inr 86))], [], (am_sh, am_mm U12)) R
                  subst ha1a1a1a1a1a1a1a2a
                  exact ev_end 2 (fun _ => rfl)
              · have ha1a1a1a1a1a1a2 := ha1a1a1a1a1a1a.2 hc
                refine ev_seg (σ1 := ((d + 1), 94, 108, [some (.inr (.inr 86))], [.inr (.inr 86)], (am_sh, am_mm U7))) 1 (fun _ => rfl) ?_
                obtain ⟨U13, ha1a1a1a1a1a1a2c, ha1a1a1a1a1a1a2a⟩ := ha1a1a1a1a1a1a2
                refine ev_cal (σc := (d, 193, 0, [some (.inr (.inr 86))], [], (am_sh, am_mm U7))) (fun _ => rfl) ha1a1a1a1a1a1a2c ?_
                show Ev (am_kz N X) ((d + 1), 94, 111, [some (.inr (.inr 86))], [], (am_sh, am_mm U13)) R
                subst ha1a1a1a1a1a1a2a
                exact ev_end 2 (fun _ => rfl)
            · have ha1a1a1a1a1a2 := ha1a1a1a1a1a.2 hc
              refine ev_seg (σ1 := ((d + 1), 94, 91, [some (.inr (.inr 86))], [.inr (.inr 86)], (am_sh, am_mm U6))) 1 (fun _ => rfl) ?_
              obtain ⟨U14, ha1a1a1a1a1a2c, ha1a1a1a1a1a2a⟩ := ha1a1a1a1a1a2
              refine ev_cal (σc := (d, 192, 0, [some (.inr (.inr 86)), none], [], (am_sh, am_mm U6))) (fun _ => rfl) ha1a1a1a1a1a2c ?_
              show Ev (am_kz N X) ((d + 1), 94, 94, [some (.inr (.inr 86))], [], (am_sh, am_mm U14)) R
              subst ha1a1a1a1a1a2a
              exact ev_end 2 (fun _ => rfl)
          · have ha1a1a1a1a2 := ha1a1a1a1a.2 hc
            refine ev_seg (σ1 := ((d + 1), 94, 74, [some (.inr (.inr 86))], [.inr (.inr 86)], (am_sh, am_mm U5))) 1 (fun _ => rfl) ?_
            obtain ⟨U15, ha1a1a1a1a2c, ha1a1a1a1a2a⟩ := ha1a1a1a1a2
            refine ev_cal (σc := (d, 191, 0, [some (.inr (.inr 86)), none, none, none, none, none, none], [], (am_sh, am_mm U5))) (fun _ => rfl) ha1a1a1a1a2c ?_
            show Ev (am_kz N X) ((d + 1), 94, 77, [some (.inr (.inr 86))], [], (am_sh, am_mm U15)) R
            subst ha1a1a1a1a2a
            exact ev_end 2 (fun _ => rfl)
        · have ha1a1a1a2 := ha1a1a1a.2 hc
          refine ev_seg (σ1 := ((d + 1), 94, 57, [some (.inr (.inr 86))], [.inr (.inr 86)], (am_sh, am_mm U4))) 1 (fun _ => rfl) ?_
          obtain ⟨U16, ha1a1a1a2c, ha1a1a1a2a⟩ := ha1a1a1a2
          refine ev_cal (σc := (d, 190, 0, [some (.inr (.inr 86)), none, none, none], [], (am_sh, am_mm U4))) (fun _ => rfl) ha1a1a1a2c ?_
          show Ev (am_kz N X) ((d + 1), 94, 60, [some (.inr (.inr 86))], [], (am_sh, am_mm U16)) R
          subst ha1a1a1a2a
          exact ev_end 2 (fun _ => rfl)
      · have ha1a1a2 := ha1a1a.2 hc
        refine ev_seg (σ1 := ((d + 1), 94, 40, [some (.inr (.inr 86))], [.inr (.inr 86)], (am_sh, am_mm U3))) 1 (fun _ => rfl) ?_
        obtain ⟨U17, ha1a1a2c, ha1a1a2a⟩ := ha1a1a2
        refine ev_cal (σc := (d, 189, 0, [some (.inr (.inr 86)), none], [], (am_sh, am_mm U3))) (fun _ => rfl) ha1a1a2c ?_
        show Ev (am_kz N X) ((d + 1), 94, 43, [some (.inr (.inr 86))], [], (am_sh, am_mm U17)) R
        subst ha1a1a2a
        exact ev_end 2 (fun _ => rfl)
    · have ha1a2 := ha1a.2 hc
      refine ev_seg (σ1 := ((d + 1), 94, 23, [some (.inr (.inr 86))], [.inr (.inr 86)], (am_sh, am_mm U2))) 1 (fun _ => rfl) ?_
      obtain ⟨U18, ha1a2c, ha1a2a⟩ := ha1a2
      refine ev_cal (σc := (d, 188, 0, [some (.inr (.inr 86))], [], (am_sh, am_mm U2))) (fun _ => rfl) ha1a2c ?_
      show Ev (am_kz N X) ((d + 1), 94, 26, [some (.inr (.inr 86))], [], (am_sh, am_mm U18)) R
      subst ha1a2a
      exact ev_end 2 (fun _ => rfl)
  · have ha2 := ha.2 hc
    subst ha2
    exact ev_end 1 (fun _ => rfl)
