set_option maxRecDepth 8000 in
theorem st275_86_0 (N : Nat) (X : Nat → Int) (d : Nat) (x1 x2 : Int) (U : Nat → Nat → Int) (R : Option am_V × am_M) (h : (0 ≤ (w32 ((w32 (8 * (U 86 13))) + x1)) ∧ (w32 ((w32 (8 * (U 86 13))) + x1)) < 16) ∧ ∃ (r1 : Int) (U1 : Nat → Nat → Int), Ev (am_kz N X) (d, 200, 0, [some (.inr (.inr 86)), some (.inl 1), some (.inl x2)], [], (am_sh, am_mm U)) (some (.inl r1), (am_sh, am_mm U1)) ∧ (((¬ r1 = (-1) : Prop)) → (((¬ (U 101 (w32 ((w32 (8 * (U 86 13))) + x1)).toNat) = 0 : Prop)) → Ev (am_kz N X) ((d + 1), 275, 54, [some (.inr (.inr 86)), some (.inl x1), some (.inl x2), some (.inl (U 101 (w32 ((w32 (8 * (U 86 13))) + x1)).toNat)), some (.inl r1), some (.inl 0), none, none], [], (am_sh, am_mm U1)) R) ∧ (¬ (¬ (U 101 (w32 ((w32 (8 * (U 86 13))) + x1)).toNat) = 0) → ∃ (r2 : Int) (U2 : Nat → Nat → Int), Ev (am_kz N X) (d, 311, 0, [some (.inr (.inr 86)), some (.inl x1), some (.inl x2), some (.inl (-1)), none, none], [], (am_sh, am_mm U1)) (some (.inl r2), (am_sh, am_mm U2)) ∧ (((¬ r2 = 0 : Prop)) → R = (some (.inl 0), (am_sh, am_mm U2))) ∧ (¬ (¬ r2 = 0) → R = (some (.inl 1), (am_sh, am_mm U2))))) ∧ (¬ (¬ r1 = (-1)) → R = (some (.inl 0), (am_sh, am_mm U1)))) : Ev (am_kz N X) ((d + 1), 275, 0, [some (.inr (.inr 86)), some (.inl x1), some (.inl x2), none, none, none, none, none], [], (am_sh, am_mm U)) R := by
  refine ev_seg (σ1 := ((d + 1), 275, 13, [some (.inr (.inr 86)), some (.inl x1), some (.inl x2), none, none, none, none, none], [.inl (w32 ((w32 (8 * (U 86 13))) + x1)), .inr (.inr 101)], (am_sh, am_mm U))) 8 (fun _ => rfl) ?_
  refine eu_iald 101 (n := 16) rfl (by decide) rfl (fun _ => rfl) h.1 ?_
  have ha := h.2
  refine ev_seg (σ1 := ((d + 1), 275, 18, [some (.inr (.inr 86)), some (.inl x1), some (.inl x2), some (.inl (U 101 (w32 ((w32 (8 * (U 86 13))) + x1)).toNat)), none, none, none, none], [.inl x2, .inl 1, .inr (.inr 86)], (am_sh, am_mm U))) 4 (fun _ => rfl) ?_
  obtain ⟨r1, U1, hac, haa⟩ := ha
  refine ev_cal (σc := (d, 200, 0, [some (.inr (.inr 86)), some (.inl 1), some (.inl x2)], [], (am_sh, am_mm U))) (fun _ => rfl) hac ?_
  show Ev (am_kz N X) ((d + 1), 275, 21, [some (.inr (.inr 86)), some (.inl x1), some (.inl x2), some (.inl (U 101 (w32 ((w32 (8 * (U 86 13))) + x1)).toNat)), none, none, none, none], [.inl r1], (am_sh, am_mm U1)) R
  refine ev_br (P := ¬ r1 = (-1)) (σ1 := ((d + 1), 275, 31, [some (.inr (.inr 86)), some (.inl x1), some (.inl x2), some (.inl (U 101 (w32 ((w32 (8 * (U 86 13))) + x1)).toNat)), some (.inl r1), none, none, none], [], (am_sh, am_mm U1))) (σ2 := ((d + 1), 275, 29, [some (.inr (.inr 86)), some (.inl x1), some (.inl x2), some (.inl (U 101 (w32 ((w32 (8 * (U 86 13))) + x1)).toNat)), some (.inl r1), none, none, none], [], (am_sh, am_mm U1))) 4 (fun _ => rfl) (fun hc => ?_) (fun hc => ?_)
  · have haa1 := haa.1 hc
    refine ev_br (P := ¬ (U 101 (w32 ((w32 (8 * (U 86 13))) + x1)).toNat) = 0) (σ1 := ((d + 1), 275, 51, [some (.inr (.inr 86)), some (.inl x1), some (.inl x2), some (.inl (U 101 (w32 ((w32 (8 * (U 86 13))) + x1)).toNat)), some (.inl r1), none, none, none], [], (am_sh, am_mm U1))) (σ2 := ((d + 1), 275, 35, [some (.inr (.inr 86)), some (.inl x1), some (.inl x2), some (.inl (U 101 (w32 ((w32 (8 * (U 86 13))) + x1)).toNat)), some (.inl r1), none, none, none], [], (am_sh, am_mm U1))) 2 (fun _ => rfl) (fun hc => ?_) (fun hc => ?_)
    · have haa11 := haa1.1 hc
      refine ev_seg (σ1 := ((d + 1), 275, 54, [some (.inr (.inr 86)), some (.inl x1), some (.inl x2), some (.inl (U 101 (w32 ((w32 (8 * (U 86 13))) + x1)).toNat)), some (.inl r1), some (.inl 0), none, none], [], (am_sh, am_mm U1))) 2 (fun _ => rfl) ?_
      exact haa11
    · have haa12 := haa1.2 hc
      refine ev_seg (σ1 := ((d + 1), 275, 39, [some (.inr (.inr 86)), some (.inl x1), some (.inl x2), some (.inl (U 101 (w32 ((w32 (8 * (U 86 13))) + x1)).toNat)), some (.inl r1), none, none, none], [.inl (-1), .inl x2, .inl x1, .inr (.inr 86)], (am_sh, am_mm U1))) 4 (fun _ => rfl) ?_
      obtain ⟨r2, U2, haa12c, haa12a⟩ := haa12
      refine ev_cal (σc := (d, 311, 0, [some (.inr (.inr 86)), some (.inl x1), some (.inl x2), some (.inl (-1)), none, none], [], (am_sh, am_mm U1))) (fun _ => rfl) haa12c ?_
      show Ev (am_kz N X) ((d + 1), 275, 42, [some (.inr (.inr 86)), some (.inl x1), some (.inl x2), some (.inl (U 101 (w32 ((w32 (8 * (U 86 13))) + x1)).toNat)), some (.inl r1), none, none, none], [.inl r2], (am_sh, am_mm U2)) R
      refine ev_br (P := ¬ r2 = 0) (σ1 := ((d + 1), 275, 49, [some (.inr (.inr 86)), some (.inl x1), some (.inl x2), some (.inl (U 101 (w32 ((w32 (8 * (U 86 13))) + x1)).toNat)), some (.inl r1), none, none, none], [], (am_sh, am_mm U2))) (σ2 := ((d + 1), 275, 45, [some (.inr (.inr 86)), some (.inl x1), some (.inl x2), some (.inl (U 101 (w32 ((w32 (8 * (U 86 13))) + x1)).toNat)), some (.inl r1), none, none, none], [], (am_sh, am_mm U2))) 1 (fun _ => rfl) (fun hc => ?_) (fun hc => ?_)
      · have haa12a1 := haa12a.1 hc
        subst haa12a1
        exact ev_end 2 (fun _ => rfl)
      · have haa12a2 := haa12a.2 hc
        subst haa12a2
        exact ev_end 3 (fun _ => rfl)
  · have haa2 := haa.2 hc
    subst haa2
    exact ev_end 2 (fun _ => rfl)
set_option maxRecDepth 8000 in
theorem st275_86_54 (N : Nat) (X : Nat → Int) (d : Nat) (x1 x2 x3 x4 x5 : Int) (U : Nat → Nat → Int) (R : Option am_V × am_M) (h : ((((U 122 1) ≤ x5 : Prop)) → R = (some (.inl 0), (am_sh, am_mm U))) ∧ (¬ ((U 122 1) ≤ x5) → ∃ (r1 : Int) (U1 : Nat → Nat → Int), Ev (am_kz N X) (d, 200, 0, [some (.inr (.inr 86)), some (.inl 1), some (.inl x5)], [], (am_sh, am_mm U)) (some (.inl r1), (am_sh, am_mm U1)) ∧ (((x5 = x2 : Prop)) → (((0 = 0 : Prop)) → Ev (am_kz N X) ((d + 1), 275, 54, [some (.inr (.inr 86)), some (.inl x1), some (.inl x2), some (.inl x3), some (.inl x4), some (.inl (w32 (x5 + 1))), some (.inl r1), some (.inl 0)], [], (am_sh, am_mm U1)) R) ∧ (¬ (0 = 0) → ∃ (r2 : Int) (U2 : Nat → Nat → Int), Ev (am_kz N X) (d, 311, 0, [some (.inr (.inr 86)), some (.inl x1), some (.inl x2), some (.inl x5), none, none], [], (am_sh, am_mm U1)) (some (.inl r2), (am_sh, am_mm U2)) ∧ (((¬ r2 = 0 : Prop)) → Ev (am_kz N X) ((d + 1), 275, 54, [some (.inr (.inr 86)), some (.inl x1), some (.inl x2), some (.inl x3), some (.inl x4), some (.inl (w32 (x5 + 1))), some (.inl r1), some (.inl 0)], [], (am_sh, am_mm U2)) R) ∧ (¬ (¬ r2 = 0) → R = (some (.inl 1), (am_sh, am_mm U2))))) ∧ (¬ (x5 = x2) → (((r1 = (-1) : Prop)) → (((0 = 0 : Prop)) → Ev (am_kz N X) ((d + 1), 275, 54, [some (.inr (.inr 86)), some (.inl x1), some (.inl x2), some (.inl x3), some (.inl x4), some (.inl (w32 (x5 + 1))), some (.inl r1), some (.inl 0)], [], (am_sh, am_mm U1)) R) ∧ (¬ (0 = 0) → ∃ (r3 : Int) (U3 : Nat → Nat → Int), Ev (am_kz N X) (d, 311, 0, [some (.inr (.inr 86)), some (.inl x1), some (.inl x2), some (.inl x5), none, none], [], (am_sh, am_mm U1)) (some (.inl r3), (am_sh, am_mm U3)) ∧ (((¬ r3 = 0 : Prop)) → Ev (am_kz N X) ((d + 1), 275, 54, [some (.inr (.inr 86)), some (.inl x1), some (.inl x2), some (.inl x3), some (.inl x4), some (.inl (w32 (x5 + 1))), some (.inl r1), some (.inl 0)], [], (am_sh, am_mm U3)) R) ∧ (¬ (¬ r3 = 0) → R = (some (.inl 1), (am_sh, am_mm U3))))) ∧ (¬ (r1 = (-1)) → (((¬ x3 = 2 : Prop)) → (0 ≤ (w32 ((w32 (12 * x4)) + r1)) ∧ (w32 ((w32 (12 * x4)) + r1)) < 144) ∧ ((((U1 129 (w32 ((w32 (12 * x4)) + r1)).toNat) = 0 : Prop)) → (((0 = 0 : Prop)) → Ev (am_kz N X) ((d + 1), 275, 54, [some (.inr (.inr 86)), some (.inl x1), some (.inl x2), some (.inl x3), some (.inl x4), some (.inl (w32 (x5 + 1))), some (.inl r1), some (.inl 0)], [], (am_sh, am_mm U1)) R) ∧ (¬ (0 = 0) → ∃ (r4 : Int) (U4 : Nat → Nat → Int), Ev (am_kz N X) (d, 311, 0, [some (.inr (.inr 86)), some (.inl x1), some (.inl x2), some (.inl x5), none, none], [], (am_sh, am_mm U1)) (some (.inl r4), (am_sh, am_mm U4)) ∧ (((¬ r4 = 0 : Prop)) → Ev (am_kz N X) ((d + 1), 275, 54, [some (.inr (.inr 86)), some (.inl x1), some (.inl x2), some (.inl x3), some (.inl x4), some (.inl (w32 (x5 + 1))), some (.inl r1), some (.inl 0)], [], (am_sh, am_mm U4)) R) ∧ (¬ (¬ r4 = 0) → R = (some (.inl 1), (am_sh, am_mm U4))))) ∧ (¬ ((U1 129 (w32 ((w32 (12 * x4)) + r1)).toNat) = 0) → (((1 = 0 : Prop)) → Ev (am_kz N X) ((d + 1), 275, 54, [some (.inr (.inr 86)), some (.inl x1), some (.inl x2), some (.inl x3), some (.inl x4), some (.inl (w32 (x5 + 1))), some (.inl r1), some (.inl 1)], [], (am_sh, am_mm U1)) R) ∧ (¬ (1 = 0) → ∃ (r5 : Int) (U5 : Nat → Nat → Int), Ev (am_kz N X) (d, 311, 0, [some (.inr (.inr 86)), some (.inl x1), some (.inl x2), some (.inl x5), none, none], [], (am_sh, am_mm U1)) (some (.inl r5), (am_sh, am_mm U5)) ∧ (((¬ r5 = 0 : Prop)) → Ev (am_kz N X) ((d + 1), 275, 54, [some (.inr (.inr 86)), some (.inl x1), some (.inl x2), some (.inl x3), some (.inl x4), some (.inl (w32 (x5 + 1))), some (.inl r1), some (.inl 1)], [], (am_sh, am_mm U5)) R) ∧ (¬ (¬ r5 = 0) → R = (some (.inl 1), (am_sh, am_mm U5)))))) ∧ (¬ (¬ x3 = 2) → (((¬ r1 = x4 : Prop)) → (((0 = 0 : Prop)) → Ev (am_kz N X) ((d + 1), 275, 54, [some (.inr (.inr 86)), some (.inl x1), some (.inl x2), some (.inl x3), some (.inl x4), some (.inl (w32 (x5 + 1))), some (.inl r1), some (.inl 0)], [], (am_sh, am_mm U1)) R) ∧ (¬ (0 = 0) → ∃ (r6 : Int) (U6 : Nat → Nat → Int), Ev (am_kz N X) (d, 311, 0, [some (.inr (.inr 86)), some (.inl x1), some (.inl x2), some (.inl x5), none, none], [], (am_sh, am_mm U1)) (some (.inl r6), (am_sh, am_mm U6)) ∧ (((¬ r6 = 0 : Prop)) → Ev (am_kz N X) ((d + 1), 275, 54, [some (.inr (.inr 86)), some (.inl x1), some (.inl x2), some (.inl x3), some (.inl x4), some (.inl (w32 (x5 + 1))), some (.inl r1), some (.inl 0)], [], (am_sh, am_mm U6)) R) ∧ (¬ (¬ r6 = 0) → R = (some (.inl 1), (am_sh, am_mm U6))))) ∧ (¬ (¬ r1 = x4) → (((1 = 0 : Prop)) → Ev (am_kz N X) ((d + 1), 275, 54, [some (.inr (.inr 86)), some (.inl x1), some (.inl x2), some (.inl x3), some (.inl x4), some (.inl (w32 (x5 + 1))), some (.inl r1), some (.inl 1)], [], (am_sh, am_mm U1)) R) ∧ (¬ (1 = 0) → ∃ (r7 : Int) (U7 : Nat → Nat → Int), Ev (am_kz N X) (d, 311, 0, [some (.inr (.inr 86)), some (.inl x1), some (.inl x2), some (.inl x5), none, none], [], (am_sh, am_mm U1)) (some (.inl r7), (am_sh, am_mm U7)) ∧ (((¬ r7 = 0 : Prop)) → Ev (am_kz N X) ((d + 1), 275, 54, [some (.inr (.inr 86)), some (.inl x1), some (.inl x2), some (.inl x3), some (.inl x4), some (.inl (w32 (x5 + 1))), some (.inl r1), some (.inl 1)], [], (am_sh, am_mm U7)) R) ∧ (¬ (¬ r7 = 0) → R = (some (.inl 1), (am_sh, am_mm U7)))))))))) : Ev (am_kz N X) ((d + 1), 275, 54, [some (.inr (.inr 86)), some (.inl x1), some (.inl x2), some (.inl x3), some (.inl x4), some (.inl x5), none, none], [], (am_sh, am_mm U)) R := by
  refine ev_seg (σ1 := ((d + 1), 275, 61, [some (.inr (.inr 86)), some (.inl x1), some (.inl x2), some (.inl x3), some (.inl x4), some (.inl x5), none, none], [.inl 1, .inr (.inr 122), .inl x5], (am_sh, am_mm U))) 4 (fun _ => rfl) ?_
  refine eu_iald 122 (n := 22) rfl (by decide) rfl (fun _ => rfl) (by decide) ?_
  show Ev (am_kz N X) ((d + 1), 275, 62, [some (.inr (.inr 86)), some (.inl x1), some (.inl x2), some (.inl x3), some (.inl x4), some (.inl x5), none, none], [.inl (U 122 1), .inl x5], (am_sh, am_mm U)) R
  refine ev_br (P := (U 122 1) ≤ x5) (σ1 := ((d + 1), 275, 148, [some (.inr (.inr 86)), some (.inl x1), some (.inl x2), some (.inl x3), some (.inl x4), some (.inl x5), none, none], [], (am_sh, am_mm U))) (σ2 := ((d + 1), 275, 65, [some (.inr (.inr 86)), some (.inl x1), some (.inl x2), some (.inl x3), some (.inl x4), some (.inl x5), none, none], [], (am_sh, am_mm U))) 1 (fun _ => rfl) (fun hc => ?_) (fun hc => ?_)
  · have h1 := h.1 hc
    subst h1
    exact ev_end 2 (fun _ => rfl)
  · have h2 := h.2 hc
    refine ev_seg (σ1 := ((d + 1), 275, 69, [some (.inr (.inr 86)), some (.inl x1), some (.inl x2), some (.inl x3), some (.inl x4), some (.inl x5), none, none], [.inl x5, .inl 1, .inr (.inr 86)], (am_sh, am_mm U))) 3 (fun _ => rfl) ?_
    obtain ⟨r1, U1, h2c, h2a⟩ := h2
    refine ev_cal (σc := (d, 200, 0, [some (.inr (.inr 86)), some (.inl 1), some (.inl x5)], [], (am_sh, am_mm U))) (fun _ => rfl) h2c ?_
    show Ev (am_kz N X) ((d + 1), 275, 72, [some (.inr (.inr 86)), some (.inl x1), some (.inl x2), some (.inl x3), some (.inl x4), some (.inl x5), none, none], [.inl r1], (am_sh, am_mm U1)) R
    refine ev_br (P := x5 = x2) (σ1 := ((d + 1), 275, 121, [some (.inr (.inr 86)), some (.inl x1), some (.inl x2), some (.inl x3), some (.inl x4), some (.inl x5), some (.inl r1), none], [], (am_sh, am_mm U1))) (σ2 := ((d + 1), 275, 80, [some (.inr (.inr 86)), some (.inl x1), some (.inl x2), some (.inl x3), some (.inl x4), some (.inl x5), some (.inl r1), none], [], (am_sh, am_mm U1))) 4 (fun _ => rfl) (fun hc => ?_) (fun hc => ?_)
    · have h2a1 := h2a.1 hc
      refine ev_br (P := 0 = 0) (σ1 := ((d + 1), 275, 142, [some (.inr (.inr 86)), some (.inl x1), some (.inl x2), some (.inl x3), some (.inl x4), some (.inl x5), some (.inl r1), some (.inl 0)], [], (am_sh, am_mm U1))) (σ2 := ((d + 1), 275, 129, [some (.inr (.inr 86)), some (.inl x1), some (.inl x2), some (.inl x3), some (.inl x4), some (.inl x5), some (.inl r1), some (.inl 0)], [], (am_sh, am_mm U1))) 4 (fun _ => rfl) (fun hc => ?_) (fun hc => ?_)
      · have h2a11 := h2a1.1 hc
        refine ev_seg (σ1 := ((d + 1), 275, 54, [some (.inr (.inr 86)), some (.inl x1), some (.inl x2), some (.inl x3), some (.inl x4), some (.inl (w32 (x5 + 1))), some (.inl r1), some (.inl 0)], [], (am_sh, am_mm U1))) 2 (fun _ => rfl) ?_
        exact h2a11
      · have h2a12 := h2a1.2 hc
        refine ev_seg (σ1 := ((d + 1), 275, 134, [some (.inr (.inr 86)), some (.inl x1), some (.inl x2), some (.inl x3), some (.inl x4), some (.inl x5), some (.inl r1), some (.inl 0)], [.inl x5, .inl x2, .inl x1, .inr (.inr 86)], (am_sh, am_mm U1))) 4 (fun _ => rfl) ?_
        obtain ⟨r2, U2, h2a12c, h2a12a⟩ := h2a12
        refine ev_cal (σc := (d, 311, 0, [some (.inr (.inr 86)), some (.inl x1), some (.inl x2), some (.inl x5), none, none], [], (am_sh, am_mm U1))) (fun _ => rfl) h2a12c ?_
        show Ev (am_kz N X) ((d + 1), 275, 137, [some (.inr (.inr 86)), some (.inl x1), some (.inl x2), some (.inl x3), some (.inl x4), some (.inl x5), some (.inl r1), some (.inl 0)], [.inl r2], (am_sh, am_mm U2)) R
        refine ev_br (P := ¬ r2 = 0) (σ1 := ((d + 1), 275, 142, [some (.inr (.inr 86)), some (.inl x1), some (.inl x2), some (.inl x3), some (.inl x4), some (.inl x5), some (.inl r1), some (.inl 0)], [], (am_sh, am_mm U2))) (σ2 := ((d + 1), 275, 140, [some (.inr (.inr 86)), some (.inl x1), some (.inl x2), some (.inl x3), some (.inl x4), some (.inl x5), some (.inl r1), some (.inl 0)], [], (am_sh, am_mm U2))) 1 (fun _ => rfl) (fun hc => ?_) (fun hc => ?_)
        · have h2a12a1 := h2a12a.1 hc
          refine ev_seg (σ1 := ((d + 1), 275, 54, [some (.inr (.inr 86)), some (.inl x1), some (.inl x2), some (.inl x3), some (.inl x4), some (.inl (w32 (x5 + 1))), some (.inl r1), some (.inl 0)], [], (am_sh, am_mm U2))) 2 (fun _ => rfl) ?_
          exact h2a12a1
        · have h2a12a2 := h2a12a.2 hc
          subst h2a12a2
          exact ev_end 2 (fun _ => rfl)
    · have h2a2 := h2a.2 hc
      refine ev_br (P := r1 = (-1)) (σ1 := ((d + 1), 275, 121, [some (.inr (.inr 86)), some (.inl x1), some (.inl x2), some (.inl x3), some (.inl x4), some (.inl x5), some (.inl r1), none], [], (am_sh, am_mm U1))) (σ2 := ((d + 1), 275, 86, [some (.inr (.inr 86)), some (.inl x1), some (.inl x2), some (.inl x3), some (.inl x4), some (.inl x5), some (.inl r1), none], [], (am_sh, am_mm U1))) 3 (fun _ => rfl) (fun hc => ?_) (fun hc => ?_)
      · have h2a21 := h2a2.1 hc
        refine ev_br (P := 0 = 0) (σ1 := ((d + 1), 275, 142, [some (.inr (.inr 86)), some (.inl x1), some (.inl x2), some (.inl x3), some (.inl x4), some (.inl x5), some (.inl r1), some (.inl 0)], [], (am_sh, am_mm U1))) (σ2 := ((d + 1), 275, 129, [some (.inr (.inr 86)), some (.inl x1), some (.inl x2), some (.inl x3), some (.inl x4), some (.inl x5), some (.inl r1), some (.inl 0)], [], (am_sh, am_mm U1))) 4 (fun _ => rfl) (fun hc => ?_) (fun hc => ?_)
        · have h2a211 := h2a21.1 hc
          refine ev_seg (σ1 := ((d + 1), 275, 54, [some (.inr (.inr 86)), some (.inl x1), some (.inl x2), some (.inl x3), some (.inl x4), some (.inl (w32 (x5 + 1))), some (.inl r1), some (.inl 0)], [], (am_sh, am_mm U1))) 2 (fun _ => rfl) ?_
          exact h2a211
        · have h2a212 := h2a21.2 hc
          refine ev_seg (σ1 := ((d + 1), 275, 134, [some (.inr (.inr 86)), some (.inl x1), some (.inl x2), some (.inl x3), some (.inl x4), some (.inl x5), some (.inl r1), some (.inl 0)], [.inl x5, .inl x2, .inl x1, .inr (.inr 86)], (am_sh, am_mm U1))) 4 (fun _ => rfl) ?_
          obtain ⟨r3, U3, h2a212c, h2a212a⟩ := h2a212
          refine ev_cal (σc := (d, 311, 0, [some (.inr (.inr 86)), some (.inl x1), some (.inl x2), some (.inl x5), none, none], [], (am_sh, am_mm U1))) (fun _ => rfl) h2a212c ?_
          show Ev (am_kz N X) ((d + 1), 275, 137, [some (.inr (.inr 86)), some (.inl x1), some (.inl x2), some (.inl x3), some (.inl x4), some (.inl x5), some (.inl r1), some (.inl 0)], [.inl r3], (am_sh, am_mm U3)) R
          refine ev_br (P := ¬ r3 = 0) (σ1 := ((d + 1), 275, 142, [some (.inr (.inr 86)), some (.inl x1), some (.inl x2), some (.inl x3), some (.inl x4), some (.inl x5), some (.inl r1), some (.inl 0)], [], (am_sh, am_mm U3))) (σ2 := ((d + 1), 275, 140, [some (.inr (.inr 86)), some (.inl x1), some (.inl x2), some (.inl x3), some (.inl x4), some (.inl x5), some (.inl r1), some (.inl 0)], [], (am_sh, am_mm U3))) 1 (fun _ => rfl) (fun hc => ?_) (fun hc => ?_)
          · have h2a212a1 := h2a212a.1 hc
            refine ev_seg (σ1 := ((d + 1), 275, 54, [some (.inr (.inr 86)), some (.inl x1), some (.inl x2), some (.inl x3), some (.inl x4), some (.inl (w32 (x5 + 1))), some (.inl r1), some (.inl 0)], [], (am_sh, am_mm U3))) 2 (fun _ => rfl) ?_
            exact h2a212a1
          · have h2a212a2 := h2a212a.2 hc
            subst h2a212a2
            exact ev_end 2 (fun _ => rfl)
      · have h2a22 := h2a2.2 hc
        refine ev_br (P := ¬ x3 = 2) (σ1 := ((d + 1), 275, 101, [some (.inr (.inr 86)), some (.inl x1), some (.inl x2), some (.inl x3), some (.inl x4), some (.inl x5), some (.inl r1), none], [], (am_sh, am_mm U1))) (σ2 := ((d + 1), 275, 91, [some (.inr (.inr 86)), some (.inl x1), some (.inl x2), some (.inl x3), some (.inl x4), some (.inl x5), some (.inl r1), none], [], (am_sh, am_mm U1))) 3 (fun _ => rfl) (fun hc => ?_) (fun hc => ?_)
        · have h2a221 := h2a22.1 hc
          refine ev_seg (σ1 := ((d + 1), 275, 113, [some (.inr (.inr 86)), some (.inl x1), some (.inl x2), some (.inl x3), some (.inl x4), some (.inl x5), some (.inl r1), none], [.inl (w32 ((w32 (12 * x4)) + r1)), .inr (.inr 129)], (am_sh, am_mm U1))) 7 (fun _ => rfl) ?_
          refine eu_zald 129 (n := 144) rfl (by decide) rfl (fun _ => rfl) h2a221.1 ?_
          have h2a221a := h2a221.2
          refine ev_br (P := (U1 129 (w32 ((w32 (12 * x4)) + r1)).toNat) = 0) (σ1 := ((d + 1), 275, 121, [some (.inr (.inr 86)), some (.inl x1), some (.inl x2), some (.inl x3), some (.inl x4), some (.inl x5), some (.inl r1), none], [], (am_sh, am_mm U1))) (σ2 := ((d + 1), 275, 117, [some (.inr (.inr 86)), some (.inl x1), some (.inl x2), some (.inl x3), some (.inl x4), some (.inl x5), some (.inl r1), none], [], (am_sh, am_mm U1))) 1 (fun _ => rfl) (fun hc => ?_) (fun hc => ?_)
          · have h2a221a1 := h2a221a.1 hc
            refine ev_br (P := 0 = 0) (σ1 := ((d + 1), 275, 142, [some (.inr (.inr 86)), some (.inl x1), some (.inl x2), some (.inl x3), some (.inl x4), some (.inl x5), some (.inl r1), some (.inl 0)], [], (am_sh, am_mm U1))) (σ2 := ((d + 1), 275, 129, [some (.inr (.inr 86)), some (.inl x1), some (.inl x2), some (.inl x3), some (.inl x4), some (.inl x5), some (.inl r1), some (.inl 0)], [], (am_sh, am_mm U1))) 4 (fun _ => rfl) (fun hc => ?_) (fun hc => ?_)
            · have h2a221a11 := h2a221a1.1 hc
              refine ev_seg (σ1 := ((d + 1), 275, 54, [some (.inr (.inr 86)), some (.inl x1), some (.inl x2), some (.inl x3), some (.inl x4), some (.inl (w32 (x5 + 1))), some (.inl r1), some (.inl 0)], [], (am_sh, am_mm U1))) 2 (fun _ => rfl) ?_
              exact h2a221a11
            · have h2a221a12 := h2a221a1.2 hc
              refine ev_seg (σ1 := ((d + 1), 275, 134, [some (.inr (.inr 86)), some (.inl x1), some (.inl x2), some (.inl x3), some (.inl x4), some (.inl x5), some (.inl r1), some (.inl 0)], [.inl x5, .inl x2, .inl x1, .inr (.inr 86)], (am_sh, am_mm U1))) 4 (fun _ => rfl) ?_
              obtain ⟨r4, U4, h2a221a12c, h2a221a12a⟩ := h2a221a12
              refine ev_cal (σc := (d, 311, 0, [some (.inr (.inr 86)), some (.inl x1), some (.inl x2), some (.inl x5), none, none], [], (am_sh, am_mm U1))) (fun _ => rfl) h2a221a12c ?_
              show Ev (am_kz N X) ((d + 1), 275, 137, [some (.inr (.inr 86)), some (.inl x1), some (.inl x2), some (.inl x3), some (.inl x4), some (.inl x5), some (.inl r1), some (.inl 0)], [.inl r4], (am_sh, am_mm U4)) R
              refine ev_br (P := ¬ r4 = 0) (σ1 := ((d + 1), 275, 142, [some (.inr (.inr 86)), some (.inl x1), some (.inl x2), some (.inl x3), some (.inl x4), some (.inl x5), some (.inl r1), some (.inl 0)], [], (am_sh, am_mm U4))) (σ2 := ((d + 1), 275, 140, [some (.inr (.inr 86)), some (.inl x1), some (.inl x2), some (.inl x3), some (.inl x4), some (.inl x5), some (.inl r1), some (.inl 0)], [], (am_sh, am_mm U4))) 1 (fun _ => rfl) (fun hc => ?_) (fun hc => ?_)
              · have h2a221a12a1 := h2a221a12a.1 hc
                refine ev_seg (σ1 := ((d + 1), 275, 54, [some (.inr (.inr 86)), some (.inl x1), some (.inl x2), some (.inl x3), some (.inl x4), some (.inl (w32 (x5 + 1))), some (.inl r1), some (.inl 0)], [], (am_sh, am_mm U4))) 2 (fun _ => rfl) ?_
                exact h2a221a12a1
              · have h2a221a12a2 := h2a221a12a.2 hc
                subst h2a221a12a2
                exact ev_end 2 (fun _ => rfl)
          · have h2a221a2 := h2a221a.2 hc
            refine ev_br (P := 1 = 0) (σ1 := ((d + 1), 275, 142, [some (.inr (.inr 86)), some (.inl x1), some (.inl x2), some (.inl x3), some (.inl x4), some (.inl x5), some (.inl r1), some (.inl 1)], [], (am_sh, am_mm U1))) (σ2 := ((d + 1), 275, 129, [some (.inr (.inr 86)), some (.inl x1), some (.inl x2), some (.inl x3), some (.inl x4), some (.inl x5), some (.inl r1), some (.inl 1)], [], (am_sh, am_mm U1))) 5 (fun _ => rfl) (fun hc => ?_) (fun hc => ?_)
            · have h2a221a21 := h2a221a2.1 hc
              refine ev_seg (σ1 := ((d + 1), 275, 54, [some (.inr (.inr 86)), some (.inl x1), some (.inl x2), some (.inl x3), some (.inl x4), some (.inl (w32 (x5 + 1))), some (.inl r1), some (.inl 1)], [], (am_sh, am_mm U1))) 2 (fun _ => rfl) ?_
              exact h2a221a21
            · have h2a221a22 := h2a221a2.2 hc
              refine ev_seg (σ1 := ((d + 1), 275, 134, [some (.inr (.inr 86)), some (.inl x1), some (.inl x2), some (.inl x3), some (.inl x4), some (.inl x5), some (.inl r1), some (.inl 1)], [.inl x5, .inl x2, .inl x1, .inr (.inr 86)], (am_sh, am_mm U1))) 4 (fun _ => rfl) ?_
              obtain ⟨r5, U5, h2a221a22c, h2a221a22a⟩ := h2a221a22
              refine ev_cal (σc := (d, 311, 0, [some (.inr (.inr 86)), some (.inl x1), some (.inl x2), some (.inl x5), none, none], [], (am_sh, am_mm U1))) (fun _ => rfl) h2a221a22c ?_
              show Ev (am_kz N X) ((d + 1), 275, 137, [some (.inr (.inr 86)), some (.inl x1), some (.inl x2), some (.inl x3), some (.inl x4), some (.inl x5), some (.inl r1), some (.inl 1)], [.inl r5], (am_sh, am_mm U5)) R
              refine ev_br (P := ¬ r5 = 0) (σ1 := ((d + 1), 275, 142, [some (.inr (.inr 86)), some (.inl x1), some (.inl x2), some (.inl x3), some (.inl x4), some (.inl x5), some (.inl r1), some (.inl 1)], [], (am_sh, am_mm U5))) (σ2 := ((d + 1), 275, 140, [some (.inr (.inr 86)), some (.inl x1), some (.inl x2), some (.inl x3), some (.inl x4), some (.inl x5), some (.inl r1), some (.inl 1)], [], (am_sh, am_mm U5))) 1 (fun _ => rfl) (fun hc => ?_) (fun hc => ?_)
              · have h2a221a22a1 := h2a221a22a.1 hc
                refine ev_seg (σ1 := ((d + 1), 275, 54, [some (.inr (.inr 86)), some (.inl x1), some (.inl x2), some (.inl x3), some (.inl x4), some (.inl (w32 (x5 + 1))), some (.inl r1), some (.inl 1)], [], (am_sh, am_mm U5))) 2 (fun _ => rfl) ?_
                exact h2a221a22a1
              · have h2a221a22a2 := h2a221a22a.2 hc
                subst h2a221a22a2
                exact ev_end 2 (fun _ => rfl)
        · have h2a222 := h2a22.2 hc
          refine ev_br (P := ¬ r1 = x4) (σ1 := ((d + 1), 275, 121, [some (.inr (.inr 86)), some (.inl x1), some (.inl x2), some (.inl x3), some (.inl x4), some (.inl x5), some (.inl r1), none], [], (am_sh, am_mm U1))) (σ2 := ((d + 1), 275, 98, [some (.inr (.inr 86)), some (.inl x1), some (.inl x2), some (.inl x3), some (.inl x4), some (.inl x5), some (.inl r1), none], [], (am_sh, am_mm U1))) 3 (fun _ => rfl) (fun hc => ?_) (fun hc => ?_)
          · have h2a2221 := h2a222.1 hc
            refine ev_br (P := 0 = 0) (σ1 := ((d + 1), 275, 142, [some (.inr (.inr 86)), some (.inl x1), some (.inl x2), some (.inl x3), some (.inl x4), some (.inl x5), some (.inl r1), some (.inl 0)], [], (am_sh, am_mm U1))) (σ2 := ((d + 1), 275, 129, [some (.inr (.inr 86)), some (.inl x1), some (.inl x2), some (.inl x3), some (.inl x4), some (.inl x5), some (.inl r1), some (.inl 0)], [], (am_sh, am_mm U1))) 4 (fun _ => rfl) (fun hc => ?_) (fun hc => ?_)
            · have h2a22211 := h2a2221.1 hc
              refine ev_seg (σ1 := ((d + 1), 275, 54, [some (.inr (.inr 86)), some (.inl x1), some (.inl x2), some (.inl x3), some (.inl x4), some (.inl (w32 (x5 + 1))), some (.inl r1), some (.inl 0)], [], (am_sh, am_mm U1))) 2 (fun _ => rfl) ?_
              exact h2a22211
            · have h2a22212 := h2a2221.2 hc
              refine ev_seg (σ1 := ((d + 1), 275, 134, [some (.inr (.inr 86)), some (.inl x1), some (.inl x2), some (.inl x3), some (.inl x4), some (.inl x5), some (.inl r1), some (.inl 0)], [.inl x5, .inl x2, .inl x1, .inr (.inr 86)], (am_sh, am_mm U1))) 4 (fun _ => rfl) ?_
              obtain ⟨r6, U6, h2a22212c, h2a22212a⟩ := h2a22212
              refine ev_cal (σc := (d, 311, 0, [some (.inr (.inr 86)), some (.inl x1), some (.inl x2), some (.inl x5), none, none], [], (am_sh, am_mm U1))) (fun _ => rfl) h2a22212c ?_
              show Ev (am_kz N X) ((d + 1), 275, 137, [some (.inr (.inr 86)), some (.inl x1), some (.inl x2), some (.inl x3), some (.inl x4), some (.inl x5), some (.inl r1), some (.inl 0)], [.inl r6], (am_sh, am_mm U6)) R
              refine ev_br (P := ¬ r6 = 0) (σ1 := ((d + 1), 275, 142, [some (.inr (.inr 86)), some (.inl x1), some (.inl x2), some (.inl x3), some (.inl x4), some (.inl x5), some (.inl r1), some (.inl 0)], [], (am_sh, am_mm U6))) (σ2 := ((d + 1), 275, 140, [some (.inr (.inr 86)), some (.inl x1), some (.inl x2), some (.inl x3), some (.inl x4), some (.inl x5), some (.inl r1), some (.inl 0)], [], (am_sh, am_mm U6))) 1 (fun _ => rfl) (fun hc => ?_) (fun hc => ?_)
              · have h2a22212a1 := h2a22212a.1 hc
                refine ev_seg (σ1 := ((d + 1), 275, 54, [some (.inr (.inr 86)), some (.inl x1), some (.inl x2), some (.inl x3), some (.inl x4), some (.inl (w32 (x5 + 1))), some (.inl r1), some (.inl 0)], [], (am_sh, am_mm U6))) 2 (fun _ => rfl) ?_
                exact h2a22212a1
              · have h2a22212a2 := h2a22212a.2 hc
                subst h2a22212a2
                exact ev_end 2 (fun _ => rfl)
          · have h2a2222 := h2a222.2 hc
            refine ev_br (P := 1 = 0) (σ1 := ((d + 1), 275, 142, [some (.inr (.inr 86)), some (.inl x1), some (.inl x2), some (.inl x3), some (.inl x4), some (.inl x5), some (.inl r1), some (.inl 1)], [], (am_sh, am_mm U1))) (σ2 := ((d + 1), 275, 129, [some (.inr (.inr 86)), some (.inl x1), some (.inl x2), some (.inl x3), some (.inl x4), some (.inl x5), some (.inl r1), some (.inl 1)], [], (am_sh, am_mm U1))) 6 (fun _ => rfl) (fun hc => ?_) (fun hc => ?_)
            · have h2a22221 := h2a2222.1 hc
              refine ev_seg (σ1 := ((d + 1), 275, 54, [some (.inr (.inr 86)), some (.inl x1), some (.inl x2), some (.inl x3), some (.inl x4), some (.inl (w32 (x5 + 1))), some (.inl r1), some (.inl 1)], [], (am_sh, am_mm U1))) 2 (fun _ => rfl) ?_
              exact h2a22221
            · have h2a22222 := h2a2222.2 hc
              refine ev_seg (σ1 := ((d + 1), 275, 134, [some (.inr (.inr 86)), some (.inl x1), some (.inl x2), some (.inl x3), some (.inl x4), some (.inl x5), some (.inl r1), some (.inl 1)], [.inl x5, .inl x2, .inl x1, .inr (.inr 86)], (am_sh, am_mm U1))) 4 (fun _ => rfl) ?_
              obtain ⟨r7, U7, h2a22222c, h2a22222a⟩ := h2a22222
              refine ev_cal (σc := (d, 311, 0, [some (.inr (.inr 86)), some (.inl x1), some (.inl x2), some (.inl x5), none, none], [], (am_sh, am_mm U1))) (fun _ => rfl) h2a22222c ?_
              show Ev (am_kz N X) ((d + 1), 275, 137, [some (.inr (.inr 86)), some (.inl x1), some (.inl x2), some (.inl x3), some (.inl x4), some (.inl x5), some (.inl r1), some (.inl 1)], [.inl r7], (am_sh, am_mm U7)) R
              refine ev_br (P := ¬ r7 = 0) (σ1 := ((d + 1), 275, 142, [some (.inr (.inr 86)), some (.inl x1), some (.inl x2), some (.inl x3), some (.inl x4), some (.inl x5), some (.inl r1), some (.inl 1)], [], (am_sh, am_mm U7))) (σ2 := ((d + 1), 275, 140, [some (.inr (.inr 86)), some (.inl x1), some (.inl x2), some (.inl x3), some (.inl x4), some (.inl x5), some (.inl r1), some (.inl 1)], [], (am_sh, am_mm U7))) 1 (fun _ => rfl) (fun hc => ?_) (fun hc => ?_)
              · have h2a22222a1 := h2a22222a.1 hc
                refine ev_seg (σ1 := ((d + 1), 275, 54, [some (.inr (.inr 86)), some (.inl x1), some (.inl x2), some (.inl x3), some (.inl x4), some (.inl (w32 (x5 + 1))), some (.inl r1), some (.inl 1)], [], (am_sh, am_mm U7))) 2 (fun _ => rfl) ?_
                exact h2a22222a1
              · have h2a22222a2 := h2a22222a.2 hc
                subst h2a22222a2
                exact ev_end 2 (fun _ => rfl)
set_option maxRecDepth 8000 in
theorem st276_0 (N : Nat) (X : Nat → Int) (d : Nat) (x0 : Int) (U : Nat → Nat → Int) (R : Option am_V × am_M) (h : (((0 ≤ x0 : Prop)) → Ev (am_kz N X) (d, 276, 13, [some (.inl x0), some (.inl 0), some (.inl 46340), some (.inl 0), none], [], (am_sh, am_mm U)) R) ∧ (¬ (0 ≤ x0) → R = (some (.inl 0), (am_sh, am_mm U)))) : Ev (am_kz N X) (d, 276, 0, [some (.inl x0), none, none, none, none], [], (am_sh, am_mm U)) R := by
  refine ev_br (P := 0 ≤ x0) (σ1 := (d, 276, 6, [some (.inl x0), none, none, none, none], [], (am_sh, am_mm U))) (σ2 := (d, 276, 4, [some (.inl x0), none, none, none, none], [], (am_sh, am_mm U))) 2 (fun _ => rfl) (fun hc => ?_) (fun hc => ?_)
  · have h1 := h.1 hc
    refine ev_seg (σ1 := (d, 276, 13, [some (.inl x0), some (.inl 0), some (.inl 46340), some (.inl 0), none], [], (am_sh, am_mm U))) 6 (fun _ => rfl) ?_
    exact h1
  · have h2 := h.2 hc
    subst h2
    exact ev_end 2 (fun _ => rfl)
set_option maxRecDepth 8000 in
theorem st276_13 (N : Nat) (X : Nat → Int) (d : Nat) (x0 x1 x2 x3 : Int) (U : Nat → Nat → Int) (R : Option am_V × am_M) (h : (((32 ≤ x3 : Prop)) → (((¬ (w32 (x1 * x1)) = x0 : Prop)) → R = (some (.inl 0), (am_sh, am_mm U))) ∧ (¬ (¬ (w32 (x1 * x1)) = x0) → R = (some (.inl 1), (am_sh, am_mm U)))) ∧ (¬ (32 ≤ x3) → (((x2 ≤ x1 : Prop)) → (((¬ (w32 (x1 * x1)) = x0 : Prop)) → R = (some (.inl 0), (am_sh, am_mm U))) ∧ (¬ (¬ (w32 (x1 * x1)) = x0) → R = (some (.inl 1), (am_sh, am_mm U)))) ∧ (¬ (x2 ≤ x1) → (((x0 < (w32 ((w32 (Int.tdiv (w32 ((w32 (x1 + x2)) + 1)) 2)) * (w32 (Int.tdiv (w32 ((w32 (x1 + x2)) + 1)) 2)))) : Prop)) → Ev (am_kz N X) (d, 276, 13, [some (.inl x0), some (.inl x1), some (.inl (w32 ((w32 (Int.tdiv (w32 ((w32 (x1 + x2)) + 1)) 2)) - 1))), some (.inl (w32 (x3 + 1))), some (.inl (w32 (Int.tdiv (w32 ((w32 (x1 + x2)) + 1)) 2)))], [], (am_sh, am_mm U)) R) ∧ (¬ (x0 < (w32 ((w32 (Int.tdiv (w32 ((w32 (x1 + x2)) + 1)) 2)) * (w32 (Int.tdiv (w32 ((w32 (x1 + x2)) + 1)) 2))))) → Ev (am_kz N X) (d, 276, 13, [some (.inl x0), some (.inl (w32 (Int.tdiv (w32 ((w32 (x1 + x2)) + 1)) 2))), some (.inl x2), some (.inl (w32 (x3 + 1))), some (.inl (w32 (Int.tdiv (w32 ((w32 (x1 + x2)) + 1)) 2)))], [], (am_sh, am_mm U)) R)))) : Ev (am_kz N X) (d, 276, 13, [some (.inl x0), some (.inl x1), some (.inl x2), some (.inl x3), none], [], (am_sh, am_mm U)) R := by
  refine ev_br (P := 32 ≤ x3) (σ1 := (d, 276, 59, [some (.inl x0), some (.inl x1), some (.inl x2), some (.inl x3), none], [], (am_sh, am_mm U))) (σ2 := (d, 276, 19, [some (.inl x0), some (.inl x1), some (.inl x2), some (.inl x3), none], [], (am_sh, am_mm U))) 3 (fun _ => rfl) (fun hc => ?_) (fun hc => ?_)
  · have h1 := h.1 hc
    refine ev_br (P := ¬ (w32 (x1 * x1)) = x0) (σ1 := (d, 276, 70, [some (.inl x0), some (.inl x1), some (.inl x2), some (.inl x3), none], [], (am_sh, am_mm U))) (σ2 := (d, 276, 66, [some (.inl x0), some (.inl x1), some (.inl x2), some (.inl x3), none], [], (am_sh, am_mm U))) 5 (fun _ => rfl) (fun hc => ?_) (fun hc => ?_)
    · have h11 := h1.1 hc
      subst h11
      exact ev_end 2 (fun _ => rfl)
    · have h12 := h1.2 hc
      subst h12
      exact ev_end 3 (fun _ => rfl)
  · have h2 := h.2 hc
    refine ev_br (P := x2 ≤ x1) (σ1 := (d, 276, 59, [some (.inl x0), some (.inl x1), some (.inl x2), some (.inl x3), none], [], (am_sh, am_mm U))) (σ2 := (d, 276, 24, [some (.inl x0), some (.inl x1), some (.inl x2), some (.inl x3), none], [], (am_sh, am_mm U))) 3 (fun _ => rfl) (fun hc => ?_) (fun hc => ?_)
    · have h21 := h2.1 hc
      refine ev_br (P := ¬ (w32 (x1 * x1)) = x0) (σ1 := (d, 276, 70, [some (.inl x0), some (.inl x1), some (.inl x2), some (.inl x3), none], [], (am_sh, am_mm U))) (σ2 := (d, 276, 66, [some (.inl x0), some (.inl x1), some (.inl x2), some (.inl x3), none], [], (am_sh, am_mm U))) 5 (fun _ => rfl) (fun hc => ?_) (fun hc => ?_)
      · have h211 := h21.1 hc
        subst h211
        exact ev_end 2 (fun _ => rfl)
      · have h212 := h21.2 hc
        subst h212
        exact ev_end 3 (fun _ => rfl)
    · have h22 := h2.2 hc
      refine ev_seg (σ1 := (d, 276, 30, [some (.inl x0), some (.inl x1), some (.inl x2), some (.inl x3), none], [.inl 2, .inl (w32 ((w32 (x1 + x2)) + 1))], (am_sh, am_mm U))) 6 (fun _ => rfl) ?_
      refine ev_idiv rfl (by decide) ?_
      refine ev_br (P := x0 < (w32 ((w32 (Int.tdiv (w32 ((w32 (x1 + x2)) + 1)) 2)) * (w32 (Int.tdiv (w32 ((w32 (x1 + x2)) + 1)) 2))))) (σ1 := (d, 276, 48, [some (.inl x0), some (.inl x1), some (.inl x2), some (.inl x3), some (.inl (w32 (Int.tdiv (w32 ((w32 (x1 + x2)) + 1)) 2)))], [], (am_sh, am_mm U))) (σ2 := (d, 276, 42, [some (.inl x0), some (.inl x1), some (.inl x2), some (.inl x3), some (.inl (w32 (Int.tdiv (w32 ((w32 (x1 + x2)) + 1)) 2)))], [], (am_sh, am_mm U))) 6 (fun _ => rfl) (fun hc => ?_) (fun hc => ?_)
      · have h221 := h22.1 hc
        refine ev_seg (σ1 := (d, 276, 13, [some (.inl x0), some (.inl x1), some (.inl (w32 ((w32 (Int.tdiv (w32 ((w32 (x1 + x2)) + 1)) 2)) - 1))), some (.inl (w32 (x3 + 1))), some (.inl (w32 (Int.tdiv (w32 ((w32 (x1 + x2)) + 1)) 2)))], [], (am_sh, am_mm U))) 6 (fun _ => rfl) ?_
        exact h221
      · have h222 := h22.2 hc
        refine ev_seg (σ1 := (d, 276, 13, [some (.inl x0), some (.inl (w32 (Int.tdiv (w32 ((w32 (x1 + x2)) + 1)) 2))), some (.inl x2), some (.inl (w32 (x3 + 1))), some (.inl (w32 (Int.tdiv (w32 ((w32 (x1 + x2)) + 1)) 2)))], [], (am_sh, am_mm U))) 5 (fun _ => rfl) ?_
        exact h222
set_option maxRecDepth 8000 in
theorem st277_86_0 (N : Nat) (X : Nat → Int) (d : Nat) (x1 x2 : Int) (U : Nat → Nat → Int) (R : Option am_V × am_M) (h : ∃ (r1 : Int) (U1 : Nat → Nat → Int), Ev (am_kz N X) (d, 200, 0, [some (.inr (.inr 86)), some (.inl (U 86 61)), some (.inl (U 86 62))], [], (am_sh, am_mm U)) (some (.inl r1), (am_sh, am_mm U1)) ∧ (x1 = 0 → R = (some (.inr (.inl x2)), (am_sh, am_mm U1))) ∧ (x1 = 1 → ∃ (r2 : Int) (U2 : Nat → Nat → Int), Ev (am_kz N X) (d, 203, 0, [some (.inr (.inr 86)), some (.inl (U1 86 61)), some (.inl (U1 86 62))], [], (am_sh, am_mm U1)) (some (.inl r2), (am_sh, am_mm U2)) ∧ R = (some (.inr (.inl r2)), (am_sh, am_mm U2))) ∧ (x1 = 2 → R = (some (.inr (.inl (U1 86 63))), (am_sh, am_mm U1))) ∧ (x1 = 3 → (((¬ r1 = (-1) : Prop)) → ∃ (r3 : Int) (U3 : Nat → Nat → Int), Ev (am_kz N X) (d, 110, 0, [some (.inr (.inr 86)), some (.inl r1)], [], (am_sh, am_mm U1)) (some (.inl r3), (am_sh, am_mm U3)) ∧ R = (some (.inr (.inl r3)), (am_sh, am_mm U3))) ∧ (¬ (¬ r1 = (-1)) → R = (some (.inr (.inl 0)), (am_sh, am_mm U1)))) ∧ (x1 = 4 → (((¬ r1 = (-1) : Prop)) → ∃ (r4 : Int) (U4 : Nat → Nat → Int), Ev (am_kz N X) (d, 111, 0, [some (.inr (.inr 86)), some (.inl (U1 86 61)), some (.inl r1), none, none], [], (am_sh, am_mm U1)) (some (.inl r4), (am_sh, am_mm U4)) ∧ R = (some (.inr (.inl r4)), (am_sh, am_mm U4))) ∧ (¬ (¬ r1 = (-1)) → R = (some (.inr (.inl 0)), (am_sh, am_mm U1)))) ∧ (x1 = 5 → R = (some (.inr (.inl r1)), (am_sh, am_mm U1))) ∧ (x1 = 6 → (((¬ r1 = (-1) : Prop)) → ∃ (r5 : Int) (U5 : Nat → Nat → Int), Ev (am_kz N X) (d, 109, 0, [some (.inr (.inr 86)), some (.inl r1)], [], (am_sh, am_mm U1)) (some (.inl r5), (am_sh, am_mm U5)) ∧ R = (some (.inr (.inl r5)), (am_sh, am_mm U5))) ∧ (¬ (¬ r1 = (-1)) → R = (some (.inr (.inl (-1))), (am_sh, am_mm U1)))) ∧ (¬ x1 = 0 ∧ ¬ x1 = 1 ∧ ¬ x1 = 2 ∧ ¬ x1 = 3 ∧ ¬ x1 = 4 ∧ ¬ x1 = 5 ∧ ¬ x1 = 6 → R = (some (.inr (.inl 1)), (am_sh, am_mm U1)))) : Ev (am_kz N X) ((d + 1), 277, 0, [some (.inr (.inr 86)), some (.inl x1), some (.inl x2), none], [], (am_sh, am_mm U)) R := by
  refine ev_seg (σ1 := ((d + 1), 277, 9, [some (.inr (.inr 86)), some (.inl x1), some (.inl x2), none], [.inl (U 86 62), .inl (U 86 61), .inr (.inr 86)], (am_sh, am_mm U))) 5 (fun _ => rfl) ?_
  obtain ⟨r1, U1, hc, ha⟩ := h
  refine ev_cal (σc := (d, 200, 0, [some (.inr (.inr 86)), some (.inl (U 86 61)), some (.inl (U 86 62))], [], (am_sh, am_mm U))) (fun _ => rfl) hc ?_
  show Ev (am_kz N X) ((d + 1), 277, 12, [some (.inr (.inr 86)), some (.inl x1), some (.inl x2), none], [.inl r1], (am_sh, am_mm U1)) R
  refine ev_seg (σ1 := ((d + 1), 277, 14, [some (.inr (.inr 86)), some (.inl x1), some (.inl x2), some (.inl r1)], [.inl x1], (am_sh, am_mm U1))) 2 (fun _ => rfl) ?_
  by_cases hc : x1 = 0
  · have hak0 := ha.1 hc
    refine ev_sw (off := 42) rfl (by rw [hc]; rfl) (pt := 56) rfl ?_
    subst hak0
    exact ev_end 3 (fun _ => rfl)
  have nha0 := hc
  clear hc
  by_cases hc : x1 = 1
  · have hak1 := ha.2.1 hc
    refine ev_sw (off := 45) rfl (by rw [hc]; rfl) (pt := 59) rfl ?_
    refine ev_seg (σ1 := ((d + 1), 277, 68, [some (.inr (.inr 86)), some (.inl x1), some (.inl x2), some (.inl r1)], [.inl (U1 86 62), .inl (U1 86 61), .inr (.inr 86)], (am_sh, am_mm U1))) 5 (fun _ => rfl) ?_
    obtain ⟨r2, U2, hak1c, hak1a⟩ := hak1
    refine ev_cal (σc := (d, 203, 0, [some (.inr (.inr 86)), some (.inl (U1 86 61)), some (.inl (U1 86 62))], [], (am_sh, am_mm U1))) (fun _ => rfl) hak1c ?_
    show Ev (am_kz N X) ((d + 1), 277, 71, [some (.inr (.inr 86)), some (.inl x1), some (.inl x2), some (.inl r1)], [.inl r2], (am_sh, am_mm U2)) R
    subst hak1a
    exact ev_end 2 (fun _ => rfl)
  have nha1 := hc
  clear hc
  by_cases hc : x1 = 2
  · have hak2 := ha.2.2.1 hc
    refine ev_sw (off := 59) rfl (by rw [hc]; rfl) (pt := 73) rfl ?_
    subst hak2
    exact ev_end 3 (fun _ => rfl)
  have nha2 := hc
  clear hc
  by_cases hc : x1 = 3
  · have hak3 := ha.2.2.2.1 hc
    refine ev_sw (off := 64) rfl (by rw [hc]; rfl) (pt := 78) rfl ?_
    refine ev_br (P := ¬ r1 = (-1)) (σ1 := ((d + 1), 277, 87, [some (.inr (.inr 86)), some (.inl x1), some (.inl x2), some (.inl r1)], [], (am_sh, am_mm U1))) (σ2 := ((d + 1), 277, 83, [some (.inr (.inr 86)), some (.inl x1), some (.inl x2), some (.inl r1)], [], (am_sh, am_mm U1))) 3 (fun _ => rfl) (fun hc => ?_) (fun hc => ?_)
    · have hak31 := hak3.1 hc
      refine ev_seg (σ1 := ((d + 1), 277, 89, [some (.inr (.inr 86)), some (.inl x1), some (.inl x2), some (.inl r1)], [.inl r1, .inr (.inr 86)], (am_sh, am_mm U1))) 2 (fun _ => rfl) ?_
      obtain ⟨r3, U3, hak31c, hak31a⟩ := hak31
      refine ev_cal (σc := (d, 110, 0, [some (.inr (.inr 86)), some (.inl r1)], [], (am_sh, am_mm U1))) (fun _ => rfl) hak31c ?_
      show Ev (am_kz N X) ((d + 1), 277, 92, [some (.inr (.inr 86)), some (.inl x1), some (.inl x2), some (.inl r1)], [.inl r3], (am_sh, am_mm U3)) R
      subst hak31a
      exact ev_end 2 (fun _ => rfl)
    · have hak32 := hak3.2 hc
      subst hak32
      exact ev_end 3 (fun _ => rfl)
  have nha3 := hc
  clear hc
  by_cases hc : x1 = 4
  · have hak4 := ha.2.2.2.2.1 hc
    refine ev_sw (off := 80) rfl (by rw [hc]; rfl) (pt := 94) rfl ?_
    refine ev_br (P := ¬ r1 = (-1)) (σ1 := ((d + 1), 277, 103, [some (.inr (.inr 86)), some (.inl x1), some (.inl x2), some (.inl r1)], [], (am_sh, am_mm U1))) (σ2 := ((d + 1), 277, 99, [some (.inr (.inr 86)), some (.inl x1), some (.inl x2), some (.inl r1)], [], (am_sh, am_mm U1))) 3 (fun _ => rfl) (fun hc => ?_) (fun hc => ?_)
    · have hak41 := hak4.1 hc
      refine ev_seg (σ1 := ((d + 1), 277, 109, [some (.inr (.inr 86)), some (.inl x1), some (.inl x2), some (.inl r1)], [.inl r1, .inl (U1 86 61), .inr (.inr 86)], (am_sh, am_mm U1))) 4 (fun _ => rfl) ?_
      obtain ⟨r4, U4, hak41c, hak41a⟩ := hak41
      refine ev_cal (σc := (d, 111, 0, [some (.inr (.inr 86)), some (.inl (U1 86 61)), some (.inl r1), none, none], [], (am_sh, am_mm U1))) (fun _ => rfl) hak41c ?_
      show Ev (am_kz N X) ((d + 1), 277, 112, [some (.inr (.inr 86)), some (.inl x1), some (.inl x2), some (.inl r1)], [.inl r4], (am_sh, am_mm U4)) R
      subst hak41a
      exact ev_end 2 (fun _ => rfl)
    · have hak42 := hak4.2 hc
      subst hak42
      exact ev_end 3 (fun _ => rfl)
  have nha4 := hc
  clear hc
  by_cases hc : x1 = 5
  · have hak5 := ha.2.2.2.2.2.1 hc
    refine ev_sw (off := 100) rfl (by rw [hc]; rfl) (pt := 114) rfl ?_
    subst hak5
    exact ev_end 3 (fun _ => rfl)
  have nha5 := hc
  clear hc
  by_cases hc : x1 = 6
  · have hak6 := ha.2.2.2.2.2.2.1 hc
    refine ev_sw (off := 103) rfl (by rw [hc]; rfl) (pt := 117) rfl ?_
    refine ev_br (P := ¬ r1 = (-1)) (σ1 := ((d + 1), 277, 128, [some (.inr (.inr 86)), some (.inl x1), some (.inl x2), some (.inl r1)], [], (am_sh, am_mm U1))) (σ2 := ((d + 1), 277, 122, [some (.inr (.inr 86)), some (.inl x1), some (.inl x2), some (.inl r1)], [], (am_sh, am_mm U1))) 3 (fun _ => rfl) (fun hc => ?_) (fun hc => ?_)
    · have hak61 := hak6.1 hc
      refine ev_seg (σ1 := ((d + 1), 277, 130, [some (.inr (.inr 86)), some (.inl x1), some (.inl x2), some (.inl r1)], [.inl r1, .inr (.inr 86)], (am_sh, am_mm U1))) 2 (fun _ => rfl) ?_
      obtain ⟨r5, U5, hak61c, hak61a⟩ := hak61
      refine ev_cal (σc := (d, 109, 0, [some (.inr (.inr 86)), some (.inl r1)], [], (am_sh, am_mm U1))) (fun _ => rfl) hak61c ?_
      show Ev (am_kz N X) ((d + 1), 277, 133, [some (.inr (.inr 86)), some (.inl x1), some (.inl x2), some (.inl r1)], [.inl r5], (am_sh, am_mm U5)) R
      subst hak61a
      exact ev_end 2 (fun _ => rfl)
    · have hak62 := hak6.2 hc
      subst hak62
      exact ev_end 3 (fun _ => rfl)
  have nha6 := hc
  clear hc
  have hakd := ha.2.2.2.2.2.2.2 ⟨nha0, nha1, nha2, nha3, nha4, nha5, nha6⟩
  refine ev_sw (off := 121) rfl (if_pos (by omega)) (pt := 135) rfl ?_
  subst hakd
  exact ev_end 2 (fun _ => rfl)
set_option maxRecDepth 8000 in
theorem st278_0 (N : Nat) (X : Nat → Int) (d : Nat) (x0 : Int) (U : Nat → Nat → Int) (R : Option am_V × am_M) (h : (((0 ≤ (am_lcmp x0 0) : Prop)) → Ev (am_kz N X) (d, 278, 15, [some (.inr (.inl x0)), none, some (.inr (.inl 0)), none, some (.inr (.inl 40000)), none, none, none], [], (am_sh, am_mm U)) R) ∧ (¬ (0 ≤ (am_lcmp x0 0)) → R = (some (.inl 0), (am_sh, am_mm U)))) : Ev (am_kz N X) (d, 278, 0, [some (.inr (.inl x0)), none, none, none, none, none, none, none], [], (am_sh, am_mm U)) R := by
  refine ev_br (P := 0 ≤ (am_lcmp x0 0)) (σ1 := (d, 278, 8, [some (.inr (.inl x0)), none, none, none, none, none, none, none], [], (am_sh, am_mm U))) (σ2 := (d, 278, 6, [some (.inr (.inl x0)), none, none, none, none, none, none, none], [], (am_sh, am_mm U))) 4 (fun _ => rfl) (fun hc => ?_) (fun hc => ?_)
  · have h1 := h.1 hc
    refine ev_seg (σ1 := (d, 278, 15, [some (.inr (.inl x0)), none, some (.inr (.inl 0)), none, some (.inr (.inl 40000)), none, none, none], [], (am_sh, am_mm U))) 4 (fun _ => rfl) ?_
    exact h1
  · have h2 := h.2 hc
    subst h2
    exact ev_end 2 (fun _ => rfl)
set_option maxRecDepth 8000 in
theorem st278_15 (N : Nat) (X : Nat → Int) (d : Nat) (x0 x2 x4 : Int) (U : Nat → Nat → Int) (R : Option am_V × am_M) (h : (((0 ≤ (am_lcmp x2 x4) : Prop)) → (((¬ (am_lcmp (w64 (x2 * x2)) x0) = 0 : Prop)) → R = (some (.inl 0), (am_sh, am_mm U))) ∧ (¬ (¬ (am_lcmp (w64 (x2 * x2)) x0) = 0) → R = (some (.inl 1), (am_sh, am_mm U)))) ∧ (¬ (0 ≤ (am_lcmp x2 x4)) → (((0 ≤ (am_lcmp (w64 ((w64 (Int.tdiv (w64 (x2 + x4)) 2)) * (w64 (Int.tdiv (w64 (x2 + x4)) 2)))) x0) : Prop)) → Ev (am_kz N X) (d, 278, 15, [some (.inr (.inl x0)), none, some (.inr (.inl x2)), none, some (.inr (.inl (w64 (Int.tdiv (w64 (x2 + x4)) 2)))), none, some (.inr (.inl (w64 (Int.tdiv (w64 (x2 + x4)) 2)))), none], [], (am_sh, am_mm U)) R) ∧ (¬ (0 ≤ (am_lcmp (w64 ((w64 (Int.tdiv (w64 (x2 + x4)) 2)) * (w64 (Int.tdiv (w64 (x2 + x4)) 2)))) x0)) → Ev (am_kz N X) (d, 278, 15, [some (.inr (.inl x0)), none, some (.inr (.inl (w64 ((w64 (Int.tdiv (w64 (x2 + x4)) 2)) + 1)))), none, some (.inr (.inl x4)), none, some (.inr (.inl (w64 (Int.tdiv (w64 (x2 + x4)) 2)))), none], [], (am_sh, am_mm U)) R))) : Ev (am_kz N X) (d, 278, 15, [some (.inr (.inl x0)), none, some (.inr (.inl x2)), none, some (.inr (.inl x4)), none, none, none], [], (am_sh, am_mm U)) R := by
  refine ev_br (P := 0 ≤ (am_lcmp x2 x4)) (σ1 := (d, 278, 57, [some (.inr (.inl x0)), none, some (.inr (.inl x2)), none, some (.inr (.inl x4)), none, none, none], [], (am_sh, am_mm U))) (σ2 := (d, 278, 22, [some (.inr (.inl x0)), none, some (.inr (.inl x2)), none, some (.inr (.inl x4)), none, none, none], [], (am_sh, am_mm U))) 4 (fun _ => rfl) (fun hc => ?_) (fun hc => ?_)
  · have h1 := h.1 hc
    refine ev_br (P := ¬ (am_lcmp (w64 (x2 * x2)) x0) = 0) (σ1 := (d, 278, 69, [some (.inr (.inl x0)), none, some (.inr (.inl x2)), none, some (.inr (.inl x4)), none, none, none], [], (am_sh, am_mm U))) (σ2 := (d, 278, 65, [some (.inr (.inl x0)), none, some (.inr (.inl x2)), none, some (.inr (.inl x4)), none, none, none], [], (am_sh, am_mm U))) 6 (fun _ => rfl) (fun hc => ?_) (fun hc => ?_)
    · have h11 := h1.1 hc
      subst h11
      exact ev_end 2 (fun _ => rfl)
    · have h12 := h1.2 hc
      subst h12
      exact ev_end 3 (fun _ => rfl)
  · have h2 := h.2 hc
    refine ev_seg (σ1 := (d, 278, 29, [some (.inr (.inl x0)), none, some (.inr (.inl x2)), none, some (.inr (.inl x4)), none, none, none], [.inr (.inl 2), .inr (.inl (w64 (x2 + x4)))], (am_sh, am_mm U))) 4 (fun _ => rfl) ?_
    refine ev_ldiv rfl (by decide) ?_
    refine ev_br (P := 0 ≤ (am_lcmp (w64 ((w64 (Int.tdiv (w64 (x2 + x4)) 2)) * (w64 (Int.tdiv (w64 (x2 + x4)) 2)))) x0)) (σ1 := (d, 278, 50, [some (.inr (.inl x0)), none, some (.inr (.inl x2)), none, some (.inr (.inl x4)), none, some (.inr (.inl (w64 (Int.tdiv (w64 (x2 + x4)) 2)))), none], [], (am_sh, am_mm U))) (σ2 := (d, 278, 42, [some (.inr (.inl x0)), none, some (.inr (.inl x2)), none, some (.inr (.inl x4)), none, some (.inr (.inl (w64 (Int.tdiv (w64 (x2 + x4)) 2)))), none], [], (am_sh, am_mm U))) 7 (fun _ => rfl) (fun hc => ?_) (fun hc => ?_)
    · have h21 := h2.1 hc
      refine ev_seg (σ1 := (d, 278, 15, [some (.inr (.inl x0)), none, some (.inr (.inl x2)), none, some (.inr (.inl (w64 (Int.tdiv (w64 (x2 + x4)) 2)))), none, some (.inr (.inl (w64 (Int.tdiv (w64 (x2 + x4)) 2)))), none], [], (am_sh, am_mm U))) 3 (fun _ => rfl) ?_
      exact h21
    · have h22 := h2.2 hc
      refine ev_seg (σ1 := (d, 278, 15, [some (.inr (.inl x0)), none, some (.inr (.inl (w64 ((w64 (Int.tdiv (w64 (x2 + x4)) 2)) + 1)))), none, some (.inr (.inl x4)), none, some (.inr (.inl (w64 (Int.tdiv (w64 (x2 + x4)) 2)))), none], [], (am_sh, am_mm U))) 6 (fun _ => rfl) ?_
      exact h22
set_option maxRecDepth 8000 in
theorem st279_0 (N : Nat) (X : Nat → Int) (d : Nat) (x0 x1 x3 : Int) (U : Nat → Nat → Int) (R : Option am_V × am_M) (h : (x0 = 10 → ∃ (r1 : Int) (U1 : Nat → Nat → Int), Ev (am_kz N X) (d, 312, 0, [some (.inr (.inl (w64 (x1 + x3)))), none], [], (am_sh, am_mm U)) (some (.inr (.inl r1)), (am_sh, am_mm U1)) ∧ R = (some (.inr (.inl r1)), (am_sh, am_mm U1))) ∧ (x0 = 11 → ∃ (r2 : Int) (U2 : Nat → Nat → Int), Ev (am_kz N X) (d, 312, 0, [some (.inr (.inl (w64 (x1 - x3)))), none], [], (am_sh, am_mm U)) (some (.inr (.inl r2)), (am_sh, am_mm U2)) ∧ R = (some (.inr (.inl r2)), (am_sh, am_mm U2))) ∧ (x0 = 12 → ∃ (r3 : Int) (U3 : Nat → Nat → Int), Ev (am_kz N X) (d, 312, 0, [some (.inr (.inl (w64 (x1 * x3)))), none], [], (am_sh, am_mm U)) (some (.inr (.inl r3)), (am_sh, am_mm U3)) ∧ R = (some (.inr (.inl r3)), (am_sh, am_mm U3))) ∧ (x0 = 13 → ∃ (r4 : Int) (U4 : Nat → Nat → Int), Ev (am_kz N X) (d, 313, 0, [some (.inr (.inl x1)), none, some (.inr (.inl x3)), none, none, none], [], (am_sh, am_mm U)) (some (.inr (.inl r4)), (am_sh, am_mm U4)) ∧ ∃ (r5 : Int) (U5 : Nat → Nat → Int), Ev (am_kz N X) (d, 312, 0, [some (.inr (.inl r4)), none], [], (am_sh, am_mm U4)) (some (.inr (.inl r5)), (am_sh, am_mm U5)) ∧ R = (some (.inr (.inl r5)), (am_sh, am_mm U5))) ∧ (x0 = 14 → (((¬ (am_lcmp x3 0) = 0 : Prop)) → ∃ (r6 : Int) (U6 : Nat → Nat → Int), Ev (am_kz N X) (d, 313, 0, [some (.inr (.inl x1)), none, some (.inr (.inl x3)), none, none, none], [], (am_sh, am_mm U)) (some (.inr (.inl r6)), (am_sh, am_mm U6)) ∧ ∃ (r7 : Int) (U7 : Nat → Nat → Int), Ev (am_kz N X) (d, 312, 0, [some (.inr (.inl (w64 (x1 - (w64 (x3 * r6)))))), none], [], (am_sh, am_mm U6)) (some (.inr (.inl r7)), (am_sh, am_mm U7)) ∧ R = (some (.inr (.inl r7)), (am_sh, am_mm U7))) ∧ (¬ (¬ (am_lcmp x3 0) = 0) → R = (some (.inr (.inl 0)), (am_sh, am_mm U)))) ∧ (x0 = 15 → (((0 ≤ (am_lcmp x1 x3) : Prop)) → R = (some (.inr (.inl x3)), (am_sh, am_mm U))) ∧ (¬ (0 ≤ (am_lcmp x1 x3)) → R = (some (.inr (.inl x1)), (am_sh, am_mm U)))) ∧ (x0 = 16 → ((((am_lcmp x1 x3) ≤ 0 : Prop)) → R = (some (.inr (.inl x3)), (am_sh, am_mm U))) ∧ (¬ ((am_lcmp x1 x3) ≤ 0) → R = (some (.inr (.inl x1)), (am_sh, am_mm U)))) ∧ (x0 = 17 → (((0 ≤ (am_lcmp x1 x3) : Prop)) → R = (some (.inr (.inl 0)), (am_sh, am_mm U))) ∧ (¬ (0 ≤ (am_lcmp x1 x3)) → R = (some (.inr (.inl 1)), (am_sh, am_mm U)))) ∧ (x0 = 18 → ((((am_lcmp x1 x3) ≤ 0 : Prop)) → R = (some (.inr (.inl 0)), (am_sh, am_mm U))) ∧ (¬ ((am_lcmp x1 x3) ≤ 0) → R = (some (.inr (.inl 1)), (am_sh, am_mm U)))) ∧ (x0 = 19 → (((¬ (am_lcmp x1 x3) = 0 : Prop)) → R = (some (.inr (.inl 0)), (am_sh, am_mm U))) ∧ (¬ (¬ (am_lcmp x1 x3) = 0) → R = (some (.inr (.inl 1)), (am_sh, am_mm U)))) ∧ (x0 = 20 → R = (some (.inr (.inl (am_land x1 x3))), (am_sh, am_mm U))) ∧ (x0 = 21 → R = (some (.inr (.inl (am_lor x1 x3))), (am_sh, am_mm U))) ∧ (x0 = 22 → R = (some (.inr (.inl (am_lor x1 x3))), (am_sh, am_mm U))) ∧ (x0 = 23 → ∃ (r8 : Int) (U8 : Nat → Nat → Int), Ev (am_kz N X) (d, 154, 0, [some (.inr (.inl x1)), none, some (.inr (.inl x3)), none, none, none, none, none, none, none], [], (am_sh, am_mm U)) (some (.inr (.inl r8)), (am_sh, am_mm U8)) ∧ R = (some (.inr (.inl r8)), (am_sh, am_mm U8))) ∧ (¬ x0 = 10 ∧ ¬ x0 = 11 ∧ ¬ x0 = 12 ∧ ¬ x0 = 13 ∧ ¬ x0 = 14 ∧ ¬ x0 = 15 ∧ ¬ x0 = 16 ∧ ¬ x0 = 17 ∧ ¬ x0 = 18 ∧ ¬ x0 = 19 ∧ ¬ x0 = 20 ∧ ¬ x0 = 21 ∧ ¬ x0 = 22 ∧ ¬ x0 = 23 → R = (some (.inr (.inl (am_lor x1 x3))), (am_sh, am_mm U)))) : Ev (am_kz N X) ((d + 1), 279, 0, [some (.inl x0), some (.inr (.inl x1)), none, some (.inr (.inl x3)), none], [], (am_sh, am_mm U)) R := by
  refine ev_seg (σ1 := ((d + 1), 279, 1, [some (.inl x0), some (.inr (.inl x1)), none, some (.inr (.inl x3)), none], [.inl x0], (am_sh, am_mm U))) 1 (fun _ => rfl) ?_
  by_cases hc : x0 = 10
  · have hk0 := h.1 hc
    refine ev_sw (off := 71) rfl (by rw [hc]; rfl) (pt := 72) rfl ?_
    refine ev_seg (σ1 := ((d + 1), 279, 75, [some (.inl x0), some (.inr (.inl x1)), none, some (.inr (.inl x3)), none], [.inr (.inl (w64 (x1 + x3)))], (am_sh, am_mm U))) 3 (fun _ => rfl) ?_
    obtain ⟨r1, U1, hk0c, hk0a⟩ := hk0
    refine ev_cal (σc := (d, 312, 0, [some (.inr (.inl (w64 (x1 + x3)))), none], [], (am_sh, am_mm U))) (fun _ => rfl) hk0c ?_
    show Ev (am_kz N X) ((d + 1), 279, 78, [some (.inl x0), some (.inr (.inl x1)), none, some (.inr (.inl x3)), none], [.inr (.inl r1)], (am_sh, am_mm U1)) R
    subst hk0a
    exact ev_end 1 (fun _ => rfl)
  have nh0 := hc
  clear hc
  by_cases hc : x0 = 11
  · have hk1 := h.2.1 hc
    refine ev_sw (off := 78) rfl (by rw [hc]; rfl) (pt := 79) rfl ?_
    refine ev_seg (σ1 := ((d + 1), 279, 82, [some (.inl x0), some (.inr (.inl x1)), none, some (.inr (.inl x3)), none], [.inr (.inl (w64 (x1 - x3)))], (am_sh, am_mm U))) 3 (fun _ => rfl) ?_
    obtain ⟨r2, U2, hk1c, hk1a⟩ := hk1
    refine ev_cal (σc := (d, 312, 0, [some (.inr (.inl (w64 (x1 - x3)))), none], [], (am_sh, am_mm U))) (fun _ => rfl) hk1c ?_
    show Ev (am_kz N X) ((d + 1), 279, 85, [some (.inl x0), some (.inr (.inl x1)), none, some (.inr (.inl x3)), none], [.inr (.inl r2)], (am_sh, am_mm U2)) R
    subst hk1a
    exact ev_end 1 (fun _ => rfl)
  have nh1 := hc
  clear hc
  by_cases hc : x0 = 12
  · have hk2 := h.2.2.1 hc
    refine ev_sw (off := 85) rfl (by rw [hc]; rfl) (pt := 86) rfl ?_
    refine ev_seg (σ1 := ((d + 1), 279, 89, [some (.inl x0), some (.inr (.inl x1)), none, some (.inr (.inl x3)), none], [.inr (.inl (w64 (x1 * x3)))], (am_sh, am_mm U))) 3 (fun _ => rfl) ?_
    obtain ⟨r3, U3, hk2c, hk2a⟩ := hk2
    refine ev_cal (σc := (d, 312, 0, [some (.inr (.inl (w64 (x1 * x3)))), none], [], (am_sh, am_mm U))) (fun _ => rfl) hk2c ?_
    show Ev (am_kz N X) ((d + 1), 279, 92, [some (.inl x0), some (.inr (.inl x1)), none, some (.inr (.inl x3)), none], [.inr (.inl r3)], (am_sh, am_mm U3)) R
    subst hk2a
    exact ev_end 1 (fun _ => rfl)
  have nh2 := hc
  clear hc
  by_cases hc : x0 = 13
  · have hk3 := h.2.2.2.1 hc
    refine ev_sw (off := 92) rfl (by rw [hc]; rfl) (pt := 93) rfl ?_
    refine ev_seg (σ1 := ((d + 1), 279, 95, [some (.inl x0), some (.inr (.inl x1)), none, some (.inr (.inl x3)), none], [.inr (.inl x3), .inr (.inl x1)], (am_sh, am_mm U))) 2 (fun _ => rfl) ?_
    obtain ⟨r4, U4, hk3c, hk3a⟩ := hk3
    refine ev_cal (σc := (d, 313, 0, [some (.inr (.inl x1)), none, some (.inr (.inl x3)), none, none, none], [], (am_sh, am_mm U))) (fun _ => rfl) hk3c ?_
    show Ev (am_kz N X) ((d + 1), 279, 98, [some (.inl x0), some (.inr (.inl x1)), none, some (.inr (.inl x3)), none], [.inr (.inl r4)], (am_sh, am_mm U4)) R
    obtain ⟨r5, U5, hk3ac, hk3aa⟩ := hk3a
    refine ev_cal (σc := (d, 312, 0, [some (.inr (.inl r4)), none], [], (am_sh, am_mm U4))) (fun _ => rfl) hk3ac ?_
    show Ev (am_kz N X) ((d + 1), 279, 101, [some (.inl x0), some (.inr (.inl x1)), none, some (.inr (.inl x3)), none], [.inr (.inl r5)], (am_sh, am_mm U5)) R
    subst hk3aa
    exact ev_end 1 (fun _ => rfl)
  have nh3 := hc
  clear hc
  by_cases hc : x0 = 14
  · have hk4 := h.2.2.2.2.1 hc
    refine ev_sw (off := 101) rfl (by rw [hc]; rfl) (pt := 102) rfl ?_
    refine ev_br (P := ¬ (am_lcmp x3 0) = 0) (σ1 := ((d + 1), 279, 112, [some (.inl x0), some (.inr (.inl x1)), none, some (.inr (.inl x3)), none], [], (am_sh, am_mm U))) (σ2 := ((d + 1), 279, 108, [some (.inl x0), some (.inr (.inl x1)), none, some (.inr (.inl x3)), none], [], (am_sh, am_mm U))) 4 (fun _ => rfl) (fun hc => ?_) (fun hc => ?_)
    · have hk41 := hk4.1 hc
      refine ev_seg (σ1 := ((d + 1), 279, 116, [some (.inl x0), some (.inr (.inl x1)), none, some (.inr (.inl x3)), none], [.inr (.inl x3), .inr (.inl x1), .inr (.inl x3), .inr (.inl x1)], (am_sh, am_mm U))) 4 (fun _ => rfl) ?_
      obtain ⟨r6, U6, hk41c, hk41a⟩ := hk41
      refine ev_cal (σc := (d, 313, 0, [some (.inr (.inl x1)), none, some (.inr (.inl x3)), none, none, none], [], (am_sh, am_mm U))) (fun _ => rfl) hk41c ?_
      show Ev (am_kz N X) ((d + 1), 279, 119, [some (.inl x0), some (.inr (.inl x1)), none, some (.inr (.inl x3)), none], [.inr (.inl r6), .inr (.inl x3), .inr (.inl x1)], (am_sh, am_mm U6)) R
      refine ev_seg (σ1 := ((d + 1), 279, 121, [some (.inl x0), some (.inr (.inl x1)), none, some (.inr (.inl x3)), none], [.inr (.inl (w64 (x1 - (w64 (x3 * r6)))))], (am_sh, am_mm U6))) 2 (fun _ => rfl) ?_
      obtain ⟨r7, U7, hk41ac, hk41aa⟩ := hk41a
      refine ev_cal (σc := (d, 312, 0, [some (.inr (.inl (w64 (x1 - (w64 (x3 * r6)))))), none], [], (am_sh, am_mm U6))) (fun _ => rfl) hk41ac ?_
      show Ev (am_kz N X) ((d + 1), 279, 124, [some (.inl x0), some (.inr (.inl x1)), none, some (.inr (.inl x3)), none], [.inr (.inl r7)], (am_sh, am_mm U7)) R
      subst hk41aa
      exact ev_end 1 (fun _ => rfl)
    · have hk42 := hk4.2 hc
      subst hk42
      exact ev_end 3 (fun _ => rfl)
  have nh4 := hc
  clear hc
  by_cases hc : x0 = 15
  · have hk5 := h.2.2.2.2.2.1 hc
    refine ev_sw (off := 124) rfl (by rw [hc]; rfl) (pt := 125) rfl ?_
    refine ev_br (P := 0 ≤ (am_lcmp x1 x3)) (σ1 := ((d + 1), 279, 135, [some (.inl x0), some (.inr (.inl x1)), none, some (.inr (.inl x3)), none], [], (am_sh, am_mm U))) (σ2 := ((d + 1), 279, 131, [some (.inl x0), some (.inr (.inl x1)), none, some (.inr (.inl x3)), none], [], (am_sh, am_mm U))) 4 (fun _ => rfl) (fun hc => ?_) (fun hc => ?_)
    · have hk51 := hk5.1 hc
      subst hk51
      exact ev_end 2 (fun _ => rfl)
    · have hk52 := hk5.2 hc
      subst hk52
      exact ev_end 3 (fun _ => rfl)
  have nh5 := hc
  clear hc
  by_cases hc : x0 = 16
  · have hk6 := h.2.2.2.2.2.2.1 hc
    refine ev_sw (off := 136) rfl (by rw [hc]; rfl) (pt := 137) rfl ?_
    refine ev_br (P := (am_lcmp x1 x3) ≤ 0) (σ1 := ((d + 1), 279, 147, [some (.inl x0), some (.inr (.inl x1)), none, some (.inr (.inl x3)), none], [], (am_sh, am_mm U))) (σ2 := ((d + 1), 279, 143, [some (.inl x0), some (.inr (.inl x1)), none, some (.inr (.inl x3)), none], [], (am_sh, am_mm U))) 4 (fun _ => rfl) (fun hc => ?_) (fun hc => ?_)
    · have hk61 := hk6.1 hc
      subst hk61
      exact ev_end 2 (fun _ => rfl)
    · have hk62 := hk6.2 hc
      subst hk62
      exact ev_end 3 (fun _ => rfl)
  have nh6 := hc
  clear hc
  by_cases hc : x0 = 17
  · have hk7 := h.2.2.2.2.2.2.2.1 hc
    refine ev_sw (off := 154) rfl (by rw [hc]; rfl) (pt := 155) rfl ?_
    refine ev_br (P := 0 ≤ (am_lcmp x1 x3)) (σ1 := ((d + 1), 279, 165, [some (.inl x0), some (.inr (.inl x1)), none, some (.inr (.inl x3)), none], [], (am_sh, am_mm U))) (σ2 := ((d + 1), 279, 161, [some (.inl x0), some (.inr (.inl x1)), none, some (.inr (.inl x3)), none], [], (am_sh, am_mm U))) 4 (fun _ => rfl) (fun hc => ?_) (fun hc => ?_)
    · have hk71 := hk7.1 hc
      subst hk71
      exact ev_end 2 (fun _ => rfl)
    · have hk72 := hk7.2 hc
      subst hk72
      exact ev_end 3 (fun _ => rfl)
  have nh7 := hc
  clear hc
  by_cases hc : x0 = 18
  · have hk8 := h.2.2.2.2.2.2.2.2.1 hc
    refine ev_sw (off := 166) rfl (by rw [hc]; rfl) (pt := 167) rfl ?_
    refine ev_br (P := (am_lcmp x1 x3) ≤ 0) (σ1 := ((d + 1), 279, 177, [some (.inl x0), some (.inr (.inl x1)), none, some (.inr (.inl x3)), none], [], (am_sh, am_mm U))) (σ2 := ((d + 1), 279, 173, [some (.inl x0), some (.inr (.inl x1)), none, some (.inr (.inl x3)), none], [], (am_sh, am_mm U))) 4 (fun _ => rfl) (fun hc => ?_) (fun hc => ?_)
    · have hk81 := hk8.1 hc
      subst hk81
      exact ev_end 2 (fun _ => rfl)
    · have hk82 := hk8.2 hc
      subst hk82
      exact ev_end 3 (fun _ => rfl)
  have nh8 := hc
  clear hc
  by_cases hc : x0 = 19
  · have hk9 := h.2.2.2.2.2.2.2.2.2.1 hc
    refine ev_sw (off := 178) rfl (by rw [hc]; rfl) (pt := 179) rfl ?_
    refine ev_br (P := ¬ (am_lcmp x1 x3) = 0) (σ1 := ((d + 1), 279, 189, [some (.inl x0), some (.inr (.inl x1)), none, some (.inr (.inl x3)), none], [], (am_sh, am_mm U))) (σ2 := ((d + 1), 279, 185, [some (.inl x0), some (.inr (.inl x1)), none, some (.inr (.inl x3)), none], [], (am_sh, am_mm U))) 4 (fun _ => rfl) (fun hc => ?_) (fun hc => ?_)
    · have hk91 := hk9.1 hc
      subst hk91
      exact ev_end 2 (fun _ => rfl)
    · have hk92 := hk9.2 hc
      subst hk92
      exact ev_end 3 (fun _ => rfl)
  have nh9 := hc
  clear hc
  by_cases hc : x0 = 20
  · have hk10 := h.2.2.2.2.2.2.2.2.2.2.1 hc
    refine ev_sw (off := 190) rfl (by rw [hc]; rfl) (pt := 191) rfl ?_
    subst hk10
    exact ev_end 4 (fun _ => rfl)
  have nh10 := hc
  clear hc
  by_cases hc : x0 = 21
  · have hk11 := h.2.2.2.2.2.2.2.2.2.2.2.1 hc
    refine ev_sw (off := 194) rfl (by rw [hc]; rfl) (pt := 195) rfl ?_
    subst hk11
    exact ev_end 4 (fun _ => rfl)
  have nh11 := hc
  clear hc
  by_cases hc : x0 = 22
  · have hk12 := h.2.2.2.2.2.2.2.2.2.2.2.2.1 hc
    refine ev_sw (off := 194) rfl (by rw [hc]; rfl) (pt := 195) rfl ?_
    subst hk12
    exact ev_end 4 (fun _ => rfl)
  have nh12 := hc
  clear hc
  by_cases hc : x0 = 23
  · have hk13 := h.2.2.2.2.2.2.2.2.2.2.2.2.2.1 hc
    refine ev_sw (off := 148) rfl (by rw [hc]; rfl) (pt := 149) rfl ?_
    refine ev_seg (σ1 := ((d + 1), 279, 151, [some (.inl x0), some (.inr (.inl x1)), none, some (.inr (.inl x3)), none], [.inr (.inl x3), .inr (.inl x1)], (am_sh, am_mm U))) 2 (fun _ => rfl) ?_
    obtain ⟨r8, U8, hk13c, hk13a⟩ := hk13
    refine ev_cal (σc := (d, 154, 0, [some (.inr (.inl x1)), none, some (.inr (.inl x3)), none, none, none, none, none, none, none], [], (am_sh, am_mm U))) (fun _ => rfl) hk13c ?_
    show Ev (am_kz N X) ((d + 1), 279, 154, [some (.inl x0), some (.inr (.inl x1)), none, some (.inr (.inl x3)), none], [.inr (.inl r8)], (am_sh, am_mm U8)) R
    subst hk13a
    exact ev_end 1 (fun _ => rfl)
  have nh13 := hc
  clear hc
  have hkd := h.2.2.2.2.2.2.2.2.2.2.2.2.2.2 ⟨nh0, nh1, nh2, nh3, nh4, nh5, nh6, nh7, nh8, nh9, nh10, nh11, nh12, nh13⟩
  refine ev_sw (off := 194) rfl (if_pos (by omega)) (pt := 195) rfl ?_
  subst hkd
  exact ev_end 4 (fun _ => rfl)
set_option maxRecDepth 8000 in
theorem st280_16_0 (N : Nat) (X : Nat → Int) (d : Nat) (x1 : Int) (U : Nat → Nat → Int) (R : Option am_V × am_M) (h : Ev (am_kz N X) (d, 280, 2, [some (.inr (.inr 16)), some (.inl x1), some (.inl 0)], [], (am_sh, am_mm U)) R) : Ev (am_kz N X) (d, 280, 0, [some (.inr (.inr 16)), some (.inl x1), none], [], (am_sh, am_mm U)) R := by
  refine ev_seg (σ1 := (d, 280, 2, [some (.inr (.inr 16)), some (.inl x1), some (.inl 0)], [], (am_sh, am_mm U))) 2 (fun _ => rfl) ?_
  exact h
set_option maxRecDepth 8000 in
theorem st280_16_2 (N : Nat) (X : Nat → Int) (d : Nat) (x1 x2 : Int) (U : Nat → Nat → Int) (R : Option am_V × am_M) (h : ((((U 16 0) ≤ x2 : Prop)) → R = (some (.inl (-1)), (am_sh, am_mm U))) ∧ (¬ ((U 16 0) ≤ x2) → (0 ≤ x2 ∧ x2 < 16) ∧ (((¬ (U 17 x2.toNat) = x1 : Prop)) → Ev (am_kz N X) (d, 280, 2, [some (.inr (.inr 16)), some (.inl x1), some (.inl (w32 (x2 + 1)))], [], (am_sh, am_mm U)) R) ∧ (¬ (¬ (U 17 x2.toNat) = x1) → R = (some (.inl x2), (am_sh, am_mm U))))) : Ev (am_kz N X) (d, 280, 2, [some (.inr (.inr 16)), some (.inl x1), some (.inl x2)], [], (am_sh, am_mm U)) R := by
  refine ev_br (P := (U 16 0) ≤ x2) (σ1 := (d, 280, 28, [some (.inr (.inr 16)), some (.inl x1), some (.inl x2)], [], (am_sh, am_mm U))) (σ2 := (d, 280, 10, [some (.inr (.inr 16)), some (.inl x1), some (.inl x2)], [], (am_sh, am_mm U))) 4 (fun _ => rfl) (fun hc => ?_) (fun hc => ?_)
  · have h1 := h.1 hc
    subst h1
    exact ev_end 2 (fun _ => rfl)
  · have h2 := h.2 hc
    refine ev_seg (σ1 := (d, 280, 15, [some (.inr (.inr 16)), some (.inl x1), some (.inl x2)], [.inl x2, .inr (.inr 17)], (am_sh, am_mm U))) 3 (fun _ => rfl) ?_
    refine eu_iald 17 (n := 16) rfl (by decide) rfl (fun _ => rfl) h2.1 ?_
    have h2a := h2.2
    refine ev_br (P := ¬ (U 17 x2.toNat) = x1) (σ1 := (d, 280, 22, [some (.inr (.inr 16)), some (.inl x1), some (.inl x2)], [], (am_sh, am_mm U))) (σ2 := (d, 280, 20, [some (.inr (.inr 16)), some (.inl x1), some (.inl x2)], [], (am_sh, am_mm U))) 2 (fun _ => rfl) (fun hc => ?_) (fun hc => ?_)
    · have h2a1 := h2a.1 hc
      refine ev_seg (σ1 := (d, 280, 2, [some (.inr (.inr 16)), some (.inl x1), some (.inl (w32 (x2 + 1)))], [], (am_sh, am_mm U))) 2 (fun _ => rfl) ?_
      exact h2a1
    · have h2a2 := h2a.2 hc
      subst h2a2
      exact ev_end 2 (fun _ => rfl)
set_option maxRecDepth 8000 in
theorem st282_52_0 (N : Nat) (X : Nat → Int) (d : Nat) (U : Nat → Nat → Int) (R : Option am_V × am_M) (h : Ev (am_kz N X) ((d + 1), 282, 22, [some (.inr (.inr 52)), some (.inl (w32 ((U 16 0) - (U 52 6)))), some (.inl 1), none, none, none, none, none], [], (am_sh, am_mm (am_upd U 44 0 0))) R) : Ev (am_kz N X) ((d + 1), 282, 0, [some (.inr (.inr 52)), none, none, none, none, none, none, none], [], (am_sh, am_mm U)) R := by
  refine ev_seg (σ1 := ((d + 1), 282, 19, [some (.inr (.inr 52)), some (.inl (w32 ((U 16 0) - (U 52 6)))), none, none, none, none, none, none], [.inl 0, .inl 0, .inr (.inr 44)], (am_sh, am_mm U))) 11 (fun _ => rfl) ?_
  refine eu_iast 44 (n := 4096) rfl (by decide) rfl (fun _ => rfl) (by decide) ?_
  show Ev (am_kz N X) ((d + 1), 282, 20, [some (.inr (.inr 52)), some (.inl (w32 ((U 16 0) - (U 52 6)))), none, none, none, none, none, none], [], (am_sh, am_mm (am_upd U 44 0 0))) R
  refine ev_seg (σ1 := ((d + 1), 282, 22, [some (.inr (.inr 52)), some (.inl (w32 ((U 16 0) - (U 52 6)))), some (.inl 1), none, none, none, none, none], [], (am_sh, am_mm (am_upd U 44 0 0)))) 2 (fun _ => rfl) ?_
  exact h
set_option maxRecDepth 8000 in
theorem st282_52_22 (N : Nat) (X : Nat → Int) (d : Nat) (x1 x2 : Int) (U : Nat → Nat → Int) (R : Option am_V × am_M) (h : ((((am_shl 1 x1) ≤ x2 : Prop)) → R = (none, (am_sh, am_mm U))) ∧ (¬ ((am_shl 1 x1) ≤ x2) → (((4096 ≤ x2 : Prop)) → R = (none, (am_sh, am_mm U))) ∧ (¬ (4096 ≤ x2) → ∃ (r1 : Int) (U1 : Nat → Nat → Int), Ev (am_kz N X) (d, 314, 0, [some (.inl x2), none], [], (am_sh, am_mm U)) (some (.inl r1), (am_sh, am_mm U1)) ∧ (0 ≤ (w32 ((U1 52 6) + r1)) ∧ (w32 ((U1 52 6) + r1)) < 16) ∧ (0 ≤ (am_and x2 (w32 (x2 - 1))) ∧ (am_and x2 (w32 (x2 - 1))) < 4096) ∧ Ev (am_kz N X) ((d + 1), 282, 85, [some (.inr (.inr 52)), some (.inl x1), some (.inl x2), some (.inl r1), some (.inl (am_and x2 (w32 (x2 - 1)))), some (.inl (am_and (am_and x2 (w32 (x2 - 1))) (am_shr (U1 53 (w32 ((U1 52 6) + r1)).toNat) (U1 52 6)))), some (.inl (U1 44 (am_and x2 (w32 (x2 - 1))).toNat)), some (.inl (w32 (r1 + 1)))], [], (am_sh, am_mm U1)) R))) : Ev (am_kz N X) ((d + 1), 282, 22, [some (.inr (.inr 52)), some (.inl x1), some (.inl x2), none, none, none, none, none], [], (am_sh, am_mm U)) R := by
  refine ev_br (P := (am_shl 1 x1) ≤ x2) (σ1 := ((d + 1), 282, 145, [some (.inr (.inr 52)), some (.inl x1), some (.inl x2), none, none, none, none, none], [], (am_sh, am_mm U))) (σ2 := ((d + 1), 282, 29, [some (.inr (.inr 52)), some (.inl x1), some (.inl x2), none, none, none, none, none], [], (am_sh, am_mm U))) 5 (fun _ => rfl) (fun hc => ?_) (fun hc => ?_)
  · have h1 := h.1 hc
    subst h1
    exact ev_end 1 (fun _ => rfl)
  · have h2 := h.2 hc
    refine ev_br (P := 4096 ≤ x2) (σ1 := ((d + 1), 282, 145, [some (.inr (.inr 52)), some (.inl x1), some (.inl x2), none, none, none, none, none], [], (am_sh, am_mm U))) (σ2 := ((d + 1), 282, 38, [some (.inr (.inr 52)), some (.inl x1), some (.inl x2), none, none, none, none, none], [], (am_sh, am_mm U))) 5 (fun _ => rfl) (fun hc => ?_) (fun hc => ?_)
    · have h21 := h2.1 hc
      subst h21
      exact ev_end 1 (fun _ => rfl)
    · have h22 := h2.2 hc
      refine ev_seg (σ1 := ((d + 1), 282, 39, [some (.inr (.inr 52)), some (.inl x1), some (.inl x2), none, none, none, none, none], [.inl x2], (am_sh, am_mm U))) 1 (fun _ => rfl) ?_
      obtain ⟨r1, U1, h22c, h22a⟩ := h22
      refine ev_cal (σc := (d, 314, 0, [some (.inl x2), none], [], (am_sh, am_mm U))) (fun _ => rfl) h22c ?_
      show Ev (am_kz N X) ((d + 1), 282, 42, [some (.inr (.inr 52)), some (.inl x1), some (.inl x2), none, none, none, none, none], [.inl r1], (am_sh, am_mm U1)) R
      refine ev_seg (σ1 := ((d + 1), 282, 62, [some (.inr (.inr 52)), some (.inl x1), some (.inl x2), some (.inl r1), some (.inl (am_and x2 (w32 (x2 - 1)))), none, none, none], [.inl (w32 ((U1 52 6) + r1)), .inr (.inr 53), .inl (am_and x2 (w32 (x2 - 1)))], (am_sh, am_mm U1))) 14 (fun _ => rfl) ?_
      refine eu_iald 53 (n := 16) rfl (by decide) rfl (fun _ => rfl) h22a.1 ?_
      have h22aa := h22a.2
      refine ev_seg (σ1 := ((d + 1), 282, 77, [some (.inr (.inr 52)), some (.inl x1), some (.inl x2), some (.inl r1), some (.inl (am_and x2 (w32 (x2 - 1)))), some (.inl (am_and (am_and x2 (w32 (x2 - 1))) (am_shr (U1 53 (w32 ((U1 52 6) + r1)).toNat) (U1 52 6)))), none, none], [.inl (am_and x2 (w32 (x2 - 1))), .inr (.inr 44)], (am_sh, am_mm U1))) 8 (fun _ => rfl) ?_
      refine eu_iald 44 (n := 4096) rfl (by decide) rfl (fun _ => rfl) h22aa.1 ?_
      have h22aaa := h22aa.2
      refine ev_seg (σ1 := ((d + 1), 282, 85, [some (.inr (.inr 52)), some (.inl x1), some (.inl x2), some (.inl r1), some (.inl (am_and x2 (w32 (x2 - 1)))), some (.inl (am_and (am_and x2 (w32 (x2 - 1))) (am_shr (U1 53 (w32 ((U1 52 6) + r1)).toNat) (U1 52 6)))), some (.inl (U1 44 (am_and x2 (w32 (x2 - 1))).toNat)), some (.inl (w32 (r1 + 1)))], [], (am_sh, am_mm U1))) 5 (fun _ => rfl) ?_
      exact h22aaa
set_option maxRecDepth 8000 in
theorem st282_52_85 (N : Nat) (X : Nat → Int) (d : Nat) (x1 x2 x3 x4 x5 x6 x7 : Int) (U : Nat → Nat → Int) (R : Option am_V × am_M) (h : (((x1 ≤ x7 : Prop)) → (0 ≤ x2 ∧ x2 < 4096) ∧ Ev (am_kz N X) ((d + 1), 282, 22, [some (.inr (.inr 52)), some (.inl x1), some (.inl (w32 (x2 + 1))), some (.inl x3), some (.inl x4), some (.inl x5), some (.inl x6), some (.inl x7)], [], (am_sh, am_mm (am_upd U 44 x2.toNat x6))) R) ∧ (¬ (x1 ≤ x7) → (((¬ (am_and (am_shr x5 x7) 1) = 1 : Prop)) → Ev (am_kz N X) ((d + 1), 282, 85, [some (.inr (.inr 52)), some (.inl x1), some (.inl x2), some (.inl x3), some (.inl x4), some (.inl x5), some (.inl x6), some (.inl (w32 (x7 + 1)))], [], (am_sh, am_mm U)) R) ∧ (¬ (¬ (am_and (am_shr x5 x7) 1) = 1) → (0 ≤ (am_and x4 (am_xor (am_shl 1 x7) (-1))) ∧ (am_and x4 (am_xor (am_shl 1 x7) (-1))) < 4096) ∧ Ev (am_kz N X) ((d + 1), 282, 85, [some (.inr (.inr 52)), some (.inl x1), some (.inl x2), some (.inl x3), some (.inl x4), some (.inl x5), some (.inl (if x6 < (w32 (1 + (U 44 (am_and x4 (am_xor (am_shl 1 x7) (-1))).toNat))) then (w32 (1 + (U 44 (am_and x4 (am_xor (am_shl 1 x7) (-1))).toNat))) else x6)), some (.inl (w32 (x7 + 1)))], [], (am_sh, am_mm U)) R))) : Ev (am_kz N X) ((d + 1), 282, 85, [some (.inr (.inr 52)), some (.inl x1), some (.inl x2), some (.inl x3), some (.inl x4), some (.inl x5), some (.inl x6), some (.inl x7)], [], (am_sh, am_mm U)) R := by
  refine ev_br (P := x1 ≤ x7) (σ1 := ((d + 1), 282, 131, [some (.inr (.inr 52)), some (.inl x1), some (.inl x2), some (.inl x3), some (.inl x4), some (.inl x5), some (.inl x6), some (.inl x7)], [], (am_sh, am_mm U))) (σ2 := ((d + 1), 282, 91, [some (.inr (.inr 52)), some (.inl x1), some (.inl x2), some (.inl x3), some (.inl x4), some (.inl x5), some (.inl x6), some (.inl x7)], [], (am_sh, am_mm U))) 3 (fun _ => rfl) (fun hc => ?_) (fun hc => ?_)
  · have h1 := h.1 hc
    refine ev_seg (σ1 := ((d + 1), 282, 138, [some (.inr (.inr 52)), some (.inl x1), some (.inl x2), some (.inl x3), some (.inl x4), some (.inl x5), some (.inl x6), some (.inl x7)], [.inl x6, .inl x2, .inr (.inr 44)], (am_sh, am_mm U))) 4 (fun _ => rfl) ?_
    refine eu_iast 44 (n := 4096) rfl (by decide) rfl (fun _ => rfl) h1.1 ?_
    have h1a := h1.2
    refine ev_seg (σ1 := ((d + 1), 282, 22, [some (.inr (.inr 52)), some (.inl x1), some (.inl (w32 (x2 + 1))), some (.inl x3), some (.inl x4), some (.inl x5), some (.inl x6), some (.inl x7)], [], (am_sh, am_mm (am_upd U 44 x2.toNat x6)))) 2 (fun _ => rfl) ?_
    exact h1a
  · have h2 := h.2 hc
    refine ev_br (P := ¬ (am_and (am_shr x5 x7) 1) = 1) (σ1 := ((d + 1), 282, 125, [some (.inr (.inr 52)), some (.inl x1), some (.inl x2), some (.inl x3), some (.inl x4), some (.inl x5), some (.inl x6), some (.inl x7)], [], (am_sh, am_mm U))) (σ2 := ((d + 1), 282, 102, [some (.inr (.inr 52)), some (.inl x1), some (.inl x2), some (.inl x3), some (.inl x4), some (.inl x5), some (.inl x6), some (.inl x7)], [], (am_sh, am_mm U))) 7 (fun _ => rfl) (fun hc => ?_) (fun hc => ?_)
    · have h21 := h2.1 hc
      refine ev_seg (σ1 := ((d + 1), 282, 85, [some (.inr (.inr 52)), some (.inl x1), some (.inl x2), some (.inl x3), some (.inl x4), some (.inl x5), some (.inl x6), some (.inl (w32 (x7 + 1)))], [], (am_sh, am_mm U))) 2 (fun _ => rfl) ?_
      exact h21
    · have h22 := h2.2 hc
      refine ev_seg (σ1 := ((d + 1), 282, 118, [some (.inr (.inr 52)), some (.inl x1), some (.inl x2), some (.inl x3), some (.inl x4), some (.inl x5), some (.inl x6), some (.inl x7)], [.inl (am_and x4 (am_xor (am_shl 1 x7) (-1))), .inr (.inr 44), .inl 1, .inl x6], (am_sh, am_mm U))) 11 (fun _ => rfl) ?_
      refine eu_iald 44 (n := 4096) rfl (by decide) rfl (fun _ => rfl) h22.1 ?_
      have h22a := h22.2
      refine ev_seg (σ1 := ((d + 1), 282, 85, [some (.inr (.inr 52)), some (.inl x1), some (.inl x2), some (.inl x3), some (.inl x4), some (.inl x5), some (.inl (if x6 < (w32 (1 + (U 44 (am_and x4 (am_xor (am_shl 1 x7) (-1))).toNat))) then (w32 (1 + (U 44 (am_and x4 (am_xor (am_shl 1 x7) (-1))).toNat))) else x6)), some (.inl (w32 (x7 + 1)))], [], (am_sh, am_mm U))) 5 (fun _ => rfl) ?_
      exact h22a
set_option maxRecDepth 8000 in
theorem st283_52_0 (N : Nat) (X : Nat → Int) (d : Nat) (x1 x2 x3 : Int) (U : Nat → Nat → Int) (R : Option am_V × am_M) (h : ∃ (r1 : Int) (U1 : Nat → Nat → Int), Ev (am_kz N X) (d, 98, 0, [some (.inl x2)], [], (am_sh, am_mm U)) (some (.inl r1), (am_sh, am_mm U1)) ∧ ((((U1 52 7) < (w32 (x3 + (w32 (Int.tdiv r1 2)))) : Prop)) → (((x1 < (U1 52 6) : Prop)) → (((¬ (am_and x2 (am_xor (am_shl 1 x1) (-1))) = x2 : Prop)) → Ev (am_kz N X) ((d + 1), 283, 61, [some (.inr (.inr 52)), some (.inl x1), some (.inl x2), some (.inl x3), some (.inl (am_and x2 (am_xor (am_shl 1 x1) (-1)))), some (.inl (w32 (x1 + 1)))], [], (am_sh, am_mm U1)) R) ∧ (¬ (¬ (am_and x2 (am_xor (am_shl 1 x1) (-1))) = x2) → ∃ U2 : Nat → Nat → Int, Ev (am_kz N X) (d, 283, 0, [some (.inr (.inr 52)), some (.inl (w32 (x1 + 1))), some (.inl x2), some (.inl x3), none, none], [], (am_sh, am_mm U1)) (none, (am_sh, am_mm U2)) ∧ R = (none, (am_sh, am_mm U2)))) ∧ (¬ (x1 < (U1 52 6)) → ∃ U3 : Nat → Nat → Int, Ev (am_kz N X) (d, 315, 0, [some (.inr (.inr 52)), some (.inl x2), some (.inl x3), none], [], (am_sh, am_mm U1)) (none, (am_sh, am_mm U3)) ∧ R = (none, (am_sh, am_mm U3)))) ∧ (¬ ((U1 52 7) < (w32 (x3 + (w32 (Int.tdiv r1 2))))) → R = (none, (am_sh, am_mm U1)))) : Ev (am_kz N X) ((d + 1), 283, 0, [some (.inr (.inr 52)), some (.inl x1), some (.inl x2), some (.inl x3), none, none], [], (am_sh, am_mm U)) R := by
  refine ev_seg (σ1 := ((d + 1), 283, 2, [some (.inr (.inr 52)), some (.inl x1), some (.inl x2), some (.inl x3), none, none], [.inl x2, .inl x3], (am_sh, am_mm U))) 2 (fun _ => rfl) ?_
  obtain ⟨r1, U1, hc, ha⟩ := h
  refine ev_cal (σc := (d, 98, 0, [some (.inl x2)], [], (am_sh, am_mm U))) (fun _ => rfl) hc ?_
  show Ev (am_kz N X) ((d + 1), 283, 5, [some (.inr (.inr 52)), some (.inl x1), some (.inl x2), some (.inl x3), none, none], [.inl r1, .inl x3], (am_sh, am_mm U1)) R
  refine ev_seg (σ1 := ((d + 1), 283, 6, [some (.inr (.inr 52)), some (.inl x1), some (.inl x2), some (.inl x3), none, none], [.inl 2, .inl r1, .inl x3], (am_sh, am_mm U1))) 1 (fun _ => rfl) ?_
  refine ev_idiv rfl (by decide) ?_
  refine ev_br (P := (U1 52 7) < (w32 (x3 + (w32 (Int.tdiv r1 2))))) (σ1 := ((d + 1), 283, 16, [some (.inr (.inr 52)), some (.inl x1), some (.inl x2), some (.inl x3), none, none], [], (am_sh, am_mm U1))) (σ2 := ((d + 1), 283, 15, [some (.inr (.inr 52)), some (.inl x1), some (.inl x2), some (.inl x3), none, none], [], (am_sh, am_mm U1))) 4 (fun _ => rfl) (fun hc => ?_) (fun hc => ?_)
  · have ha1 := ha.1 hc
    refine ev_br (P := x1 < (U1 52 6)) (σ1 := ((d + 1), 283, 31, [some (.inr (.inr 52)), some (.inl x1), some (.inl x2), some (.inl x3), none, none], [], (am_sh, am_mm U1))) (σ2 := ((d + 1), 283, 24, [some (.inr (.inr 52)), some (.inl x1), some (.inl x2), some (.inl x3), none, none], [], (am_sh, am_mm U1))) 4 (fun _ => rfl) (fun hc => ?_) (fun hc => ?_)
    · have ha11 := ha1.1 hc
      refine ev_br (P := ¬ (am_and x2 (am_xor (am_shl 1 x1) (-1))) = x2) (σ1 := ((d + 1), 283, 56, [some (.inr (.inr 52)), some (.inl x1), some (.inl x2), some (.inl x3), some (.inl (am_and x2 (am_xor (am_shl 1 x1) (-1)))), none], [], (am_sh, am_mm U1))) (σ2 := ((d + 1), 283, 46, [some (.inr (.inr 52)), some (.inl x1), some (.inl x2), some (.inl x3), some (.inl (am_and x2 (am_xor (am_shl 1 x1) (-1)))), none], [], (am_sh, am_mm U1))) 11 (fun _ => rfl) (fun hc => ?_) (fun hc => ?_)
      · have ha111 := ha11.1 hc
        refine ev_seg (σ1 := ((d + 1), 283, 61, [some (.inr (.inr 52)), some (.inl x1), some (.inl x2), some (.inl x3), some (.inl (am_and x2 (am_xor (am_shl 1 x1) (-1)))), some (.inl (w32 (x1 + 1)))], [], (am_sh, am_mm U1))) 4 (fun _ => rfl) ?_
        exact ha111
      · have ha112 := ha11.2 hc
        refine ev_seg (σ1 := ((d + 1), 283, 52, [some (.inr (.inr 52)), some (.inl x1), some (.inl x2), some (.inl x3), some (.inl (am_and x2 (am_xor (am_shl 1 x1) (-1)))), none], [.inl x3, .inl x2, .inl (w32 (x1 + 1)), .inr (.inr 52)], (am_sh, am_mm U1))) 6 (fun _ => rfl) ?_
        obtain ⟨U2, ha112c, ha112a⟩ := ha112
        refine ev_cal (σc := (d, 283, 0, [some (.inr (.inr 52)), some (.inl (w32 (x1 + 1))), some (.inl x2), some (.inl x3), none, none], [], (am_sh, am_mm U1))) (fun _ => rfl) ha112c ?_
        show Ev (am_kz N X) ((d + 1), 283, 55, [some (.inr (.inr 52)), some (.inl x1), some (.inl x2), some (.inl x3), some (.inl (am_and x2 (am_xor (am_shl 1 x1) (-1)))), none], [], (am_sh, am_mm U2)) R
        subst ha112a
        exact ev_end 1 (fun _ => rfl)
    · have ha12 := ha1.2 hc
      refine ev_seg (σ1 := ((d + 1), 283, 27, [some (.inr (.inr 52)), some (.inl x1), some (.inl x2), some (.inl x3), none, none], [.inl x3, .inl x2, .inr (.inr 52)], (am_sh, am_mm U1))) 3 (fun _ => rfl) ?_
      obtain ⟨U3, ha12c, ha12a⟩ := ha12
      refine ev_cal (σc := (d, 315, 0, [some (.inr (.inr 52)), some (.inl x2), some (.inl x3), none], [], (am_sh, am_mm U1))) (fun _ => rfl) ha12c ?_
      show Ev (am_kz N X) ((d + 1), 283, 30, [some (.inr (.inr 52)), some (.inl x1), some (.inl x2), some (.inl x3), none, none], [], (am_sh, am_mm U3)) R
      subst ha12a
      exact ev_end 1 (fun _ => rfl)
  · have ha2 := ha.2 hc
    subst ha2
    exact ev_end 1 (fun _ => rfl)
set_option maxRecDepth 8000 in
theorem st283_52_61 (N : Nat) (X : Nat → Int) (d : Nat) (x1 x2 x3 x4 x5 : Int) (U : Nat → Nat → Int) (R : Option am_V × am_M) (h : ((((U 16 0) ≤ x5 : Prop)) → ∃ U1 : Nat → Nat → Int, Ev (am_kz N X) (d, 283, 0, [some (.inr (.inr 52)), some (.inl (w32 (x1 + 1))), some (.inl x4), some (.inl x3), none, none], [], (am_sh, am_mm U)) (none, (am_sh, am_mm U1)) ∧ R = (none, (am_sh, am_mm U1))) ∧ (¬ ((U 16 0) ≤ x5) → (0 ≤ x1 ∧ x1 < 16) ∧ (((¬ (am_and (am_shr (am_and x4 (U 53 x1.toNat)) x5) 1) = 1 : Prop)) → Ev (am_kz N X) ((d + 1), 283, 61, [some (.inr (.inr 52)), some (.inl x1), some (.inl x2), some (.inl x3), some (.inl x4), some (.inl (w32 (x5 + 1)))], [], (am_sh, am_mm U)) R) ∧ (¬ (¬ (am_and (am_shr (am_and x4 (U 53 x1.toNat)) x5) 1) = 1) → (0 ≤ x1 ∧ x1 < 16) ∧ (0 ≤ x5 ∧ x5 < 16) ∧ ∃ U2 : Nat → Nat → Int, Ev (am_kz N X) (d, 283, 0, [some (.inr (.inr 52)), some (.inl (w32 (x1 + 1))), some (.inl (am_and x4 (am_xor (am_shl 1 x5) (-1)))), some (.inl (w32 (x3 + 1))), none, none], [], (am_sh, am_mm (am_upd (am_upd U 54 x1.toNat x5) 54 x5.toNat x1))) (none, (am_sh, am_mm U2)) ∧ (0 ≤ x1 ∧ x1 < 16) ∧ (0 ≤ x5 ∧ x5 < 16) ∧ Ev (am_kz N X) ((d + 1), 283, 61, [some (.inr (.inr 52)), some (.inl x1), some (.inl x2), some (.inl x3), some (.inl x4), some (.inl (w32 (x5 + 1)))], [], (am_sh, am_mm (am_upd (am_upd U2 54 x1.toNat 20) 54 x5.toNat 20))) R))) : Ev (am_kz N X) ((d + 1), 283, 61, [some (.inr (.inr 52)), some (.inl x1), some (.inl x2), some (.inl x3), some (.inl x4), some (.inl x5)], [], (am_sh, am_mm U)) R := by
  refine ev_br (P := (U 16 0) ≤ x5) (σ1 := ((d + 1), 283, 149, [some (.inr (.inr 52)), some (.inl x1), some (.inl x2), some (.inl x3), some (.inl x4), some (.inl x5)], [], (am_sh, am_mm U))) (σ2 := ((d + 1), 283, 73, [some (.inr (.inr 52)), some (.inl x1), some (.inl x2), some (.inl x3), some (.inl x4), some (.inl x5)], [], (am_sh, am_mm U))) 5 (fun _ => rfl) (fun hc => ?_) (fun hc => ?_)
  · have h1 := h.1 hc
    refine ev_seg (σ1 := ((d + 1), 283, 156, [some (.inr (.inr 52)), some (.inl x1), some (.inl x2), some (.inl x3), some (.inl x4), some (.inl x5)], [.inl x3, .inl x4, .inl (w32 (x1 + 1)), .inr (.inr 52)], (am_sh, am_mm U))) 6 (fun _ => rfl) ?_
    obtain ⟨U1, h1c, h1a⟩ := h1
    refine ev_cal (σc := (d, 283, 0, [some (.inr (.inr 52)), some (.inl (w32 (x1 + 1))), some (.inl x4), some (.inl x3), none, none], [], (am_sh, am_mm U))) (fun _ => rfl) h1c ?_
    show Ev (am_kz N X) ((d + 1), 283, 159, [some (.inr (.inr 52)), some (.inl x1), some (.inl x2), some (.inl x3), some (.inl x4), some (.inl x5)], [], (am_sh, am_mm U1)) R
    subst h1a
    exact ev_end 1 (fun _ => rfl)
  · have h2 := h.2 hc
    refine ev_seg (σ1 := ((d + 1), 283, 80, [some (.inr (.inr 52)), some (.inl x1), some (.inl x2), some (.inl x3), some (.inl x4), some (.inl x5)], [.inl x1, .inr (.inr 53), .inl x4], (am_sh, am_mm U))) 4 (fun _ => rfl) ?_
    refine eu_iald 53 (n := 16) rfl (by decide) rfl (fun _ => rfl) h2.1 ?_
    have h2a := h2.2
    refine ev_br (P := ¬ (am_and (am_shr (am_and x4 (U 53 x1.toNat)) x5) 1) = 1) (σ1 := ((d + 1), 283, 143, [some (.inr (.inr 52)), some (.inl x1), some (.inl x2), some (.inl x3), some (.inl x4), some (.inl x5)], [], (am_sh, am_mm U))) (σ2 := ((d + 1), 283, 91, [some (.inr (.inr 52)), some (.inl x1), some (.inl x2), some (.inl x3), some (.inl x4), some (.inl x5)], [], (am_sh, am_mm U))) 7 (fun _ => rfl) (fun hc => ?_) (fun hc => ?_)
    · have h2a1 := h2a.1 hc
      refine ev_seg (σ1 := ((d + 1), 283, 61, [some (.inr (.inr 52)), some (.inl x1), some (.inl x2), some (.inl x3), some (.inl x4), some (.inl (w32 (x5 + 1)))], [], (am_sh, am_mm U))) 2 (fun _ => rfl) ?_
      exact h2a1
    · have h2a2 := h2a.2 hc
      refine ev_seg (σ1 := ((d + 1), 283, 98, [some (.inr (.inr 52)), some (.inl x1), some (.inl x2), some (.inl x3), some (.inl x4), some (.inl x5)], [.inl x5, .inl x1, .inr (.inr 54)], (am_sh, am_mm U))) 4 (fun _ => rfl) ?_
      refine eu_iast 54 (n := 16) rfl (by decide) rfl (fun _ => rfl) h2a2.1 ?_
      have h2a2a := h2a2.2
      refine ev_seg (σ1 := ((d + 1), 283, 106, [some (.inr (.inr 52)), some (.inl x1), some (.inl x2), some (.inl x3), some (.inl x4), some (.inl x5)], [.inl x1, .inl x5, .inr (.inr 54)], (am_sh, am_mm (am_upd U 54 x1.toNat x5)))) 4 (fun _ => rfl) ?_
      refine eu_iast 54 (n := 16) rfl (by decide) rfl (fun _ => rfl) h2a2a.1 ?_
      have h2a2aa := h2a2a.2
      refine ev_seg (σ1 := ((d + 1), 283, 123, [some (.inr (.inr 52)), some (.inl x1), some (.inl x2), some (.inl x3), some (.inl x4), some (.inl x5)], [.inl (w32 (x3 + 1)), .inl (am_and x4 (am_xor (am_shl 1 x5) (-1))), .inl (w32 (x1 + 1)), .inr (.inr 52)], (am_sh, am_mm (am_upd (am_upd U 54 x1.toNat x5) 54 x5.toNat x1)))) 14 (fun _ => rfl) ?_
      obtain ⟨U2, h2a2aac, h2a2aaa⟩ := h2a2aa
      refine ev_cal (σc := (d, 283, 0, [some (.inr (.inr 52)), some (.inl (w32 (x1 + 1))), some (.inl (am_and x4 (am_xor (am_shl 1 x5) (-1)))), some (.inl (w32 (x3 + 1))), none, none], [], (am_sh, am_mm (am_upd (am_upd U 54 x1.toNat x5) 54 x5.toNat x1)))) (fun _ => rfl) h2a2aac ?_
      show Ev (am_kz N X) ((d + 1), 283, 126, [some (.inr (.inr 52)), some (.inl x1), some (.inl x2), some (.inl x3), some (.inl x4), some (.inl x5)], [], (am_sh, am_mm U2)) R
      refine ev_seg (σ1 := ((d + 1), 283, 133, [some (.inr (.inr 52)), some (.inl x1), some (.inl x2), some (.inl x3), some (.inl x4), some (.inl x5)], [.inl 20, .inl x1, .inr (.inr 54)], (am_sh, am_mm U2))) 4 (fun _ => rfl) ?_
      refine eu_iast 54 (n := 16) rfl (by decide) rfl (fun _ => rfl) h2a2aaa.1 ?_
      have h2a2aaaa := h2a2aaa.2
      refine ev_seg (σ1 := ((d + 1), 283, 142, [some (.inr (.inr 52)), some (.inl x1), some (.inl x2), some (.inl x3), some (.inl x4), some (.inl x5)], [.inl 20, .inl x5, .inr (.inr 54)], (am_sh, am_mm (am_upd U2 54 x1.toNat 20)))) 4 (fun _ => rfl) ?_
      refine eu_iast 54 (n := 16) rfl (by decide) rfl (fun _ => rfl) h2a2aaaa.1 ?_
      have h2a2aaaaa := h2a2aaaa.2
      refine ev_seg (σ1 := ((d + 1), 283, 61, [some (.inr (.inr 52)), some (.inl x1), some (.inl x2), some (.inl x3), some (.inl x4), some (.inl (w32 (x5 + 1)))], [], (am_sh, am_mm (am_upd (am_upd U2 54 x1.toNat 20) 54 x5.toNat 20)))) 2 (fun _ => rfl) ?_
      exact h2a2aaaaa
set_option maxRecDepth 8000 in
theorem st211_54_0 (N : Nat) (X : Nat → Int) (d : Nat) (x1 : Int) (U : Nat → Nat → Int) (R : Option am_V × am_M) (h : Ev (am_kz N X) (d, 211, 5, [some (.inr (.inr 54)), some (.inl x1), some (.inl 0), some (.inl 16)], [], (am_sh, am_mm U)) R) : Ev (am_kz N X) (d, 211, 0, [some (.inr (.inr 54)), some (.inl x1), none, none], [], (am_sh, am_mm U)) R := by
  refine ev_seg (σ1 := (d, 211, 5, [some (.inr (.inr 54)), some (.inl x1), some (.inl 0), some (.inl 16)], [], (am_sh, am_mm U))) 5 (fun _ => rfl) ?_
  exact h
set_option maxRecDepth 8000 in
theorem st211_54_5 (N : Nat) (X : Nat → Int) (d : Nat) (x1 x2 x3 : Int) (U : Nat → Nat → Int) (R : Option am_V × am_M) (h : (((x3 ≤ x2 : Prop)) → R = (none, (am_sh, am_mm U))) ∧ (¬ (x3 ≤ x2) → (0 ≤ x2 ∧ x2 < 16) ∧ Ev (am_kz N X) (d, 211, 5, [some (.inr (.inr 54)), some (.inl x1), some (.inl (w32 (x2 + 1))), some (.inl x3)], [], (am_sh, am_mm (am_upd U 54 x2.toNat x1))) R)) : Ev (am_kz N X) (d, 211, 5, [some (.inr (.inr 54)), some (.inl x1), some (.inl x2), some (.inl x3)], [], (am_sh, am_mm U)) R := by
  refine ev_br (P := x3 ≤ x2) (σ1 := (d, 211, 20, [some (.inr (.inr 54)), some (.inl x1), some (.inl x2), some (.inl x3)], [], (am_sh, am_mm U))) (σ2 := (d, 211, 10, [some (.inr (.inr 54)), some (.inl x1), some (.inl x2), some (.inl x3)], [], (am_sh, am_mm U))) 3 (fun _ => rfl) (fun hc => ?_) (fun hc => ?_)
  · have h1 := h.1 hc
    subst h1
    exact ev_end 1 (fun _ => rfl)
  · have h2 := h.2 hc
    refine ev_seg (σ1 := (d, 211, 13, [some (.inr (.inr 54)), some (.inl x1), some (.inl x2), some (.inl x3)], [.inl x1, .inl x2, .inr (.inr 54)], (am_sh, am_mm U))) 3 (fun _ => rfl) ?_
    refine eu_iast 54 (n := 16) rfl (by decide) rfl (fun _ => rfl) h2.1 ?_
    have h2a := h2.2
    refine ev_seg (σ1 := (d, 211, 5, [some (.inr (.inr 54)), some (.inl x1), some (.inl (w32 (x2 + 1))), some (.inl x3)], [], (am_sh, am_mm (am_upd U 54 x2.toNat x1)))) 2 (fun _ => rfl) ?_
    exact h2a
set_option maxRecDepth 8000 in
theorem st284_52_0 (N : Nat) (X : Nat → Int) (d : Nat) (U : Nat → Nat → Int) (R : Option am_V × am_M) (h : Ev (am_kz N X) ((d + 1), 284, 7, [some (.inr (.inr 52)), some (.inl 0), some (.inl (U 52 6)), none], [], (am_sh, am_mm U)) R) : Ev (am_kz N X) ((d + 1), 284, 0, [some (.inr (.inr 52)), none, none, none], [], (am_sh, am_mm U)) R := by
  refine ev_seg (σ1 := ((d + 1), 284, 7, [some (.inr (.inr 52)), some (.inl 0), some (.inl (U 52 6)), none], [], (am_sh, am_mm U))) 5 (fun _ => rfl) ?_
  exact h
set_option maxRecDepth 8000 in
theorem st284_52_7 (N : Nat) (X : Nat → Int) (d : Nat) (x1 x2 : Int) (U : Nat → Nat → Int) (R : Option am_V × am_M) (h : ((((U 16 0) ≤ x2 : Prop)) → Ev (am_kz N X) ((d + 1), 284, 55, [some (.inr (.inr 52)), some (.inl x1), some (.inl (U 52 6)), none], [], (am_sh, am_mm U)) R) ∧ (¬ ((U 16 0) ≤ x2) → (0 ≤ x2 ∧ x2 < 16) ∧ (((¬ (U 55 x2.toNat) = 20 : Prop)) → Ev (am_kz N X) ((d + 1), 284, 7, [some (.inr (.inr 52)), some (.inl (am_or x1 0)), some (.inl (w32 (x2 + 1))), none], [], (am_sh, am_mm U)) R) ∧ (¬ (¬ (U 55 x2.toNat) = 20) → Ev (am_kz N X) ((d + 1), 284, 7, [some (.inr (.inr 52)), some (.inl (am_or x1 (am_shl 1 (w32 (x2 - (U 52 6)))))), some (.inl (w32 (x2 + 1))), none], [], (am_sh, am_mm U)) R))) : Ev (am_kz N X) ((d + 1), 284, 7, [some (.inr (.inr 52)), some (.inl x1), some (.inl x2), none], [], (am_sh, am_mm U)) R := by
  refine ev_br (P := (U 16 0) ≤ x2) (σ1 := ((d + 1), 284, 50, [some (.inr (.inr 52)), some (.inl x1), some (.inl x2), none], [], (am_sh, am_mm U))) (σ2 := ((d + 1), 284, 18, [some (.inr (.inr 52)), some (.inl x1), some (.inl x2), none], [], (am_sh, am_mm U))) 5 (fun _ => rfl) (fun hc => ?_) (fun hc => ?_)
  · have h1 := h.1 hc
    refine ev_seg (σ1 := ((d + 1), 284, 55, [some (.inr (.inr 52)), some (.inl x1), some (.inl (U 52 6)), none], [], (am_sh, am_mm U))) 3 (fun _ => rfl) ?_
    exact h1
  · have h2 := h.2 hc
    refine ev_seg (σ1 := ((d + 1), 284, 24, [some (.inr (.inr 52)), some (.inl x1), some (.inl x2), none], [.inl x2, .inr (.inr 55), .inl x1], (am_sh, am_mm U))) 4 (fun _ => rfl) ?_
    refine eu_iald 55 (n := 16) rfl (by decide) rfl (fun _ => rfl) h2.1 ?_
    have h2a := h2.2
    refine ev_br (P := ¬ (U 55 x2.toNat) = 20) (σ1 := ((d + 1), 284, 41, [some (.inr (.inr 52)), some (.inl x1), some (.inl x2), none], [.inl x1], (am_sh, am_mm U))) (σ2 := ((d + 1), 284, 30, [some (.inr (.inr 52)), some (.inl x1), some (.inl x2), none], [.inl x1], (am_sh, am_mm U))) 2 (fun _ => rfl) (fun hc => ?_) (fun hc => ?_)
    · have h2a1 := h2a.1 hc
      refine ev_seg (σ1 := ((d + 1), 284, 7, [some (.inr (.inr 52)), some (.inl (am_or x1 0)), some (.inl (w32 (x2 + 1))), none], [], (am_sh, am_mm U))) 5 (fun _ => rfl) ?_
      exact h2a1
    · have h2a2 := h2a.2 hc
      refine ev_seg (σ1 := ((d + 1), 284, 7, [some (.inr (.inr 52)), some (.inl (am_or x1 (am_shl 1 (w32 (x2 - (U 52 6)))))), some (.inl (w32 (x2 + 1))), none], [], (am_sh, am_mm U))) 11 (fun _ => rfl) ?_
      exact h2a2
set_option maxRecDepth 8000 in
theorem st284_52_55 (N : Nat) (X : Nat → Int) (d : Nat) (x1 x2 : Int) (U : Nat → Nat → Int) (R : Option am_V × am_M) (h : ((((U 16 0) ≤ x2 : Prop)) → R = (none, (am_sh, am_mm U))) ∧ (¬ ((U 16 0) ≤ x2) → ((((am_and x1 (am_xor (am_shl 1 (w32 (x2 - (U 52 6)))) (-1))) = x1 : Prop)) → Ev (am_kz N X) ((d + 1), 284, 55, [some (.inr (.inr 52)), some (.inl x1), some (.inl (w32 (x2 + 1))), some (.inl (am_and x1 (am_xor (am_shl 1 (w32 (x2 - (U 52 6)))) (-1))))], [], (am_sh, am_mm U)) R) ∧ (¬ ((am_and x1 (am_xor (am_shl 1 (w32 (x2 - (U 52 6)))) (-1))) = x1) → ∃ (r1 : Int) (U1 : Nat → Nat → Int), Ev (am_kz N X) (d, 316, 0, [some (.inr (.inr 52)), some (.inl x2), some (.inl x1), some (.inl (am_and x1 (am_xor (am_shl 1 (w32 (x2 - (U 52 6)))) (-1)))), none, none, none], [], (am_sh, am_mm U)) (some (.inl r1), (am_sh, am_mm U1)) ∧ Ev (am_kz N X) ((d + 1), 284, 55, [some (.inr (.inr 52)), some (.inl r1), some (.inl (w32 (x2 + 1))), some (.inl (am_and x1 (am_xor (am_shl 1 (w32 (x2 - (U 52 6)))) (-1))))], [], (am_sh, am_mm U1)) R))) : Ev (am_kz N X) ((d + 1), 284, 55, [some (.inr (.inr 52)), some (.inl x1), some (.inl x2), none], [], (am_sh, am_mm U)) R := by
  refine ev_br (P := (U 16 0) ≤ x2) (σ1 := ((d + 1), 284, 98, [some (.inr (.inr 52)), some (.inl x1), some (.inl x2), none], [], (am_sh, am_mm U))) (σ2 := ((d + 1), 284, 66, [some (.inr (.inr 52)), some (.inl x1), some (.inl x2), none], [], (am_sh, am_mm U))) 5 (fun _ => rfl) (fun hc => ?_) (fun hc => ?_)
  · have h1 := h.1 hc
    subst h1
    exact ev_end 1 (fun _ => rfl)
  · have h2 := h.2 hc
    refine ev_br (P := (am_and x1 (am_xor (am_shl 1 (w32 (x2 - (U 52 6)))) (-1))) = x1) (σ1 := ((d + 1), 284, 92, [some (.inr (.inr 52)), some (.inl x1), some (.inl x2), some (.inl (am_and x1 (am_xor (am_shl 1 (w32 (x2 - (U 52 6)))) (-1))))], [], (am_sh, am_mm U))) (σ2 := ((d + 1), 284, 84, [some (.inr (.inr 52)), some (.inl x1), some (.inl x2), some (.inl (am_and x1 (am_xor (am_shl 1 (w32 (x2 - (U 52 6)))) (-1))))], [], (am_sh, am_mm U))) 14 (fun _ => rfl) (fun hc => ?_) (fun hc => ?_)
    · have h21 := h2.1 hc
      refine ev_seg (σ1 := ((d + 1), 284, 55, [some (.inr (.inr 52)), some (.inl x1), some (.inl (w32 (x2 + 1))), some (.inl (am_and x1 (am_xor (am_shl 1 (w32 (x2 - (U 52 6)))) (-1))))], [], (am_sh, am_mm U))) 2 (fun _ => rfl) ?_
      exact h21
    · have h22 := h2.2 hc
      refine ev_seg (σ1 := ((d + 1), 284, 88, [some (.inr (.inr 52)), some (.inl x1), some (.inl x2), some (.inl (am_and x1 (am_xor (am_shl 1 (w32 (x2 - (U 52 6)))) (-1))))], [.inl (am_and x1 (am_xor (am_shl 1 (w32 (x2 - (U 52 6)))) (-1))), .inl x1, .inl x2, .inr (.inr 52)], (am_sh, am_mm U))) 4 (fun _ => rfl) ?_
      obtain ⟨r1, U1, h22c, h22a⟩ := h22
      refine ev_cal (σc := (d, 316, 0, [some (.inr (.inr 52)), some (.inl x2), some (.inl x1), some (.inl (am_and x1 (am_xor (am_shl 1 (w32 (x2 - (U 52 6)))) (-1)))), none, none, none], [], (am_sh, am_mm U))) (fun _ => rfl) h22c ?_
      show Ev (am_kz N X) ((d + 1), 284, 91, [some (.inr (.inr 52)), some (.inl x1), some (.inl x2), some (.inl (am_and x1 (am_xor (am_shl 1 (w32 (x2 - (U 52 6)))) (-1))))], [.inl r1], (am_sh, am_mm U1)) R
      refine ev_seg (σ1 := ((d + 1), 284, 55, [some (.inr (.inr 52)), some (.inl r1), some (.inl (w32 (x2 + 1))), some (.inl (am_and x1 (am_xor (am_shl 1 (w32 (x2 - (U 52 6)))) (-1))))], [], (am_sh, am_mm U1))) 3 (fun _ => rfl) ?_
      exact h22a
set_option maxRecDepth 8000 in
theorem st281_52_0 (N : Nat) (X : Nat → Int) (d : Nat) (U : Nat → Nat → Int) (R : Option am_V × am_M) (h : ∃ U1 : Nat → Nat → Int, Ev (am_kz N X) (d, 211, 0, [some (.inr (.inr 53)), some (.inl 0), none, none], [], (am_sh, am_mm U)) (none, (am_sh, am_mm U1)) ∧ Ev (am_kz N X) ((d + 1), 281, 10, [some (.inr (.inr 52)), some (.inl 0), none], [], (am_sh, am_mm U1)) R) : Ev (am_kz N X) ((d + 1), 281, 0, [some (.inr (.inr 52)), none, none], [], (am_sh, am_mm U)) R := by
  refine ev_seg (σ1 := ((d + 1), 281, 5, [some (.inr (.inr 52)), none, none], [.inl 0, .inr (.inr 53)], (am_sh, am_mm U))) 3 (fun _ => rfl) ?_
  obtain ⟨U1, hc, ha⟩ := h
  refine ev_cal (σc := (d, 211, 0, [some (.inr (.inr 53)), some (.inl 0), none, none], [], (am_sh, am_mm U))) (fun _ => rfl) hc ?_
  show Ev (am_kz N X) ((d + 1), 281, 8, [some (.inr (.inr 52)), none, none], [], (am_sh, am_mm U1)) R
  refine ev_seg (σ1 := ((d + 1), 281, 10, [some (.inr (.inr 52)), some (.inl 0), none], [], (am_sh, am_mm U1))) 2 (fun _ => rfl) ?_
  exact ha
set_option maxRecDepth 8000 in
theorem st281_52_10 (N : Nat) (X : Nat → Int) (d : Nat) (x1 : Int) (U : Nat → Nat → Int) (R : Option am_V × am_M) (h : ((((U 16 0) ≤ x1 : Prop)) → R = (none, (am_sh, am_mm U))) ∧ (¬ ((U 16 0) ≤ x1) → Ev (am_kz N X) ((d + 1), 281, 25, [some (.inr (.inr 52)), some (.inl x1), some (.inl (w32 (x1 + 1)))], [], (am_sh, am_mm U)) R)) : Ev (am_kz N X) ((d + 1), 281, 10, [some (.inr (.inr 52)), some (.inl x1), none], [], (am_sh, am_mm U)) R := by
  refine ev_br (P := (U 16 0) ≤ x1) (σ1 := ((d + 1), 281, 116, [some (.inr (.inr 52)), some (.inl x1), none], [], (am_sh, am_mm U))) (σ2 := ((d + 1), 281, 21, [some (.inr (.inr 52)), some (.inl x1), none], [], (am_sh, am_mm U))) 5 (fun _ => rfl) (fun hc => ?_) (fun hc => ?_)
  · have h1 := h.1 hc
    subst h1
    exact ev_end 1 (fun _ => rfl)
  · have h2 := h.2 hc
    refine ev_seg (σ1 := ((d + 1), 281, 25, [some (.inr (.inr 52)), some (.inl x1), some (.inl (w32 (x1 + 1)))], [], (am_sh, am_mm U))) 4 (fun _ => rfl) ?_
    exact h2
set_option maxRecDepth 8000 in
theorem st281_52_25 (N : Nat) (X : Nat → Int) (d : Nat) (x1 x2 : Int) (U : Nat → Nat → Int) (R : Option am_V × am_M) (h : ((((U 16 0) ≤ x2 : Prop)) → Ev (am_kz N X) ((d + 1), 281, 10, [some (.inr (.inr 52)), some (.inl (w32 (x1 + 1))), some (.inl x2)], [], (am_sh, am_mm U)) R) ∧ (¬ ((U 16 0) ≤ x2) → (0 ≤ x2 ∧ x2 < 16) ∧ ∃ (r1 : Int) (U1 : Nat → Nat → Int), Ev (am_kz N X) (d, 134, 0, [some (.inr (.inr 45)), some (.inl 8), some (.inl x1), some (.inl (U 17 x2.toNat)), none, none, none, none, none], [], (am_sh, am_mm U)) (some (.inl r1), (am_sh, am_mm U1)) ∧ (((r1 = 0 : Prop)) → Ev (am_kz N X) ((d + 1), 281, 25, [some (.inr (.inr 52)), some (.inl x1), some (.inl (w32 (x2 + 1)))], [], (am_sh, am_mm U1)) R) ∧ (¬ (r1 = 0) → (0 ≤ x1 ∧ x1 < 16) ∧ ∃ (r2 : Int) (U2 : Nat → Nat → Int), Ev (am_kz N X) (d, 134, 0, [some (.inr (.inr 45)), some (.inl 8), some (.inl x2), some (.inl (U1 17 x1.toNat)), none, none, none, none, none], [], (am_sh, am_mm U1)) (some (.inl r2), (am_sh, am_mm U2)) ∧ (((r2 = 0 : Prop)) → Ev (am_kz N X) ((d + 1), 281, 25, [some (.inr (.inr 52)), some (.inl x1), some (.inl (w32 (x2 + 1)))], [], (am_sh, am_mm U2)) R) ∧ (¬ (r2 = 0) → (0 ≤ x1 ∧ x1 < 16) ∧ (0 ≤ x1 ∧ x1 < 16) ∧ (0 ≤ x2 ∧ x2 < 16) ∧ (0 ≤ x2 ∧ x2 < 16) ∧ Ev (am_kz N X) ((d + 1), 281, 25, [some (.inr (.inr 52)), some (.inl x1), some (.inl (w32 (x2 + 1)))], [], (am_sh, am_mm (am_upd (am_upd U2 53 x1.toNat (am_or (U2 53 x1.toNat) (am_shl 1 x2))) 53 x2.toNat (am_or ((am_upd U2 53 x1.toNat (am_or (U2 53 x1.toNat) (am_shl 1 x2))) 53 x2.toNat) (am_shl 1 x1))))) R)))) : Ev (am_kz N X) ((d + 1), 281, 25, [some (.inr (.inr 52)), some (.inl x1), some (.inl x2)], [], (am_sh, am_mm U)) R := by
  refine ev_br (P := (U 16 0) ≤ x2) (σ1 := ((d + 1), 281, 110, [some (.inr (.inr 52)), some (.inl x1), some (.inl x2)], [], (am_sh, am_mm U))) (σ2 := ((d + 1), 281, 36, [some (.inr (.inr 52)), some (.inl x1), some (.inl x2)], [], (am_sh, am_mm U))) 5 (fun _ => rfl) (fun hc => ?_) (fun hc => ?_)
  · have h1 := h.1 hc
    refine ev_seg (σ1 := ((d + 1), 281, 10, [some (.inr (.inr 52)), some (.inl (w32 (x1 + 1))), some (.inl x2)], [], (am_sh, am_mm U))) 2 (fun _ => rfl) ?_
    exact h1
  · have h2 := h.2 hc
    refine ev_seg (σ1 := ((d + 1), 281, 51, [some (.inr (.inr 52)), some (.inl x1), some (.inl x2)], [.inl x2, .inr (.inr 17), .inl x1, .inl 8, .inr (.inr 45)], (am_sh, am_mm U))) 8 (fun _ => rfl) ?_
    refine eu_iald 17 (n := 16) rfl (by decide) rfl (fun _ => rfl) h2.1 ?_
    have h2a := h2.2
    obtain ⟨r1, U1, h2ac, h2aa⟩ := h2a
    refine ev_cal (σc := (d, 134, 0, [some (.inr (.inr 45)), some (.inl 8), some (.inl x1), some (.inl (U 17 x2.toNat)), none, none, none, none, none], [], (am_sh, am_mm U))) (fun _ => rfl) h2ac ?_
    show Ev (am_kz N X) ((d + 1), 281, 55, [some (.inr (.inr 52)), some (.inl x1), some (.inl x2)], [.inl r1], (am_sh, am_mm U1)) R
    refine ev_br (P := r1 = 0) (σ1 := ((d + 1), 281, 104, [some (.inr (.inr 52)), some (.inl x1), some (.inl x2)], [], (am_sh, am_mm U1))) (σ2 := ((d + 1), 281, 58, [some (.inr (.inr 52)), some (.inl x1), some (.inl x2)], [], (am_sh, am_mm U1))) 1 (fun _ => rfl) (fun hc => ?_) (fun hc => ?_)
    · have h2aa1 := h2aa.1 hc
      refine ev_seg (σ1 := ((d + 1), 281, 25, [some (.inr (.inr 52)), some (.inl x1), some (.inl (w32 (x2 + 1)))], [], (am_sh, am_mm U1))) 2 (fun _ => rfl) ?_
      exact h2aa1
    · have h2aa2 := h2aa.2 hc
      refine ev_seg (σ1 := ((d + 1), 281, 73, [some (.inr (.inr 52)), some (.inl x1), some (.inl x2)], [.inl x1, .inr (.inr 17), .inl x2, .inl 8, .inr (.inr 45)], (am_sh, am_mm U1))) 8 (fun _ => rfl) ?_
      refine eu_iald 17 (n := 16) rfl (by decide) rfl (fun _ => rfl) h2aa2.1 ?_
      have h2aa2a := h2aa2.2
      obtain ⟨r2, U2, h2aa2ac, h2aa2aa⟩ := h2aa2a
      refine ev_cal (σc := (d, 134, 0, [some (.inr (.inr 45)), some (.inl 8), some (.inl x2), some (.inl (U1 17 x1.toNat)), none, none, none, none, none], [], (am_sh, am_mm U1))) (fun _ => rfl) h2aa2ac ?_
      show Ev (am_kz N X) ((d + 1), 281, 77, [some (.inr (.inr 52)), some (.inl x1), some (.inl x2)], [.inl r2], (am_sh, am_mm U2)) R
      refine ev_br (P := r2 = 0) (σ1 := ((d + 1), 281, 104, [some (.inr (.inr 52)), some (.inl x1), some (.inl x2)], [], (am_sh, am_mm U2))) (σ2 := ((d + 1), 281, 80, [some (.inr (.inr 52)), some (.inl x1), some (.inl x2)], [], (am_sh, am_mm U2))) 1 (fun _ => rfl) (fun hc => ?_) (fun hc => ?_)
      · have h2aa2aa1 := h2aa2aa.1 hc
        refine ev_seg (σ1 := ((d + 1), 281, 25, [some (.inr (.inr 52)), some (.inl x1), some (.inl (w32 (x2 + 1)))], [], (am_sh, am_mm U2))) 2 (fun _ => rfl) ?_
        exact h2aa2aa1
      · have h2aa2aa2 := h2aa2aa.2 hc
        refine ev_seg (σ1 := ((d + 1), 281, 86, [some (.inr (.inr 52)), some (.inl x1), some (.inl x2)], [.inl x1, .inr (.inr 53), .inl x1, .inr (.inr 53)], (am_sh, am_mm U2))) 4 (fun _ => rfl) ?_
        refine eu_iald 53 (n := 16) rfl (by decide) rfl (fun _ => rfl) h2aa2aa2.1 ?_
        have h2aa2aa2a := h2aa2aa2.2
        refine ev_seg (σ1 := ((d + 1), 281, 91, [some (.inr (.inr 52)), some (.inl x1), some (.inl x2)], [.inl (am_or (U2 53 x1.toNat) (am_shl 1 x2)), .inl x1, .inr (.inr 53)], (am_sh, am_mm U2))) 4 (fun _ => rfl) ?_
        refine eu_iast 53 (n := 16) rfl (by decide) rfl (fun _ => rfl) h2aa2aa2a.1 ?_
        have h2aa2aa2aa := h2aa2aa2a.2
        refine ev_seg (σ1 := ((d + 1), 281, 98, [some (.inr (.inr 52)), some (.inl x1), some (.inl x2)], [.inl x2, .inr (.inr 53), .inl x2, .inr (.inr 53)], (am_sh, am_mm (am_upd U2 53 x1.toNat (am_or (U2 53 x1.toNat) (am_shl 1 x2)))))) 4 (fun _ => rfl) ?_
        refine eu_iald 53 (n := 16) rfl (by decide) rfl (fun _ => rfl) h2aa2aa2aa.1 ?_
        have h2aa2aa2aaa := h2aa2aa2aa.2
        refine ev_seg (σ1 := ((d + 1), 281, 103, [some (.inr (.inr 52)), some (.inl x1), some (.inl x2)], [.inl (am_or ((am_upd U2 53 x1.toNat (am_or (U2 53 x1.toNat) (am_shl 1 x2))) 53 x2.toNat) (am_shl 1 x1)), .inl x2, .inr (.inr 53)], (am_sh, am_mm (am_upd U2 53 x1.toNat (am_or (U2 53 x1.toNat) (am_shl 1 x2)))))) 4 (fun _ => rfl) ?_
        refine eu_iast 53 (n := 16) rfl (by decide) rfl (fun _ => rfl) h2aa2aa2aaa.1 ?_
        have h2aa2aa2aaaa := h2aa2aa2aaa.2
        refine ev_seg (σ1 := ((d + 1), 281, 25, [some (.inr (.inr 52)), some (.inl x1), some (.inl (w32 (x2 + 1)))], [], (am_sh, am_mm (am_upd (am_upd U2 53 x1.toNat (am_or (U2 53 x1.toNat) (am_shl 1 x2))) 53 x2.toNat (am_or ((am_upd U2 53 x1.toNat (am_or (U2 53 x1.toNat) (am_shl 1 x2))) 53 x2.toNat) (am_shl 1 x1)))))) 2 (fun _ => rfl) ?_
        exact h2aa2aa2aaaa
set_option maxRecDepth 8000 in
theorem st285_78_0 (N : Nat) (X : Nat → Int) (d : Nat) (x1 x2 : Int) (U : Nat → Nat → Int) (R : Option am_V × am_M) (h : R = (some (.inl (w32 ((w32 ((w32 ((w32 (Int.tdiv (w32 (x1 * (w32 ((w32 ((w32 (2 * (U 78 3))) - x1)) - 1)))) 2)) + x2)) - x1)) - 1))), (am_sh, am_mm U))) : Ev (am_kz N X) (d, 285, 0, [some (.inr (.inr 78)), some (.inl x1), some (.inl x2)], [], (am_sh, am_mm U)) R := by
  refine ev_seg (σ1 := (d, 285, 13, [some (.inr (.inr 78)), some (.inl x1), some (.inl x2)], [.inl 2, .inl (w32 (x1 * (w32 ((w32 ((w32 (2 * (U 78 3))) - x1)) - 1))))], (am_sh, am_mm U))) 11 (fun _ => rfl) ?_
  refine ev_idiv rfl (by decide) ?_
  subst h
  exact ev_end 7 (fun _ => rfl)
set_option maxRecDepth 8000 in
theorem st180_21_0 (N : Nat) (X : Nat → Int) (d : Nat) (x1 x2 : Int) (U : Nat → Nat → Int) (R : Option am_V × am_M) (h : ((((U 21 0) < 16 : Prop)) → (0 ≤ (U 21 0) ∧ (U 21 0) < 16) ∧ ((((U 22 (U 21 0).toNat) = x1 : Prop)) → (0 ≤ (U 21 0) ∧ (U 21 0) < 16) ∧ ∃ U1 : Nat → Nat → Int, Ev (am_kz N X) (d, 138, 0, [some (.inr (.inr 21)), some (.inl (w32 (((am_upd (am_upd U 23 (U 21 0).toNat (-1)) 21 0 (w32 (((am_upd U 23 (U 21 0).toNat (-1)) 21 0) + 1))) 21 0) - 1))), some (.inl x2), none], [], (am_sh, am_mm (am_upd (am_upd U 23 (U 21 0).toNat (-1)) 21 0 (w32 (((am_upd U 23 (U 21 0).toNat (-1)) 21 0) + 1))))) (none, (am_sh, am_mm U1)) ∧ R = (none, (am_sh, am_mm U1))) ∧ (¬ ((U 22 (U 21 0).toNat) = x1) → (0 ≤ (U 21 0) ∧ (U 21 0) < 16) ∧ (0 ≤ ((am_upd U 22 (U 21 0).toNat x1) 21 0) ∧ ((am_upd U 22 (U 21 0).toNat x1) 21 0) < 16) ∧ (0 ≤ ((am_upd (am_upd U 22 (U 21 0).toNat x1) 25 ((am_upd U 22 (U 21 0).toNat x1) 21 0).toNat (-1)) 21 0) ∧ ((am_upd (am_upd U 22 (U 21 0).toNat x1) 25 ((am_upd U 22 (U 21 0).toNat x1) 21 0).toNat (-1)) 21 0) < 16) ∧ ∃ U2 : Nat → Nat → Int, Ev (am_kz N X) (d, 138, 0, [some (.inr (.inr 21)), some (.inl (w32 (((am_upd (am_upd (am_upd (am_upd U 22 (U 21 0).toNat x1) 25 ((am_upd U 22 (U 21 0).toNat x1) 21 0).toNat (-1)) 23 ((am_upd (am_upd U 22 (U 21 0).toNat x1) 25 ((am_upd U 22 (U 21 0).toNat x1) 21 0).toNat (-1)) 21 0).toNat (-1)) 21 0 (w32 (((am_upd (am_upd (am_upd U 22 (U 21 0).toNat x1) 25 ((am_upd U 22 (U 21 0).toNat x1) 21 0).toNat (-1)) 23 ((am_upd (am_upd U 22 (U 21 0).toNat x1) 25 ((am_upd U 22 (U 21 0).toNat x1) 21 0).toNat (-1)) 21 0).toNat (-1)) 21 0) + 1))) 21 0) - 1))), some (.inl x2), none], [], (am_sh, am_mm (am_upd (am_upd (am_upd (am_upd U 22 (U 21 0).toNat x1) 25 ((am_upd U 22 (U 21 0).toNat x1) 21 0).toNat (-1)) 23 ((am_upd (am_upd U 22 (U 21 0).toNat x1) 25 ((am_upd U 22 (U 21 0).toNat x1) 21 0).toNat (-1)) 21 0).toNat (-1)) 21 0 (w32 (((am_upd (am_upd (am_upd U 22 (U 21 0).toNat x1) 25 ((am_upd U 22 (U 21 0).toNat x1) 21 0).toNat (-1)) 23 ((am_upd (am_upd U 22 (U 21 0).toNat x1) 25 ((am_upd U 22 (U 21 0).toNat x1) 21 0).toNat (-1)) 21 0).toNat (-1)) 21 0) + 1))))) (none, (am_sh, am_mm U2)) ∧ R = (none, (am_sh, am_mm U2)))) ∧ (¬ ((U 21 0) < 16) → R = (none, (am_sh, am_mm U)))) : Ev (am_kz N X) ((d + 1), 180, 0, [some (.inr (.inr 21)), some (.inl x1), some (.inl x2)], [], (am_sh, am_mm U)) R := by
  refine ev_br (P := (U 21 0) < 16) (σ1 := ((d + 1), 180, 10, [some (.inr (.inr 21)), some (.inl x1), some (.inl x2)], [], (am_sh, am_mm U))) (σ2 := ((d + 1), 180, 9, [some (.inr (.inr 21)), some (.inl x1), some (.inl x2)], [], (am_sh, am_mm U))) 4 (fun _ => rfl) (fun hc => ?_) (fun hc => ?_)
  · have h1 := h.1 hc
    refine ev_seg (σ1 := ((d + 1), 180, 18, [some (.inr (.inr 21)), some (.inl x1), some (.inl x2)], [.inl (U 21 0), .inr (.inr 22)], (am_sh, am_mm U))) 4 (fun _ => rfl) ?_
    refine eu_iald 22 (n := 16) rfl (by decide) rfl (fun _ => rfl) h1.1 ?_
    have h1a := h1.2
    refine ev_br (P := (U 22 (U 21 0).toNat) = x1) (σ1 := ((d + 1), 180, 45, [some (.inr (.inr 21)), some (.inl x1), some (.inl x2)], [], (am_sh, am_mm U))) (σ2 := ((d + 1), 180, 23, [some (.inr (.inr 21)), some (.inl x1), some (.inl x2)], [], (am_sh, am_mm U))) 2 (fun _ => rfl) (fun hc => ?_) (fun hc => ?_)
    · have h1a1 := h1a.1 hc
      refine ev_seg (σ1 := ((d + 1), 180, 54, [some (.inr (.inr 21)), some (.inl x1), some (.inl x2)], [.inl (-1), .inl (U 21 0), .inr (.inr 23)], (am_sh, am_mm U))) 5 (fun _ => rfl) ?_
      refine eu_iast 23 (n := 16) rfl (by decide) rfl (fun _ => rfl) h1a1.1 ?_
      have h1a1a := h1a1.2
      refine ev_seg (σ1 := ((d + 1), 180, 62, [some (.inr (.inr 21)), some (.inl x1), some (.inl x2)], [.inl (w32 (((am_upd U 23 (U 21 0).toNat (-1)) 21 0) + 1)), .inr (.inr 21)], (am_sh, am_mm (am_upd U 23 (U 21 0).toNat (-1))))) 5 (fun _ => rfl) ?_
      refine eu_puti 21 (n := 7) rfl (by decide) rfl rfl ?_
      refine ev_seg (σ1 := ((d + 1), 180, 73, [some (.inr (.inr 21)), some (.inl x1), some (.inl x2)], [.inl x2, .inl (w32 (((am_upd (am_upd U 23 (U 21 0).toNat (-1)) 21 0 (w32 (((am_upd U 23 (U 21 0).toNat (-1)) 21 0) + 1))) 21 0) - 1)), .inr (.inr 21)], (am_sh, am_mm (am_upd (am_upd U 23 (U 21 0).toNat (-1)) 21 0 (w32 (((am_upd U 23 (U 21 0).toNat (-1)) 21 0) + 1)))))) 6 (fun _ => rfl) ?_
      obtain ⟨U1, h1a1ac, h1a1aa⟩ := h1a1a
      refine ev_cal (σc := (d, 138, 0, [some (.inr (.inr 21)), some (.inl (w32 (((am_upd (am_upd U 23 (U 21 0).toNat (-1)) 21 0 (w32 (((am_upd U 23 (U 21 0).toNat (-1)) 21 0) + 1))) 21 0) - 1))), some (.inl x2), none], [], (am_sh, am_mm (am_upd (am_upd U 23 (U 21 0).toNat (-1)) 21 0 (w32 (((am_upd U 23 (U 21 0).toNat (-1)) 21 0) + 1)))))) (fun _ => rfl) h1a1ac ?_
      show Ev (am_kz N X) ((d + 1), 180, 76, [some (.inr (.inr 21)), some (.inl x1), some (.inl x2)], [], (am_sh, am_mm U1)) R
      subst h1a1aa
      exact ev_end 1 (fun _ => rfl)
    · have h1a2 := h1a.2 hc
      refine ev_seg (σ1 := ((d + 1), 180, 32, [some (.inr (.inr 21)), some (.inl x1), some (.inl x2)], [.inl x1, .inl (U 21 0), .inr (.inr 22)], (am_sh, am_mm U))) 5 (fun _ => rfl) ?_
      refine eu_iast 22 (n := 16) rfl (by decide) rfl (fun _ => rfl) h1a2.1 ?_
      have h1a2a := h1a2.2
      refine ev_seg (σ1 := ((d + 1), 180, 44, [some (.inr (.inr 21)), some (.inl x1), some (.inl x2)], [.inr (.inl (-1)), .inl ((am_upd U 22 (U 21 0).toNat x1) 21 0), .inr (.inr 25)], (am_sh, am_mm (am_upd U 22 (U 21 0).toNat x1)))) 5 (fun _ => rfl) ?_
      refine eu_last 25 (n := 16) rfl (by decide) rfl (fun _ => rfl) h1a2a.1 ?_
      have h1a2aa := h1a2a.2
      refine ev_seg (σ1 := ((d + 1), 180, 54, [some (.inr (.inr 21)), some (.inl x1), some (.inl x2)], [.inl (-1), .inl ((am_upd (am_upd U 22 (U 21 0).toNat x1) 25 ((am_upd U 22 (U 21 0).toNat x1) 21 0).toNat (-1)) 21 0), .inr (.inr 23)], (am_sh, am_mm (am_upd (am_upd U 22 (U 21 0).toNat x1) 25 ((am_upd U 22 (U 21 0).toNat x1) 21 0).toNat (-1))))) 5 (fun _ => rfl) ?_
      refine eu_iast 23 (n := 16) rfl (by decide) rfl (fun _ => rfl) h1a2aa.1 ?_
      have h1a2aaa := h1a2aa.2
      refine ev_seg (σ1 := ((d + 1), 180, 62, [some (.inr (.inr 21)), some (.inl x1), some (.inl x2)], [.inl (w32 (((am_upd (am_upd (am_upd U 22 (U 21 0).toNat x1) 25 ((am_upd U 22 (U 21 0).toNat x1) 21 0).toNat (-1)) 23 ((am_upd (am_upd U 22 (U 21 0).toNat x1) 25 ((am_upd U 22 (U 21 0).toNat x1) 21 0).toNat (-1)) 21 0).toNat (-1)) 21 0) + 1)), .inr (.inr 21)], (am_sh, am_mm (am_upd (am_upd (am_upd U 22 (U 21 0).toNat x1) 25 ((am_upd U 22 (U 21 0).toNat x1) 21 0).toNat (-1)) 23 ((am_upd (am_upd U 22 (U 21 0).toNat x1) 25 ((am_upd U 22 (U 21 0).toNat x1) 21 0).toNat (-1)) 21 0).toNat (-1))))) 5 (fun _ => rfl) ?_
      refine eu_puti 21 (n := 7) rfl (by decide) rfl rfl ?_
      refine ev_seg (σ1 := ((d + 1), 180, 73, [some (.inr (.inr 21)), some (.inl x1), some (.inl x2)], [.inl x2, .inl (w32 (((am_upd (am_upd (am_upd (am_upd U 22 (U 21 0).toNat x1) 25 ((am_upd U 22 (U 21 0).toNat x1) 21 0).toNat (-1)) 23 ((am_upd (am_upd U 22 (U 21 0).toNat x1) 25 ((am_upd U 22 (U 21 0).toNat x1) 21 0).toNat (-1)) 21 0).toNat (-1)) 21 0 (w32 (((am_upd (am_upd (am_upd U 22 (U 21 0).toNat x1) 25 ((am_upd U 22 (U 21 0).toNat x1) 21 0).toNat (-1)) 23 ((am_upd (am_upd U 22 (U 21 0).toNat x1) 25 ((am_upd U 22 (U 21 0).toNat x1) 21 0).toNat (-1)) 21 0).toNat (-1)) 21 0) + 1))) 21 0) - 1)), .inr (.inr 21)], (am_sh, am_mm (am_upd (am_upd (am_upd (am_upd U 22 (U 21 0).toNat x1) 25 ((am_upd U 22 (U 21 0).toNat x1) 21 0).toNat (-1)) 23 ((am_upd (am_upd U 22 (U 21 0).toNat x1) 25 ((am_upd U 22 (U 21 0).toNat x1) 21 0).toNat (-1)) 21 0).toNat (-1)) 21 0 (w32 (((am_upd (am_upd (am_upd U 22 (U 21 0).toNat x1) 25 ((am_upd U 22 (U 21 0).toNat x1) 21 0).toNat (-1)) 23 ((am_upd (am_upd U 22 (U 21 0).toNat x1) 25 ((am_upd U 22 (U 21 0).toNat x1) 21 0).toNat (-1)) 21 0).toNat (-1)) 21 0) + 1)))))) 6 (fun _ => rfl) ?_
      obtain ⟨U2, h1a2aaac, h1a2aaaa⟩ := h1a2aaa
      refine ev_cal (σc := (d, 138, 0, [some (.inr (.inr 21)), some (.inl (w32 (((am_upd (am_upd (am_upd (am_upd U 22 (U 21 0).toNat x1) 25 ((am_upd U 22 (U 21 0).toNat x1) 21 0).toNat (-1)) 23 ((am_upd (am_upd U 22 (U 21 0).toNat x1) 25 ((am_upd U 22 (U 21 0).toNat x1) 21 0).toNat (-1)) 21 0).toNat (-1)) 21 0 (w32 (((am_upd (am_upd (am_upd U 22 (U 21 0).toNat x1) 25 ((am_upd U 22 (U 21 0).toNat x1) 21 0).toNat (-1)) 23 ((am_upd (am_upd U 22 (U 21 0).toNat x1) 25 ((am_upd U 22 (U 21 0).toNat x1) 21 0).toNat (-1)) 21 0).toNat (-1)) 21 0) + 1))) 21 0) - 1))), some (.inl x2), none], [], (am_sh, am_mm (am_upd (am_upd (am_upd (am_upd U 22 (U 21 0).toNat x1) 25 ((am_upd U 22 (U 21 0).toNat x1) 21 0).toNat (-1)) 23 ((am_upd (am_upd U 22 (U 21 0).toNat x1) 25 ((am_upd U 22 (U 21 0).toNat x1) 21 0).toNat (-1)) 21 0).toNat (-1)) 21 0 (w32 (((am_upd (am_upd (am_upd U 22 (U 21 0).toNat x1) 25 ((am_upd U 22 (U 21 0).toNat x1) 21 0).toNat (-1)) 23 ((am_upd (am_upd U 22 (U 21 0).toNat x1) 25 ((am_upd U 22 (U 21 0).toNat x1) 21 0).toNat (-1)) 21 0).toNat (-1)) 21 0) + 1)))))) (fun _ => rfl) h1a2aaac ?_
      show Ev (am_kz N X) ((d + 1), 180, 76, [some (.inr (.inr 21)), some (.inl x1), some (.inl x2)], [], (am_sh, am_mm U2)) R
      subst h1a2aaaa
      exact ev_end 1 (fun _ => rfl)
  · have h2 := h.2 hc
    subst h2
    exact ev_end 1 (fun _ => rfl)
set_option maxRecDepth 8000 in
theorem st106_21_0 (N : Nat) (X : Nat → Int) (d : Nat) (x1 : Int) (U : Nat → Nat → Int) (R : Option am_V × am_M) (h : (0 ≤ x1 ∧ x1 < 12) ∧ ∃ (r1 : Int) (U1 : Nat → Nat → Int), Ev (am_kz N X) (d, 98, 0, [some (.inl (U 24 x1.toNat))], [], (am_sh, am_mm U)) (some (.inl r1), (am_sh, am_mm U1)) ∧ R = (some (.inl r1), (am_sh, am_mm U1))) : Ev (am_kz N X) ((d + 1), 106, 0, [some (.inr (.inr 21)), some (.inl x1)], [], (am_sh, am_mm U)) R := by
  refine ev_seg (σ1 := ((d + 1), 106, 5, [some (.inr (.inr 21)), some (.inl x1)], [.inl x1, .inr (.inr 24)], (am_sh, am_mm U))) 3 (fun _ => rfl) ?_
  refine eu_iald 24 (n := 12) rfl (by decide) rfl (fun _ => rfl) h.1 ?_
  have ha := h.2
  obtain ⟨r1, U1, hac, haa⟩ := ha
  refine ev_cal (σc := (d, 98, 0, [some (.inl (U 24 x1.toNat))], [], (am_sh, am_mm U))) (fun _ => rfl) hac ?_
  show Ev (am_kz N X) ((d + 1), 106, 9, [some (.inr (.inr 21)), some (.inl x1)], [.inl r1], (am_sh, am_mm U1)) R
  subst haa
  exact ev_end 1 (fun _ => rfl)
set_option maxRecDepth 8000 in
theorem st280_21_0 (N : Nat) (X : Nat → Int) (d : Nat) (x1 : Int) (U : Nat → Nat → Int) (R : Option am_V × am_M) (h : Ev (am_kz N X) (d, 280, 2, [some (.inr (.inr 21)), some (.inl x1), some (.inl 0)], [], (am_sh, am_mm U)) R) : Ev (am_kz N X) (d, 280, 0, [some (.inr (.inr 21)), some (.inl x1), none], [], (am_sh, am_mm U)) R := by
  refine ev_seg (σ1 := (d, 280, 2, [some (.inr (.inr 21)), some (.inl x1), some (.inl 0)], [], (am_sh, am_mm U))) 2 (fun _ => rfl) ?_
  exact h
set_option maxRecDepth 8000 in
theorem st280_21_2 (N : Nat) (X : Nat → Int) (d : Nat) (x1 x2 : Int) (U : Nat → Nat → Int) (R : Option am_V × am_M) (h : ((((U 21 0) ≤ x2 : Prop)) → R = (some (.inl (-1)), (am_sh, am_mm U))) ∧ (¬ ((U 21 0) ≤ x2) → (0 ≤ x2 ∧ x2 < 16) ∧ (((¬ (U 22 x2.toNat) = x1 : Prop)) → Ev (am_kz N X) (d, 280, 2, [some (.inr (.inr 21)), some (.inl x1), some (.inl (w32 (x2 + 1)))], [], (am_sh, am_mm U)) R) ∧ (¬ (¬ (U 22 x2.toNat) = x1) → R = (some (.inl x2), (am_sh, am_mm U))))) : Ev (am_kz N X) (d, 280, 2, [some (.inr (.inr 21)), some (.inl x1), some (.inl x2)], [], (am_sh, am_mm U)) R := by
  refine ev_br (P := (U 21 0) ≤ x2) (σ1 := (d, 280, 28, [some (.inr (.inr 21)), some (.inl x1), some (.inl x2)], [], (am_sh, am_mm U))) (σ2 := (d, 280, 10, [some (.inr (.inr 21)), some (.inl x1), some (.inl x2)], [], (am_sh, am_mm U))) 4 (fun _ => rfl) (fun hc => ?_) (fun hc => ?_)
  · have h1 := h.1 hc
    subst h1
    exact ev_end 2 (fun _ => rfl)
  · have h2 := h.2 hc
    refine ev_seg (σ1 := (d, 280, 15, [some (.inr (.inr 21)), some (.inl x1), some (.inl x2)], [.inl x2, .inr (.inr 22)], (am_sh, am_mm U))) 3 (fun _ => rfl) ?_
    refine eu_iald 22 (n := 16) rfl (by decide) rfl (fun _ => rfl) h2.1 ?_
    have h2a := h2.2
    refine ev_br (P := ¬ (U 22 x2.toNat) = x1) (σ1 := (d, 280, 22, [some (.inr (.inr 21)), some (.inl x1), some (.inl x2)], [], (am_sh, am_mm U))) (σ2 := (d, 280, 20, [some (.inr (.inr 21)), some (.inl x1), some (.inl x2)], [], (am_sh, am_mm U))) 2 (fun _ => rfl) (fun hc => ?_) (fun hc => ?_)
    · have h2a1 := h2a.1 hc
      refine ev_seg (σ1 := (d, 280, 2, [some (.inr (.inr 21)), some (.inl x1), some (.inl (w32 (x2 + 1)))], [], (am_sh, am_mm U))) 2 (fun _ => rfl) ?_
      exact h2a1
    · have h2a2 := h2a.2 hc
      subst h2a2
      exact ev_end 2 (fun _ => rfl)
set_option maxRecDepth 8000 in
theorem st298_26_0 (N : Nat) (X : Nat → Int) (d : Nat) (x1 : Int) (U : Nat → Nat → Int) (R : Option am_V × am_M) (h : ((((U 26 7) = 2 : Prop)) → ∃ (r1 : Int) (U1 : Nat → Nat → Int), Ev (am_kz N X) (d, 320, 0, [some (.inr (.inr 31)), some (.inl (U 26 8)), none], [], (am_sh, am_mm U)) (some (.inl r1), (am_sh, am_mm U1)) ∧ (((r1 < 0 : Prop)) → ∃ (r2 : Int) (U2 : Nat → Nat → Int), Ev (am_kz N X) (d, 249, 0, [some (.inr (.inr 26)), some (.inl 3), some (.inl (U1 26 9))], [], (am_sh, am_mm U1)) (some (.inl r2), (am_sh, am_mm U2)) ∧ R = (some (.inl (-1)), (am_sh, am_mm U2))) ∧ (¬ (r1 < 0) → (((¬ (am_and (am_shr x1 r1) 1) = 1 : Prop)) → ∃ U3 : Nat → Nat → Int, Ev (am_kz N X) (d, 177, 0, [some (.inr (.inr 26))], [], (am_sh, am_mm U1)) (none, (am_sh, am_mm U3)) ∧ R = (some (.inl r1), (am_sh, am_mm U3))) ∧ (¬ (¬ (am_and (am_shr x1 r1) 1) = 1) → ∃ (r4 : Int) (U4 : Nat → Nat → Int), Ev (am_kz N X) (d, 249, 0, [some (.inr (.inr 26)), some (.inl 3), some (.inl (U1 26 9))], [], (am_sh, am_mm U1)) (some (.inl r4), (am_sh, am_mm U4)) ∧ R = (some (.inl (-1)), (am_sh, am_mm U4))))) ∧ (¬ ((U 26 7) = 2) → ∃ (r5 : Int) (U5 : Nat → Nat → Int), Ev (am_kz N X) (d, 262, 0, [some (.inr (.inr 26))], [], (am_sh, am_mm U)) (some (.inl r5), (am_sh, am_mm U5)) ∧ R = (some (.inl (-1)), (am_sh, am_mm U5)))) : Ev (am_kz N X) ((d + 1), 298, 0, [some (.inr (.inr 26)), some (.inl x1), none], [], (am_sh, am_mm U)) R := by
  refine ev_br (P := (U 26 7) = 2) (σ1 := ((d + 1), 298, 15, [some (.inr (.inr 26)), some (.inl x1), none], [], (am_sh, am_mm U))) (σ2 := ((d + 1), 298, 8, [some (.inr (.inr 26)), some (.inl x1), none], [], (am_sh, am_mm U))) 4 (fun _ => rfl) (fun hc => ?_) (fun hc => ?_)
  · have h1 := h.1 hc
    refine ev_seg (σ1 := ((d + 1), 298, 23, [some (.inr (.inr 26)), some (.inl x1), none], [.inl (U 26 8), .inr (.inr 31)], (am_sh, am_mm U))) 4 (fun _ => rfl) ?_
    obtain ⟨r1, U1, h1c, h1a⟩ := h1
    refine ev_cal (σc := (d, 320, 0, [some (.inr (.inr 31)), some (.inl (U 26 8)), none], [], (am_sh, am_mm U))) (fun _ => rfl) h1c ?_
    show Ev (am_kz N X) ((d + 1), 298, 26, [some (.inr (.inr 26)), some (.inl x1), none], [.inl r1], (am_sh, am_mm U1)) R
    refine ev_br (P := r1 < 0) (σ1 := ((d + 1), 298, 40, [some (.inr (.inr 26)), some (.inl x1), some (.inl r1)], [], (am_sh, am_mm U1))) (σ2 := ((d + 1), 298, 31, [some (.inr (.inr 26)), some (.inl x1), some (.inl r1)], [], (am_sh, am_mm U1))) 3 (fun _ => rfl) (fun hc => ?_) (fun hc => ?_)
    · have h1a1 := h1a.1 hc
      refine ev_seg (σ1 := ((d + 1), 298, 46, [some (.inr (.inr 26)), some (.inl x1), some (.inl r1)], [.inl (U1 26 9), .inl 3, .inr (.inr 26)], (am_sh, am_mm U1))) 4 (fun _ => rfl) ?_
      obtain ⟨r2, U2, h1a1c, h1a1a⟩ := h1a1
      refine ev_cal (σc := (d, 249, 0, [some (.inr (.inr 26)), some (.inl 3), some (.inl (U1 26 9))], [], (am_sh, am_mm U1))) (fun _ => rfl) h1a1c ?_
      show Ev (am_kz N X) ((d + 1), 298, 49, [some (.inr (.inr 26)), some (.inl x1), some (.inl r1)], [.inl r2], (am_sh, am_mm U2)) R
      subst h1a1a
      exact ev_end 3 (fun _ => rfl)
    · have h1a2 := h1a.2 hc
      refine ev_br (P := ¬ (am_and (am_shr x1 r1) 1) = 1) (σ1 := ((d + 1), 298, 52, [some (.inr (.inr 26)), some (.inl x1), some (.inl r1)], [], (am_sh, am_mm U1))) (σ2 := ((d + 1), 298, 40, [some (.inr (.inr 26)), some (.inl x1), some (.inl r1)], [], (am_sh, am_mm U1))) 7 (fun _ => rfl) (fun hc => ?_) (fun hc => ?_)
      · have h1a21 := h1a2.1 hc
        refine ev_seg (σ1 := ((d + 1), 298, 53, [some (.inr (.inr 26)), some (.inl x1), some (.inl r1)], [.inr (.inr 26)], (am_sh, am_mm U1))) 1 (fun _ => rfl) ?_
        obtain ⟨U3, h1a21c, h1a21a⟩ := h1a21
        refine ev_cal (σc := (d, 177, 0, [some (.inr (.inr 26))], [], (am_sh, am_mm U1))) (fun _ => rfl) h1a21c ?_
        show Ev (am_kz N X) ((d + 1), 298, 56, [some (.inr (.inr 26)), some (.inl x1), some (.inl r1)], [], (am_sh, am_mm U3)) R
        subst h1a21a
        exact ev_end 2 (fun _ => rfl)
      · have h1a22 := h1a2.2 hc
        refine ev_seg (σ1 := ((d + 1), 298, 46, [some (.inr (.inr 26)), some (.inl x1), some (.inl r1)], [.inl (U1 26 9), .inl 3, .inr (.inr 26)], (am_sh, am_mm U1))) 4 (fun _ => rfl) ?_
        obtain ⟨r4, U4, h1a22c, h1a22a⟩ := h1a22
        refine ev_cal (σc := (d, 249, 0, [some (.inr (.inr 26)), some (.inl 3), some (.inl (U1 26 9))], [], (am_sh, am_mm U1))) (fun _ => rfl) h1a22c ?_
        show Ev (am_kz N X) ((d + 1), 298, 49, [some (.inr (.inr 26)), some (.inl x1), some (.inl r1)], [.inl r4], (am_sh, am_mm U4)) R
        subst h1a22a
        exact ev_end 3 (fun _ => rfl)
  · have h2 := h.2 hc
    refine ev_seg (σ1 := ((d + 1), 298, 9, [some (.inr (.inr 26)), some (.inl x1), none], [.inr (.inr 26)], (am_sh, am_mm U))) 1 (fun _ => rfl) ?_
    obtain ⟨r5, U5, h2c, h2a⟩ := h2
    refine ev_cal (σc := (d, 262, 0, [some (.inr (.inr 26))], [], (am_sh, am_mm U))) (fun _ => rfl) h2c ?_
    show Ev (am_kz N X) ((d + 1), 298, 12, [some (.inr (.inr 26)), some (.inl x1), none], [.inl r5], (am_sh, am_mm U5)) R
    subst h2a
    exact ev_end 3 (fun _ => rfl)
set_option maxRecDepth 8000 in
theorem st299_31_0 (N : Nat) (X : Nat → Int) (d : Nat) (x1 x2 : Int) (U : Nat → Nat → Int) (R : Option am_V × am_M) (h : ∃ U1 : Nat → Nat → Int, Ev (am_kz N X) (d, 322, 0, [some (.inr (.inr 31)), some (.inl x1), some (.inl x2)], [], (am_sh, am_mm U)) (none, (am_sh, am_mm U1)) ∧ R = (none, (am_sh, am_mm (am_upd U1 31 2 (w32 ((U1 31 2) + 1)))))) : Ev (am_kz N X) ((d + 1), 299, 0, [some (.inr (.inr 31)), some (.inl x1), some (.inl x2)], [], (am_sh, am_mm U)) R := by
  refine ev_seg (σ1 := ((d + 1), 299, 3, [some (.inr (.inr 31)), some (.inl x1), some (.inl x2)], [.inl x2, .inl x1, .inr (.inr 31)], (am_sh, am_mm U))) 3 (fun _ => rfl) ?_
  obtain ⟨U1, hc, ha⟩ := h
  refine ev_cal (σc := (d, 322, 0, [some (.inr (.inr 31)), some (.inl x1), some (.inl x2)], [], (am_sh, am_mm U))) (fun _ => rfl) hc ?_
  show Ev (am_kz N X) ((d + 1), 299, 6, [some (.inr (.inr 31)), some (.inl x1), some (.inl x2)], [], (am_sh, am_mm U1)) R
  refine ev_seg (σ1 := ((d + 1), 299, 13, [some (.inr (.inr 31)), some (.inl x1), some (.inl x2)], [.inl (w32 ((U1 31 2) + 1)), .inr (.inr 31)], (am_sh, am_mm U1))) 5 (fun _ => rfl) ?_
  refine eu_puti 31 (n := 19) rfl (by decide) rfl rfl ?_
  subst ha
  exact ev_end 1 (fun _ => rfl)
set_option maxRecDepth 8000 in
theorem st294_26_0 (N : Nat) (X : Nat → Int) (d : Nat) (x1 : Int) (U : Nat → Nat → Int) (R : Option am_V × am_M) (h : ∃ (r1 : Int) (U1 : Nat → Nat → Int), Ev (am_kz N X) (d, 301, 0, [some (.inr (.inr 26)), some (.inl x1)], [], (am_sh, am_mm U)) (some (.inl r1), (am_sh, am_mm U1)) ∧ (((¬ r1 = 0 : Prop)) → ∃ U2 : Nat → Nat → Int, Ev (am_kz N X) (d, 177, 0, [some (.inr (.inr 26))], [], (am_sh, am_mm U1)) (none, (am_sh, am_mm U2)) ∧ R = (some (.inl 1), (am_sh, am_mm U2))) ∧ (¬ (¬ r1 = 0) → ∃ (r3 : Int) (U3 : Nat → Nat → Int), Ev (am_kz N X) (d, 262, 0, [some (.inr (.inr 26))], [], (am_sh, am_mm U1)) (some (.inl r3), (am_sh, am_mm U3)) ∧ (r3 = 0 ∨ r3 = 1) ∧ R = (some (.inl r3), (am_sh, am_mm U3)))) : Ev (am_kz N X) ((d + 1), 294, 0, [some (.inr (.inr 26)), some (.inl x1)], [], (am_sh, am_mm U)) R := by
  refine ev_seg (σ1 := ((d + 1), 294, 2, [some (.inr (.inr 26)), some (.inl x1)], [.inl x1, .inr (.inr 26)], (am_sh, am_mm U))) 2 (fun _ => rfl) ?_
  obtain ⟨r1, U1, hc, ha⟩ := h
  refine ev_cal (σc := (d, 301, 0, [some (.inr (.inr 26)), some (.inl x1)], [], (am_sh, am_mm U))) (fun _ => rfl) hc ?_
  show Ev (am_kz N X) ((d + 1), 294, 5, [some (.inr (.inr 26)), some (.inl x1)], [.inl r1], (am_sh, am_mm U1)) R
  refine ev_br (P := ¬ r1 = 0) (σ1 := ((d + 1), 294, 13, [some (.inr (.inr 26)), some (.inl x1)], [], (am_sh, am_mm U1))) (σ2 := ((d + 1), 294, 8, [some (.inr (.inr 26)), some (.inl x1)], [], (am_sh, am_mm U1))) 1 (fun _ => rfl) (fun hc => ?_) (fun hc => ?_)
  · have ha1 := ha.1 hc
    refine ev_seg (σ1 := ((d + 1), 294, 14, [some (.inr (.inr 26)), some (.inl x1)], [.inr (.inr 26)], (am_sh, am_mm U1))) 1 (fun _ => rfl) ?_
    obtain ⟨U2, ha1c, ha1a⟩ := ha1
    refine ev_cal (σc := (d, 177, 0, [some (.inr (.inr 26))], [], (am_sh, am_mm U1))) (fun _ => rfl) ha1c ?_
    show Ev (am_kz N X) ((d + 1), 294, 17, [some (.inr (.inr 26)), some (.inl x1)], [], (am_sh, am_mm U2)) R
    subst ha1a
    exact ev_end 2 (fun _ => rfl)
  · have ha2 := ha.2 hc
    refine ev_seg (σ1 := ((d + 1), 294, 9, [some (.inr (.inr 26)), some (.inl x1)], [.inr (.inr 26)], (am_sh, am_mm U1))) 1 (fun _ => rfl) ?_
    obtain ⟨r3, U3, ha2c, ha2a⟩ := ha2
    refine ev_cal (σc := (d, 262, 0, [some (.inr (.inr 26))], [], (am_sh, am_mm U1))) (fun _ => rfl) ha2c ?_
    show Ev (am_kz N X) ((d + 1), 294, 12, [some (.inr (.inr 26)), some (.inl x1)], [.inl r3], (am_sh, am_mm U3)) R
    rw [ha2a.2]
    exact ev_retz rfl rfl ha2a.1
set_option maxRecDepth 8000 in
theorem st296_26_0 (N : Nat) (X : Nat → Int) (d : Nat) (x1 x2 : Int) (U : Nat → Nat → Int) (R : Option am_V × am_M) (h : ((((U 26 7) = 3 : Prop)) → ((((U 26 8) < x1 : Prop)) → ∃ (r1 : Int) (U1 : Nat → Nat → Int), Ev (am_kz N X) (d, 249, 0, [some (.inr (.inr 26)), some (.inl 4), some (.inl (U 26 9))], [], (am_sh, am_mm U)) (some (.inl r1), (am_sh, am_mm U1)) ∧ R = (some (.inl (-1)), (am_sh, am_mm U1))) ∧ (¬ ((U 26 8) < x1) → ((((U 26 8) ≤ x2 : Prop)) → ∃ U2 : Nat → Nat → Int, Ev (am_kz N X) (d, 177, 0, [some (.inr (.inr 26))], [], (am_sh, am_mm U)) (none, (am_sh, am_mm U2)) ∧ R = (some (.inl (U 26 8)), (am_sh, am_mm U2))) ∧ (¬ ((U 26 8) ≤ x2) → ∃ (r3 : Int) (U3 : Nat → Nat → Int), Ev (am_kz N X) (d, 249, 0, [some (.inr (.inr 26)), some (.inl 4), some (.inl (U 26 9))], [], (am_sh, am_mm U)) (some (.inl r3), (am_sh, am_mm U3)) ∧ R = (some (.inl (-1)), (am_sh, am_mm U3))))) ∧ (¬ ((U 26 7) = 3) → ∃ (r4 : Int) (U4 : Nat → Nat → Int), Ev (am_kz N X) (d, 262, 0, [some (.inr (.inr 26))], [], (am_sh, am_mm U)) (some (.inl r4), (am_sh, am_mm U4)) ∧ R = (some (.inl (-1)), (am_sh, am_mm U4)))) : Ev (am_kz N X) ((d + 1), 296, 0, [some (.inr (.inr 26)), some (.inl x1), some (.inl x2), none], [], (am_sh, am_mm U)) R := by
  refine ev_br (P := (U 26 7) = 3) (σ1 := ((d + 1), 296, 15, [some (.inr (.inr 26)), some (.inl x1), some (.inl x2), none], [], (am_sh, am_mm U))) (σ2 := ((d + 1), 296, 8, [some (.inr (.inr 26)), some (.inl x1), some (.inl x2), none], [], (am_sh, am_mm U))) 4 (fun _ => rfl) (fun hc => ?_) (fun hc => ?_)
  · have h1 := h.1 hc
    refine ev_br (P := (U 26 8) < x1) (σ1 := ((d + 1), 296, 30, [some (.inr (.inr 26)), some (.inl x1), some (.inl x2), some (.inl (U 26 8))], [], (am_sh, am_mm U))) (σ2 := ((d + 1), 296, 25, [some (.inr (.inr 26)), some (.inl x1), some (.inl x2), some (.inl (U 26 8))], [], (am_sh, am_mm U))) 6 (fun _ => rfl) (fun hc => ?_) (fun hc => ?_)
    · have h11 := h1.1 hc
      refine ev_seg (σ1 := ((d + 1), 296, 36, [some (.inr (.inr 26)), some (.inl x1), some (.inl x2), some (.inl (U 26 8))], [.inl (U 26 9), .inl 4, .inr (.inr 26)], (am_sh, am_mm U))) 4 (fun _ => rfl) ?_
      obtain ⟨r1, U1, h11c, h11a⟩ := h11
      refine ev_cal (σc := (d, 249, 0, [some (.inr (.inr 26)), some (.inl 4), some (.inl (U 26 9))], [], (am_sh, am_mm U))) (fun _ => rfl) h11c ?_
      show Ev (am_kz N X) ((d + 1), 296, 39, [some (.inr (.inr 26)), some (.inl x1), some (.inl x2), some (.inl (U 26 8))], [.inl r1], (am_sh, am_mm U1)) R
      subst h11a
      exact ev_end 3 (fun _ => rfl)
    · have h12 := h1.2 hc
      refine ev_br (P := (U 26 8) ≤ x2) (σ1 := ((d + 1), 296, 42, [some (.inr (.inr 26)), some (.inl x1), some (.inl x2), some (.inl (U 26 8))], [], (am_sh, am_mm U))) (σ2 := ((d + 1), 296, 30, [some (.inr (.inr 26)), some (.inl x1), some (.inl x2), some (.inl (U 26 8))], [], (am_sh, am_mm U))) 3 (fun _ => rfl) (fun hc => ?_) (fun hc => ?_)
      · have h121 := h12.1 hc
        refine ev_seg (σ1 := ((d + 1), 296, 43, [some (.inr (.inr 26)), some (.inl x1), some (.inl x2), some (.inl (U 26 8))], [.inr (.inr 26)], (am_sh, am_mm U))) 1 (fun _ => rfl) ?_
        obtain ⟨U2, h121c, h121a⟩ := h121
        refine ev_cal (σc := (d, 177, 0, [some (.inr (.inr 26))], [], (am_sh, am_mm U))) (fun _ => rfl) h121c ?_
        show Ev (am_kz N X) ((d + 1), 296, 46, [some (.inr (.inr 26)), some (.inl x1), some (.inl x2), some (.inl (U 26 8))], [], (am_sh, am_mm U2)) R
        subst h121a
        exact ev_end 2 (fun _ => rfl)
      · have h122 := h12.2 hc
        refine ev_seg (σ1 := ((d + 1), 296, 36, [some (.inr (.inr 26)), some (.inl x1), some (.inl x2), some (.inl (U 26 8))], [.inl (U 26 9), .inl 4, .inr (.inr 26)], (am_sh, am_mm U))) 4 (fun _ => rfl) ?_
        obtain ⟨r3, U3, h122c, h122a⟩ := h122
        refine ev_cal (σc := (d, 249, 0, [some (.inr (.inr 26)), some (.inl 4), some (.inl (U 26 9))], [], (am_sh, am_mm U))) (fun _ => rfl) h122c ?_
        show Ev (am_kz N X) ((d + 1), 296, 39, [some (.inr (.inr 26)), some (.inl x1), some (.inl x2), some (.inl (U 26 8))], [.inl r3], (am_sh, am_mm U3)) R
        subst h122a
        exact ev_end 3 (fun _ => rfl)
  · have h2 := h.2 hc
    refine ev_seg (σ1 := ((d + 1), 296, 9, [some (.inr (.inr 26)), some (.inl x1), some (.inl x2), none], [.inr (.inr 26)], (am_sh, am_mm U))) 1 (fun _ => rfl) ?_
    obtain ⟨r4, U4, h2c, h2a⟩ := h2
    refine ev_cal (σc := (d, 262, 0, [some (.inr (.inr 26))], [], (am_sh, am_mm U))) (fun _ => rfl) h2c ?_
    show Ev (am_kz N X) ((d + 1), 296, 12, [some (.inr (.inr 26)), some (.inl x1), some (.inl x2), none], [.inl r4], (am_sh, am_mm U4)) R
    subst h2a
    exact ev_end 3 (fun _ => rfl)
set_option maxRecDepth 8000 in
theorem st292_26_0 (N : Nat) (X : Nat → Int) (d : Nat) (U : Nat → Nat → Int) (R : Option am_V × am_M) (h : ((((U 26 7) = 2 : Prop)) → ∃ (r1 : Int) (U1 : Nat → Nat → Int), Ev (am_kz N X) (d, 319, 0, [some (.inr (.inr 31)), some (.inl (U 26 8)), none], [], (am_sh, am_mm U)) (some (.inl r1), (am_sh, am_mm U1)) ∧ (((0 ≤ r1 : Prop)) → ∃ (r2 : Int) (U2 : Nat → Nat → Int), Ev (am_kz N X) (d, 249, 0, [some (.inr (.inr 26)), some (.inl 2), some (.inl (U1 26 9))], [], (am_sh, am_mm U1)) (some (.inl r2), (am_sh, am_mm U2)) ∧ (r2 = 0 ∨ r2 = 1) ∧ R = (some (.inl r2), (am_sh, am_mm U2))) ∧ (¬ (0 ≤ r1) → ∃ (r3 : Int) (U3 : Nat → Nat → Int), Ev (am_kz N X) (d, 320, 0, [some (.inr (.inr 31)), some (.inl (U1 26 8)), none], [], (am_sh, am_mm U1)) (some (.inl r3), (am_sh, am_mm U3)) ∧ (((r3 < 0 : Prop)) → ∃ U4 : Nat → Nat → Int, Ev (am_kz N X) (d, 177, 0, [some (.inr (.inr 26))], [], (am_sh, am_mm U3)) (none, (am_sh, am_mm U4)) ∧ R = (some (.inl 1), (am_sh, am_mm U4))) ∧ (¬ (r3 < 0) → ∃ (r5 : Int) (U5 : Nat → Nat → Int), Ev (am_kz N X) (d, 249, 0, [some (.inr (.inr 26)), some (.inl 2), some (.inl (U3 26 9))], [], (am_sh, am_mm U3)) (some (.inl r5), (am_sh, am_mm U5)) ∧ (r5 = 0 ∨ r5 = 1) ∧ R = (some (.inl r5), (am_sh, am_mm U5))))) ∧ (¬ ((U 26 7) = 2) → ∃ (r6 : Int) (U6 : Nat → Nat → Int), Ev (am_kz N X) (d, 262, 0, [some (.inr (.inr 26))], [], (am_sh, am_mm U)) (some (.inl r6), (am_sh, am_mm U6)) ∧ (r6 = 0 ∨ r6 = 1) ∧ R = (some (.inl r6), (am_sh, am_mm U6)))) : Ev (am_kz N X) ((d + 1), 292, 0, [some (.inr (.inr 26))], [], (am_sh, am_mm U)) R := by
  refine ev_br (P := (U 26 7) = 2) (σ1 := ((d + 1), 292, 13, [some (.inr (.inr 26))], [], (am_sh, am_mm U))) (σ2 := ((d + 1), 292, 8, [some (.inr (.inr 26))], [], (am_sh, am_mm U))) 4 (fun _ => rfl) (fun hc => ?_) (fun hc => ?_)
  · have h1 := h.1 hc
    refine ev_seg (σ1 := ((d + 1), 292, 21, [some (.inr (.inr 26))], [.inl (U 26 8), .inr (.inr 31)], (am_sh, am_mm U))) 4 (fun _ => rfl) ?_
    obtain ⟨r1, U1, h1c, h1a⟩ := h1
    refine ev_cal (σc := (d, 319, 0, [some (.inr (.inr 31)), some (.inl (U 26 8)), none], [], (am_sh, am_mm U))) (fun _ => rfl) h1c ?_
    show Ev (am_kz N X) ((d + 1), 292, 24, [some (.inr (.inr 26))], [.inl r1], (am_sh, am_mm U1)) R
    refine ev_br (P := 0 ≤ r1) (σ1 := ((d + 1), 292, 41, [some (.inr (.inr 26))], [], (am_sh, am_mm U1))) (σ2 := ((d + 1), 292, 27, [some (.inr (.inr 26))], [], (am_sh, am_mm U1))) 1 (fun _ => rfl) (fun hc => ?_) (fun hc => ?_)
    · have h1a1 := h1a.1 hc
      refine ev_seg (σ1 := ((d + 1), 292, 47, [some (.inr (.inr 26))], [.inl (U1 26 9), .inl 2, .inr (.inr 26)], (am_sh, am_mm U1))) 4 (fun _ => rfl) ?_
      obtain ⟨r2, U2, h1a1c, h1a1a⟩ := h1a1
      refine ev_cal (σc := (d, 249, 0, [some (.inr (.inr 26)), some (.inl 2), some (.inl (U1 26 9))], [], (am_sh, am_mm U1))) (fun _ => rfl) h1a1c ?_
      show Ev (am_kz N X) ((d + 1), 292, 50, [some (.inr (.inr 26))], [.inl r2], (am_sh, am_mm U2)) R
      rw [h1a1a.2]
      exact ev_retz rfl rfl h1a1a.1
    · have h1a2 := h1a.2 hc
      refine ev_seg (σ1 := ((d + 1), 292, 35, [some (.inr (.inr 26))], [.inl (U1 26 8), .inr (.inr 31)], (am_sh, am_mm U1))) 4 (fun _ => rfl) ?_
      obtain ⟨r3, U3, h1a2c, h1a2a⟩ := h1a2
      refine ev_cal (σc := (d, 320, 0, [some (.inr (.inr 31)), some (.inl (U1 26 8)), none], [], (am_sh, am_mm U1))) (fun _ => rfl) h1a2c ?_
      show Ev (am_kz N X) ((d + 1), 292, 38, [some (.inr (.inr 26))], [.inl r3], (am_sh, am_mm U3)) R
      refine ev_br (P := r3 < 0) (σ1 := ((d + 1), 292, 51, [some (.inr (.inr 26))], [], (am_sh, am_mm U3))) (σ2 := ((d + 1), 292, 41, [some (.inr (.inr 26))], [], (am_sh, am_mm U3))) 1 (fun _ => rfl) (fun hc => ?_) (fun hc => ?_)
      · have h1a2a1 := h1a2a.1 hc
        refine ev_seg (σ1 := ((d + 1), 292, 52, [some (.inr (.inr 26))], [.inr (.inr 26)], (am_sh, am_mm U3))) 1 (fun _ => rfl) ?_
        obtain ⟨U4, h1a2a1c, h1a2a1a⟩ := h1a2a1
        refine ev_cal (σc := (d, 177, 0, [some (.inr (.inr 26))], [], (am_sh, am_mm U3))) (fun _ => rfl) h1a2a1c ?_
        show Ev (am_kz N X) ((d + 1), 292, 55, [some (.inr (.inr 26))], [], (am_sh, am_mm U4)) R
        subst h1a2a1a
        exact ev_end 2 (fun _ => rfl)
      · have h1a2a2 := h1a2a.2 hc
        refine ev_seg (σ1 := ((d + 1), 292, 47, [some (.inr (.inr 26))], [.inl (U3 26 9), .inl 2, .inr (.inr 26)], (am_sh, am_mm U3))) 4 (fun _ => rfl) ?_
        obtain ⟨r5, U5, h1a2a2c, h1a2a2a⟩ := h1a2a2
        refine ev_cal (σc := (d, 249, 0, [some (.inr (.inr 26)), some (.inl 2), some (.inl (U3 26 9))], [], (am_sh, am_mm U3))) (fun _ => rfl) h1a2a2c ?_
        show Ev (am_kz N X) ((d + 1), 292, 50, [some (.inr (.inr 26))], [.inl r5], (am_sh, am_mm U5)) R
        rw [h1a2a2a.2]
        exact ev_retz rfl rfl h1a2a2a.1
  · have h2 := h.2 hc
    refine ev_seg (σ1 := ((d + 1), 292, 9, [some (.inr (.inr 26))], [.inr (.inr 26)], (am_sh, am_mm U))) 1 (fun _ => rfl) ?_
    obtain ⟨r6, U6, h2c, h2a⟩ := h2
    refine ev_cal (σc := (d, 262, 0, [some (.inr (.inr 26))], [], (am_sh, am_mm U))) (fun _ => rfl) h2c ?_
    show Ev (am_kz N X) ((d + 1), 292, 12, [some (.inr (.inr 26))], [.inl r6], (am_sh, am_mm U6)) R
    rw [h2a.2]
    exact ev_retz rfl rfl h2a.1
set_option maxRecDepth 8000 in
theorem st297_31_0 (N : Nat) (X : Nat → Int) (d : Nat) (x1 x2 x3 : Int) (U : Nat → Nat → Int) (R : Option am_V × am_M) (h : ((((U 31 1) < 12 : Prop)) → (0 ≤ (U 31 1) ∧ (U 31 1) < 12) ∧ (0 ≤ (U 31 1) ∧ (U 31 1) < 12) ∧ (0 ≤ (U 31 1) ∧ (U 31 1) < 12) ∧ (0 ≤ (U 31 1) ∧ (U 31 1) < 12) ∧ (0 ≤ (U 31 1) ∧ (U 31 1) < 12) ∧ (0 ≤ (U 31 1) ∧ (U 31 1) < 12) ∧ ∃ (r1 : Int) (U1 : Nat → Nat → Int), Ev (am_kz N X) (d, 321, 0, [some (.inr (.inr 31)), some (.inl x2), none], [], (am_sh, am_mm (am_upd (am_upd (am_upd (am_upd (am_upd (am_upd U 33 (U 31 1).toNat x1) 34 (U 31 1).toNat x2) 36 (U 31 1).toNat x3) 35 (U 31 1).toNat 0) 37 (U 31 1).toNat 0) 38 (U 31 1).toNat 0))) (some (.inl r1), (am_sh, am_mm U1)) ∧ (((r1 < 0 : Prop)) → R = (none, (am_sh, am_mm (am_upd U1 31 1 (w32 ((U1 31 1) + 1)))))) ∧ (¬ (r1 < 0) → (0 ≤ r1 ∧ r1 < 12) ∧ (0 ≤ (U 31 1) ∧ (U 31 1) < 12) ∧ ∃ U2 : Nat → Nat → Int, Ev (am_kz N X) (d, 322, 0, [some (.inr (.inr 31)), some (.inl r1), some (.inl (U 31 1))], [], (am_sh, am_mm (am_upd (am_upd U1 31 1 (w32 ((U1 31 1) + 1))) 35 (U 31 1).toNat (w32 (((am_upd U1 31 1 (w32 ((U1 31 1) + 1))) 35 r1.toNat) + 1))))) (none, (am_sh, am_mm U2)) ∧ R = (none, (am_sh, am_mm U2)))) ∧ (¬ ((U 31 1) < 12) → R = (none, (am_sh, am_mm U)))) : Ev (am_kz N X) ((d + 1), 297, 0, [some (.inr (.inr 31)), some (.inl x1), some (.inl x2), some (.inl x3), none, none], [], (am_sh, am_mm U)) R := by
  refine ev_br (P := (U 31 1) < 12) (σ1 := ((d + 1), 297, 10, [some (.inr (.inr 31)), some (.inl x1), some (.inl x2), some (.inl x3), none, none], [], (am_sh, am_mm U))) (σ2 := ((d + 1), 297, 9, [some (.inr (.inr 31)), some (.inl x1), some (.inl x2), some (.inl x3), none, none], [], (am_sh, am_mm U))) 4 (fun _ => rfl) (fun hc => ?_) (fun hc => ?_)
  · have h1 := h.1 hc
    refine ev_seg (σ1 := ((d + 1), 297, 23, [some (.inr (.inr 31)), some (.inl x1), some (.inl x2), some (.inl x3), some (.inl (U 31 1)), none], [.inl x1, .inl (U 31 1), .inr (.inr 33)], (am_sh, am_mm U))) 7 (fun _ => rfl) ?_
    refine eu_iast 33 (n := 12) rfl (by decide) rfl (fun _ => rfl) h1.1 ?_
    have h1a := h1.2
    refine ev_seg (σ1 := ((d + 1), 297, 31, [some (.inr (.inr 31)), some (.inl x1), some (.inl x2), some (.inl x3), some (.inl (U 31 1)), none], [.inl x2, .inl (U 31 1), .inr (.inr 34)], (am_sh, am_mm (am_upd U 33 (U 31 1).toNat x1)))) 4 (fun _ => rfl) ?_
    refine eu_iast 34 (n := 12) rfl (by decide) rfl (fun _ => rfl) h1a.1 ?_
    have h1aa := h1a.2
    refine ev_seg (σ1 := ((d + 1), 297, 39, [some (.inr (.inr 31)), some (.inl x1), some (.inl x2), some (.inl x3), some (.inl (U 31 1)), none], [.inl x3, .inl (U 31 1), .inr (.inr 36)], (am_sh, am_mm (am_upd (am_upd U 33 (U 31 1).toNat x1) 34 (U 31 1).toNat x2)))) 4 (fun _ => rfl) ?_
    refine eu_iast 36 (n := 12) rfl (by decide) rfl (fun _ => rfl) h1aa.1 ?_
    have h1aaa := h1aa.2
    refine ev_seg (σ1 := ((d + 1), 297, 47, [some (.inr (.inr 31)), some (.inl x1), some (.inl x2), some (.inl x3), some (.inl (U 31 1)), none], [.inl 0, .inl (U 31 1), .inr (.inr 35)], (am_sh, am_mm (am_upd (am_upd (am_upd U 33 (U 31 1).toNat x1) 34 (U 31 1).toNat x2) 36 (U 31 1).toNat x3)))) 4 (fun _ => rfl) ?_
    refine eu_iast 35 (n := 12) rfl (by decide) rfl (fun _ => rfl) h1aaa.1 ?_
    have h1aaaa := h1aaa.2
    refine ev_seg (σ1 := ((d + 1), 297, 55, [some (.inr (.inr 31)), some (.inl x1), some (.inl x2), some (.inl x3), some (.inl (U 31 1)), none], [.inl 0, .inl (U 31 1), .inr (.inr 37)], (am_sh, am_mm (am_upd (am_upd (am_upd (am_upd U 33 (U 31 1).toNat x1) 34 (U 31 1).toNat x2) 36 (U 31 1).toNat x3) 35 (U 31 1).toNat 0)))) 4 (fun _ => rfl) ?_
    refine eu_iast 37 (n := 12) rfl (by decide) rfl (fun _ => rfl) h1aaaa.1 ?_
    have h1aaaaa := h1aaaa.2
    refine ev_seg (σ1 := ((d + 1), 297, 63, [some (.inr (.inr 31)), some (.inl x1), some (.inl x2), some (.inl x3), some (.inl (U 31 1)), none], [.inl 0, .inl (U 31 1), .inr (.inr 38)], (am_sh, am_mm (am_upd (am_upd (am_upd (am_upd (am_upd U 33 (U 31 1).toNat x1) 34 (U 31 1).toNat x2) 36 (U 31 1).toNat x3) 35 (U 31 1).toNat 0) 37 (U 31 1).toNat 0)))) 4 (fun _ => rfl) ?_
    refine eu_iast 38 (n := 12) rfl (by decide) rfl (fun _ => rfl) h1aaaaa.1 ?_
    have h1aaaaaa := h1aaaaa.2
    refine ev_seg (σ1 := ((d + 1), 297, 66, [some (.inr (.inr 31)), some (.inl x1), some (.inl x2), some (.inl x3), some (.inl (U 31 1)), none], [.inl x2, .inr (.inr 31)], (am_sh, am_mm (am_upd (am_upd (am_upd (am_upd (am_upd (am_upd U 33 (U 31 1).toNat x1) 34 (U 31 1).toNat x2) 36 (U 31 1).toNat x3) 35 (U 31 1).toNat 0) 37 (U 31 1).toNat 0) 38 (U 31 1).toNat 0)))) 2 (fun _ => rfl) ?_
    obtain ⟨r1, U1, h1aaaaaac, h1aaaaaaa⟩ := h1aaaaaa
    refine ev_cal (σc := (d, 321, 0, [some (.inr (.inr 31)), some (.inl x2), none], [], (am_sh, am_mm (am_upd (am_upd (am_upd (am_upd (am_upd (am_upd U 33 (U 31 1).toNat x1) 34 (U 31 1).toNat x2) 36 (U 31 1).toNat x3) 35 (U 31 1).toNat 0) 37 (U 31 1).toNat 0) 38 (U 31 1).toNat 0)))) (fun _ => rfl) h1aaaaaac ?_
    show Ev (am_kz N X) ((d + 1), 297, 69, [some (.inr (.inr 31)), some (.inl x1), some (.inl x2), some (.inl x3), some (.inl (U 31 1)), none], [.inl r1], (am_sh, am_mm U1)) R
    refine ev_seg (σ1 := ((d + 1), 297, 78, [some (.inr (.inr 31)), some (.inl x1), some (.inl x2), some (.inl x3), some (.inl (U 31 1)), some (.inl r1)], [.inl (w32 ((U1 31 1) + 1)), .inr (.inr 31)], (am_sh, am_mm U1))) 6 (fun _ => rfl) ?_
    refine eu_puti 31 (n := 19) rfl (by decide) rfl rfl ?_
    refine ev_br (P := r1 < 0) (σ1 := ((d + 1), 297, 110, [some (.inr (.inr 31)), some (.inl x1), some (.inl x2), some (.inl x3), some (.inl (U 31 1)), some (.inl r1)], [], (am_sh, am_mm (am_upd U1 31 1 (w32 ((U1 31 1) + 1)))))) (σ2 := ((d + 1), 297, 86, [some (.inr (.inr 31)), some (.inl x1), some (.inl x2), some (.inl x3), some (.inl (U 31 1)), some (.inl r1)], [], (am_sh, am_mm (am_upd U1 31 1 (w32 ((U1 31 1) + 1)))))) 2 (fun _ => rfl) (fun hc => ?_) (fun hc => ?_)
    · have h1aaaaaaa1 := h1aaaaaaa.1 hc
      subst h1aaaaaaa1
      exact ev_end 1 (fun _ => rfl)
    · have h1aaaaaaa2 := h1aaaaaaa.2 hc
      refine ev_seg (σ1 := ((d + 1), 297, 98, [some (.inr (.inr 31)), some (.inl x1), some (.inl x2), some (.inl x3), some (.inl (U 31 1)), some (.inl r1)], [.inl r1, .inr (.inr 35), .inl (U 31 1), .inr (.inr 35)], (am_sh, am_mm (am_upd U1 31 1 (w32 ((U1 31 1) + 1)))))) 6 (fun _ => rfl) ?_
      refine eu_iald 35 (n := 12) rfl (by decide) rfl (fun _ => rfl) h1aaaaaaa2.1 ?_
      have h1aaaaaaa2a := h1aaaaaaa2.2
      refine ev_seg (σ1 := ((d + 1), 297, 101, [some (.inr (.inr 31)), some (.inl x1), some (.inl x2), some (.inl x3), some (.inl (U 31 1)), some (.inl r1)], [.inl (w32 (((am_upd U1 31 1 (w32 ((U1 31 1) + 1))) 35 r1.toNat) + 1)), .inl (U 31 1), .inr (.inr 35)], (am_sh, am_mm (am_upd U1 31 1 (w32 ((U1 31 1) + 1)))))) 2 (fun _ => rfl) ?_
      refine eu_iast 35 (n := 12) rfl (by decide) rfl (fun _ => rfl) h1aaaaaaa2a.1 ?_
      have h1aaaaaaa2aa := h1aaaaaaa2a.2
      refine ev_seg (σ1 := ((d + 1), 297, 107, [some (.inr (.inr 31)), some (.inl x1), some (.inl x2), some (.inl x3), some (.inl (U 31 1)), some (.inl r1)], [.inl (U 31 1), .inl r1, .inr (.inr 31)], (am_sh, am_mm (am_upd (am_upd U1 31 1 (w32 ((U1 31 1) + 1))) 35 (U 31 1).toNat (w32 (((am_upd U1 31 1 (w32 ((U1 31 1) + 1))) 35 r1.toNat) + 1)))))) 3 (fun _ => rfl) ?_
      obtain ⟨U2, h1aaaaaaa2aac, h1aaaaaaa2aaa⟩ := h1aaaaaaa2aa
      refine ev_cal (σc := (d, 322, 0, [some (.inr (.inr 31)), some (.inl r1), some (.inl (U 31 1))], [], (am_sh, am_mm (am_upd (am_upd U1 31 1 (w32 ((U1 31 1) + 1))) 35 (U 31 1).toNat (w32 (((am_upd U1 31 1 (w32 ((U1 31 1) + 1))) 35 r1.toNat) + 1)))))) (fun _ => rfl) h1aaaaaaa2aac ?_
      show Ev (am_kz N X) ((d + 1), 297, 110, [some (.inr (.inr 31)), some (.inl x1), some (.inl x2), some (.inl x3), some (.inl (U 31 1)), some (.inl r1)], [], (am_sh, am_mm U2)) R
      subst h1aaaaaaa2aaa
      exact ev_end 1 (fun _ => rfl)
  · have h2 := h.2 hc
    subst h2
    exact ev_end 1 (fun _ => rfl)
set_option maxRecDepth 8000 in
theorem st295_26_0 (N : Nat) (X : Nat → Int) (d : Nat) (U : Nat → Nat → Int) (R : Option am_V × am_M) (h : ((((U 26 7) = 2 : Prop)) → ∃ (r1 : Int) (U1 : Nat → Nat → Int), Ev (am_kz N X) (d, 319, 0, [some (.inr (.inr 31)), some (.inl (U 26 8)), none], [], (am_sh, am_mm U)) (some (.inl r1), (am_sh, am_mm U1)) ∧ (((0 ≤ r1 : Prop)) → ∃ U2 : Nat → Nat → Int, Ev (am_kz N X) (d, 177, 0, [some (.inr (.inr 26))], [], (am_sh, am_mm U1)) (none, (am_sh, am_mm U2)) ∧ R = (some (.inl r1), (am_sh, am_mm U2))) ∧ (¬ (0 ≤ r1) → ∃ (r3 : Int) (U3 : Nat → Nat → Int), Ev (am_kz N X) (d, 249, 0, [some (.inr (.inr 26)), some (.inl 3), some (.inl (U1 26 9))], [], (am_sh, am_mm U1)) (some (.inl r3), (am_sh, am_mm U3)) ∧ R = (some (.inl (-1)), (am_sh, am_mm U3)))) ∧ (¬ ((U 26 7) = 2) → ∃ (r4 : Int) (U4 : Nat → Nat → Int), Ev (am_kz N X) (d, 262, 0, [some (.inr (.inr 26))], [], (am_sh, am_mm U)) (some (.inl r4), (am_sh, am_mm U4)) ∧ R = (some (.inl (-1)), (am_sh, am_mm U4)))) : Ev (am_kz N X) ((d + 1), 295, 0, [some (.inr (.inr 26)), none], [], (am_sh, am_mm U)) R := by
  refine ev_br (P := (U 26 7) = 2) (σ1 := ((d + 1), 295, 15, [some (.inr (.inr 26)), none], [], (am_sh, am_mm U))) (σ2 := ((d + 1), 295, 8, [some (.inr (.inr 26)), none], [], (am_sh, am_mm U))) 4 (fun _ => rfl) (fun hc => ?_) (fun hc => ?_)
  · have h1 := h.1 hc
    refine ev_seg (σ1 := ((d + 1), 295, 23, [some (.inr (.inr 26)), none], [.inl (U 26 8), .inr (.inr 31)], (am_sh, am_mm U))) 4 (fun _ => rfl) ?_
    obtain ⟨r1, U1, h1c, h1a⟩ := h1
    refine ev_cal (σc := (d, 319, 0, [some (.inr (.inr 31)), some (.inl (U 26 8)), none], [], (am_sh, am_mm U))) (fun _ => rfl) h1c ?_
    show Ev (am_kz N X) ((d + 1), 295, 26, [some (.inr (.inr 26)), none], [.inl r1], (am_sh, am_mm U1)) R
    refine ev_br (P := 0 ≤ r1) (σ1 := ((d + 1), 295, 43, [some (.inr (.inr 26)), some (.inl r1)], [], (am_sh, am_mm U1))) (σ2 := ((d + 1), 295, 31, [some (.inr (.inr 26)), some (.inl r1)], [], (am_sh, am_mm U1))) 3 (fun _ => rfl) (fun hc => ?_) (fun hc => ?_)
    · have h1a1 := h1a.1 hc
      refine ev_seg (σ1 := ((d + 1), 295, 44, [some (.inr (.inr 26)), some (.inl r1)], [.inr (.inr 26)], (am_sh, am_mm U1))) 1 (fun _ => rfl) ?_
      obtain ⟨U2, h1a1c, h1a1a⟩ := h1a1
      refine ev_cal (σc := (d, 177, 0, [some (.inr (.inr 26))], [], (am_sh, am_mm U1))) (fun _ => rfl) h1a1c ?_
      show Ev (am_kz N X) ((d + 1), 295, 47, [some (.inr (.inr 26)), some (.inl r1)], [], (am_sh, am_mm U2)) R
      subst h1a1a
      exact ev_end 2 (fun _ => rfl)
    · have h1a2 := h1a.2 hc
      refine ev_seg (σ1 := ((d + 1), 295, 37, [some (.inr (.inr 26)), some (.inl r1)], [.inl (U1 26 9), .inl 3, .inr (.inr 26)], (am_sh, am_mm U1))) 4 (fun _ => rfl) ?_
      obtain ⟨r3, U3, h1a2c, h1a2a⟩ := h1a2
      refine ev_cal (σc := (d, 249, 0, [some (.inr (.inr 26)), some (.inl 3), some (.inl (U1 26 9))], [], (am_sh, am_mm U1))) (fun _ => rfl) h1a2c ?_
      show Ev (am_kz N X) ((d + 1), 295, 40, [some (.inr (.inr 26)), some (.inl r1)], [.inl r3], (am_sh, am_mm U3)) R
      subst h1a2a
      exact ev_end 3 (fun _ => rfl)
  · have h2 := h.2 hc
    refine ev_seg (σ1 := ((d + 1), 295, 9, [some (.inr (.inr 26)), none], [.inr (.inr 26)], (am_sh, am_mm U))) 1 (fun _ => rfl) ?_
    obtain ⟨r4, U4, h2c, h2a⟩ := h2
    refine ev_cal (σc := (d, 262, 0, [some (.inr (.inr 26))], [], (am_sh, am_mm U))) (fun _ => rfl) h2c ?_
    show Ev (am_kz N X) ((d + 1), 295, 12, [some (.inr (.inr 26)), none], [.inl r4], (am_sh, am_mm U4)) R
    subst h2a
    exact ev_end 3 (fun _ => rfl)
set_option maxRecDepth 8000 in
theorem st293_31_0 (N : Nat) (X : Nat → Int) (d : Nat) (x1 : Int) (U : Nat → Nat → Int) (R : Option am_V × am_M) (h : (((4 ≤ (U 31 0) : Prop)) → R = (none, (am_sh, am_mm U))) ∧ (¬ (4 ≤ (U 31 0)) → (0 ≤ (U 31 0) ∧ (U 31 0) < 4) ∧ R = (none, (am_sh, am_mm (am_upd (am_upd U 32 (U 31 0).toNat x1) 31 0 (w32 (((am_upd U 32 (U 31 0).toNat x1) 31 0) + 1))))))) : Ev (am_kz N X) (d, 293, 0, [some (.inr (.inr 31)), some (.inl x1)], [], (am_sh, am_mm U)) R := by
  refine ev_br (P := 4 ≤ (U 31 0)) (σ1 := (d, 293, 28, [some (.inr (.inr 31)), some (.inl x1)], [], (am_sh, am_mm U))) (σ2 := (d, 293, 8, [some (.inr (.inr 31)), some (.inl x1)], [], (am_sh, am_mm U))) 4 (fun _ => rfl) (fun hc => ?_) (fun hc => ?_)
  · have h1 := h.1 hc
    subst h1
    exact ev_end 1 (fun _ => rfl)
  · have h2 := h.2 hc
    refine ev_seg (σ1 := (d, 293, 17, [some (.inr (.inr 31)), some (.inl x1)], [.inl x1, .inl (U 31 0), .inr (.inr 32)], (am_sh, am_mm U))) 5 (fun _ => rfl) ?_
    refine eu_iast 32 (n := 4) rfl (by decide) rfl (fun _ => rfl) h2.1 ?_
    have h2a := h2.2
    refine ev_seg (σ1 := (d, 293, 25, [some (.inr (.inr 31)), some (.inl x1)], [.inl (w32 (((am_upd U 32 (U 31 0).toNat x1) 31 0) + 1)), .inr (.inr 31)], (am_sh, am_mm (am_upd U 32 (U 31 0).toNat x1)))) 5 (fun _ => rfl) ?_
    refine eu_puti 31 (n := 19) rfl (by decide) rfl rfl ?_
    subst h2a
    exact ev_end 1 (fun _ => rfl)
set_option maxRecDepth 8000 in
theorem st301_26_0 (N : Nat) (X : Nat → Int) (d : Nat) (x1 : Int) (U : Nat → Nat → Int) (R : Option am_V × am_M) (h : (((¬ (U 26 7) = 1 : Prop)) → R = (some (.inl 0), (am_sh, am_mm U))) ∧ (¬ (¬ (U 26 7) = 1) → (((¬ (U 26 8) = x1 : Prop)) → R = (some (.inl 0), (am_sh, am_mm U))) ∧ (¬ (¬ (U 26 8) = x1) → R = (some (.inl 1), (am_sh, am_mm U))))) : Ev (am_kz N X) (d, 301, 0, [some (.inr (.inr 26)), some (.inl x1)], [], (am_sh, am_mm U)) R := by
  refine ev_br (P := ¬ (U 26 7) = 1) (σ1 := (d, 301, 20, [some (.inr (.inr 26)), some (.inl x1)], [], (am_sh, am_mm U))) (σ2 := (d, 301, 8, [some (.inr (.inr 26)), some (.inl x1)], [], (am_sh, am_mm U))) 4 (fun _ => rfl) (fun hc => ?_) (fun hc => ?_)
  · have h1 := h.1 hc
    subst h1
    exact ev_end 2 (fun _ => rfl)
  · have h2 := h.2 hc
    refine ev_br (P := ¬ (U 26 8) = x1) (σ1 := (d, 301, 20, [some (.inr (.inr 26)), some (.inl x1)], [], (am_sh, am_mm U))) (σ2 := (d, 301, 16, [some (.inr (.inr 26)), some (.inl x1)], [], (am_sh, am_mm U))) 4 (fun _ => rfl) (fun hc => ?_) (fun hc => ?_)
    · have h21 := h2.1 hc
      subst h21
      exact ev_end 2 (fun _ => rfl)
    · have h22 := h2.2 hc
      subst h22
      exact ev_end 3 (fun _ => rfl)
set_option maxRecDepth 8000 in
theorem st302_26_0 (N : Nat) (X : Nat → Int) (d : Nat) (U : Nat → Nat → Int) (R : Option am_V × am_M) (h : Ev (am_kz N X) ((d + 1), 302, 4, [some (.inr (.inr 26)), some (.inl 0), some (.inl 0)], [], (am_sh, am_mm U)) R) : Ev (am_kz N X) ((d + 1), 302, 0, [some (.inr (.inr 26)), none, none], [], (am_sh, am_mm U)) R := by
  refine ev_seg (σ1 := ((d + 1), 302, 4, [some (.inr (.inr 26)), some (.inl 0), some (.inl 0)], [], (am_sh, am_mm U))) 4 (fun _ => rfl) ?_
  exact h
set_option maxRecDepth 8000 in
theorem st302_26_4 (N : Nat) (X : Nat → Int) (d : Nat) (x1 x2 : Int) (U : Nat → Nat → Int) (R : Option am_V × am_M) (h : ((((U 31 1) ≤ x2 : Prop)) → R = (some (.inl x1), (am_sh, am_mm U))) ∧ (¬ ((U 31 1) ≤ x2) → ∃ (r1 : Int) (U1 : Nat → Nat → Int), Ev (am_kz N X) (d, 106, 0, [some (.inr (.inr 21)), some (.inl x2)], [], (am_sh, am_mm U)) (some (.inl r1), (am_sh, am_mm U1)) ∧ (0 ≤ x2 ∧ x2 < 12) ∧ (((r1 < (U1 36 x2.toNat) : Prop)) → Ev (am_kz N X) ((d + 1), 302, 4, [some (.inr (.inr 26)), some (.inl x1), some (.inl (w32 (x2 + 1)))], [], (am_sh, am_mm U1)) R) ∧ (¬ (r1 < (U1 36 x2.toNat)) → Ev (am_kz N X) ((d + 1), 302, 4, [some (.inr (.inr 26)), some (.inl (am_or x1 (am_shl 1 x2))), some (.inl (w32 (x2 + 1)))], [], (am_sh, am_mm U1)) R))) : Ev (am_kz N X) ((d + 1), 302, 4, [some (.inr (.inr 26)), some (.inl x1), some (.inl x2)], [], (am_sh, am_mm U)) R := by
  refine ev_br (P := (U 31 1) ≤ x2) (σ1 := ((d + 1), 302, 47, [some (.inr (.inr 26)), some (.inl x1), some (.inl x2)], [], (am_sh, am_mm U))) (σ2 := ((d + 1), 302, 15, [some (.inr (.inr 26)), some (.inl x1), some (.inl x2)], [], (am_sh, am_mm U))) 5 (fun _ => rfl) (fun hc => ?_) (fun hc => ?_)
  · have h1 := h.1 hc
    subst h1
    exact ev_end 2 (fun _ => rfl)
  · have h2 := h.2 hc
    refine ev_seg (σ1 := ((d + 1), 302, 20, [some (.inr (.inr 26)), some (.inl x1), some (.inl x2)], [.inl x2, .inr (.inr 21)], (am_sh, am_mm U))) 3 (fun _ => rfl) ?_
    obtain ⟨r1, U1, h2c, h2a⟩ := h2
    refine ev_cal (σc := (d, 106, 0, [some (.inr (.inr 21)), some (.inl x2)], [], (am_sh, am_mm U))) (fun _ => rfl) h2c ?_
    show Ev (am_kz N X) ((d + 1), 302, 23, [some (.inr (.inr 26)), some (.inl x1), some (.inl x2)], [.inl r1], (am_sh, am_mm U1)) R
    refine ev_seg (σ1 := ((d + 1), 302, 31, [some (.inr (.inr 26)), some (.inl x1), some (.inl x2)], [.inl x2, .inr (.inr 36), .inl r1], (am_sh, am_mm U1))) 4 (fun _ => rfl) ?_
    refine eu_iald 36 (n := 12) rfl (by decide) rfl (fun _ => rfl) h2a.1 ?_
    have h2aa := h2a.2
    refine ev_br (P := r1 < (U1 36 x2.toNat)) (σ1 := ((d + 1), 302, 41, [some (.inr (.inr 26)), some (.inl x1), some (.inl x2)], [], (am_sh, am_mm U1))) (σ2 := ((d + 1), 302, 35, [some (.inr (.inr 26)), some (.inl x1), some (.inl x2)], [], (am_sh, am_mm U1))) 1 (fun _ => rfl) (fun hc => ?_) (fun hc => ?_)
    · have h2aa1 := h2aa.1 hc
      refine ev_seg (σ1 := ((d + 1), 302, 4, [some (.inr (.inr 26)), some (.inl x1), some (.inl (w32 (x2 + 1)))], [], (am_sh, am_mm U1))) 2 (fun _ => rfl) ?_
      exact h2aa1
    · have h2aa2 := h2aa.2 hc
      refine ev_seg (σ1 := ((d + 1), 302, 4, [some (.inr (.inr 26)), some (.inl (am_or x1 (am_shl 1 x2))), some (.inl (w32 (x2 + 1)))], [], (am_sh, am_mm U1))) 8 (fun _ => rfl) ?_
      exact h2aa2
set_option maxRecDepth 8000 in
theorem st300_26_0 (N : Nat) (X : Nat → Int) (d : Nat) (x1 : Int) (U : Nat → Nat → Int) (R : Option am_V × am_M) (h : (((¬ (U 26 7) = 4 : Prop)) → R = (some (.inl 0), (am_sh, am_mm U))) ∧ (¬ (¬ (U 26 7) = 4) → (((¬ (U 26 8) = x1 : Prop)) → R = (some (.inl 0), (am_sh, am_mm U))) ∧ (¬ (¬ (U 26 8) = x1) → R = (some (.inl 1), (am_sh, am_mm U))))) : Ev (am_kz N X) (d, 300, 0, [some (.inr (.inr 26)), some (.inl x1)], [], (am_sh, am_mm U)) R := by
  refine ev_br (P := ¬ (U 26 7) = 4) (σ1 := (d, 300, 20, [some (.inr (.inr 26)), some (.inl x1)], [], (am_sh, am_mm U))) (σ2 := (d, 300, 8, [some (.inr (.inr 26)), some (.inl x1)], [], (am_sh, am_mm U))) 4 (fun _ => rfl) (fun hc => ?_) (fun hc => ?_)
  · have h1 := h.1 hc
    subst h1
    exact ev_end 2 (fun _ => rfl)
  · have h2 := h.2 hc
    refine ev_br (P := ¬ (U 26 8) = x1) (σ1 := (d, 300, 20, [some (.inr (.inr 26)), some (.inl x1)], [], (am_sh, am_mm U))) (σ2 := (d, 300, 16, [some (.inr (.inr 26)), some (.inl x1)], [], (am_sh, am_mm U))) 4 (fun _ => rfl) (fun hc => ?_) (fun hc => ?_)
    · have h21 := h2.1 hc
      subst h21
      exact ev_end 2 (fun _ => rfl)
    · have h22 := h2.2 hc
      subst h22
      exact ev_end 3 (fun _ => rfl)
set_option maxRecDepth 8000 in
theorem st304_31_0 (N : Nat) (X : Nat → Int) (d : Nat) (x1 : Int) (U : Nat → Nat → Int) (R : Option am_V × am_M) (h : ∃ (r1 : Int) (U1 : Nat → Nat → Int), Ev (am_kz N X) (d, 324, 0, [some (.inr (.inr 31)), some (.inl (w32 ((-1) - x1)))], [], (am_sh, am_mm U)) (some (.inl r1), (am_sh, am_mm U1)) ∧ (r1 = 0 ∨ r1 = 1) ∧ R = (some (.inl r1), (am_sh, am_mm U1))) : Ev (am_kz N X) ((d + 1), 304, 0, [some (.inr (.inr 31)), some (.inl x1)], [], (am_sh, am_mm U)) R := by
  refine ev_seg (σ1 := ((d + 1), 304, 4, [some (.inr (.inr 31)), some (.inl x1)], [.inl (w32 ((-1) - x1)), .inr (.inr 31)], (am_sh, am_mm U))) 4 (fun _ => rfl) ?_
  obtain ⟨r1, U1, hc, ha⟩ := h
  refine ev_cal (σc := (d, 324, 0, [some (.inr (.inr 31)), some (.inl (w32 ((-1) - x1)))], [], (am_sh, am_mm U))) (fun _ => rfl) hc ?_
  show Ev (am_kz N X) ((d + 1), 304, 7, [some (.inr (.inr 31)), some (.inl x1)], [.inl r1], (am_sh, am_mm U1)) R
  rw [ha.2]
  exact ev_retz rfl rfl ha.1
set_option maxRecDepth 8000 in
theorem st303_26_0 (N : Nat) (X : Nat → Int) (d : Nat) (x1 : Int) (U : Nat → Nat → Int) (R : Option am_V × am_M) (h : ∃ (r1 : Int) (U1 : Nat → Nat → Int), Ev (am_kz N X) (d, 323, 0, [some (.inr (.inr 26)), some (.inl x1), none], [], (am_sh, am_mm U)) (some (.inl r1), (am_sh, am_mm U1)) ∧ Ev (am_kz N X) ((d + 1), 303, 8, [some (.inr (.inr 26)), some (.inl x1), some (.inl r1), some (.inl 0)], [], (am_sh, am_mm U1)) R) : Ev (am_kz N X) ((d + 1), 303, 0, [some (.inr (.inr 26)), some (.inl x1), none, none], [], (am_sh, am_mm U)) R := by
  refine ev_seg (σ1 := ((d + 1), 303, 2, [some (.inr (.inr 26)), some (.inl x1), none, none], [.inl x1, .inr (.inr 26)], (am_sh, am_mm U))) 2 (fun _ => rfl) ?_
  obtain ⟨r1, U1, hc, ha⟩ := h
  refine ev_cal (σc := (d, 323, 0, [some (.inr (.inr 26)), some (.inl x1), none], [], (am_sh, am_mm U))) (fun _ => rfl) hc ?_
  show Ev (am_kz N X) ((d + 1), 303, 5, [some (.inr (.inr 26)), some (.inl x1), none, none], [.inl r1], (am_sh, am_mm U1)) R
  refine ev_seg (σ1 := ((d + 1), 303, 8, [some (.inr (.inr 26)), some (.inl x1), some (.inl r1), some (.inl 0)], [], (am_sh, am_mm U1))) 3 (fun _ => rfl) ?_
  exact ha
set_option maxRecDepth 8000 in
theorem st303_26_8 (N : Nat) (X : Nat → Int) (d : Nat) (x1 x2 x3 : Int) (U : Nat → Nat → Int) (R : Option am_V × am_M) (h : (((1600 ≤ x3 : Prop)) → (x2 = 0 ∨ x2 = 1) ∧ R = (some (.inl x2), (am_sh, am_mm U))) ∧ (¬ (1600 ≤ x3) → (((x2 = 0 : Prop)) → (x2 = 0 ∨ x2 = 1) ∧ R = (some (.inl x2), (am_sh, am_mm U))) ∧ (¬ (x2 = 0) → ∃ (r1 : Int) (U1 : Nat → Nat → Int), Ev (am_kz N X) (d, 301, 0, [some (.inr (.inr 26)), some (.inl 20)], [], (am_sh, am_mm U)) (some (.inl r1), (am_sh, am_mm U1)) ∧ (((r1 = 0 : Prop)) → (x2 = 0 ∨ x2 = 1) ∧ R = (some (.inl x2), (am_sh, am_mm U1))) ∧ (¬ (r1 = 0) → ∃ U2 : Nat → Nat → Int, Ev (am_kz N X) (d, 177, 0, [some (.inr (.inr 26))], [], (am_sh, am_mm U1)) (none, (am_sh, am_mm U2)) ∧ ∃ (r3 : Int) (U3 : Nat → Nat → Int), Ev (am_kz N X) (d, 323, 0, [some (.inr (.inr 26)), some (.inl x1), none], [], (am_sh, am_mm U2)) (some (.inl r3), (am_sh, am_mm U3)) ∧ (((r3 = 0 : Prop)) → Ev (am_kz N X) ((d + 1), 303, 8, [some (.inr (.inr 26)), some (.inl x1), some (.inl 0), some (.inl (w32 (x3 + 1)))], [], (am_sh, am_mm U3)) R) ∧ (¬ (r3 = 0) → ∃ (r4 : Int) (U4 : Nat → Nat → Int), Ev (am_kz N X) (d, 304, 0, [some (.inr (.inr 31)), some (.inl 20)], [], (am_sh, am_mm U3)) (some (.inl r4), (am_sh, am_mm U4)) ∧ (((r4 = 0 : Prop)) → Ev (am_kz N X) ((d + 1), 303, 8, [some (.inr (.inr 26)), some (.inl x1), some (.inl 0), some (.inl (w32 (x3 + 1)))], [], (am_sh, am_mm U4)) R) ∧ (¬ (r4 = 0) → Ev (am_kz N X) ((d + 1), 303, 8, [some (.inr (.inr 26)), some (.inl x1), some (.inl 1), some (.inl (w32 (x3 + 1)))], [], (am_sh, am_mm U4)) R)))))) : Ev (am_kz N X) ((d + 1), 303, 8, [some (.inr (.inr 26)), some (.inl x1), some (.inl x2), some (.inl x3)], [], (am_sh, am_mm U)) R := by
  refine ev_br (P := 1600 ≤ x3) (σ1 := ((d + 1), 303, 64, [some (.inr (.inr 26)), some (.inl x1), some (.inl x2), some (.inl x3)], [], (am_sh, am_mm U))) (σ2 := ((d + 1), 303, 15, [some (.inr (.inr 26)), some (.inl x1), some (.inl x2), some (.inl x3)], [], (am_sh, am_mm U))) 3 (fun _ => rfl) (fun hc => ?_) (fun hc => ?_)
  · have h1 := h.1 hc
    refine ev_seg (σ1 := ((d + 1), 303, 65, [some (.inr (.inr 26)), some (.inl x1), some (.inl x2), some (.inl x3)], [.inl x2], (am_sh, am_mm U))) 1 (fun _ => rfl) ?_
    rw [h1.2]
    exact ev_retz rfl rfl h1.1
  · have h2 := h.2 hc
    refine ev_br (P := x2 = 0) (σ1 := ((d + 1), 303, 64, [some (.inr (.inr 26)), some (.inl x1), some (.inl x2), some (.inl x3)], [], (am_sh, am_mm U))) (σ2 := ((d + 1), 303, 19, [some (.inr (.inr 26)), some (.inl x1), some (.inl x2), some (.inl x3)], [], (am_sh, am_mm U))) 2 (fun _ => rfl) (fun hc => ?_) (fun hc => ?_)
    · have h21 := h2.1 hc
      refine ev_seg (σ1 := ((d + 1), 303, 65, [some (.inr (.inr 26)), some (.inl x1), some (.inl x2), some (.inl x3)], [.inl x2], (am_sh, am_mm U))) 1 (fun _ => rfl) ?_
      rw [h21.2]
      exact ev_retz rfl rfl h21.1
    · have h22 := h2.2 hc
      refine ev_seg (σ1 := ((d + 1), 303, 22, [some (.inr (.inr 26)), some (.inl x1), some (.inl x2), some (.inl x3)], [.inl 20, .inr (.inr 26)], (am_sh, am_mm U))) 2 (fun _ => rfl) ?_
      obtain ⟨r1, U1, h22c, h22a⟩ := h22
      refine ev_cal (σc := (d, 301, 0, [some (.inr (.inr 26)), some (.inl 20)], [], (am_sh, am_mm U))) (fun _ => rfl) h22c ?_
      show Ev (am_kz N X) ((d + 1), 303, 25, [some (.inr (.inr 26)), some (.inl x1), some (.inl x2), some (.inl x3)], [.inl r1], (am_sh, am_mm U1)) R
      refine ev_br (P := r1 = 0) (σ1 := ((d + 1), 303, 64, [some (.inr (.inr 26)), some (.inl x1), some (.inl x2), some (.inl x3)], [], (am_sh, am_mm U1))) (σ2 := ((d + 1), 303, 28, [some (.inr (.inr 26)), some (.inl x1), some (.inl x2), some (.inl x3)], [], (am_sh, am_mm U1))) 1 (fun _ => rfl) (fun hc => ?_) (fun hc => ?_)
      · have h22a1 := h22a.1 hc
        refine ev_seg (σ1 := ((d + 1), 303, 65, [some (.inr (.inr 26)), some (.inl x1), some (.inl x2), some (.inl x3)], [.inl x2], (am_sh, am_mm U1))) 1 (fun _ => rfl) ?_
        rw [h22a1.2]
        exact ev_retz rfl rfl h22a1.1
      · have h22a2 := h22a.2 hc
        refine ev_seg (σ1 := ((d + 1), 303, 29, [some (.inr (.inr 26)), some (.inl x1), some (.inl x2), some (.inl x3)], [.inr (.inr 26)], (am_sh, am_mm U1))) 1 (fun _ => rfl) ?_
        obtain ⟨U2, h22a2c, h22a2a⟩ := h22a2
        refine ev_cal (σc := (d, 177, 0, [some (.inr (.inr 26))], [], (am_sh, am_mm U1))) (fun _ => rfl) h22a2c ?_
        show Ev (am_kz N X) ((d + 1), 303, 32, [some (.inr (.inr 26)), some (.inl x1), some (.inl x2), some (.inl x3)], [], (am_sh, am_mm U2)) R
        refine ev_seg (σ1 := ((d + 1), 303, 34, [some (.inr (.inr 26)), some (.inl x1), some (.inl x2), some (.inl x3)], [.inl x1, .inr (.inr 26)], (am_sh, am_mm U2))) 2 (fun _ => rfl) ?_
        obtain ⟨r3, U3, h22a2ac, h22a2aa⟩ := h22a2a
        refine ev_cal (σc := (d, 323, 0, [some (.inr (.inr 26)), some (.inl x1), none], [], (am_sh, am_mm U2))) (fun _ => rfl) h22a2ac ?_
        show Ev (am_kz N X) ((d + 1), 303, 37, [some (.inr (.inr 26)), some (.inl x1), some (.inl x2), some (.inl x3)], [.inl r3], (am_sh, am_mm U3)) R
        refine ev_br (P := r3 = 0) (σ1 := ((d + 1), 303, 56, [some (.inr (.inr 26)), some (.inl x1), some (.inl x2), some (.inl x3)], [], (am_sh, am_mm U3))) (σ2 := ((d + 1), 303, 40, [some (.inr (.inr 26)), some (.inl x1), some (.inl x2), some (.inl x3)], [], (am_sh, am_mm U3))) 1 (fun _ => rfl) (fun hc => ?_) (fun hc => ?_)
        · have h22a2aa1 := h22a2aa.1 hc
          refine ev_seg (σ1 := ((d + 1), 303, 8, [some (.inr (.inr 26)), some (.inl x1), some (.inl 0), some (.inl (w32 (x3 + 1)))], [], (am_sh, am_mm U3))) 4 (fun _ => rfl) ?_
          exact h22a2aa1
        · have h22a2aa2 := h22a2aa.2 hc
          refine ev_seg (σ1 := ((d + 1), 303, 46, [some (.inr (.inr 26)), some (.inl x1), some (.inl x2), some (.inl x3)], [.inl 20, .inr (.inr 31)], (am_sh, am_mm U3))) 3 (fun _ => rfl) ?_
          obtain ⟨r4, U4, h22a2aa2c, h22a2aa2a⟩ := h22a2aa2
          refine ev_cal (σc := (d, 304, 0, [some (.inr (.inr 31)), some (.inl 20)], [], (am_sh, am_mm U3))) (fun _ => rfl) h22a2aa2c ?_
          show Ev (am_kz N X) ((d + 1), 303, 49, [some (.inr (.inr 26)), some (.inl x1), some (.inl x2), some (.inl x3)], [.inl r4], (am_sh, am_mm U4)) R
          refine ev_br (P := r4 = 0) (σ1 := ((d + 1), 303, 56, [some (.inr (.inr 26)), some (.inl x1), some (.inl x2), some (.inl x3)], [], (am_sh, am_mm U4))) (σ2 := ((d + 1), 303, 52, [some (.inr (.inr 26)), some (.inl x1), some (.inl x2), some (.inl x3)], [], (am_sh, am_mm U4))) 1 (fun _ => rfl) (fun hc => ?_) (fun hc => ?_)
          · have h22a2aa2a1 := h22a2aa2a.1 hc
            refine ev_seg (σ1 := ((d + 1), 303, 8, [some (.inr (.inr 26)), some (.inl x1), some (.inl 0), some (.inl (w32 (x3 + 1)))], [], (am_sh, am_mm U4))) 4 (fun _ => rfl) ?_
            exact h22a2aa2a1
          · have h22a2aa2a2 := h22a2aa2a.2 hc
            refine ev_seg (σ1 := ((d + 1), 303, 8, [some (.inr (.inr 26)), some (.inl x1), some (.inl 1), some (.inl (w32 (x3 + 1)))], [], (am_sh, am_mm U4))) 5 (fun _ => rfl) ?_
            exact h22a2aa2a2
set_option maxRecDepth 8000 in
theorem st133_31_0 (N : Nat) (X : Nat → Int) (d : Nat) (x1 : Int) (U : Nat → Nat → Int) (R : Option am_V × am_M) (h : (((x1 < 0 : Prop)) → (((¬ x1 = 8 : Prop)) → R = (some (.inl 0), (am_sh, am_mm U))) ∧ (¬ (¬ x1 = 8) → (0 ≤ x1 ∧ x1 < 9) ∧ (0 ≤ x1 ∧ x1 < 9) ∧ ((((U 42 x1.toNat) ≤ (U 41 x1.toNat) : Prop)) → R = (some (.inl 0), (am_sh, am_mm U))) ∧ (¬ ((U 42 x1.toNat) ≤ (U 41 x1.toNat)) → R = (some (.inl 1), (am_sh, am_mm U))))) ∧ (¬ (x1 < 0) → (((x1 < (U 31 4) : Prop)) → R = (some (.inl 1), (am_sh, am_mm U))) ∧ (¬ (x1 < (U 31 4)) → (((¬ x1 = 8 : Prop)) → R = (some (.inl 0), (am_sh, am_mm U))) ∧ (¬ (¬ x1 = 8) → (0 ≤ x1 ∧ x1 < 9) ∧ (0 ≤ x1 ∧ x1 < 9) ∧ ((((U 42 x1.toNat) ≤ (U 41 x1.toNat) : Prop)) → R = (some (.inl 0), (am_sh, am_mm U))) ∧ (¬ ((U 42 x1.toNat) ≤ (U 41 x1.toNat)) → R = (some (.inl 1), (am_sh, am_mm U))))))) : Ev (am_kz N X) (d, 133, 0, [some (.inr (.inr 31)), some (.inl x1)], [], (am_sh, am_mm U)) R := by
  refine ev_br (P := x1 < 0) (σ1 := (d, 133, 12, [some (.inr (.inr 31)), some (.inl x1)], [], (am_sh, am_mm U))) (σ2 := (d, 133, 4, [some (.inr (.inr 31)), some (.inl x1)], [], (am_sh, am_mm U))) 2 (fun _ => rfl) (fun hc => ?_) (fun hc => ?_)
  · have h1 := h.1 hc
    refine ev_br (P := ¬ x1 = 8) (σ1 := (d, 133, 37, [some (.inr (.inr 31)), some (.inl x1)], [], (am_sh, am_mm U))) (σ2 := (d, 133, 18, [some (.inr (.inr 31)), some (.inl x1)], [], (am_sh, am_mm U))) 3 (fun _ => rfl) (fun hc => ?_) (fun hc => ?_)
    · have h11 := h1.1 hc
      subst h11
      exact ev_end 2 (fun _ => rfl)
    · have h12 := h1.2 hc
      refine ev_seg (σ1 := (d, 133, 23, [some (.inr (.inr 31)), some (.inl x1)], [.inl x1, .inr (.inr 41)], (am_sh, am_mm U))) 3 (fun _ => rfl) ?_
      refine eu_iald 41 (n := 9) rfl (by decide) rfl (fun _ => rfl) h12.1 ?_
      have h12a := h12.2
      refine ev_seg (σ1 := (d, 133, 29, [some (.inr (.inr 31)), some (.inl x1)], [.inl x1, .inr (.inr 42), .inl (U 41 x1.toNat)], (am_sh, am_mm U))) 3 (fun _ => rfl) ?_
      refine eu_iald 42 (n := 9) rfl (by decide) rfl (fun _ => rfl) h12a.1 ?_
      have h12aa := h12a.2
      refine ev_br (P := (U 42 x1.toNat) ≤ (U 41 x1.toNat)) (σ1 := (d, 133, 37, [some (.inr (.inr 31)), some (.inl x1)], [], (am_sh, am_mm U))) (σ2 := (d, 133, 33, [some (.inr (.inr 31)), some (.inl x1)], [], (am_sh, am_mm U))) 1 (fun _ => rfl) (fun hc => ?_) (fun hc => ?_)
      · have h12aa1 := h12aa.1 hc
        subst h12aa1
        exact ev_end 2 (fun _ => rfl)
      · have h12aa2 := h12aa.2 hc
        subst h12aa2
        exact ev_end 3 (fun _ => rfl)
  · have h2 := h.2 hc
    refine ev_br (P := x1 < (U 31 4)) (σ1 := (d, 133, 33, [some (.inr (.inr 31)), some (.inl x1)], [], (am_sh, am_mm U))) (σ2 := (d, 133, 12, [some (.inr (.inr 31)), some (.inl x1)], [], (am_sh, am_mm U))) 4 (fun _ => rfl) (fun hc => ?_) (fun hc => ?_)
    · have h21 := h2.1 hc
      subst h21
      exact ev_end 3 (fun _ => rfl)
    · have h22 := h2.2 hc
      refine ev_br (P := ¬ x1 = 8) (σ1 := (d, 133, 37, [some (.inr (.inr 31)), some (.inl x1)], [], (am_sh, am_mm U))) (σ2 := (d, 133, 18, [some (.inr (.inr 31)), some (.inl x1)], [], (am_sh, am_mm U))) 3 (fun _ => rfl) (fun hc => ?_) (fun hc => ?_)
      · have h221 := h22.1 hc
        subst h221
        exact ev_end 2 (fun _ => rfl)
      · have h222 := h22.2 hc
        refine ev_seg (σ1 := (d, 133, 23, [some (.inr (.inr 31)), some (.inl x1)], [.inl x1, .inr (.inr 41)], (am_sh, am_mm U))) 3 (fun _ => rfl) ?_
        refine eu_iald 41 (n := 9) rfl (by decide) rfl (fun _ => rfl) h222.1 ?_
        have h222a := h222.2
        refine ev_seg (σ1 := (d, 133, 29, [some (.inr (.inr 31)), some (.inl x1)], [.inl x1, .inr (.inr 42), .inl (U 41 x1.toNat)], (am_sh, am_mm U))) 3 (fun _ => rfl) ?_
        refine eu_iald 42 (n := 9) rfl (by decide) rfl (fun _ => rfl) h222a.1 ?_
        have h222aa := h222a.2
        refine ev_br (P := (U 42 x1.toNat) ≤ (U 41 x1.toNat)) (σ1 := (d, 133, 37, [some (.inr (.inr 31)), some (.inl x1)], [], (am_sh, am_mm U))) (σ2 := (d, 133, 33, [some (.inr (.inr 31)), some (.inl x1)], [], (am_sh, am_mm U))) 1 (fun _ => rfl) (fun hc => ?_) (fun hc => ?_)
        · have h222aa1 := h222aa.1 hc
          subst h222aa1
          exact ev_end 2 (fun _ => rfl)
        · have h222aa2 := h222aa.2 hc
          subst h222aa2
          exact ev_end 3 (fun _ => rfl)
set_option maxRecDepth 8000 in
theorem st305_31_0 (N : Nat) (X : Nat → Int) (d : Nat) (x1 x2 x3 : Int) (U : Nat → Nat → Int) (R : Option am_V × am_M) (h : (0 ≤ x1 ∧ x1 < 12) ∧ (0 ≤ x1 ∧ x1 < 12) ∧ (0 ≤ x2 ∧ x2 < 12) ∧ (0 ≤ x2 ∧ x2 < 12) ∧ R = (none, (am_sh, am_mm (am_upd (am_upd (am_upd U 38 x1.toNat (w32 ((U 38 x1.toNat) - x3))) 38 x2.toNat (w32 (((am_upd U 38 x1.toNat (w32 ((U 38 x1.toNat) - x3))) 38 x2.toNat) + x3))) 31 3 (w32 (((am_upd (am_upd U 38 x1.toNat (w32 ((U 38 x1.toNat) - x3))) 38 x2.toNat (w32 (((am_upd U 38 x1.toNat (w32 ((U 38 x1.toNat) - x3))) 38 x2.toNat) + x3))) 31 3) + 1)))))) : Ev (am_kz N X) (d, 305, 0, [some (.inr (.inr 31)), some (.inl x1), some (.inl x2), some (.inl x3)], [], (am_sh, am_mm U)) R := by
  refine ev_seg (σ1 := (d, 305, 6, [some (.inr (.inr 31)), some (.inl x1), some (.inl x2), some (.inl x3)], [.inl x1, .inr (.inr 38), .inl x1, .inr (.inr 38)], (am_sh, am_mm U))) 4 (fun _ => rfl) ?_
  refine eu_iald 38 (n := 12) rfl (by decide) rfl (fun _ => rfl) h.1 ?_
  have ha := h.2
  refine ev_seg (σ1 := (d, 305, 9, [some (.inr (.inr 31)), some (.inl x1), some (.inl x2), some (.inl x3)], [.inl (w32 ((U 38 x1.toNat) - x3)), .inl x1, .inr (.inr 38)], (am_sh, am_mm U))) 2 (fun _ => rfl) ?_
  refine eu_iast 38 (n := 12) rfl (by decide) rfl (fun _ => rfl) ha.1 ?_
  have haa := ha.2
  refine ev_seg (σ1 := (d, 305, 16, [some (.inr (.inr 31)), some (.inl x1), some (.inl x2), some (.inl x3)], [.inl x2, .inr (.inr 38), .inl x2, .inr (.inr 38)], (am_sh, am_mm (am_upd U 38 x1.toNat (w32 ((U 38 x1.toNat) - x3)))))) 4 (fun _ => rfl) ?_
  refine eu_iald 38 (n := 12) rfl (by decide) rfl (fun _ => rfl) haa.1 ?_
  have haaa := haa.2
  refine ev_seg (σ1 := (d, 305, 19, [some (.inr (.inr 31)), some (.inl x1), some (.inl x2), some (.inl x3)], [.inl (w32 (((am_upd U 38 x1.toNat (w32 ((U 38 x1.toNat) - x3))) 38 x2.toNat) + x3)), .inl x2, .inr (.inr 38)], (am_sh, am_mm (am_upd U 38 x1.toNat (w32 ((U 38 x1.toNat) - x3)))))) 2 (fun _ => rfl) ?_
  refine eu_iast 38 (n := 12) rfl (by decide) rfl (fun _ => rfl) haaa.1 ?_
  have haaaa := haaa.2
  refine ev_seg (σ1 := (d, 305, 27, [some (.inr (.inr 31)), some (.inl x1), some (.inl x2), some (.inl x3)], [.inl (w32 (((am_upd (am_upd U 38 x1.toNat (w32 ((U 38 x1.toNat) - x3))) 38 x2.toNat (w32 (((am_upd U 38 x1.toNat (w32 ((U 38 x1.toNat) - x3))) 38 x2.toNat) + x3))) 31 3) + 1)), .inr (.inr 31)], (am_sh, am_mm (am_upd (am_upd U 38 x1.toNat (w32 ((U 38 x1.toNat) - x3))) 38 x2.toNat (w32 (((am_upd U 38 x1.toNat (w32 ((U 38 x1.toNat) - x3))) 38 x2.toNat) + x3)))))) 5 (fun _ => rfl) ?_
  refine eu_puti 31 (n := 19) rfl (by decide) rfl rfl ?_
  subst haaaa
  exact ev_end 1 (fun _ => rfl)
set_option maxRecDepth 8000 in
theorem st289_27_2_0 (N : Nat) (X : Nat → Int) (d : Nat) (x2 x3 x4 : Int) (U : Nat → Nat → Int) (R : Option am_V × am_M) (h : (((¬ x3 = (U 27 5) : Prop)) → (((x4 = 0 : Prop)) → Ev (am_kz N X) ((d + 1), 289, 36, [some (.inr (.inr 27)), some (.inr (.inr 2)), some (.inl x2), some (.inl x3), some (.inl x4), some (.inl 9), some (.inl 0), some (.inl x3)], [], (am_sh, am_mm U)) R) ∧ (¬ (x4 = 0) → Ev (am_kz N X) ((d + 1), 289, 36, [some (.inr (.inr 27)), some (.inr (.inr 2)), some (.inl x2), some (.inl x3), some (.inl x4), some (.inl 6), some (.inl 0), some (.inl x3)], [], (am_sh, am_mm U)) R)) ∧ (¬ (¬ x3 = (U 27 5)) → ∃ (r1 : Int) (U1 : Nat → Nat → Int), Ev (am_kz N X) (d, 291, 0, [some (.inr (.inr 27)), some (.inl x3), some (.inl x3), some (.inl x2)], [], (am_sh, am_mm U)) (some (.inl r1), (am_sh, am_mm U1)) ∧ R = (some (.inl r1), (am_sh, am_mm U1)))) : Ev (am_kz N X) ((d + 1), 289, 0, [some (.inr (.inr 27)), some (.inr (.inr 2)), some (.inl x2), some (.inl x3), some (.inl x4), none, none, none], [], (am_sh, am_mm U)) R := by
  refine ev_br (P := ¬ x3 = (U 27 5)) (σ1 := ((d + 1), 289, 16, [some (.inr (.inr 27)), some (.inr (.inr 2)), some (.inl x2), some (.inl x3), some (.inl x4), none, none, none], [], (am_sh, am_mm U))) (σ2 := ((d + 1), 289, 8, [some (.inr (.inr 27)), some (.inr (.inr 2)), some (.inl x2), some (.inl x3), some (.inl x4), none, none, none], [], (am_sh, am_mm U))) 4 (fun _ => rfl) (fun hc => ?_) (fun hc => ?_)
  · have h1 := h.1 hc
    refine ev_br (P := x4 = 0) (σ1 := ((d + 1), 289, 26, [some (.inr (.inr 27)), some (.inr (.inr 2)), some (.inl x2), some (.inl x3), some (.inl x4), none, none, none], [], (am_sh, am_mm U))) (σ2 := ((d + 1), 289, 21, [some (.inr (.inr 27)), some (.inr (.inr 2)), some (.inl x2), some (.inl x3), some (.inl x4), none, none, none], [], (am_sh, am_mm U))) 2 (fun _ => rfl) (fun hc => ?_) (fun hc => ?_)
    · have h11 := h1.1 hc
      refine ev_seg (σ1 := ((d + 1), 289, 36, [some (.inr (.inr 27)), some (.inr (.inr 2)), some (.inl x2), some (.inl x3), some (.inl x4), some (.inl 9), some (.inl 0), some (.inl x3)], [], (am_sh, am_mm U))) 6 (fun _ => rfl) ?_
      exact h11
    · have h12 := h1.2 hc
      refine ev_seg (σ1 := ((d + 1), 289, 36, [some (.inr (.inr 27)), some (.inr (.inr 2)), some (.inl x2), some (.inl x3), some (.inl x4), some (.inl 6), some (.inl 0), some (.inl x3)], [], (am_sh, am_mm U))) 7 (fun _ => rfl) ?_
      exact h12
  · have h2 := h.2 hc
    refine ev_seg (σ1 := ((d + 1), 289, 12, [some (.inr (.inr 27)), some (.inr (.inr 2)), some (.inl x2), some (.inl x3), some (.inl x4), none, none, none], [.inl x2, .inl x3, .inl x3, .inr (.inr 27)], (am_sh, am_mm U))) 4 (fun _ => rfl) ?_
    obtain ⟨r1, U1, h2c, h2a⟩ := h2
    refine ev_cal (σc := (d, 291, 0, [some (.inr (.inr 27)), some (.inl x3), some (.inl x3), some (.inl x2)], [], (am_sh, am_mm U))) (fun _ => rfl) h2c ?_
    show Ev (am_kz N X) ((d + 1), 289, 15, [some (.inr (.inr 27)), some (.inr (.inr 2)), some (.inl x2), some (.inl x3), some (.inl x4), none, none, none], [.inl r1], (am_sh, am_mm U1)) R
    subst h2a
    exact ev_end 1 (fun _ => rfl)
set_option maxRecDepth 8000 in
theorem st289_27_2_36 (N : Nat) (X : Nat → Int) (d : Nat) (x2 x3 x4 x5 x6 x7 : Int) (U : Nat → Nat → Int) (R : Option am_V × am_M) (h : (((x2 ≤ x7 : Prop)) → (((x4 = 0 : Prop)) → ∃ U1 : Nat → Nat → Int, Ev (am_kz N X) (d, 248, 0, [some (.inr (.inr 27)), some (.inl 3), some (.inl x6), some (.inl x3)], [], (am_sh, am_mm U)) (none, (am_sh, am_mm U1)) ∧ R = (some (.inl x7), (am_sh, am_mm (am_upd U1 27 5 x7)))) ∧ (¬ (x4 = 0) → ∃ U2 : Nat → Nat → Int, Ev (am_kz N X) (d, 317, 0, [some (.inr (.inr 27)), some (.inr (.inr 2)), some (.inl x3), some (.inl x7), some (.inl x6), none], [], (am_sh, am_mm U)) (none, (am_sh, am_mm U2)) ∧ R = (some (.inl x7), (am_sh, am_mm (am_upd U2 27 5 x7))))) ∧ (¬ (x2 ≤ x7) → (((x5 < (w32 (x7 - x3)) : Prop)) → (((x4 = 0 : Prop)) → ∃ U3 : Nat → Nat → Int, Ev (am_kz N X) (d, 248, 0, [some (.inr (.inr 27)), some (.inl 3), some (.inl x6), some (.inl x3)], [], (am_sh, am_mm U)) (none, (am_sh, am_mm U3)) ∧ R = (some (.inl x7), (am_sh, am_mm (am_upd U3 27 5 x7)))) ∧ (¬ (x4 = 0) → ∃ U4 : Nat → Nat → Int, Ev (am_kz N X) (d, 317, 0, [some (.inr (.inr 27)), some (.inr (.inr 2)), some (.inl x3), some (.inl x7), some (.inl x6), none], [], (am_sh, am_mm U)) (none, (am_sh, am_mm U4)) ∧ R = (some (.inl x7), (am_sh, am_mm (am_upd U4 27 5 x7))))) ∧ (¬ (x5 < (w32 (x7 - x3))) → (((x4 = 0 : Prop)) → (0 ≤ x7 ∧ x7 < 1600) ∧ ∃ (r5 : Int) (U5 : Nat → Nat → Int), Ev (am_kz N X) (d, 288, 0, [some (.inl (U 2 x7.toNat))], [], (am_sh, am_mm U)) (some (.inl r5), (am_sh, am_mm U5)) ∧ (((r5 = 0 : Prop)) → (((x4 = 0 : Prop)) → ∃ U6 : Nat → Nat → Int, Ev (am_kz N X) (d, 248, 0, [some (.inr (.inr 27)), some (.inl 3), some (.inl x6), some (.inl x3)], [], (am_sh, am_mm U5)) (none, (am_sh, am_mm U6)) ∧ R = (some (.inl x7), (am_sh, am_mm (am_upd U6 27 5 x7)))) ∧ (¬ (x4 = 0) → ∃ U7 : Nat → Nat → Int, Ev (am_kz N X) (d, 317, 0, [some (.inr (.inr 27)), some (.inr (.inr 2)), some (.inl x3), some (.inl x7), some (.inl x6), none], [], (am_sh, am_mm U5)) (none, (am_sh, am_mm U7)) ∧ R = (some (.inl x7), (am_sh, am_mm (am_upd U7 27 5 x7))))) ∧ (¬ (r5 = 0) → (((¬ (w32 (x7 - x3)) = x5 : Prop)) → (((x4 = 0 : Prop)) → (0 ≤ x7 ∧ x7 < 1600) ∧ Ev (am_kz N X) ((d + 1), 289, 36, [some (.inr (.inr 27)), some (.inr (.inr 2)), some (.inl x2), some (.inl x3), some (.inl x4), some (.inl x5), some (.inl (w32 ((w32 ((w32 (10 * x6)) + (U5 2 x7.toNat))) - 48))), some (.inl (w32 (x7 + 1)))], [], (am_sh, am_mm U5)) R) ∧ (¬ (x4 = 0) → (0 ≤ x7 ∧ x7 < 1600) ∧ Ev (am_kz N X) ((d + 1), 289, 36, [some (.inr (.inr 27)), some (.inr (.inr 2)), some (.inl x2), some (.inl x3), some (.inl x4), some (.inl x5), some (.inl (am_or x6 (am_shl (w32 ((U5 2 x7.toNat) - 96)) (w32 (25 - (w32 (5 * (w32 (x7 - x3))))))))), some (.inl (w32 (x7 + 1)))], [], (am_sh, am_mm U5)) R)) ∧ (¬ (¬ (w32 (x7 - x3)) = x5) → ∃ (r8 : Int) (U8 : Nat → Nat → Int), Ev (am_kz N X) (d, 291, 0, [some (.inr (.inr 27)), some (.inl x3), some (.inl x7), some (.inl x2)], [], (am_sh, am_mm U5)) (some (.inl r8), (am_sh, am_mm U8)) ∧ R = (some (.inl r8), (am_sh, am_mm U8))))) ∧ (¬ (x4 = 0) → (0 ≤ x7 ∧ x7 < 1600) ∧ ∃ (r9 : Int) (U9 : Nat → Nat → Int), Ev (am_kz N X) (d, 287, 0, [some (.inl (U 2 x7.toNat))], [], (am_sh, am_mm U)) (some (.inl r9), (am_sh, am_mm U9)) ∧ (((r9 = 0 : Prop)) → (((x4 = 0 : Prop)) → ∃ U10 : Nat → Nat → Int, Ev (am_kz N X) (d, 248, 0, [some (.inr (.inr 27)), some (.inl 3), some (.inl x6), some (.inl x3)], [], (am_sh, am_mm U9)) (none, (am_sh, am_mm U10)) ∧ R = (some (.inl x7), (am_sh, am_mm (am_upd U10 27 5 x7)))) ∧ (¬ (x4 = 0) → ∃ U11 : Nat → Nat → Int, Ev (am_kz N X) (d, 317, 0, [some (.inr (.inr 27)), some (.inr (.inr 2)), some (.inl x3), some (.inl x7), some (.inl x6), none], [], (am_sh, am_mm U9)) (none, (am_sh, am_mm U11)) ∧ R = (some (.inl x7), (am_sh, am_mm (am_upd U11 27 5 x7))))) ∧ (¬ (r9 = 0) → (((¬ (w32 (x7 - x3)) = x5 : Prop)) → (((x4 = 0 : Prop)) → (0 ≤ x7 ∧ x7 < 1600) ∧ Ev (am_kz N X) ((d + 1), 289, 36, [some (.inr (.inr 27)), some (.inr (.inr 2)), some (.inl x2), some (.inl x3), some (.inl x4), some (.inl x5), some (.inl (w32 ((w32 ((w32 (10 * x6)) + (U9 2 x7.toNat))) - 48))), some (.inl (w32 (x7 + 1)))], [], (am_sh, am_mm U9)) R) ∧ (¬ (x4 = 0) → (0 ≤ x7 ∧ x7 < 1600) ∧ Ev (am_kz N X) ((d + 1), 289, 36, [some (.inr (.inr 27)), some (.inr (.inr 2)), some (.inl x2), some (.inl x3), some (.inl x4), some (.inl x5), some (.inl (am_or x6 (am_shl (w32 ((U9 2 x7.toNat) - 96)) (w32 (25 - (w32 (5 * (w32 (x7 - x3))))))))), some (.inl (w32 (x7 + 1)))], [], (am_sh, am_mm U9)) R)) ∧ (¬ (¬ (w32 (x7 - x3)) = x5) → ∃ (r12 : Int) (U12 : Nat → Nat → Int), Ev (am_kz N X) (d, 291, 0, [some (.inr (.inr 27)), some (.inl x3), some (.inl x7), some (.inl x2)], [], (am_sh, am_mm U9)) (some (.inl r12), (am_sh, am_mm U12)) ∧ R = (some (.inl r12), (am_sh, am_mm U12)))))))) : Ev (am_kz N X) ((d + 1), 289, 36, [some (.inr (.inr 27)), some (.inr (.inr 2)), some (.inl x2), some (.inl x3), some (.inl x4), some (.inl x5), some (.inl x6), some (.inl x7)], [], (am_sh, am_mm U)) R := by
  refine ev_br (P := x2 ≤ x7) (σ1 := ((d + 1), 289, 146, [some (.inr (.inr 27)), some (.inr (.inr 2)), some (.inl x2), some (.inl x3), some (.inl x4), some (.inl x5), some (.inl x6), some (.inl x7)], [], (am_sh, am_mm U))) (σ2 := ((d + 1), 289, 42, [some (.inr (.inr 27)), some (.inr (.inr 2)), some (.inl x2), some (.inl x3), some (.inl x4), some (.inl x5), some (.inl x6), some (.inl x7)], [], (am_sh, am_mm U))) 3 (fun _ => rfl) (fun hc => ?_) (fun hc => ?_)
  · have h1 := h.1 hc
    refine ev_br (P := x4 = 0) (σ1 := ((d + 1), 289, 164, [some (.inr (.inr 27)), some (.inr (.inr 2)), some (.inl x2), some (.inl x3), some (.inl x4), some (.inl x5), some (.inl x6), some (.inl x7)], [], (am_sh, am_mm U))) (σ2 := ((d + 1), 289, 151, [some (.inr (.inr 27)), some (.inr (.inr 2)), some (.inl x2), some (.inl x3), some (.inl x4), some (.inl x5), some (.inl x6), some (.inl x7)], [], (am_sh, am_mm U))) 2 (fun _ => rfl) (fun hc => ?_) (fun hc => ?_)
    · have h11 := h1.1 hc
      refine ev_seg (σ1 := ((d + 1), 289, 169, [some (.inr (.inr 27)), some (.inr (.inr 2)), some (.inl x2), some (.inl x3), some (.inl x4), some (.inl x5), some (.inl x6), some (.inl x7)], [.inl x3, .inl x6, .inl 3, .inr (.inr 27)], (am_sh, am_mm U))) 4 (fun _ => rfl) ?_
      obtain ⟨U1, h11c, h11a⟩ := h11
      refine ev_cal (σc := (d, 248, 0, [some (.inr (.inr 27)), some (.inl 3), some (.inl x6), some (.inl x3)], [], (am_sh, am_mm U))) (fun _ => rfl) h11c ?_
      show Ev (am_kz N X) ((d + 1), 289, 172, [some (.inr (.inr 27)), some (.inr (.inr 2)), some (.inl x2), some (.inl x3), some (.inl x4), some (.inl x5), some (.inl x6), some (.inl x7)], [], (am_sh, am_mm U1)) R
      refine ev_seg (σ1 := ((d + 1), 289, 175, [some (.inr (.inr 27)), some (.inr (.inr 2)), some (.inl x2), some (.inl x3), some (.inl x4), some (.inl x5), some (.inl x6), some (.inl x7)], [.inl x7, .inr (.inr 27)], (am_sh, am_mm U1))) 2 (fun _ => rfl) ?_
      refine eu_puti 27 (n := 6) rfl (by decide) rfl rfl ?_
      subst h11a
      exact ev_end 2 (fun _ => rfl)
    · have h12 := h1.2 hc
      refine ev_seg (σ1 := ((d + 1), 289, 158, [some (.inr (.inr 27)), some (.inr (.inr 2)), some (.inl x2), some (.inl x3), some (.inl x4), some (.inl x5), some (.inl x6), some (.inl x7)], [.inl x6, .inl x7, .inl x3, .inr (.inr 2), .inr (.inr 27)], (am_sh, am_mm U))) 5 (fun _ => rfl) ?_
      obtain ⟨U2, h12c, h12a⟩ := h12
      refine ev_cal (σc := (d, 317, 0, [some (.inr (.inr 27)), some (.inr (.inr 2)), some (.inl x3), some (.inl x7), some (.inl x6), none], [], (am_sh, am_mm U))) (fun _ => rfl) h12c ?_
      show Ev (am_kz N X) ((d + 1), 289, 161, [some (.inr (.inr 27)), some (.inr (.inr 2)), some (.inl x2), some (.inl x3), some (.inl x4), some (.inl x5), some (.inl x6), some (.inl x7)], [], (am_sh, am_mm U2)) R
      refine ev_seg (σ1 := ((d + 1), 289, 175, [some (.inr (.inr 27)), some (.inr (.inr 2)), some (.inl x2), some (.inl x3), some (.inl x4), some (.inl x5), some (.inl x6), some (.inl x7)], [.inl x7, .inr (.inr 27)], (am_sh, am_mm U2))) 3 (fun _ => rfl) ?_
      refine eu_puti 27 (n := 6) rfl (by decide) rfl rfl ?_
      subst h12a
      exact ev_end 2 (fun _ => rfl)
  · have h2 := h.2 hc
    refine ev_br (P := x5 < (w32 (x7 - x3))) (σ1 := ((d + 1), 289, 146, [some (.inr (.inr 27)), some (.inr (.inr 2)), some (.inl x2), some (.inl x3), some (.inl x4), some (.inl x5), some (.inl x6), some (.inl x7)], [], (am_sh, am_mm U))) (σ2 := ((d + 1), 289, 51, [some (.inr (.inr 27)), some (.inr (.inr 2)), some (.inl x2), some (.inl x3), some (.inl x4), some (.inl x5), some (.inl x6), some (.inl x7)], [], (am_sh, am_mm U))) 5 (fun _ => rfl) (fun hc => ?_) (fun hc => ?_)
    · have h21 := h2.1 hc
      refine ev_br (P := x4 = 0) (σ1 := ((d + 1), 289, 164, [some (.inr (.inr 27)), some (.inr (.inr 2)), some (.inl x2), some (.inl x3), some (.inl x4), some (.inl x5), some (.inl x6), some (.inl x7)], [], (am_sh, am_mm U))) (σ2 := ((d + 1), 289, 151, [some (.inr (.inr 27)), some (.inr (.inr 2)), some (.inl x2), some (.inl x3), some (.inl x4), some (.inl x5), some (.inl x6), some (.inl x7)], [], (am_sh, am_mm U))) 2 (fun _ => rfl) (fun hc => ?_) (fun hc => ?_)
      · have h211 := h21.1 hc
        refine ev_seg (σ1 := ((d + 1), 289, 169, [some (.inr (.inr 27)), some (.inr (.inr 2)), some (.inl x2), some (.inl x3), some (.inl x4), some (.inl x5), some (.inl x6), some (.inl x7)], [.inl x3, .inl x6, .inl 3, .inr (.inr 27)], (am_sh, am_mm U))) 4 (fun _ => rfl) ?_
        obtain ⟨U3, h211c, h211a⟩ := h211
        refine ev_cal (σc := (d, 248, 0, [some (.inr (.inr 27)), some (.inl 3), some (.inl x6), some (.inl x3)], [], (am_sh, am_mm U))) (fun _ => rfl) h211c ?_
        show Ev (am_kz N X) ((d + 1), 289, 172, [some (.inr (.inr 27)), some (.inr (.inr 2)), some (.inl x2), some (.inl x3), some (.inl x4), some (.inl x5), some (.inl x6), some (.inl x7)], [], (am_sh, am_mm U3)) R
        refine ev_seg (σ1 := ((d + 1), 289, 175, [some (.inr (.inr 27)), some (.inr (.inr 2)), some (.inl x2), some (.inl x3), some (.inl x4), some (.inl x5), some (.inl x6), some (.inl x7)], [.inl x7, .inr (.inr 27)], (am_sh, am_mm U3))) 2 (fun _ => rfl) ?_
        refine eu_puti 27 (n := 6) rfl (by decide) rfl rfl ?_
        subst h211a
        exact ev_end 2 (fun _ => rfl)
      · have h212 := h21.2 hc
        refine ev_seg (σ1 := ((d + 1), 289, 158, [some (.inr (.inr 27)), some (.inr (.inr 2)), some (.inl x2), some (.inl x3), some (.inl x4), some (.inl x5), some (.inl x6), some (.inl x7)], [.inl x6, .inl x7, .inl x3, .inr (.inr 2), .inr (.inr 27)], (am_sh, am_mm U))) 5 (fun _ => rfl) ?_
        obtain ⟨U4, h212c, h212a⟩ := h212
        refine ev_cal (σc := (d, 317, 0, [some (.inr (.inr 27)), some (.inr (.inr 2)), some (.inl x3), some (.inl x7), some (.inl x6), none], [], (am_sh, am_mm U))) (fun _ => rfl) h212c ?_
        show Ev (am_kz N X) ((d + 1), 289, 161, [some (.inr (.inr 27)), some (.inr (.inr 2)), some (.inl x2), some (.inl x3), some (.inl x4), some (.inl x5), some (.inl x6), some (.inl x7)], [], (am_sh, am_mm U4)) R
        refine ev_seg (σ1 := ((d + 1), 289, 175, [some (.inr (.inr 27)), some (.inr (.inr 2)), some (.inl x2), some (.inl x3), some (.inl x4), some (.inl x5), some (.inl x6), some (.inl x7)], [.inl x7, .inr (.inr 27)], (am_sh, am_mm U4))) 3 (fun _ => rfl) ?_
        refine eu_puti 27 (n := 6) rfl (by decide) rfl rfl ?_
        subst h212a
        exact ev_end 2 (fun _ => rfl)
    · have h22 := h2.2 hc
      refine ev_br (P := x4 = 0) (σ1 := ((d + 1), 289, 69, [some (.inr (.inr 27)), some (.inr (.inr 2)), some (.inl x2), some (.inl x3), some (.inl x4), some (.inl x5), some (.inl x6), some (.inl x7)], [], (am_sh, am_mm U))) (σ2 := ((d + 1), 289, 56, [some (.inr (.inr 27)), some (.inr (.inr 2)), some (.inl x2), some (.inl x3), some (.inl x4), some (.inl x5), some (.inl x6), some (.inl x7)], [], (am_sh, am_mm U))) 2 (fun _ => rfl) (fun hc => ?_) (fun hc => ?_)
      · have h221 := h22.1 hc
        refine ev_seg (σ1 := ((d + 1), 289, 72, [some (.inr (.inr 27)), some (.inr (.inr 2)), some (.inl x2), some (.inl x3), some (.inl x4), some (.inl x5), some (.inl x6), some (.inl x7)], [.inl x7, .inr (.inr 2)], (am_sh, am_mm U))) 2 (fun _ => rfl) ?_
        refine eu_iald 2 (n := 1600) rfl (by decide) rfl (fun _ => rfl) h221.1 ?_
        have h221a := h221.2
        obtain ⟨r5, U5, h221ac, h221aa⟩ := h221a
        refine ev_cal (σc := (d, 288, 0, [some (.inl (U 2 x7.toNat))], [], (am_sh, am_mm U))) (fun _ => rfl) h221ac ?_
        show Ev (am_kz N X) ((d + 1), 289, 76, [some (.inr (.inr 27)), some (.inr (.inr 2)), some (.inl x2), some (.inl x3), some (.inl x4), some (.inl x5), some (.inl x6), some (.inl x7)], [.inl r5], (am_sh, am_mm U5)) R
        refine ev_br (P := r5 = 0) (σ1 := ((d + 1), 289, 146, [some (.inr (.inr 27)), some (.inr (.inr 2)), some (.inl x2), some (.inl x3), some (.inl x4), some (.inl x5), some (.inl x6), some (.inl x7)], [], (am_sh, am_mm U5))) (σ2 := ((d + 1), 289, 79, [some (.inr (.inr 27)), some (.inr (.inr 2)), some (.inl x2), some (.inl x3), some (.inl x4), some (.inl x5), some (.inl x6), some (.inl x7)], [], (am_sh, am_mm U5))) 1 (fun _ => rfl) (fun hc => ?_) (fun hc => ?_)
        · have h221aa1 := h221aa.1 hc
          refine ev_br (P := x4 = 0) (σ1 := ((d + 1), 289, 164, [some (.inr (.inr 27)), some (.inr (.inr 2)), some (.inl x2), some (.inl x3), some (.inl x4), some (.inl x5), some (.inl x6), some (.inl x7)], [], (am_sh, am_mm U5))) (σ2 := ((d + 1), 289, 151, [some (.inr (.inr 27)), some (.inr (.inr 2)), some (.inl x2), some (.inl x3), some (.inl x4), some (.inl x5), some (.inl x6), some (.inl x7)], [], (am_sh, am_mm U5))) 2 (fun _ => rfl) (fun hc => ?_) (fun hc => ?_)
          · have h221aa11 := h221aa1.1 hc
            refine ev_seg (σ1 := ((d + 1), 289, 169, [some (.inr (.inr 27)), some (.inr (.inr 2)), some (.inl x2), some (.inl x3), some (.inl x4), some (.inl x5), some (.inl x6), some (.inl x7)], [.inl x3, .inl x6, .inl 3, .inr (.inr 27)], (am_sh, am_mm U5))) 4 (fun _ => rfl) ?_
            obtain ⟨U6, h221aa11c, h221aa11a⟩ := h221aa11
            refine ev_cal (σc := (d, 248, 0, [some (.inr (.inr 27)), some (.inl 3), some (.inl x6), some (.inl x3)], [], (am_sh, am_mm U5))) (fun _ => rfl) h221aa11c ?_
            show Ev (am_kz N X) ((d + 1), 289, 172, [some (.inr (.inr 27)), some (.inr (.inr 2)), some (.inl x2), some (.inl x3), some (.inl x4), some (.inl x5), some (.inl x6), some (.inl x7)], [], (am_sh, am_mm U6)) R
            refine ev_seg (σ1 := ((d + 1), 289, 175, [some (.inr (.inr 27)), some (.inr (.inr 2)), some (.inl x2), some (.inl x3), some (.inl x4), some (.inl x5), some (.inl x6), some (.inl x7)], [.inl x7, .inr (.inr 27)], (am_sh, am_mm U6))) 2 (fun _ => rfl) ?_
            refine eu_puti 27 (n := 6) rfl (by decide) rfl rfl ?_
            subst h221aa11a
            exact ev_end 2 (fun _ => rfl)
          · have h221aa12 := h221aa1.2 hc
            refine ev_seg (σ1 := ((d + 1), 289, 158, [some (.inr (.inr 27)), some (.inr (.inr 2)), some (.inl x2), some (.inl x3), some (.inl x4), some (.inl x5), some (.inl x6), some (.inl x7)], [.inl x6, .inl x7, .inl x3, .inr (.inr 2), .inr (.inr 27)], (am_sh, am_mm U5))) 5 (fun _ => rfl) ?_
            obtain ⟨U7, h221aa12c, h221aa12a⟩ := h221aa12
            refine ev_cal (σc := (d, 317, 0, [some (.inr (.inr 27)), some (.inr (.inr 2)), some (.inl x3), some (.inl x7), some (.inl x6), none], [], (am_sh, am_mm U5))) (fun _ => rfl) h221aa12c ?_
            show Ev (am_kz N X) ((d + 1), 289, 161, [some (.inr (.inr 27)), some (.inr (.inr 2)), some (.inl x2), some (.inl x3), some (.inl x4), some (.inl x5), some (.inl x6), some (.inl x7)], [], (am_sh, am_mm U7)) R
            refine ev_seg (σ1 := ((d + 1), 289, 175, [some (.inr (.inr 27)), some (.inr (.inr 2)), some (.inl x2), some (.inl x3), some (.inl x4), some (.inl x5), some (.inl x6), some (.inl x7)], [.inl x7, .inr (.inr 27)], (am_sh, am_mm U7))) 3 (fun _ => rfl) ?_
            refine eu_puti 27 (n := 6) rfl (by decide) rfl rfl ?_
            subst h221aa12a
            exact ev_end 2 (fun _ => rfl)
        · have h221aa2 := h221aa.2 hc
          refine ev_br (P := ¬ (w32 (x7 - x3)) = x5) (σ1 := ((d + 1), 289, 97, [some (.inr (.inr 27)), some (.inr (.inr 2)), some (.inl x2), some (.inl x3), some (.inl x4), some (.inl x5), some (.inl x6), some (.inl x7)], [], (am_sh, am_mm U5))) (σ2 := ((d + 1), 289, 88, [some (.inr (.inr 27)), some (.inr (.inr 2)), some (.inl x2), some (.inl x3), some (.inl x4), some (.inl x5), some (.inl x6), some (.inl x7)], [], (am_sh, am_mm U5))) 5 (fun _ => rfl) (fun hc => ?_) (fun hc => ?_)
          · have h221aa21 := h221aa2.1 hc
            refine ev_br (P := x4 = 0) (σ1 := ((d + 1), 289, 125, [some (.inr (.inr 27)), some (.inr (.inr 2)), some (.inl x2), some (.inl x3), some (.inl x4), some (.inl x5), some (.inl x6), some (.inl x7)], [], (am_sh, am_mm U5))) (σ2 := ((d + 1), 289, 102, [some (.inr (.inr 27)), some (.inr (.inr 2)), some (.inl x2), some (.inl x3), some (.inl x4), some (.inl x5), some (.inl x6), some (.inl x7)], [], (am_sh, am_mm U5))) 2 (fun _ => rfl) (fun hc => ?_) (fun hc => ?_)
            · have h221aa211 := h221aa21.1 hc
              refine ev_seg (σ1 := ((d + 1), 289, 133, [some (.inr (.inr 27)), some (.inr (.inr 2)), some (.inl x2), some (.inl x3), some (.inl x4), some (.inl x5), some (.inl x6), some (.inl x7)], [.inl x7, .inr (.inr 2), .inl (w32 (10 * x6))], (am_sh, am_mm U5))) 5 (fun _ => rfl) ?_
              refine eu_iald 2 (n := 1600) rfl (by decide) rfl (fun _ => rfl) h221aa211.1 ?_
              have h221aa211a := h221aa211.2
              refine ev_seg (σ1 := ((d + 1), 289, 36, [some (.inr (.inr 27)), some (.inr (.inr 2)), some (.inl x2), some (.inl x3), some (.inl x4), some (.inl x5), some (.inl (w32 ((w32 ((w32 (10 * x6)) + (U5 2 x7.toNat))) - 48))), some (.inl (w32 (x7 + 1)))], [], (am_sh, am_mm U5))) 6 (fun _ => rfl) ?_
              exact h221aa211a
            · have h221aa212 := h221aa21.2 hc
              refine ev_seg (σ1 := ((d + 1), 289, 107, [some (.inr (.inr 27)), some (.inr (.inr 2)), some (.inl x2), some (.inl x3), some (.inl x4), some (.inl x5), some (.inl x6), some (.inl x7)], [.inl x7, .inr (.inr 2), .inl x6], (am_sh, am_mm U5))) 3 (fun _ => rfl) ?_
              refine eu_iald 2 (n := 1600) rfl (by decide) rfl (fun _ => rfl) h221aa212.1 ?_
              have h221aa212a := h221aa212.2
              refine ev_seg (σ1 := ((d + 1), 289, 36, [some (.inr (.inr 27)), some (.inr (.inr 2)), some (.inl x2), some (.inl x3), some (.inl x4), some (.inl x5), some (.inl (am_or x6 (am_shl (w32 ((U5 2 x7.toNat) - 96)) (w32 (25 - (w32 (5 * (w32 (x7 - x3))))))))), some (.inl (w32 (x7 + 1)))], [], (am_sh, am_mm U5))) 15 (fun _ => rfl) ?_
              exact h221aa212a
          · have h221aa22 := h221aa2.2 hc
            refine ev_seg (σ1 := ((d + 1), 289, 93, [some (.inr (.inr 27)), some (.inr (.inr 2)), some (.inl x2), some (.inl x3), some (.inl x4), some (.inl x5), some (.inl x6), some (.inl x7)], [.inl x2, .inl x7, .inl x3, .inr (.inr 27)], (am_sh, am_mm U5))) 4 (fun _ => rfl) ?_
            obtain ⟨r8, U8, h221aa22c, h221aa22a⟩ := h221aa22
            refine ev_cal (σc := (d, 291, 0, [some (.inr (.inr 27)), some (.inl x3), some (.inl x7), some (.inl x2)], [], (am_sh, am_mm U5))) (fun _ => rfl) h221aa22c ?_
            show Ev (am_kz N X) ((d + 1), 289, 96, [some (.inr (.inr 27)), some (.inr (.inr 2)), some (.inl x2), some (.inl x3), some (.inl x4), some (.inl x5), some (.inl x6), some (.inl x7)], [.inl r8], (am_sh, am_mm U8)) R
            subst h221aa22a
            exact ev_end 1 (fun _ => rfl)
      · have h222 := h22.2 hc
        refine ev_seg (σ1 := ((d + 1), 289, 59, [some (.inr (.inr 27)), some (.inr (.inr 2)), some (.inl x2), some (.inl x3), some (.inl x4), some (.inl x5), some (.inl x6), some (.inl x7)], [.inl x7, .inr (.inr 2)], (am_sh, am_mm U))) 2 (fun _ => rfl) ?_
        refine eu_iald 2 (n := 1600) rfl (by decide) rfl (fun _ => rfl) h222.1 ?_
        have h222a := h222.2
        obtain ⟨r9, U9, h222ac, h222aa⟩ := h222a
        refine ev_cal (σc := (d, 287, 0, [some (.inl (U 2 x7.toNat))], [], (am_sh, am_mm U))) (fun _ => rfl) h222ac ?_
        show Ev (am_kz N X) ((d + 1), 289, 63, [some (.inr (.inr 27)), some (.inr (.inr 2)), some (.inl x2), some (.inl x3), some (.inl x4), some (.inl x5), some (.inl x6), some (.inl x7)], [.inl r9], (am_sh, am_mm U9)) R
        refine ev_br (P := r9 = 0) (σ1 := ((d + 1), 289, 146, [some (.inr (.inr 27)), some (.inr (.inr 2)), some (.inl x2), some (.inl x3), some (.inl x4), some (.inl x5), some (.inl x6), some (.inl x7)], [], (am_sh, am_mm U9))) (σ2 := ((d + 1), 289, 66, [some (.inr (.inr 27)), some (.inr (.inr 2)), some (.inl x2), some (.inl x3), some (.inl x4), some (.inl x5), some (.inl x6), some (.inl x7)], [], (am_sh, am_mm U9))) 1 (fun _ => rfl) (fun hc => ?_) (fun hc => ?_)
        · have h222aa1 := h222aa.1 hc
          refine ev_br (P := x4 = 0) (σ1 := ((d + 1), 289, 164, [some (.inr (.inr 27)), some (.inr (.inr 2)), some (.inl x2), some (.inl x3), some (.inl x4), some (.inl x5), some (.inl x6), some (.inl x7)], [], (am_sh, am_mm U9))) (σ2 := ((d + 1), 289, 151, [some (.inr (.inr 27)), some (.inr (.inr 2)), some (.inl x2), some (.inl x3), some (.inl x4), some (.inl x5), some (.inl x6), some (.inl x7)], [], (am_sh, am_mm U9))) 2 (fun _ => rfl) (fun hc => ?_) (fun hc => ?_)
          · have h222aa11 := h222aa1.1 hc
            refine ev_seg (σ1 := ((d + 1), 289, 169, [some (.inr (.inr 27)), some (.inr (.inr 2)), some (.inl x2), some (.inl x3), some (.inl x4), some (.inl x5), some (.inl x6), some (.inl x7)], [.inl x3, .inl x6, .inl 3, .inr (.inr 27)], (am_sh, am_mm U9))) 4 (fun _ => rfl) ?_
            obtain ⟨U10, h222aa11c, h222aa11a⟩ := h222aa11
            refine ev_cal (σc := (d, 248, 0, [some (.inr (.inr 27)), some (.inl 3), some (.inl x6), some (.inl x3)], [], (am_sh, am_mm U9))) (fun _ => rfl) h222aa11c ?_
            show Ev (am_kz N X) ((d + 1), 289, 172, [some (.inr (.inr 27)), some (.inr (.inr 2)), some (.inl x2), some (.inl x3), some (.inl x4), some (.inl x5), some (.inl x6), some (.inl x7)], [], (am_sh, am_mm U10)) R
            refine ev_seg (σ1 := ((d + 1), 289, 175, [some (.inr (.inr 27)), some (.inr (.inr 2)), some (.inl x2), some (.inl x3), some (.inl x4), some (.inl x5), some (.inl x6), some (.inl x7)], [.inl x7, .inr (.inr 27)], (am_sh, am_mm U10))) 2 (fun _ => rfl) ?_
            refine eu_puti 27 (n := 6) rfl (by decide) rfl rfl ?_
            subst h222aa11a
            exact ev_end 2 (fun _ => rfl)
          · have h222aa12 := h222aa1.2 hc
            refine ev_seg (σ1 := ((d + 1), 289, 158, [some (.inr (.inr 27)), some (.inr (.inr 2)), some (.inl x2), some (.inl x3), some (.inl x4), some (.inl x5), some (.inl x6), some (.inl x7)], [.inl x6, .inl x7, .inl x3, .inr (.inr 2), .inr (.inr 27)], (am_sh, am_mm U9))) 5 (fun _ => rfl) ?_
            obtain ⟨U11, h222aa12c, h222aa12a⟩ := h222aa12
            refine ev_cal (σc := (d, 317, 0, [some (.inr (.inr 27)), some (.inr (.inr 2)), some (.inl x3), some (.inl x7), some (.inl x6), none], [], (am_sh, am_mm U9))) (fun _ => rfl) h222aa12c ?_
            show Ev (am_kz N X) ((d + 1), 289, 161, [some (.inr (.inr 27)), some (.inr (.inr 2)), some (.inl x2), some (.inl x3), some (.inl x4), some (.inl x5), some (.inl x6), some (.inl x7)], [], (am_sh, am_mm U11)) R
            refine ev_seg (σ1 := ((d + 1), 289, 175, [some (.inr (.inr 27)), some (.inr (.inr 2)), some (.inl x2), some (.inl x3), some (.inl x4), some (.inl x5), some (.inl x6), some (.inl x7)], [.inl x7, .inr (.inr 27)], (am_sh, am_mm U11))) 3 (fun _ => rfl) ?_
            refine eu_puti 27 (n := 6) rfl (by decide) rfl rfl ?_
            subst h222aa12a
            exact ev_end 2 (fun _ => rfl)
        · have h222aa2 := h222aa.2 hc
          refine ev_br (P := ¬ (w32 (x7 - x3)) = x5) (σ1 := ((d + 1), 289, 97, [some (.inr (.inr 27)), some (.inr (.inr 2)), some (.inl x2), some (.inl x3), some (.inl x4), some (.inl x5), some (.inl x6), some (.inl x7)], [], (am_sh, am_mm U9))) (σ2 := ((d + 1), 289, 88, [some (.inr (.inr 27)), some (.inr (.inr 2)), some (.inl x2), some (.inl x3), some (.inl x4), some (.inl x5), some (.inl x6), some (.inl x7)], [], (am_sh, am_mm U9))) 6 (fun _ => rfl) (fun hc => ?_) (fun hc => ?_)
          · have h222aa21 := h222aa2.1 hc
            refine ev_br (P := x4 = 0) (σ1 := ((d + 1), 289, 125, [some (.inr (.inr 27)), some (.inr (.inr 2)), some (.inl x2), some (.inl x3), some (.inl x4), some (.inl x5), some (.inl x6), some (.inl x7)], [], (am_sh, am_mm U9))) (σ2 := ((d + 1), 289, 102, [some (.inr (.inr 27)), some (.inr (.inr 2)), some (.inl x2), some (.inl x3), some (.inl x4), some (.inl x5), some (.inl x6), some (.inl x7)], [], (am_sh, am_mm U9))) 2 (fun _ => rfl) (fun hc => ?_) (fun hc => ?_)
            · have h222aa211 := h222aa21.1 hc
              refine ev_seg (σ1 := ((d + 1), 289, 133, [some (.inr (.inr 27)), some (.inr (.inr 2)), some (.inl x2), some (.inl x3), some (.inl x4), some (.inl x5), some (.inl x6), some (.inl x7)], [.inl x7, .inr (.inr 2), .inl (w32 (10 * x6))], (am_sh, am_mm U9))) 5 (fun _ => rfl) ?_
              refine eu_iald 2 (n := 1600) rfl (by decide) rfl (fun _ => rfl) h222aa211.1 ?_
              have h222aa211a := h222aa211.2
              refine ev_seg (σ1 := ((d + 1), 289, 36, [some (.inr (.inr 27)), some (.inr (.inr 2)), some (.inl x2), some (.inl x3), some (.inl x4), some (.inl x5), some (.inl (w32 ((w32 ((w32 (10 * x6)) + (U9 2 x7.toNat))) - 48))), some (.inl (w32 (x7 + 1)))], [], (am_sh, am_mm U9))) 6 (fun _ => rfl) ?_
              exact h222aa211a
            · have h222aa212 := h222aa21.2 hc
              refine ev_seg (σ1 := ((d + 1), 289, 107, [some (.inr (.inr 27)), some (.inr (.inr 2)), some (.inl x2), some (.inl x3), some (.inl x4), some (.inl x5), some (.inl x6), some (.inl x7)], [.inl x7, .inr (.inr 2), .inl x6], (am_sh, am_mm U9))) 3 (fun _ => rfl) ?_
              refine eu_iald 2 (n := 1600) rfl (by decide) rfl (fun _ => rfl) h222aa212.1 ?_
              have h222aa212a := h222aa212.2
              refine ev_seg (σ1 := ((d + 1), 289, 36, [some (.inr (.inr 27)), some (.inr (.inr 2)), some (.inl x2), some (.inl x3), some (.inl x4), some (.inl x5), some (.inl (am_or x6 (am_shl (w32 ((U9 2 x7.toNat) - 96)) (w32 (25 - (w32 (5 * (w32 (x7 - x3))))))))), some (.inl (w32 (x7 + 1)))], [], (am_sh, am_mm U9))) 15 (fun _ => rfl) ?_
              exact h222aa212a
          · have h222aa22 := h222aa2.2 hc
            refine ev_seg (σ1 := ((d + 1), 289, 93, [some (.inr (.inr 27)), some (.inr (.inr 2)), some (.inl x2), some (.inl x3), some (.inl x4), some (.inl x5), some (.inl x6), some (.inl x7)], [.inl x2, .inl x7, .inl x3, .inr (.inr 27)], (am_sh, am_mm U9))) 4 (fun _ => rfl) ?_
            obtain ⟨r12, U12, h222aa22c, h222aa22a⟩ := h222aa22
            refine ev_cal (σc := (d, 291, 0, [some (.inr (.inr 27)), some (.inl x3), some (.inl x7), some (.inl x2)], [], (am_sh, am_mm U9))) (fun _ => rfl) h222aa22c ?_
            show Ev (am_kz N X) ((d + 1), 289, 96, [some (.inr (.inr 27)), some (.inr (.inr 2)), some (.inl x2), some (.inl x3), some (.inl x4), some (.inl x5), some (.inl x6), some (.inl x7)], [.inl r12], (am_sh, am_mm U12)) R
            subst h222aa22a
            exact ev_end 1 (fun _ => rfl)
set_option maxRecDepth 8000 in
theorem st288_0 (N : Nat) (X : Nat → Int) (d : Nat) (x0 : Int) (U : Nat → Nat → Int) (R : Option am_V × am_M) (h : (((x0 < 48 : Prop)) → R = (some (.inl 0), (am_sh, am_mm U))) ∧ (¬ (x0 < 48) → (((57 < x0 : Prop)) → R = (some (.inl 0), (am_sh, am_mm U))) ∧ (¬ (57 < x0) → R = (some (.inl 1), (am_sh, am_mm U))))) : Ev (am_kz N X) (d, 288, 0, [some (.inl x0)], [], (am_sh, am_mm U)) R := by
  refine ev_br (P := x0 < 48) (σ1 := (d, 288, 16, [some (.inl x0)], [], (am_sh, am_mm U))) (σ2 := (d, 288, 6, [some (.inl x0)], [], (am_sh, am_mm U))) 3 (fun _ => rfl) (fun hc => ?_) (fun hc => ?_)
  · have h1 := h.1 hc
    subst h1
    exact ev_end 2 (fun _ => rfl)
  · have h2 := h.2 hc
    refine ev_br (P := 57 < x0) (σ1 := (d, 288, 16, [some (.inl x0)], [], (am_sh, am_mm U))) (σ2 := (d, 288, 12, [some (.inl x0)], [], (am_sh, am_mm U))) 3 (fun _ => rfl) (fun hc => ?_) (fun hc => ?_)
    · have h21 := h2.1 hc
      subst h21
      exact ev_end 2 (fun _ => rfl)
    · have h22 := h2.2 hc
      subst h22
      exact ev_end 3 (fun _ => rfl)
set_option maxRecDepth 8000 in
theorem st287_0 (N : Nat) (X : Nat → Int) (d : Nat) (x0 : Int) (U : Nat → Nat → Int) (R : Option am_V × am_M) (h : (((x0 < 97 : Prop)) → R = (some (.inl 0), (am_sh, am_mm U))) ∧ (¬ (x0 < 97) → (((122 < x0 : Prop)) → R = (some (.inl 0), (am_sh, am_mm U))) ∧ (¬ (122 < x0) → R = (some (.inl 1), (am_sh, am_mm U))))) : Ev (am_kz N X) (d, 287, 0, [some (.inl x0)], [], (am_sh, am_mm U)) R := by
  refine ev_br (P := x0 < 97) (σ1 := (d, 287, 16, [some (.inl x0)], [], (am_sh, am_mm U))) (σ2 := (d, 287, 6, [some (.inl x0)], [], (am_sh, am_mm U))) 3 (fun _ => rfl) (fun hc => ?_) (fun hc => ?_)
  · have h1 := h.1 hc
    subst h1
    exact ev_end 2 (fun _ => rfl)
  · have h2 := h.2 hc
    refine ev_br (P := 122 < x0) (σ1 := (d, 287, 16, [some (.inl x0)], [], (am_sh, am_mm U))) (σ2 := (d, 287, 12, [some (.inl x0)], [], (am_sh, am_mm U))) 3 (fun _ => rfl) (fun hc => ?_) (fun hc => ?_)
    · have h21 := h2.1 hc
      subst h21
      exact ev_end 2 (fun _ => rfl)
    · have h22 := h2.2 hc
      subst h22
      exact ev_end 3 (fun _ => rfl)
set_option maxRecDepth 8000 in
theorem st291_27_0 (N : Nat) (X : Nat → Int) (d : Nat) (x1 x2 x3 : Int) (U : Nat → Nat → Int) (R : Option am_V × am_M) (h : ∃ U1 : Nat → Nat → Int, Ev (am_kz N X) (d, 248, 0, [some (.inr (.inr 27)), some (.inl 5), some (.inl 0), some (.inl x1)], [], (am_sh, am_mm U)) (none, (am_sh, am_mm U1)) ∧ R = (some (.inl x3), (am_sh, am_mm (am_upd U1 27 4 x2)))) : Ev (am_kz N X) ((d + 1), 291, 0, [some (.inr (.inr 27)), some (.inl x1), some (.inl x2), some (.inl x3)], [], (am_sh, am_mm U)) R := by
  refine ev_seg (σ1 := ((d + 1), 291, 4, [some (.inr (.inr 27)), some (.inl x1), some (.inl x2), some (.inl x3)], [.inl x1, .inl 0, .inl 5, .inr (.inr 27)], (am_sh, am_mm U))) 4 (fun _ => rfl) ?_
  obtain ⟨U1, hc, ha⟩ := h
  refine ev_cal (σc := (d, 248, 0, [some (.inr (.inr 27)), some (.inl 5), some (.inl 0), some (.inl x1)], [], (am_sh, am_mm U))) (fun _ => rfl) hc ?_
  show Ev (am_kz N X) ((d + 1), 291, 7, [some (.inr (.inr 27)), some (.inl x1), some (.inl x2), some (.inl x3)], [], (am_sh, am_mm U1)) R
  refine ev_seg (σ1 := ((d + 1), 291, 9, [some (.inr (.inr 27)), some (.inl x1), some (.inl x2), some (.inl x3)], [.inl x2, .inr (.inr 27)], (am_sh, am_mm U1))) 2 (fun _ => rfl) ?_
  refine eu_puti 27 (n := 6) rfl (by decide) rfl rfl ?_
  subst ha
  exact ev_end 2 (fun _ => rfl)
set_option maxRecDepth 8000 in
theorem st290_m2_0 (N : Nat) (X : Nat → Int) (d : Nat) (x1 : Int) (U : Nat → Nat → Int) (R : Option am_V × am_M) (h : ∃ (r1 : Int) (U1 : Nat → Nat → Int), Ev (am_kz N X) (d, 318, 0, [some (.inr (.inr (-2))), some (.inl x1), some (.inl 0)], [], (am_sh, am_mm U)) (some (.inl r1), (am_sh, am_mm U1)) ∧ R = (some (.inl r1), (am_sh, am_mm U1))) : Ev (am_kz N X) ((d + 1), 290, 0, [some (.inr (.inr (-2))), some (.inl x1)], [], (am_sh, am_mm U)) R := by
  refine ev_seg (σ1 := ((d + 1), 290, 3, [some (.inr (.inr (-2))), some (.inl x1)], [.inl 0, .inl x1, .inr (.inr (-2))], (am_sh, am_mm U))) 3 (fun _ => rfl) ?_
  obtain ⟨r1, U1, hc, ha⟩ := h
  refine ev_cal (σc := (d, 318, 0, [some (.inr (.inr (-2))), some (.inl x1), some (.inl 0)], [], (am_sh, am_mm U))) (fun _ => rfl) hc ?_
  show Ev (am_kz N X) ((d + 1), 290, 6, [some (.inr (.inr (-2))), some (.inl x1)], [.inl r1], (am_sh, am_mm U1)) R
  subst ha
  exact ev_end 1 (fun _ => rfl)
set_option maxRecDepth 8000 in
theorem st310_86_0 (N : Nat) (X : Nat → Int) (d : Nat) (U : Nat → Nat → Int) (R : Option am_V × am_M) (h : ∃ U1 : Nat → Nat → Int, Ev (am_kz N X) (d, 186, 0, [some (.inr (.inr 86))], [], (am_sh, am_mm U)) (none, (am_sh, am_mm U1)) ∧ ((((U1 86 8) ≤ 0 : Prop)) → (0 ≤ (w32 ((U1 86 46) - 1)) ∧ (w32 ((U1 86 46) - 1)) < 20) ∧ ∃ (r2 : Int) (U2 : Nat → Nat → Int), Ev (am_kz N X) (d, 325, 0, [some (.inl (U1 113 (w32 ((U1 86 46) - 1)).toNat))], [], (am_sh, am_mm U1)) (some (.inl r2), (am_sh, am_mm U2)) ∧ (0 ≤ (w32 ((U1 86 46) - 1)) ∧ (w32 ((U1 86 46) - 1)) < 20) ∧ (((2 ≤ (U2 114 (w32 ((U1 86 46) - 1)).toNat) : Prop)) → Ev (am_kz N X) ((d + 1), 310, 188, [some (.inr (.inr 86)), some (.inl (w32 ((U1 86 46) - 1))), some (.inl (U1 113 (w32 ((U1 86 46) - 1)).toNat)), some (.inl r2), none], [], (am_sh, am_mm U2)) R) ∧ (¬ (2 ≤ (U2 114 (w32 ((U1 86 46) - 1)).toNat)) → ∃ (r3 : Int) (U3 : Nat → Nat → Int), Ev (am_kz N X) (d, 197, 0, [some (.inr (.inr 86)), some (.inl 43)], [], (am_sh, am_mm U2)) (some (.inl r3), (am_sh, am_mm U3)) ∧ (((¬ r3 = 0 : Prop)) → Ev (am_kz N X) ((d + 1), 310, 87, [some (.inr (.inr 86)), some (.inl (w32 ((U1 86 46) - 1))), some (.inl (U1 113 (w32 ((U1 86 46) - 1)).toNat)), some (.inl r2), none], [], (am_sh, am_mm U3)) R) ∧ (¬ (¬ r3 = 0) → ∃ (r4 : Int) (U4 : Nat → Nat → Int), Ev (am_kz N X) (d, 197, 0, [some (.inr (.inr 86)), some (.inl 45)], [], (am_sh, am_mm U3)) (some (.inl r4), (am_sh, am_mm U4)) ∧ (((¬ r4 = 0 : Prop)) → Ev (am_kz N X) ((d + 1), 310, 87, [some (.inr (.inr 86)), some (.inl (w32 ((U1 86 46) - 1))), some (.inl (U1 113 (w32 ((U1 86 46) - 1)).toNat)), some (.inl r2), none], [], (am_sh, am_mm U4)) R) ∧ (¬ (¬ r4 = 0) → ∃ (r5 : Int) (U5 : Nat → Nat → Int), Ev (am_kz N X) (d, 197, 0, [some (.inr (.inr 86)), some (.inl 42)], [], (am_sh, am_mm U4)) (some (.inl r5), (am_sh, am_mm U5)) ∧ (((¬ r5 = 0 : Prop)) → Ev (am_kz N X) ((d + 1), 310, 87, [some (.inr (.inr 86)), some (.inl (w32 ((U1 86 46) - 1))), some (.inl (U1 113 (w32 ((U1 86 46) - 1)).toNat)), some (.inl r2), none], [], (am_sh, am_mm U5)) R) ∧ (¬ (¬ r5 = 0) → ∃ (r6 : Int) (U6 : Nat → Nat → Int), Ev (am_kz N X) (d, 197, 0, [some (.inr (.inr 86)), some (.inl 47)], [], (am_sh, am_mm U5)) (some (.inl r6), (am_sh, am_mm U6)) ∧ (((¬ r6 = 0 : Prop)) → Ev (am_kz N X) ((d + 1), 310, 87, [some (.inr (.inr 86)), some (.inl (w32 ((U1 86 46) - 1))), some (.inl (U1 113 (w32 ((U1 86 46) - 1)).toNat)), some (.inl r2), none], [], (am_sh, am_mm U6)) R) ∧ (¬ (¬ r6 = 0) → ∃ (r7 : Int) (U7 : Nat → Nat → Int), Ev (am_kz N X) (d, 197, 0, [some (.inr (.inr 86)), some (.inl 37)], [], (am_sh, am_mm U6)) (some (.inl r7), (am_sh, am_mm U7)) ∧ (((r7 = 0 : Prop)) → Ev (am_kz N X) ((d + 1), 310, 188, [some (.inr (.inr 86)), some (.inl (w32 ((U1 86 46) - 1))), some (.inl (U1 113 (w32 ((U1 86 46) - 1)).toNat)), some (.inl r2), none], [], (am_sh, am_mm U7)) R) ∧ (¬ (r7 = 0) → Ev (am_kz N X) ((d + 1), 310, 87, [some (.inr (.inr 86)), some (.inl (w32 ((U1 86 46) - 1))), some (.inl (U1 113 (w32 ((U1 86 46) - 1)).toNat)), some (.inl r2), none], [], (am_sh, am_mm U7)) R))))))) ∧ (¬ ((U1 86 8) ≤ 0) → R = (some (.inl 0), (am_sh, am_mm U1)))) : Ev (am_kz N X) ((d + 1), 310, 0, [some (.inr (.inr 86)), none, none, none, none], [], (am_sh, am_mm U)) R := by
  refine ev_seg (σ1 := ((d + 1), 310, 1, [some (.inr (.inr 86)), none, none, none, none], [.inr (.inr 86)], (am_sh, am_mm U))) 1 (fun _ => rfl) ?_
  obtain ⟨U1, hc, ha⟩ := h
  refine ev_cal (σc := (d, 186, 0, [some (.inr (.inr 86))], [], (am_sh, am_mm U))) (fun _ => rfl) hc ?_
  show Ev (am_kz N X) ((d + 1), 310, 4, [some (.inr (.inr 86)), none, none, none, none], [], (am_sh, am_mm U1)) R
  refine ev_br (P := (U1 86 8) ≤ 0) (σ1 := ((d + 1), 310, 13, [some (.inr (.inr 86)), none, none, none, none], [], (am_sh, am_mm U1))) (σ2 := ((d + 1), 310, 11, [some (.inr (.inr 86)), none, none, none, none], [], (am_sh, am_mm U1))) 3 (fun _ => rfl) (fun hc => ?_) (fun hc => ?_)
  · have ha1 := ha.1 hc
    refine ev_seg (σ1 := ((d + 1), 310, 25, [some (.inr (.inr 86)), some (.inl (w32 ((U1 86 46) - 1))), none, none, none], [.inl (w32 ((U1 86 46) - 1)), .inr (.inr 113)], (am_sh, am_mm U1))) 8 (fun _ => rfl) ?_
    refine eu_iald 113 (n := 20) rfl (by decide) rfl (fun _ => rfl) ha1.1 ?_
    have ha1a := ha1.2
    refine ev_seg (σ1 := ((d + 1), 310, 28, [some (.inr (.inr 86)), some (.inl (w32 ((U1 86 46) - 1))), some (.inl (U1 113 (w32 ((U1 86 46) - 1)).toNat)), none, none], [.inl (U1 113 (w32 ((U1 86 46) - 1)).toNat)], (am_sh, am_mm U1))) 2 (fun _ => rfl) ?_
    obtain ⟨r2, U2, ha1ac, ha1aa⟩ := ha1a
    refine ev_cal (σc := (d, 325, 0, [some (.inl (U1 113 (w32 ((U1 86 46) - 1)).toNat))], [], (am_sh, am_mm U1))) (fun _ => rfl) ha1ac ?_
    show Ev (am_kz N X) ((d + 1), 310, 31, [some (.inr (.inr 86)), some (.inl (w32 ((U1 86 46) - 1))), some (.inl (U1 113 (w32 ((U1 86 46) - 1)).toNat)), none, none], [.inl r2], (am_sh, am_mm U2)) R
    refine ev_seg (σ1 := ((d + 1), 310, 37, [some (.inr (.inr 86)), some (.inl (w32 ((U1 86 46) - 1))), some (.inl (U1 113 (w32 ((U1 86 46) - 1)).toNat)), some (.inl r2), none], [.inl (w32 ((U1 86 46) - 1)), .inr (.inr 114)], (am_sh, am_mm U2))) 4 (fun _ => rfl) ?_
    refine eu_iald 114 (n := 20) rfl (by decide) rfl (fun _ => rfl) ha1aa.1 ?_
    have ha1aaa := ha1aa.2
    refine ev_br (P := 2 ≤ (U2 114 (w32 ((U1 86 46) - 1)).toNat)) (σ1 := ((d + 1), 310, 188, [some (.inr (.inr 86)), some (.inl (w32 ((U1 86 46) - 1))), some (.inl (U1 113 (w32 ((U1 86 46) - 1)).toNat)), some (.inl r2), none], [], (am_sh, am_mm U2))) (σ2 := ((d + 1), 310, 42, [some (.inr (.inr 86)), some (.inl (w32 ((U1 86 46) - 1))), some (.inl (U1 113 (w32 ((U1 86 46) - 1)).toNat)), some (.inl r2), none], [], (am_sh, am_mm U2))) 2 (fun _ => rfl) (fun hc => ?_) (fun hc => ?_)
    · have ha1aaa1 := ha1aaa.1 hc
      exact ha1aaa1
    · have ha1aaa2 := ha1aaa.2 hc
      refine ev_seg (σ1 := ((d + 1), 310, 45, [some (.inr (.inr 86)), some (.inl (w32 ((U1 86 46) - 1))), some (.inl (U1 113 (w32 ((U1 86 46) - 1)).toNat)), some (.inl r2), none], [.inl 43, .inr (.inr 86)], (am_sh, am_mm U2))) 2 (fun _ => rfl) ?_
      obtain ⟨r3, U3, ha1aaa2c, ha1aaa2a⟩ := ha1aaa2
      refine ev_cal (σc := (d, 197, 0, [some (.inr (.inr 86)), some (.inl 43)], [], (am_sh, am_mm U2))) (fun _ => rfl) ha1aaa2c ?_
      show Ev (am_kz N X) ((d + 1), 310, 48, [some (.inr (.inr 86)), some (.inl (w32 ((U1 86 46) - 1))), some (.inl (U1 113 (w32 ((U1 86 46) - 1)).toNat)), some (.inl r2), none], [.inl r3], (am_sh, am_mm U3)) R
      refine ev_br (P := ¬ r3 = 0) (σ1 := ((d + 1), 310, 87, [some (.inr (.inr 86)), some (.inl (w32 ((U1 86 46) - 1))), some (.inl (U1 113 (w32 ((U1 86 46) - 1)).toNat)), some (.inl r2), none], [], (am_sh, am_mm U3))) (σ2 := ((d + 1), 310, 51, [some (.inr (.inr 86)), some (.inl (w32 ((U1 86 46) - 1))), some (.inl (U1 113 (w32 ((U1 86 46) - 1)).toNat)), some (.inl r2), none], [], (am_sh, am_mm U3))) 1 (fun _ => rfl) (fun hc => ?_) (fun hc => ?_)
      · have ha1aaa2a1 := ha1aaa2a.1 hc
        exact ha1aaa2a1
      · have ha1aaa2a2 := ha1aaa2a.2 hc
        refine ev_seg (σ1 := ((d + 1), 310, 54, [some (.inr (.inr 86)), some (.inl (w32 ((U1 86 46) - 1))), some (.inl (U1 113 (w32 ((U1 86 46) - 1)).toNat)), some (.inl r2), none], [.inl 45, .inr (.inr 86)], (am_sh, am_mm U3))) 2 (fun _ => rfl) ?_
        obtain ⟨r4, U4, ha1aaa2a2c, ha1aaa2a2a⟩ := ha1aaa2a2
        refine ev_cal (σc := (d, 197, 0, [some (.inr (.inr 86)), some (.inl 45)], [], (am_sh, am_mm U3))) (fun _ => rfl) ha1aaa2a2c ?_
        show Ev (am_kz N X) ((d + 1), 310, 57, [some (.inr (.inr 86)), some (.inl (w32 ((U1 86 46) - 1))), some (.inl (U1 113 (w32 ((U1 86 46) - 1)).toNat)), some (.inl r2), none], [.inl r4], (am_sh, am_mm U4)) R
        refine ev_br (P := ¬ r4 = 0) (σ1 := ((d + 1), 310, 87, [some (.inr (.inr 86)), some (.inl (w32 ((U1 86 46) - 1))), some (.inl (U1 113 (w32 ((U1 86 46) - 1)).toNat)), some (.inl r2), none], [], (am_sh, am_mm U4))) (σ2 := ((d + 1), 310, 60, [some (.inr (.inr 86)), some (.inl (w32 ((U1 86 46) - 1))), some (.inl (U1 113 (w32 ((U1 86 46) - 1)).toNat)), some (.inl r2), none], [], (am_sh, am_mm U4))) 1 (fun _ => rfl) (fun hc => ?_) (fun hc => ?_)
        · have ha1aaa2a2a1 := ha1aaa2a2a.1 hc
          exact ha1aaa2a2a1
        · have ha1aaa2a2a2 := ha1aaa2a2a.2 hc
          refine ev_seg (σ1 := ((d + 1), 310, 63, [some (.inr (.inr 86)), some (.inl (w32 ((U1 86 46) - 1))), some (.inl (U1 113 (w32 ((U1 86 46) - 1)).toNat)), some (.inl r2), none], [.inl 42, .inr (.inr 86)], (am_sh, am_mm U4))) 2 (fun _ => rfl) ?_
          obtain ⟨r5, U5, ha1aaa2a2a2c, ha1aaa2a2a2a⟩ := ha1aaa2a2a2
          refine ev_cal (σc := (d, 197, 0, [some (.inr (.inr 86)), some (.inl 42)], [], (am_sh, am_mm U4))) (fun _ => rfl) ha1aaa2a2a2c ?_
          show Ev (am_kz N X) ((d + 1), 310, 66, [some (.inr (.inr 86)), some (.inl (w32 ((U1 86 46) - 1))), some (.inl (U1 113 (w32 ((U1 86 46) - 1)).toNat)), some (.inl r2), none], [.inl r5], (am_sh, am_mm U5)) R
          refine ev_br (P := ¬ r5 = 0) (σ1 := ((d + 1), 310, 87, [some (.inr (.inr 86)), some (.inl (w32 ((U1 86 46) - 1))), some (.inl (U1 113 (w32 ((U1 86 46) - 1)).toNat)), some (.inl r2), none], [], (am_sh, am_mm U5))) (σ2 := ((d + 1), 310, 69, [some (.inr (.inr 86)), some (.inl (w32 ((U1 86 46) - 1))), some (.inl (U1 113 (w32 ((U1 86 46) - 1)).toNat)), some (.inl r2), none], [], (am_sh, am_mm U5))) 1 (fun _ => rfl) (fun hc => ?_) (fun hc => ?_)
          · have ha1aaa2a2a2a1 := ha1aaa2a2a2a.1 hc
            exact ha1aaa2a2a2a1
          · have ha1aaa2a2a2a2 := ha1aaa2a2a2a.2 hc
            refine ev_seg (σ1 := ((d + 1), 310, 72, [some (.inr (.inr 86)), some (.inl (w32 ((U1 86 46) - 1))), some (.inl (U1 113 (w32 ((U1 86 46) - 1)).toNat)), some (.inl r2), none], [.inl 47, .inr (.inr 86)], (am_sh, am_mm U5))) 2 (fun _ => rfl) ?_
            obtain ⟨r6, U6, ha1aaa2a2a2a2c, ha1aaa2a2a2a2a⟩ := ha1aaa2a2a2a2
            refine ev_cal (σc := (d, 197, 0, [some (.inr (.inr 86)), some (.inl 47)], [], (am_sh, am_mm U5))) (fun _ => rfl) ha1aaa2a2a2a2c ?_
            show Ev (am_kz N X) ((d + 1), 310, 75, [some (.inr (.inr 86)), some (.inl (w32 ((U1 86 46) - 1))), some (.inl (U1 113 (w32 ((U1 86 46) - 1)).toNat)), some (.inl r2), none], [.inl r6], (am_sh, am_mm U6)) R
            refine ev_br (P := ¬ r6 = 0) (σ1 := ((d + 1), 310, 87, [some (.inr (.inr 86)), some (.inl (w32 ((U1 86 46) - 1))), some (.inl (U1 113 (w32 ((U1 86 46) - 1)).toNat)), some (.inl r2), none], [], (am_sh, am_mm U6))) (σ2 := ((d + 1), 310, 78, [some (.inr (.inr 86)), some (.inl (w32 ((U1 86 46) - 1))), some (.inl (U1 113 (w32 ((U1 86 46) - 1)).toNat)), some (.inl r2), none], [], (am_sh, am_mm U6))) 1 (fun _ => rfl) (fun hc => ?_) (fun hc => ?_)
            · have ha1aaa2a2a2a2a1 := ha1aaa2a2a2a2a.1 hc
              exact ha1aaa2a2a2a2a1
            · have ha1aaa2a2a2a2a2 := ha1aaa2a2a2a2a.2 hc
              refine ev_seg (σ1 := ((d + 1), 310, 81, [some (.inr (.inr 86)), some (.inl (w32 ((U1 86 46) - 1))), some (.inl (U1 113 (w32 ((U1 86 46) - 1)).toNat)), some (.inl r2), none], [.inl 37, .inr (.inr 86)], (am_sh, am_mm U6))) 2 (fun _ => rfl) ?_
              obtain ⟨r7, U7, ha1aaa2a2a2a2a2c, ha1aaa2a2a2a2a2a⟩ := ha1aaa2a2a2a2a2
              refine ev_cal (σc := (d, 197, 0, [some (.inr (.inr 86)), some (.inl 37)], [], (am_sh, am_mm U6))) (fun _ => rfl) ha1aaa2a2a2a2a2c ?_
              show Ev (am_kz N X) ((d + 1), 310, 84, [some (.inr (.inr 86)), some (.inl (w32 ((U1 86 46) - 1))), some (.inl (U1 113 (w32 ((U1 86 46) - 1)).toNat)), some (.inl r2), none], [.inl r7], (am_sh, am_mm U7)) R
              refine ev_br (P := r7 = 0) (σ1 := ((d + 1), 310, 188, [some (.inr (.inr 86)), some (.inl (w32 ((U1 86 46) - 1))), some (.inl (U1 113 (w32 ((U1 86 46) - 1)).toNat)), some (.inl r2), none], [], (am_sh, am_mm U7))) (σ2 := ((d + 1), 310, 87, [some (.inr (.inr 86)), some (.inl (w32 ((U1 86 46) - 1))), some (.inl (U1 113 (w32 ((U1 86 46) - 1)).toNat)), some (.inl r2), none], [], (am_sh, am_mm U7))) 1 (fun _ => rfl) (fun hc => ?_) (fun hc => ?_)
              · have ha1aaa2a2a2a2a2a1 := ha1aaa2a2a2a2a2a.1 hc
                exact ha1aaa2a2a2a2a2a1
              · have ha1aaa2a2a2a2a2a2 := ha1aaa2a2a2a2a2a.2 hc
                exact ha1aaa2a2a2a2a2a2
  · have ha2 := ha.2 hc
    subst ha2
    exact ev_end 2 (fun _ => rfl)
set_option maxRecDepth 8000 in
theorem st310_86_188 (N : Nat) (X : Nat → Int) (d : Nat) (x1 x2 x3 : Int) (U : Nat → Nat → Int) (R : Option am_V × am_M) (h : (((x3 = 0 : Prop)) → Ev (am_kz N X) ((d + 1), 310, 285, [some (.inr (.inr 86)), some (.inl x1), some (.inl x2), some (.inl x3), none], [], (am_sh, am_mm U)) R) ∧ (¬ (x3 = 0) → (0 ≤ x1 ∧ x1 < 20) ∧ (((¬ (U 114 x1.toNat) = 0 : Prop)) → Ev (am_kz N X) ((d + 1), 310, 285, [some (.inr (.inr 86)), some (.inl x1), some (.inl x2), some (.inl x3), none], [], (am_sh, am_mm U)) R) ∧ (¬ (¬ (U 114 x1.toNat) = 0) → ∃ (r1 : Int) (U1 : Nat → Nat → Int), Ev (am_kz N X) (d, 197, 0, [some (.inr (.inr 86)), some (.inl 60)], [], (am_sh, am_mm U)) (some (.inl r1), (am_sh, am_mm U1)) ∧ (((¬ r1 = 0 : Prop)) → Ev (am_kz N X) ((d + 1), 310, 228, [some (.inr (.inr 86)), some (.inl x1), some (.inl x2), some (.inl x3), none], [], (am_sh, am_mm U1)) R) ∧ (¬ (¬ r1 = 0) → ∃ (r2 : Int) (U2 : Nat → Nat → Int), Ev (am_kz N X) (d, 197, 0, [some (.inr (.inr 86)), some (.inl 62)], [], (am_sh, am_mm U1)) (some (.inl r2), (am_sh, am_mm U2)) ∧ (((¬ r2 = 0 : Prop)) → Ev (am_kz N X) ((d + 1), 310, 228, [some (.inr (.inr 86)), some (.inl x1), some (.inl x2), some (.inl x3), none], [], (am_sh, am_mm U2)) R) ∧ (¬ (¬ r2 = 0) → ∃ (r3 : Int) (U3 : Nat → Nat → Int), Ev (am_kz N X) (d, 197, 0, [some (.inr (.inr 86)), some (.inl 61)], [], (am_sh, am_mm U2)) (some (.inl r3), (am_sh, am_mm U3)) ∧ (((r3 = 0 : Prop)) → Ev (am_kz N X) ((d + 1), 310, 285, [some (.inr (.inr 86)), some (.inl x1), some (.inl x2), some (.inl x3), none], [], (am_sh, am_mm U3)) R) ∧ (¬ (r3 = 0) → Ev (am_kz N X) ((d + 1), 310, 228, [some (.inr (.inr 86)), some (.inl x1), some (.inl x2), some (.inl x3), none], [], (am_sh, am_mm U3)) R)))))) : Ev (am_kz N X) ((d + 1), 310, 188, [some (.inr (.inr 86)), some (.inl x1), some (.inl x2), some (.inl x3), none], [], (am_sh, am_mm U)) R := by
  refine ev_br (P := x3 = 0) (σ1 := ((d + 1), 310, 285, [some (.inr (.inr 86)), some (.inl x1), some (.inl x2), some (.inl x3), none], [], (am_sh, am_mm U))) (σ2 := ((d + 1), 310, 192, [some (.inr (.inr 86)), some (.inl x1), some (.inl x2), some (.inl x3), none], [], (am_sh, am_mm U))) 2 (fun _ => rfl) (fun hc => ?_) (fun hc => ?_)
  · have h1 := h.1 hc
    exact h1
  · have h2 := h.2 hc
    refine ev_seg (σ1 := ((d + 1), 310, 197, [some (.inr (.inr 86)), some (.inl x1), some (.inl x2), some (.inl x3), none], [.inl x1, .inr (.inr 114)], (am_sh, am_mm U))) 3 (fun _ => rfl) ?_
    refine eu_iald 114 (n := 20) rfl (by decide) rfl (fun _ => rfl) h2.1 ?_
    have h2a := h2.2
    refine ev_br (P := ¬ (U 114 x1.toNat) = 0) (σ1 := ((d + 1), 310, 285, [some (.inr (.inr 86)), some (.inl x1), some (.inl x2), some (.inl x3), none], [], (am_sh, am_mm U))) (σ2 := ((d + 1), 310, 201, [some (.inr (.inr 86)), some (.inl x1), some (.inl x2), some (.inl x3), none], [], (am_sh, am_mm U))) 1 (fun _ => rfl) (fun hc => ?_) (fun hc => ?_)
    · have h2a1 := h2a.1 hc
      exact h2a1
    · have h2a2 := h2a.2 hc
      refine ev_seg (σ1 := ((d + 1), 310, 204, [some (.inr (.inr 86)), some (.inl x1), some (.inl x2), some (.inl x3), none], [.inl 60, .inr (.inr 86)], (am_sh, am_mm U))) 2 (fun _ => rfl) ?_
      obtain ⟨r1, U1, h2a2c, h2a2a⟩ := h2a2
      refine ev_cal (σc := (d, 197, 0, [some (.inr (.inr 86)), some (.inl 60)], [], (am_sh, am_mm U))) (fun _ => rfl) h2a2c ?_
      show Ev (am_kz N X) ((d + 1), 310, 207, [some (.inr (.inr 86)), some (.inl x1), some (.inl x2), some (.inl x3), none], [.inl r1], (am_sh, am_mm U1)) R
      refine ev_br (P := ¬ r1 = 0) (σ1 := ((d + 1), 310, 228, [some (.inr (.inr 86)), some (.inl x1), some (.inl x2), some (.inl x3), none], [], (am_sh, am_mm U1))) (σ2 := ((d + 1), 310, 210, [some (.inr (.inr 86)), some (.inl x1), some (.inl x2), some (.inl x3), none], [], (am_sh, am_mm U1))) 1 (fun _ => rfl) (fun hc => ?_) (fun hc => ?_)
      · have h2a2a1 := h2a2a.1 hc
        exact h2a2a1
      · have h2a2a2 := h2a2a.2 hc
        refine ev_seg (σ1 := ((d + 1), 310, 213, [some (.inr (.inr 86)), some (.inl x1), some (.inl x2), some (.inl x3), none], [.inl 62, .inr (.inr 86)], (am_sh, am_mm U1))) 2 (fun _ => rfl) ?_
        obtain ⟨r2, U2, h2a2a2c, h2a2a2a⟩ := h2a2a2
        refine ev_cal (σc := (d, 197, 0, [some (.inr (.inr 86)), some (.inl 62)], [], (am_sh, am_mm U1))) (fun _ => rfl) h2a2a2c ?_
        show Ev (am_kz N X) ((d + 1), 310, 216, [some (.inr (.inr 86)), some (.inl x1), some (.inl x2), some (.inl x3), none], [.inl r2], (am_sh, am_mm U2)) R
        refine ev_br (P := ¬ r2 = 0) (σ1 := ((d + 1), 310, 228, [some (.inr (.inr 86)), some (.inl x1), some (.inl x2), some (.inl x3), none], [], (am_sh, am_mm U2))) (σ2 := ((d + 1), 310, 219, [some (.inr (.inr 86)), some (.inl x1), some (.inl x2), some (.inl x3), none], [], (am_sh, am_mm U2))) 1 (fun _ => rfl) (fun hc => ?_) (fun hc => ?_)
        · have h2a2a2a1 := h2a2a2a.1 hc
          exact h2a2a2a1
        · have h2a2a2a2 := h2a2a2a.2 hc
          refine ev_seg (σ1 := ((d + 1), 310, 222, [some (.inr (.inr 86)), some (.inl x1), some (.inl x2), some (.inl x3), none], [.inl 61, .inr (.inr 86)], (am_sh, am_mm U2))) 2 (fun _ => rfl) ?_
          obtain ⟨r3, U3, h2a2a2a2c, h2a2a2a2a⟩ := h2a2a2a2
          refine ev_cal (σc := (d, 197, 0, [some (.inr (.inr 86)), some (.inl 61)], [], (am_sh, am_mm U2))) (fun _ => rfl) h2a2a2a2c ?_
          show Ev (am_kz N X) ((d + 1), 310, 225, [some (.inr (.inr 86)), some (.inl x1), some (.inl x2), some (.inl x3), none], [.inl r3], (am_sh, am_mm U3)) R
          refine ev_br (P := r3 = 0) (σ1 := ((d + 1), 310, 285, [some (.inr (.inr 86)), some (.inl x1), some (.inl x2), some (.inl x3), none], [], (am_sh, am_mm U3))) (σ2 := ((d + 1), 310, 228, [some (.inr (.inr 86)), some (.inl x1), some (.inl x2), some (.inl x3), none], [], (am_sh, am_mm U3))) 1 (fun _ => rfl) (fun hc => ?_) (fun hc => ?_)
          · have h2a2a2a2a1 := h2a2a2a2a.1 hc
            exact h2a2a2a2a1
          · have h2a2a2a2a2 := h2a2a2a2a.2 hc
            exact h2a2a2a2a2
set_option maxRecDepth 8000 in
theorem st310_86_87 (N : Nat) (X : Nat → Int) (d : Nat) (x1 x2 x3 : Int) (U : Nat → Nat → Int) (R : Option am_V × am_M) (h : ∃ (r1 : Int) (U1 : Nat → Nat → Int), Ev (am_kz N X) (d, 197, 0, [some (.inr (.inr 86)), some (.inl 43)], [], (am_sh, am_mm U)) (some (.inl r1), (am_sh, am_mm U1)) ∧ (((¬ r1 = 0 : Prop)) → Ev (am_kz N X) ((d + 1), 310, 106, [some (.inr (.inr 86)), some (.inl x1), some (.inl x2), some (.inl x3), none], [.inr (.inr 86)], (am_sh, am_mm U1)) R) ∧ (¬ (¬ r1 = 0) → ∃ (r2 : Int) (U2 : Nat → Nat → Int), Ev (am_kz N X) (d, 197, 0, [some (.inr (.inr 86)), some (.inl 45)], [], (am_sh, am_mm U1)) (some (.inl r2), (am_sh, am_mm U2)) ∧ (((r2 = 0 : Prop)) → Ev (am_kz N X) ((d + 1), 310, 112, [some (.inr (.inr 86)), some (.inl x1), some (.inl x2), some (.inl x3), none], [.inl 6, .inr (.inr 86)], (am_sh, am_mm U2)) R) ∧ (¬ (r2 = 0) → Ev (am_kz N X) ((d + 1), 310, 106, [some (.inr (.inr 86)), some (.inl x1), some (.inl x2), some (.inl x3), none], [.inr (.inr 86)], (am_sh, am_mm U2)) R))) : Ev (am_kz N X) ((d + 1), 310, 87, [some (.inr (.inr 86)), some (.inl x1), some (.inl x2), some (.inl x3), none], [], (am_sh, am_mm U)) R := by
  refine ev_seg (σ1 := ((d + 1), 310, 91, [some (.inr (.inr 86)), some (.inl x1), some (.inl x2), some (.inl x3), none], [.inl 43, .inr (.inr 86), .inr (.inr 86)], (am_sh, am_mm U))) 3 (fun _ => rfl) ?_
  obtain ⟨r1, U1, hc, ha⟩ := h
  refine ev_cal (σc := (d, 197, 0, [some (.inr (.inr 86)), some (.inl 43)], [], (am_sh, am_mm U))) (fun _ => rfl) hc ?_
  show Ev (am_kz N X) ((d + 1), 310, 94, [some (.inr (.inr 86)), some (.inl x1), some (.inl x2), some (.inl x3), none], [.inl r1, .inr (.inr 86)], (am_sh, am_mm U1)) R
  refine ev_br (P := ¬ r1 = 0) (σ1 := ((d + 1), 310, 106, [some (.inr (.inr 86)), some (.inl x1), some (.inl x2), some (.inl x3), none], [.inr (.inr 86)], (am_sh, am_mm U1))) (σ2 := ((d + 1), 310, 97, [some (.inr (.inr 86)), some (.inl x1), some (.inl x2), some (.inl x3), none], [.inr (.inr 86)], (am_sh, am_mm U1))) 1 (fun _ => rfl) (fun hc => ?_) (fun hc => ?_)
  · have ha1 := ha.1 hc
    exact ha1
  · have ha2 := ha.2 hc
    refine ev_seg (σ1 := ((d + 1), 310, 100, [some (.inr (.inr 86)), some (.inl x1), some (.inl x2), some (.inl x3), none], [.inl 45, .inr (.inr 86), .inr (.inr 86)], (am_sh, am_mm U1))) 2 (fun _ => rfl) ?_
    obtain ⟨r2, U2, ha2c, ha2a⟩ := ha2
    refine ev_cal (σc := (d, 197, 0, [some (.inr (.inr 86)), some (.inl 45)], [], (am_sh, am_mm U1))) (fun _ => rfl) ha2c ?_
    show Ev (am_kz N X) ((d + 1), 310, 103, [some (.inr (.inr 86)), some (.inl x1), some (.inl x2), some (.inl x3), none], [.inl r2, .inr (.inr 86)], (am_sh, am_mm U2)) R
    refine ev_br (P := r2 = 0) (σ1 := ((d + 1), 310, 110, [some (.inr (.inr 86)), some (.inl x1), some (.inl x2), some (.inl x3), none], [.inr (.inr 86)], (am_sh, am_mm U2))) (σ2 := ((d + 1), 310, 106, [some (.inr (.inr 86)), some (.inl x1), some (.inl x2), some (.inl x3), none], [.inr (.inr 86)], (am_sh, am_mm U2))) 1 (fun _ => rfl) (fun hc => ?_) (fun hc => ?_)
    · have ha2a1 := ha2a.1 hc
      refine ev_seg (σ1 := ((d + 1), 310, 112, [some (.inr (.inr 86)), some (.inl x1), some (.inl x2), some (.inl x3), none], [.inl 6, .inr (.inr 86)], (am_sh, am_mm U2))) 1 (fun _ => rfl) ?_
      exact ha2a1
    · have ha2a2 := ha2a.2 hc
      exact ha2a2
set_option maxRecDepth 8000 in
theorem st310_86_285 (N : Nat) (X : Nat → Int) (d : Nat) (x1 x2 x3 : Int) (U : Nat → Nat → Int) (R : Option am_V × am_M) (h : (((x3 = 0 : Prop)) → Ev (am_kz N X) ((d + 1), 310, 400, [some (.inr (.inr 86)), some (.inl x1), some (.inl x2), some (.inl x3), none], [], (am_sh, am_mm U)) R) ∧ (¬ (x3 = 0) → ∃ (r1 : Int) (U1 : Nat → Nat → Int), Ev (am_kz N X) (d, 187, 0, [some (.inr (.inr 86)), some (.inr (.inl 6385252)), none], [], (am_sh, am_mm U)) (some (.inl r1), (am_sh, am_mm U1)) ∧ (((¬ r1 = 0 : Prop)) → Ev (am_kz N X) ((d + 1), 310, 309, [some (.inr (.inr 86)), some (.inl x1), some (.inl x2), some (.inl x3), none], [], (am_sh, am_mm U1)) R) ∧ (¬ (¬ r1 = 0) → ∃ (r2 : Int) (U2 : Nat → Nat → Int), Ev (am_kz N X) (d, 187, 0, [some (.inr (.inr 86)), some (.inr (.inl 28530)), none], [], (am_sh, am_mm U1)) (some (.inl r2), (am_sh, am_mm U2)) ∧ (((r2 = 0 : Prop)) → Ev (am_kz N X) ((d + 1), 310, 400, [some (.inr (.inr 86)), some (.inl x1), some (.inl x2), some (.inl x3), none], [], (am_sh, am_mm U2)) R) ∧ (¬ (r2 = 0) → Ev (am_kz N X) ((d + 1), 310, 309, [some (.inr (.inr 86)), some (.inl x1), some (.inl x2), some (.inl x3), none], [], (am_sh, am_mm U2)) R)))) : Ev (am_kz N X) ((d + 1), 310, 285, [some (.inr (.inr 86)), some (.inl x1), some (.inl x2), some (.inl x3), none], [], (am_sh, am_mm U)) R := by
  refine ev_br (P := x3 = 0) (σ1 := ((d + 1), 310, 400, [some (.inr (.inr 86)), some (.inl x1), some (.inl x2), some (.inl x3), none], [], (am_sh, am_mm U))) (σ2 := ((d + 1), 310, 289, [some (.inr (.inr 86)), some (.inl x1), some (.inl x2), some (.inl x3), none], [], (am_sh, am_mm U))) 2 (fun _ => rfl) (fun hc => ?_) (fun hc => ?_)
  · have h1 := h.1 hc
    exact h1
  · have h2 := h.2 hc
    refine ev_seg (σ1 := ((d + 1), 310, 293, [some (.inr (.inr 86)), some (.inl x1), some (.inl x2), some (.inl x3), none], [.inr (.inl 6385252), .inr (.inr 86)], (am_sh, am_mm U))) 2 (fun _ => rfl) ?_
    obtain ⟨r1, U1, h2c, h2a⟩ := h2
    refine ev_cal (σc := (d, 187, 0, [some (.inr (.inr 86)), some (.inr (.inl 6385252)), none], [], (am_sh, am_mm U))) (fun _ => rfl) h2c ?_
    show Ev (am_kz N X) ((d + 1), 310, 296, [some (.inr (.inr 86)), some (.inl x1), some (.inl x2), some (.inl x3), none], [.inl r1], (am_sh, am_mm U1)) R
    refine ev_br (P := ¬ r1 = 0) (σ1 := ((d + 1), 310, 309, [some (.inr (.inr 86)), some (.inl x1), some (.inl x2), some (.inl x3), none], [], (am_sh, am_mm U1))) (σ2 := ((d + 1), 310, 299, [some (.inr (.inr 86)), some (.inl x1), some (.inl x2), some (.inl x3), none], [], (am_sh, am_mm U1))) 1 (fun _ => rfl) (fun hc => ?_) (fun hc => ?_)
    · have h2a1 := h2a.1 hc
      exact h2a1
    · have h2a2 := h2a.2 hc
      refine ev_seg (σ1 := ((d + 1), 310, 303, [some (.inr (.inr 86)), some (.inl x1), some (.inl x2), some (.inl x3), none], [.inr (.inl 28530), .inr (.inr 86)], (am_sh, am_mm U1))) 2 (fun _ => rfl) ?_
      obtain ⟨r2, U2, h2a2c, h2a2a⟩ := h2a2
      refine ev_cal (σc := (d, 187, 0, [some (.inr (.inr 86)), some (.inr (.inl 28530)), none], [], (am_sh, am_mm U1))) (fun _ => rfl) h2a2c ?_
      show Ev (am_kz N X) ((d + 1), 310, 306, [some (.inr (.inr 86)), some (.inl x1), some (.inl x2), some (.inl x3), none], [.inl r2], (am_sh, am_mm U2)) R
      refine ev_br (P := r2 = 0) (σ1 := ((d + 1), 310, 400, [some (.inr (.inr 86)), some (.inl x1), some (.inl x2), some (.inl x3), none], [], (am_sh, am_mm U2))) (σ2 := ((d + 1), 310, 309, [some (.inr (.inr 86)), some (.inl x1), some (.inl x2), some (.inl x3), none], [], (am_sh, am_mm U2))) 1 (fun _ => rfl) (fun hc => ?_) (fun hc => ?_)
      · have h2a2a1 := h2a2a.1 hc
        exact h2a2a1
      · have h2a2a2 := h2a2a.2 hc
        exact h2a2a2
set_option maxRecDepth 8000 in
theorem st310_86_228 (N : Nat) (X : Nat → Int) (d : Nat) (x1 x2 x3 : Int) (U : Nat → Nat → Int) (R : Option am_V × am_M) (h : ∃ U1 : Nat → Nat → Int, Ev (am_kz N X) (d, 329, 0, [some (.inr (.inr 86)), some (.inl 5)], [], (am_sh, am_mm U)) (none, (am_sh, am_mm U1)) ∧ ∃ (r2 : Int) (U2 : Nat → Nat → Int), Ev (am_kz N X) (d, 197, 0, [some (.inr (.inr 86)), some (.inl 60)], [], (am_sh, am_mm U1)) (some (.inl r2), (am_sh, am_mm U2)) ∧ (((r2 = 0 : Prop)) → ∃ (r3 : Int) (U3 : Nat → Nat → Int), Ev (am_kz N X) (d, 197, 0, [some (.inr (.inr 86)), some (.inl 62)], [], (am_sh, am_mm U2)) (some (.inl r3), (am_sh, am_mm U3)) ∧ (((r3 = 0 : Prop)) → Ev (am_kz N X) ((d + 1), 310, 264, [some (.inr (.inr 86)), some (.inl x1), some (.inl x2), some (.inl x3), none], [.inl 19, .inr (.inr 86)], (am_sh, am_mm U3)) R) ∧ (¬ (r3 = 0) → Ev (am_kz N X) ((d + 1), 310, 264, [some (.inr (.inr 86)), some (.inl x1), some (.inl x2), some (.inl x3), none], [.inl 18, .inr (.inr 86)], (am_sh, am_mm U3)) R)) ∧ (¬ (r2 = 0) → Ev (am_kz N X) ((d + 1), 310, 264, [some (.inr (.inr 86)), some (.inl x1), some (.inl x2), some (.inl x3), none], [.inl 17, .inr (.inr 86)], (am_sh, am_mm U2)) R)) : Ev (am_kz N X) ((d + 1), 310, 228, [some (.inr (.inr 86)), some (.inl x1), some (.inl x2), some (.inl x3), none], [], (am_sh, am_mm U)) R := by
  refine ev_seg (σ1 := ((d + 1), 310, 230, [some (.inr (.inr 86)), some (.inl x1), some (.inl x2), some (.inl x3), none], [.inl 5, .inr (.inr 86)], (am_sh, am_mm U))) 2 (fun _ => rfl) ?_
  obtain ⟨U1, hc, ha⟩ := h
  refine ev_cal (σc := (d, 329, 0, [some (.inr (.inr 86)), some (.inl 5)], [], (am_sh, am_mm U))) (fun _ => rfl) hc ?_
  show Ev (am_kz N X) ((d + 1), 310, 233, [some (.inr (.inr 86)), some (.inl x1), some (.inl x2), some (.inl x3), none], [], (am_sh, am_mm U1)) R
  refine ev_seg (σ1 := ((d + 1), 310, 237, [some (.inr (.inr 86)), some (.inl x1), some (.inl x2), some (.inl x3), none], [.inl 60, .inr (.inr 86), .inr (.inr 86)], (am_sh, am_mm U1))) 3 (fun _ => rfl) ?_
  obtain ⟨r2, U2, hac, haa⟩ := ha
  refine ev_cal (σc := (d, 197, 0, [some (.inr (.inr 86)), some (.inl 60)], [], (am_sh, am_mm U1))) (fun _ => rfl) hac ?_
  show Ev (am_kz N X) ((d + 1), 310, 240, [some (.inr (.inr 86)), some (.inl x1), some (.inl x2), some (.inl x3), none], [.inl r2, .inr (.inr 86)], (am_sh, am_mm U2)) R
  refine ev_br (P := r2 = 0) (σ1 := ((d + 1), 310, 248, [some (.inr (.inr 86)), some (.inl x1), some (.inl x2), some (.inl x3), none], [.inr (.inr 86)], (am_sh, am_mm U2))) (σ2 := ((d + 1), 310, 243, [some (.inr (.inr 86)), some (.inl x1), some (.inl x2), some (.inl x3), none], [.inr (.inr 86)], (am_sh, am_mm U2))) 1 (fun _ => rfl) (fun hc => ?_) (fun hc => ?_)
  · have haa1 := haa.1 hc
    refine ev_seg (σ1 := ((d + 1), 310, 251, [some (.inr (.inr 86)), some (.inl x1), some (.inl x2), some (.inl x3), none], [.inl 62, .inr (.inr 86), .inr (.inr 86)], (am_sh, am_mm U2))) 2 (fun _ => rfl) ?_
    obtain ⟨r3, U3, haa1c, haa1a⟩ := haa1
    refine ev_cal (σc := (d, 197, 0, [some (.inr (.inr 86)), some (.inl 62)], [], (am_sh, am_mm U2))) (fun _ => rfl) haa1c ?_
    show Ev (am_kz N X) ((d + 1), 310, 254, [some (.inr (.inr 86)), some (.inl x1), some (.inl x2), some (.inl x3), none], [.inl r3, .inr (.inr 86)], (am_sh, am_mm U3)) R
    refine ev_br (P := r3 = 0) (σ1 := ((d + 1), 310, 262, [some (.inr (.inr 86)), some (.inl x1), some (.inl x2), some (.inl x3), none], [.inr (.inr 86)], (am_sh, am_mm U3))) (σ2 := ((d + 1), 310, 257, [some (.inr (.inr 86)), some (.inl x1), some (.inl x2), some (.inl x3), none], [.inr (.inr 86)], (am_sh, am_mm U3))) 1 (fun _ => rfl) (fun hc => ?_) (fun hc => ?_)
    · have haa1a1 := haa1a.1 hc
      refine ev_seg (σ1 := ((d + 1), 310, 264, [some (.inr (.inr 86)), some (.inl x1), some (.inl x2), some (.inl x3), none], [.inl 19, .inr (.inr 86)], (am_sh, am_mm U3))) 1 (fun _ => rfl) ?_
      exact haa1a1
    · have haa1a2 := haa1a.2 hc
      refine ev_seg (σ1 := ((d + 1), 310, 264, [some (.inr (.inr 86)), some (.inl x1), some (.inl x2), some (.inl x3), none], [.inl 18, .inr (.inr 86)], (am_sh, am_mm U3))) 2 (fun _ => rfl) ?_
      exact haa1a2
  · have haa2 := haa.2 hc
    refine ev_seg (σ1 := ((d + 1), 310, 264, [some (.inr (.inr 86)), some (.inl x1), some (.inl x2), some (.inl x3), none], [.inl 17, .inr (.inr 86)], (am_sh, am_mm U2))) 2 (fun _ => rfl) ?_
    exact haa2
set_option maxRecDepth 8000 in
theorem st310_86_106 (N : Nat) (X : Nat → Int) (d : Nat) (x1 x2 x3 : Int) (U : Nat → Nat → Int) (R : Option am_V × am_M) (h : Ev (am_kz N X) ((d + 1), 310, 112, [some (.inr (.inr 86)), some (.inl x1), some (.inl x2), some (.inl x3), none], [.inl 5, .inr (.inr 86)], (am_sh, am_mm U)) R) : Ev (am_kz N X) ((d + 1), 310, 106, [some (.inr (.inr 86)), some (.inl x1), some (.inl x2), some (.inl x3), none], [.inr (.inr 86)], (am_sh, am_mm U)) R := by
  refine ev_seg (σ1 := ((d + 1), 310, 112, [some (.inr (.inr 86)), some (.inl x1), some (.inl x2), some (.inl x3), none], [.inl 5, .inr (.inr 86)], (am_sh, am_mm U))) 2 (fun _ => rfl) ?_
  exact h
set_option maxRecDepth 8000 in
theorem st310_86_112 (N : Nat) (X : Nat → Int) (d : Nat) (x1 x2 x3 s1 : Int) (U : Nat → Nat → Int) (R : Option am_V × am_M) (h : ∃ U1 : Nat → Nat → Int, Ev (am_kz N X) (d, 329, 0, [some (.inr (.inr 86)), some (.inl s1)], [], (am_sh, am_mm U)) (none, (am_sh, am_mm U1)) ∧ ∃ (r2 : Int) (U2 : Nat → Nat → Int), Ev (am_kz N X) (d, 197, 0, [some (.inr (.inr 86)), some (.inl 43)], [], (am_sh, am_mm U1)) (some (.inl r2), (am_sh, am_mm U2)) ∧ (((r2 = 0 : Prop)) → ∃ (r3 : Int) (U3 : Nat → Nat → Int), Ev (am_kz N X) (d, 197, 0, [some (.inr (.inr 86)), some (.inl 45)], [], (am_sh, am_mm U2)) (some (.inl r3), (am_sh, am_mm U3)) ∧ (((r3 = 0 : Prop)) → ∃ (r4 : Int) (U4 : Nat → Nat → Int), Ev (am_kz N X) (d, 197, 0, [some (.inr (.inr 86)), some (.inl 42)], [], (am_sh, am_mm U3)) (some (.inl r4), (am_sh, am_mm U4)) ∧ (((r4 = 0 : Prop)) → ∃ (r5 : Int) (U5 : Nat → Nat → Int), Ev (am_kz N X) (d, 197, 0, [some (.inr (.inr 86)), some (.inl 47)], [], (am_sh, am_mm U4)) (some (.inl r5), (am_sh, am_mm U5)) ∧ (((r5 = 0 : Prop)) → Ev (am_kz N X) ((d + 1), 310, 174, [some (.inr (.inr 86)), some (.inl x1), some (.inl x2), some (.inl x3), none], [.inl 14, .inr (.inr 86)], (am_sh, am_mm U5)) R) ∧ (¬ (r5 = 0) → Ev (am_kz N X) ((d + 1), 310, 174, [some (.inr (.inr 86)), some (.inl x1), some (.inl x2), some (.inl x3), none], [.inl 13, .inr (.inr 86)], (am_sh, am_mm U5)) R)) ∧ (¬ (r4 = 0) → Ev (am_kz N X) ((d + 1), 310, 174, [some (.inr (.inr 86)), some (.inl x1), some (.inl x2), some (.inl x3), none], [.inl 12, .inr (.inr 86)], (am_sh, am_mm U4)) R)) ∧ (¬ (r3 = 0) → Ev (am_kz N X) ((d + 1), 310, 174, [some (.inr (.inr 86)), some (.inl x1), some (.inl x2), some (.inl x3), none], [.inl 11, .inr (.inr 86)], (am_sh, am_mm U3)) R)) ∧ (¬ (r2 = 0) → Ev (am_kz N X) ((d + 1), 310, 174, [some (.inr (.inr 86)), some (.inl x1), some (.inl x2), some (.inl x3), none], [.inl 10, .inr (.inr 86)], (am_sh, am_mm U2)) R)) : Ev (am_kz N X) ((d + 1), 310, 112, [some (.inr (.inr 86)), some (.inl x1), some (.inl x2), some (.inl x3), none], [.inl s1, .inr (.inr 86)], (am_sh, am_mm U)) R := by
  obtain ⟨U1, hc, ha⟩ := h
  refine ev_cal (σc := (d, 329, 0, [some (.inr (.inr 86)), some (.inl s1)], [], (am_sh, am_mm U))) (fun _ => rfl) hc ?_
  show Ev (am_kz N X) ((d + 1), 310, 115, [some (.inr (.inr 86)), some (.inl x1), some (.inl x2), some (.inl x3), none], [], (am_sh, am_mm U1)) R
  refine ev_seg (σ1 := ((d + 1), 310, 119, [some (.inr (.inr 86)), some (.inl x1), some (.inl x2), some (.inl x3), none], [.inl 43, .inr (.inr 86), .inr (.inr 86)], (am_sh, am_mm U1))) 3 (fun _ => rfl) ?_
  obtain ⟨r2, U2, hac, haa⟩ := ha
  refine ev_cal (σc := (d, 197, 0, [some (.inr (.inr 86)), some (.inl 43)], [], (am_sh, am_mm U1))) (fun _ => rfl) hac ?_
  show Ev (am_kz N X) ((d + 1), 310, 122, [some (.inr (.inr 86)), some (.inl x1), some (.inl x2), some (.inl x3), none], [.inl r2, .inr (.inr 86)], (am_sh, am_mm U2)) R
  refine ev_br (P := r2 = 0) (σ1 := ((d + 1), 310, 130, [some (.inr (.inr 86)), some (.inl x1), some (.inl x2), some (.inl x3), none], [.inr (.inr 86)], (am_sh, am_mm U2))) (σ2 := ((d + 1), 310, 125, [some (.inr (.inr 86)), some (.inl x1), some (.inl x2), some (.inl x3), none], [.inr (.inr 86)], (am_sh, am_mm U2))) 1 (fun _ => rfl) (fun hc => ?_) (fun hc => ?_)
  · have haa1 := haa.1 hc
    refine ev_seg (σ1 := ((d + 1), 310, 133, [some (.inr (.inr 86)), some (.inl x1), some (.inl x2), some (.inl x3), none], [.inl 45, .inr (.inr 86), .inr (.inr 86)], (am_sh, am_mm U2))) 2 (fun _ => rfl) ?_
    obtain ⟨r3, U3, haa1c, haa1a⟩ := haa1
    refine ev_cal (σc := (d, 197, 0, [some (.inr (.inr 86)), some (.inl 45)], [], (am_sh, am_mm U2))) (fun _ => rfl) haa1c ?_
    show Ev (am_kz N X) ((d + 1), 310, 136, [some (.inr (.inr 86)), some (.inl x1), some (.inl x2), some (.inl x3), none], [.inl r3, .inr (.inr 86)], (am_sh, am_mm U3)) R
    refine ev_br (P := r3 = 0) (σ1 := ((d + 1), 310, 144, [some (.inr (.inr 86)), some (.inl x1), some (.inl x2), some (.inl x3), none], [.inr (.inr 86)], (am_sh, am_mm U3))) (σ2 := ((d + 1), 310, 139, [some (.inr (.inr 86)), some (.inl x1), some (.inl x2), some (.inl x3), none], [.inr (.inr 86)], (am_sh, am_mm U3))) 1 (fun _ => rfl) (fun hc => ?_) (fun hc => ?_)
    · have haa1a1 := haa1a.1 hc
      refine ev_seg (σ1 := ((d + 1), 310, 147, [some (.inr (.inr 86)), some (.inl x1), some (.inl x2), some (.inl x3), none], [.inl 42, .inr (.inr 86), .inr (.inr 86)], (am_sh, am_mm U3))) 2 (fun _ => rfl) ?_
      obtain ⟨r4, U4, haa1a1c, haa1a1a⟩ := haa1a1
      refine ev_cal (σc := (d, 197, 0, [some (.inr (.inr 86)), some (.inl 42)], [], (am_sh, am_mm U3))) (fun _ => rfl) haa1a1c ?_
      show Ev (am_kz N X) ((d + 1), 310, 150, [some (.inr (.inr 86)), some (.inl x1), some (.inl x2), some (.inl x3), none], [.inl r4, .inr (.inr 86)], (am_sh, am_mm U4)) R
      refine ev_br (P := r4 = 0) (σ1 := ((d + 1), 310, 158, [some (.inr (.inr 86)), some (.inl x1), some (.inl x2), some (.inl x3), none], [.inr (.inr 86)], (am_sh, am_mm U4))) (σ2 := ((d + 1), 310, 153, [some (.inr (.inr 86)), some (.inl x1), some (.inl x2), some (.inl x3), none], [.inr (.inr 86)], (am_sh, am_mm U4))) 1 (fun _ => rfl) (fun hc => ?_) (fun hc => ?_)
      · have haa1a1a1 := haa1a1a.1 hc
        refine ev_seg (σ1 := ((d + 1), 310, 161, [some (.inr (.inr 86)), some (.inl x1), some (.inl x2), some (.inl x3), none], [.inl 47, .inr (.inr 86), .inr (.inr 86)], (am_sh, am_mm U4))) 2 (fun _ => rfl) ?_
        obtain ⟨r5, U5, haa1a1a1c, haa1a1a1a⟩ := haa1a1a1
        refine ev_cal (σc := (d, 197, 0, [some (.inr (.inr 86)), some (.inl 47)], [], (am_sh, am_mm U4))) (fun _ => rfl) haa1a1a1c ?_
        show Ev (am_kz N X) ((d + 1), 310, 164, [some (.inr (.inr 86)), some (.inl x1), some (.inl x2), some (.inl x3), none], [.inl r5, .inr (.inr 86)], (am_sh, am_mm U5)) R
        refine ev_br (P := r5 = 0) (σ1 := ((d + 1), 310, 172, [some (.inr (.inr 86)), some (.inl x1), some (.inl x2), some (.inl x3), none], [.inr (.inr 86)], (am_sh, am_mm U5))) (σ2 := ((d + 1), 310, 167, [some (.inr (.inr 86)), some (.inl x1), some (.inl x2), some (.inl x3), none], [.inr (.inr 86)], (am_sh, am_mm U5))) 1 (fun _ => rfl) (fun hc => ?_) (fun hc => ?_)
        · have haa1a1a1a1 := haa1a1a1a.1 hc
          refine ev_seg (σ1 := ((d + 1), 310, 174, [some (.inr (.inr 86)), some (.inl x1), some (.inl x2), some (.inl x3), none], [.inl 14, .inr (.inr 86)], (am_sh, am_mm U5))) 1 (fun _ => rfl) ?_
          exact haa1a1a1a1
        · have haa1a1a1a2 := haa1a1a1a.2 hc
          refine ev_seg (σ1 := ((d + 1), 310, 174, [some (.inr (.inr 86)), some (.inl x1), some (.inl x2), some (.inl x3), none], [.inl 13, .inr (.inr 86)], (am_sh, am_mm U5))) 2 (fun _ => rfl) ?_
          exact haa1a1a1a2
      · have haa1a1a2 := haa1a1a.2 hc
        refine ev_seg (σ1 := ((d + 1), 310, 174, [some (.inr (.inr 86)), some (.inl x1), some (.inl x2), some (.inl x3), none], [.inl 12, .inr (.inr 86)], (am_sh, am_mm U4))) 2 (fun _ => rfl) ?_
        exact haa1a1a2
    · have haa1a2 := haa1a.2 hc
      refine ev_seg (σ1 := ((d + 1), 310, 174, [some (.inr (.inr 86)), some (.inl x1), some (.inl x2), some (.inl x3), none], [.inl 11, .inr (.inr 86)], (am_sh, am_mm U3))) 2 (fun _ => rfl) ?_
      exact haa1a2
  · have haa2 := haa.2 hc
    refine ev_seg (σ1 := ((d + 1), 310, 174, [some (.inr (.inr 86)), some (.inl x1), some (.inl x2), some (.inl x3), none], [.inl 10, .inr (.inr 86)], (am_sh, am_mm U2))) 2 (fun _ => rfl) ?_
    exact haa2
set_option maxRecDepth 8000 in
theorem st310_86_400 (N : Nat) (X : Nat → Int) (d : Nat) (x1 x2 x3 : Int) (U : Nat → Nat → Int) (R : Option am_V × am_M) (h : (((x3 = 0 : Prop)) → Ev (am_kz N X) ((d + 1), 310, 422, [some (.inr (.inr 86)), some (.inl x1), some (.inl x2), some (.inl x3), none], [], (am_sh, am_mm U)) R) ∧ (¬ (x3 = 0) → (0 ≤ x1 ∧ x1 < 20) ∧ (((¬ (U 114 x1.toNat) = 0 : Prop)) → Ev (am_kz N X) ((d + 1), 310, 422, [some (.inr (.inr 86)), some (.inl x1), some (.inl x2), some (.inl x3), none], [], (am_sh, am_mm U)) R) ∧ (¬ (¬ (U 114 x1.toNat) = 0) → ∃ U1 : Nat → Nat → Int, Ev (am_kz N X) (d, 196, 0, [some (.inr (.inr 86)), some (.inl 1), some (.inl (U 86 4))], [], (am_sh, am_mm U)) (none, (am_sh, am_mm U1)) ∧ Ev (am_kz N X) ((d + 1), 310, 422, [some (.inr (.inr 86)), some (.inl x1), some (.inl x2), some (.inl x3), none], [], (am_sh, am_mm U1)) R))) : Ev (am_kz N X) ((d + 1), 310, 400, [some (.inr (.inr 86)), some (.inl x1), some (.inl x2), some (.inl x3), none], [], (am_sh, am_mm U)) R := by
  refine ev_br (P := x3 = 0) (σ1 := ((d + 1), 310, 422, [some (.inr (.inr 86)), some (.inl x1), some (.inl x2), some (.inl x3), none], [], (am_sh, am_mm U))) (σ2 := ((d + 1), 310, 404, [some (.inr (.inr 86)), some (.inl x1), some (.inl x2), some (.inl x3), none], [], (am_sh, am_mm U))) 2 (fun _ => rfl) (fun hc => ?_) (fun hc => ?_)
  · have h1 := h.1 hc
    exact h1
  · have h2 := h.2 hc
    refine ev_seg (σ1 := ((d + 1), 310, 409, [some (.inr (.inr 86)), some (.inl x1), some (.inl x2), some (.inl x3), none], [.inl x1, .inr (.inr 114)], (am_sh, am_mm U))) 3 (fun _ => rfl) ?_
    refine eu_iald 114 (n := 20) rfl (by decide) rfl (fun _ => rfl) h2.1 ?_
    have h2a := h2.2
    refine ev_br (P := ¬ (U 114 x1.toNat) = 0) (σ1 := ((d + 1), 310, 422, [some (.inr (.inr 86)), some (.inl x1), some (.inl x2), some (.inl x3), none], [], (am_sh, am_mm U))) (σ2 := ((d + 1), 310, 413, [some (.inr (.inr 86)), some (.inl x1), some (.inl x2), some (.inl x3), none], [], (am_sh, am_mm U))) 1 (fun _ => rfl) (fun hc => ?_) (fun hc => ?_)
    · have h2a1 := h2a.1 hc
      exact h2a1
    · have h2a2 := h2a.2 hc
      refine ev_seg (σ1 := ((d + 1), 310, 419, [some (.inr (.inr 86)), some (.inl x1), some (.inl x2), some (.inl x3), none], [.inl (U 86 4), .inl 1, .inr (.inr 86)], (am_sh, am_mm U))) 4 (fun _ => rfl) ?_
      obtain ⟨U1, h2a2c, h2a2a⟩ := h2a2
      refine ev_cal (σc := (d, 196, 0, [some (.inr (.inr 86)), some (.inl 1), some (.inl (U 86 4))], [], (am_sh, am_mm U))) (fun _ => rfl) h2a2c ?_
      show Ev (am_kz N X) ((d + 1), 310, 422, [some (.inr (.inr 86)), some (.inl x1), some (.inl x2), some (.inl x3), none], [], (am_sh, am_mm U1)) R
      exact h2a2a
set_option maxRecDepth 8000 in
theorem st310_86_309 (N : Nat) (X : Nat → Int) (d : Nat) (x1 x2 x3 : Int) (U : Nat → Nat → Int) (R : Option am_V × am_M) (h : (0 ≤ x1 ∧ x1 < 20) ∧ (((¬ (U 114 x1.toNat) = 0 : Prop)) → Ev (am_kz N X) ((d + 1), 310, 327, [some (.inr (.inr 86)), some (.inl x1), some (.inl x2), some (.inl x3), none], [], (am_sh, am_mm U)) R) ∧ (¬ (¬ (U 114 x1.toNat) = 0) → ∃ U1 : Nat → Nat → Int, Ev (am_kz N X) (d, 196, 0, [some (.inr (.inr 86)), some (.inl 1), some (.inl (U 86 4))], [], (am_sh, am_mm U)) (none, (am_sh, am_mm U1)) ∧ Ev (am_kz N X) ((d + 1), 310, 327, [some (.inr (.inr 86)), some (.inl x1), some (.inl x2), some (.inl x3), none], [], (am_sh, am_mm U1)) R)) : Ev (am_kz N X) ((d + 1), 310, 309, [some (.inr (.inr 86)), some (.inl x1), some (.inl x2), some (.inl x3), none], [], (am_sh, am_mm U)) R := by
  refine ev_seg (σ1 := ((d + 1), 310, 314, [some (.inr (.inr 86)), some (.inl x1), some (.inl x2), some (.inl x3), none], [.inl x1, .inr (.inr 114)], (am_sh, am_mm U))) 3 (fun _ => rfl) ?_
  refine eu_iald 114 (n := 20) rfl (by decide) rfl (fun _ => rfl) h.1 ?_
  have ha := h.2
  refine ev_br (P := ¬ (U 114 x1.toNat) = 0) (σ1 := ((d + 1), 310, 327, [some (.inr (.inr 86)), some (.inl x1), some (.inl x2), some (.inl x3), none], [], (am_sh, am_mm U))) (σ2 := ((d + 1), 310, 318, [some (.inr (.inr 86)), some (.inl x1), some (.inl x2), some (.inl x3), none], [], (am_sh, am_mm U))) 1 (fun _ => rfl) (fun hc => ?_) (fun hc => ?_)
  · have ha1 := ha.1 hc
    exact ha1
  · have ha2 := ha.2 hc
    refine ev_seg (σ1 := ((d + 1), 310, 324, [some (.inr (.inr 86)), some (.inl x1), some (.inl x2), some (.inl x3), none], [.inl (U 86 4), .inl 1, .inr (.inr 86)], (am_sh, am_mm U))) 4 (fun _ => rfl) ?_
    obtain ⟨U1, ha2c, ha2a⟩ := ha2
    refine ev_cal (σc := (d, 196, 0, [some (.inr (.inr 86)), some (.inl 1), some (.inl (U 86 4))], [], (am_sh, am_mm U))) (fun _ => rfl) ha2c ?_
    show Ev (am_kz N X) ((d + 1), 310, 327, [some (.inr (.inr 86)), some (.inl x1), some (.inl x2), some (.inl x3), none], [], (am_sh, am_mm U1)) R
    exact ha2a
set_option maxRecDepth 8000 in
theorem st310_86_264 (N : Nat) (X : Nat → Int) (d : Nat) (x1 x2 x3 s1 : Int) (U : Nat → Nat → Int) (R : Option am_V × am_M) (h : ∃ U1 : Nat → Nat → Int, Ev (am_kz N X) (d, 326, 0, [some (.inr (.inr 86)), some (.inl s1)], [], (am_sh, am_mm U)) (none, (am_sh, am_mm U1)) ∧ (0 ≤ x1 ∧ x1 < 20) ∧ ∃ U2 : Nat → Nat → Int, Ev (am_kz N X) (d, 93, 0, [some (.inr (.inr 86)), none, none, none, none, none], [], (am_sh, am_mm (am_upd U1 114 x1.toNat 1))) (none, (am_sh, am_mm U2)) ∧ R = (some (.inl 1), (am_sh, am_mm (am_upd U2 86 50 0)))) : Ev (am_kz N X) ((d + 1), 310, 264, [some (.inr (.inr 86)), some (.inl x1), some (.inl x2), some (.inl x3), none], [.inl s1, .inr (.inr 86)], (am_sh, am_mm U)) R := by
  obtain ⟨U1, hc, ha⟩ := h
  refine ev_cal (σc := (d, 326, 0, [some (.inr (.inr 86)), some (.inl s1)], [], (am_sh, am_mm U))) (fun _ => rfl) hc ?_
  show Ev (am_kz N X) ((d + 1), 310, 267, [some (.inr (.inr 86)), some (.inl x1), some (.inl x2), some (.inl x3), none], [], (am_sh, am_mm U1)) R
  refine ev_seg (σ1 := ((d + 1), 310, 273, [some (.inr (.inr 86)), some (.inl x1), some (.inl x2), some (.inl x3), none], [.inl 1, .inl x1, .inr (.inr 114)], (am_sh, am_mm U1))) 4 (fun _ => rfl) ?_
  refine eu_iast 114 (n := 20) rfl (by decide) rfl (fun _ => rfl) ha.1 ?_
  have haa := ha.2
  refine ev_seg (σ1 := ((d + 1), 310, 275, [some (.inr (.inr 86)), some (.inl x1), some (.inl x2), some (.inl x3), none], [.inr (.inr 86)], (am_sh, am_mm (am_upd U1 114 x1.toNat 1)))) 1 (fun _ => rfl) ?_
  obtain ⟨U2, haac, haaa⟩ := haa
  refine ev_cal (σc := (d, 93, 0, [some (.inr (.inr 86)), none, none, none, none, none], [], (am_sh, am_mm (am_upd U1 114 x1.toNat 1)))) (fun _ => rfl) haac ?_
  show Ev (am_kz N X) ((d + 1), 310, 278, [some (.inr (.inr 86)), some (.inl x1), some (.inl x2), some (.inl x3), none], [], (am_sh, am_mm U2)) R
  refine ev_seg (σ1 := ((d + 1), 310, 280, [some (.inr (.inr 86)), some (.inl x1), some (.inl x2), some (.inl x3), none], [.inl 0, .inr (.inr 86)], (am_sh, am_mm U2))) 2 (fun _ => rfl) ?_
  refine eu_putz 86 (n := 90) rfl (by decide) rfl rfl (by decide) ?_
  subst haaa
  exact ev_end 2 (fun _ => rfl)
set_option maxRecDepth 8000 in
theorem st310_86_174 (N : Nat) (X : Nat → Int) (d : Nat) (x1 x2 x3 s1 : Int) (U : Nat → Nat → Int) (R : Option am_V × am_M) (h : ∃ U1 : Nat → Nat → Int, Ev (am_kz N X) (d, 326, 0, [some (.inr (.inr 86)), some (.inl s1)], [], (am_sh, am_mm U)) (none, (am_sh, am_mm U1)) ∧ ∃ U2 : Nat → Nat → Int, Ev (am_kz N X) (d, 93, 0, [some (.inr (.inr 86)), none, none, none, none, none], [], (am_sh, am_mm U1)) (none, (am_sh, am_mm U2)) ∧ R = (some (.inl 1), (am_sh, am_mm (am_upd U2 86 50 0)))) : Ev (am_kz N X) ((d + 1), 310, 174, [some (.inr (.inr 86)), some (.inl x1), some (.inl x2), some (.inl x3), none], [.inl s1, .inr (.inr 86)], (am_sh, am_mm U)) R := by
  obtain ⟨U1, hc, ha⟩ := h
  refine ev_cal (σc := (d, 326, 0, [some (.inr (.inr 86)), some (.inl s1)], [], (am_sh, am_mm U))) (fun _ => rfl) hc ?_
  show Ev (am_kz N X) ((d + 1), 310, 177, [some (.inr (.inr 86)), some (.inl x1), some (.inl x2), some (.inl x3), none], [], (am_sh, am_mm U1)) R
  refine ev_seg (σ1 := ((d + 1), 310, 178, [some (.inr (.inr 86)), some (.inl x1), some (.inl x2), some (.inl x3), none], [.inr (.inr 86)], (am_sh, am_mm U1))) 1 (fun _ => rfl) ?_
  obtain ⟨U2, hac, haa⟩ := ha
  refine ev_cal (σc := (d, 93, 0, [some (.inr (.inr 86)), none, none, none, none, none], [], (am_sh, am_mm U1))) (fun _ => rfl) hac ?_
  show Ev (am_kz N X) ((d + 1), 310, 181, [some (.inr (.inr 86)), some (.inl x1), some (.inl x2), some (.inl x3), none], [], (am_sh, am_mm U2)) R
  refine ev_seg (σ1 := ((d + 1), 310, 183, [some (.inr (.inr 86)), some (.inl x1), some (.inl x2), some (.inl x3), none], [.inl 0, .inr (.inr 86)], (am_sh, am_mm U2))) 2 (fun _ => rfl) ?_
  refine eu_putz 86 (n := 90) rfl (by decide) rfl rfl (by decide) ?_
  subst haa
  exact ev_end 2 (fun _ => rfl)
set_option maxRecDepth 8000 in
theorem st310_86_422 (N : Nat) (X : Nat → Int) (d : Nat) (x1 x2 x3 : Int) (U : Nat → Nat → Int) (R : Option am_V × am_M) (h : (((2 ≤ x2 : Prop)) → (((¬ x2 = 3 : Prop)) → (((¬ x2 = 5 : Prop)) → ∃ (r1 : Int) (U1 : Nat → Nat → Int), Ev (am_kz N X) (d, 197, 0, [some (.inr (.inr 86)), some (.inl 41)], [], (am_sh, am_mm U)) (some (.inl r1), (am_sh, am_mm U1)) ∧ (((¬ r1 = 0 : Prop)) → ((((U1 86 8) ≤ 0 : Prop)) → ∃ U2 : Nat → Nat → Int, Ev (am_kz N X) (d, 329, 0, [some (.inr (.inr 86)), some (.inl 1)], [], (am_sh, am_mm U1)) (none, (am_sh, am_mm U2)) ∧ (((¬ x2 = 4 : Prop)) → (((¬ x2 = 5 : Prop)) → ∃ U3 : Nat → Nat → Int, Ev (am_kz N X) (d, 93, 0, [some (.inr (.inr 86)), none, none, none, none, none], [], (am_sh, am_mm (am_upd (am_upd U2 86 46 (w32 ((U2 86 46) - 1))) 86 47 (w32 (((am_upd U2 86 46 (w32 ((U2 86 46) - 1))) 86 47) - 1))))) (none, (am_sh, am_mm U3)) ∧ R = (some (.inl 1), (am_sh, am_mm U3))) ∧ (¬ (¬ x2 = 5) → (0 ≤ (w32 (((am_upd (am_upd U2 86 46 (w32 ((U2 86 46) - 1))) 86 47 (w32 (((am_upd U2 86 46 (w32 ((U2 86 46) - 1))) 86 47) - 1))) 86 46) - 1)) ∧ (w32 (((am_upd (am_upd U2 86 46 (w32 ((U2 86 46) - 1))) 86 47 (w32 (((am_upd U2 86 46 (w32 ((U2 86 46) - 1))) 86 47) - 1))) 86 46) - 1)) < 20) ∧ ∃ U4 : Nat → Nat → Int, Ev (am_kz N X) (d, 93, 0, [some (.inr (.inr 86)), none, none, none, none, none], [], (am_sh, am_mm (am_upd (am_upd (am_upd U2 86 46 (w32 ((U2 86 46) - 1))) 86 47 (w32 (((am_upd U2 86 46 (w32 ((U2 86 46) - 1))) 86 47) - 1))) 114 (w32 (((am_upd (am_upd U2 86 46 (w32 ((U2 86 46) - 1))) 86 47 (w32 (((am_upd U2 86 46 (w32 ((U2 86 46) - 1))) 86 47) - 1))) 86 46) - 1)).toNat 2))) (none, (am_sh, am_mm U4)) ∧ R = (some (.inl 1), (am_sh, am_mm U4)))) ∧ (¬ (¬ x2 = 4) → (0 ≤ x1 ∧ x1 < 20) ∧ ∃ U5 : Nat → Nat → Int, Ev (am_kz N X) (d, 328, 0, [some (.inr (.inr 86)), some (.inl ((am_upd (am_upd U2 86 46 (w32 ((U2 86 46) - 1))) 86 47 (w32 (((am_upd U2 86 46 (w32 ((U2 86 46) - 1))) 86 47) - 1))) 116 x1.toNat)), some (.inl 0)], [], (am_sh, am_mm (am_upd (am_upd U2 86 46 (w32 ((U2 86 46) - 1))) 86 47 (w32 (((am_upd U2 86 46 (w32 ((U2 86 46) - 1))) 86 47) - 1))))) (none, (am_sh, am_mm U5)) ∧ (((¬ x2 = 5 : Prop)) → ∃ U6 : Nat → Nat → Int, Ev (am_kz N X) (d, 93, 0, [some (.inr (.inr 86)), none, none, none, none, none], [], (am_sh, am_mm U5)) (none, (am_sh, am_mm U6)) ∧ R = (some (.inl 1), (am_sh, am_mm U6))) ∧ (¬ (¬ x2 = 5) → (0 ≤ (w32 ((U5 86 46) - 1)) ∧ (w32 ((U5 86 46) - 1)) < 20) ∧ ∃ U7 : Nat → Nat → Int, Ev (am_kz N X) (d, 93, 0, [some (.inr (.inr 86)), none, none, none, none, none], [], (am_sh, am_mm (am_upd U5 114 (w32 ((U5 86 46) - 1)).toNat 2))) (none, (am_sh, am_mm U7)) ∧ R = (some (.inl 1), (am_sh, am_mm U7))))) ∧ (¬ ((U1 86 8) ≤ 0) → R = (some (.inl 0), (am_sh, am_mm U1)))) ∧ (¬ (¬ r1 = 0) → ∃ U8 : Nat → Nat → Int, Ev (am_kz N X) (d, 196, 0, [some (.inr (.inr 86)), some (.inl 1), some (.inl (U1 86 4))], [], (am_sh, am_mm U1)) (none, (am_sh, am_mm U8)) ∧ ((((U8 86 8) ≤ 0 : Prop)) → ∃ U9 : Nat → Nat → Int, Ev (am_kz N X) (d, 329, 0, [some (.inr (.inr 86)), some (.inl 1)], [], (am_sh, am_mm U8)) (none, (am_sh, am_mm U9)) ∧ (((¬ x2 = 4 : Prop)) → (((¬ x2 = 5 : Prop)) → ∃ U10 : Nat → Nat → Int, Ev (am_kz N X) (d, 93, 0, [some (.inr (.inr 86)), none, none, none, none, none], [], (am_sh, am_mm (am_upd (am_upd U9 86 46 (w32 ((U9 86 46) - 1))) 86 47 (w32 (((am_upd U9 86 46 (w32 ((U9 86 46) - 1))) 86 47) - 1))))) (none, (am_sh, am_mm U10)) ∧ R = (some (.inl 1), (am_sh, am_mm U10))) ∧ (¬ (¬ x2 = 5) → (0 ≤ (w32 (((am_upd (am_upd U9 86 46 (w32 ((U9 86 46) - 1))) 86 47 (w32 (((am_upd U9 86 46 (w32 ((U9 86 46) - 1))) 86 47) - 1))) 86 46) - 1)) ∧ (w32 (((am_upd (am_upd U9 86 46 (w32 ((U9 86 46) - 1))) 86 47 (w32 (((am_upd U9 86 46 (w32 ((U9 86 46) - 1))) 86 47) - 1))) 86 46) - 1)) < 20) ∧ ∃ U11 : Nat → Nat → Int, Ev (am_kz N X) (d, 93, 0, [some (.inr (.inr 86)), none, none, none, none, none], [], (am_sh, am_mm (am_upd (am_upd (am_upd U9 86 46 (w32 ((U9 86 46) - 1))) 86 47 (w32 (((am_upd U9 86 46 (w32 ((U9 86 46) - 1))) 86 47) - 1))) 114 (w32 (((am_upd (am_upd U9 86 46 (w32 ((U9 86 46) - 1))) 86 47 (w32 (((am_upd U9 86 46 (w32 ((U9 86 46) - 1))) 86 47) - 1))) 86 46) - 1)).toNat 2))) (none, (am_sh, am_mm U11)) ∧ R = (some (.inl 1), (am_sh, am_mm U11)))) ∧ (¬ (¬ x2 = 4) → (0 ≤ x1 ∧ x1 < 20) ∧ ∃ U12 : Nat → Nat → Int, Ev (am_kz N X) (d, 328, 0, [some (.inr (.inr 86)), some (.inl ((am_upd (am_upd U9 86 46 (w32 ((U9 86 46) - 1))) 86 47 (w32 (((am_upd U9 86 46 (w32 ((U9 86 46) - 1))) 86 47) - 1))) 116 x1.toNat)), some (.inl 0)], [], (am_sh, am_mm (am_upd (am_upd U9 86 46 (w32 ((U9 86 46) - 1))) 86 47 (w32 (((am_upd U9 86 46 (w32 ((U9 86 46) - 1))) 86 47) - 1))))) (none, (am_sh, am_mm U12)) ∧ (((¬ x2 = 5 : Prop)) → ∃ U13 : Nat → Nat → Int, Ev (am_kz N X) (d, 93, 0, [some (.inr (.inr 86)), none, none, none, none, none], [], (am_sh, am_mm U12)) (none, (am_sh, am_mm U13)) ∧ R = (some (.inl 1), (am_sh, am_mm U13))) ∧ (¬ (¬ x2 = 5) → (0 ≤ (w32 ((U12 86 46) - 1)) ∧ (w32 ((U12 86 46) - 1)) < 20) ∧ ∃ U14 : Nat → Nat → Int, Ev (am_kz N X) (d, 93, 0, [some (.inr (.inr 86)), none, none, none, none, none], [], (am_sh, am_mm (am_upd U12 114 (w32 ((U12 86 46) - 1)).toNat 2))) (none, (am_sh, am_mm U14)) ∧ R = (some (.inl 1), (am_sh, am_mm U14))))) ∧ (¬ ((U8 86 8) ≤ 0) → R = (some (.inl 0), (am_sh, am_mm U8))))) ∧ (¬ (¬ x2 = 5) → ∃ (r15 : Int) (U15 : Nat → Nat → Int), Ev (am_kz N X) (d, 197, 0, [some (.inr (.inr 86)), some (.inl 93)], [], (am_sh, am_mm U)) (some (.inl r15), (am_sh, am_mm U15)) ∧ (((¬ r15 = 0 : Prop)) → ((((U15 86 8) ≤ 0 : Prop)) → ∃ U16 : Nat → Nat → Int, Ev (am_kz N X) (d, 329, 0, [some (.inr (.inr 86)), some (.inl 1)], [], (am_sh, am_mm U15)) (none, (am_sh, am_mm U16)) ∧ (((¬ x2 = 4 : Prop)) → (((¬ x2 = 5 : Prop)) → ∃ U17 : Nat → Nat → Int, Ev (am_kz N X) (d, 93, 0, [some (.inr (.inr 86)), none, none, none, none, none], [], (am_sh, am_mm (am_upd (am_upd U16 86 46 (w32 ((U16 86 46) - 1))) 86 47 (w32 (((am_upd U16 86 46 (w32 ((U16 86 46) - 1))) 86 47) - 1))))) (none, (am_sh, am_mm U17)) ∧ R = (some (.inl 1), (am_sh, am_mm U17))) ∧ (¬ (¬ x2 = 5) → (0 ≤ (w32 (((am_upd (am_upd U16 86 46 (w32 ((U16 86 46) - 1))) 86 47 (w32 (((am_upd U16 86 46 (w32 ((U16 86 46) - 1))) 86 47) - 1))) 86 46) - 1)) ∧ (w32 (((am_upd (am_upd U16 86 46 (w32 ((U16 86 46) - 1))) 86 47 (w32 (((am_upd U16 86 46 (w32 ((U16 86 46) - 1))) 86 47) - 1))) 86 46) - 1)) < 20) ∧ ∃ U18 : Nat → Nat → Int, Ev (am_kz N X) (d, 93, 0, [some (.inr (.inr 86)), none, none, none, none, none], [], (am_sh, am_mm (am_upd (am_upd (am_upd U16 86 46 (w32 ((U16 86 46) - 1))) 86 47 (w32 (((am_upd U16 86 46 (w32 ((U16 86 46) - 1))) 86 47) - 1))) 114 (w32 (((am_upd (am_upd U16 86 46 (w32 ((U16 86 46) - 1))) 86 47 (w32 (((am_upd U16 86 46 (w32 ((U16 86 46) - 1))) 86 47) - 1))) 86 46) - 1)).toNat 2))) (none, (am_sh, am_mm U18)) ∧ R = (some (.inl 1), (am_sh, am_mm U18)))) ∧ (¬ (¬ x2 = 4) → (0 ≤ x1 ∧ x1 < 20) ∧ ∃ U19 : Nat → Nat → Int, Ev (am_kz N X) (d, 328, 0, [some (.inr (.inr 86)), some (.inl ((am_upd (am_upd U16 86 46 (w32 ((U16 86 46) - 1))) 86 47 (w32 (((am_upd U16 86 46 (w32 ((U16 86 46) - 1))) 86 47) - 1))) 116 x1.toNat)), some (.inl 0)], [], (am_sh, am_mm (am_upd (am_upd U16 86 46 (w32 ((U16 86 46) - 1))) 86 47 (w32 (((am_upd U16 86 46 (w32 ((U16 86 46) - 1))) 86 47) - 1))))) (none, (am_sh, am_mm U19)) ∧ (((¬ x2 = 5 : Prop)) → ∃ U20 : Nat → Nat → Int, Ev (am_kz N X) (d, 93, 0, [some (.inr (.inr 86)), none, none, none, none, none], [], (am_sh, am_mm U19)) (none, (am_sh, am_mm U20)) ∧ R = (some (.inl 1), (am_sh, am_mm U20))) ∧ (¬ (¬ x2 = 5) → (0 ≤ (w32 ((U19 86 46) - 1)) ∧ (w32 ((U19 86 46) - 1)) < 20) ∧ ∃ U21 : Nat → Nat → Int, Ev (am_kz N X) (d, 93, 0, [some (.inr (.inr 86)), none, none, none, none, none], [], (am_sh, am_mm (am_upd U19 114 (w32 ((U19 86 46) - 1)).toNat 2))) (none, (am_sh, am_mm U21)) ∧ R = (some (.inl 1), (am_sh, am_mm U21))))) ∧ (¬ ((U15 86 8) ≤ 0) → R = (some (.inl 0), (am_sh, am_mm U15)))) ∧ (¬ (¬ r15 = 0) → ∃ U22 : Nat → Nat → Int, Ev (am_kz N X) (d, 196, 0, [some (.inr (.inr 86)), some (.inl 1), some (.inl (U15 86 4))], [], (am_sh, am_mm U15)) (none, (am_sh, am_mm U22)) ∧ ((((U22 86 8) ≤ 0 : Prop)) → ∃ U23 : Nat → Nat → Int, Ev (am_kz N X) (d, 329, 0, [some (.inr (.inr 86)), some (.inl 1)], [], (am_sh, am_mm U22)) (none, (am_sh, am_mm U23)) ∧ (((¬ x2 = 4 : Prop)) → (((¬ x2 = 5 : Prop)) → ∃ U24 : Nat → Nat → Int, Ev (am_kz N X) (d, 93, 0, [some (.inr (.inr 86)), none, none, none, none, none], [], (am_sh, am_mm (am_upd (am_upd U23 86 46 (w32 ((U23 86 46) - 1))) 86 47 (w32 (((am_upd U23 86 46 (w32 ((U23 86 46) - 1))) 86 47) - 1))))) (none, (am_sh, am_mm U24)) ∧ R = (some (.inl 1), (am_sh, am_mm U24))) ∧ (¬ (¬ x2 = 5) → (0 ≤ (w32 (((am_upd (am_upd U23 86 46 (w32 ((U23 86 46) - 1))) 86 47 (w32 (((am_upd U23 86 46 (w32 ((U23 86 46) - 1))) 86 47) - 1))) 86 46) - 1)) ∧ (w32 (((am_upd (am_upd U23 86 46 (w32 ((U23 86 46) - 1))) 86 47 (w32 (((am_upd U23 86 46 (w32 ((U23 86 46) - 1))) 86 47) - 1))) 86 46) - 1)) < 20) ∧ ∃ U25 : Nat → Nat → Int, Ev (am_kz N X) (d, 93, 0, [some (.inr (.inr 86)), none, none, none, none, none], [], (am_sh, am_mm (am_upd (am_upd (am_upd U23 86 46 (w32 ((U23 86 46) - 1))) 86 47 (w32 (((am_upd U23 86 46 (w32 ((U23 86 46) - 1))) 86 47) - 1))) 114 (w32 (((am_upd (am_upd U23 86 46 (w32 ((U23 86 46) - 1))) 86 47 (w32 (((am_upd U23 86 46 (w32 ((U23 86 46) - 1))) 86 47) - 1))) 86 46) - 1)).toNat 2))) (none, (am_sh, am_mm U25)) ∧ R = (some (.inl 1), (am_sh, am_mm U25)))) ∧ (¬ (¬ x2 = 4) → (0 ≤ x1 ∧ x1 < 20) ∧ ∃ U26 : Nat → Nat → Int, Ev (am_kz N X) (d, 328, 0, [some (.inr (.inr 86)), some (.inl ((am_upd (am_upd U23 86 46 (w32 ((U23 86 46) - 1))) 86 47 (w32 (((am_upd U23 86 46 (w32 ((U23 86 46) - 1))) 86 47) - 1))) 116 x1.toNat)), some (.inl 0)], [], (am_sh, am_mm (am_upd (am_upd U23 86 46 (w32 ((U23 86 46) - 1))) 86 47 (w32 (((am_upd U23 86 46 (w32 ((U23 86 46) - 1))) 86 47) - 1))))) (none, (am_sh, am_mm U26)) ∧ (((¬ x2 = 5 : Prop)) → ∃ U27 : Nat → Nat → Int, Ev (am_kz N X) (d, 93, 0, [some (.inr (.inr 86)), none, none, none, none, none], [], (am_sh, am_mm U26)) (none, (am_sh, am_mm U27)) ∧ R = (some (.inl 1), (am_sh, am_mm U27))) ∧ (¬ (¬ x2 = 5) → (0 ≤ (w32 ((U26 86 46) - 1)) ∧ (w32 ((U26 86 46) - 1)) < 20) ∧ ∃ U28 : Nat → Nat → Int, Ev (am_kz N X) (d, 93, 0, [some (.inr (.inr 86)), none, none, none, none, none], [], (am_sh, am_mm (am_upd U26 114 (w32 ((U26 86 46) - 1)).toNat 2))) (none, (am_sh, am_mm U28)) ∧ R = (some (.inl 1), (am_sh, am_mm U28))))) ∧ (¬ ((U22 86 8) ≤ 0) → R = (some (.inl 0), (am_sh, am_mm U22)))))) ∧ (¬ (¬ x2 = 3) → ∃ (r29 : Int) (U29 : Nat → Nat → Int), Ev (am_kz N X) (d, 197, 0, [some (.inr (.inr 86)), some (.inl 44)], [], (am_sh, am_mm U)) (some (.inl r29), (am_sh, am_mm U29)) ∧ (((¬ r29 = 0 : Prop)) → Ev (am_kz N X) ((d + 1), 310, 464, [some (.inr (.inr 86)), some (.inl x1), some (.inl x2), some (.inl x3), none], [], (am_sh, am_mm U29)) R) ∧ (¬ (¬ r29 = 0) → ∃ U30 : Nat → Nat → Int, Ev (am_kz N X) (d, 196, 0, [some (.inr (.inr 86)), some (.inl 1), some (.inl (U29 86 4))], [], (am_sh, am_mm U29)) (none, (am_sh, am_mm U30)) ∧ Ev (am_kz N X) ((d + 1), 310, 464, [some (.inr (.inr 86)), some (.inl x1), some (.inl x2), some (.inl x3), none], [], (am_sh, am_mm U30)) R))) ∧ (¬ (2 ≤ x2) → (((¬ (U 86 8) = 0 : Prop)) → Ev (am_kz N X) ((d + 1), 310, 439, [some (.inr (.inr 86)), some (.inl x1), some (.inl x2), some (.inl x3), none], [], (am_sh, am_mm U)) R) ∧ (¬ (¬ (U 86 8) = 0) → ∃ U31 : Nat → Nat → Int, Ev (am_kz N X) (d, 329, 0, [some (.inr (.inr 86)), some (.inl 1)], [], (am_sh, am_mm U)) (none, (am_sh, am_mm U31)) ∧ Ev (am_kz N X) ((d + 1), 310, 439, [some (.inr (.inr 86)), some (.inl x1), some (.inl x2), some (.inl x3), none], [], (am_sh, am_mm U31)) R))) : Ev (am_kz N X) ((d + 1), 310, 422, [some (.inr (.inr 86)), some (.inl x1), some (.inl x2), some (.inl x3), none], [], (am_sh, am_mm U)) R := by
  refine ev_br (P := 2 ≤ x2) (σ1 := ((d + 1), 310, 441, [some (.inr (.inr 86)), some (.inl x1), some (.inl x2), some (.inl x3), none], [], (am_sh, am_mm U))) (σ2 := ((d + 1), 310, 427, [some (.inr (.inr 86)), some (.inl x1), some (.inl x2), some (.inl x3), none], [], (am_sh, am_mm U))) 3 (fun _ => rfl) (fun hc => ?_) (fun hc => ?_)
  · have h1 := h.1 hc
    refine ev_br (P := ¬ x2 = 3) (σ1 := ((d + 1), 310, 496, [some (.inr (.inr 86)), some (.inl x1), some (.inl x2), some (.inl x3), none], [], (am_sh, am_mm U))) (σ2 := ((d + 1), 310, 446, [some (.inr (.inr 86)), some (.inl x1), some (.inl x2), some (.inl x3), none], [], (am_sh, am_mm U))) 3 (fun _ => rfl) (fun hc => ?_) (fun hc => ?_)
    · have h11 := h1.1 hc
      refine ev_br (P := ¬ x2 = 5) (σ1 := ((d + 1), 310, 507, [some (.inr (.inr 86)), some (.inl x1), some (.inl x2), some (.inl x3), none], [.inr (.inr 86)], (am_sh, am_mm U))) (σ2 := ((d + 1), 310, 502, [some (.inr (.inr 86)), some (.inl x1), some (.inl x2), some (.inl x3), none], [.inr (.inr 86)], (am_sh, am_mm U))) 4 (fun _ => rfl) (fun hc => ?_) (fun hc => ?_)
      · have h111 := h11.1 hc
        refine ev_seg (σ1 := ((d + 1), 310, 509, [some (.inr (.inr 86)), some (.inl x1), some (.inl x2), some (.inl x3), none], [.inl 41, .inr (.inr 86)], (am_sh, am_mm U))) 1 (fun _ => rfl) ?_
        obtain ⟨r1, U1, h111c, h111a⟩ := h111
        refine ev_cal (σc := (d, 197, 0, [some (.inr (.inr 86)), some (.inl 41)], [], (am_sh, am_mm U))) (fun _ => rfl) h111c ?_
        show Ev (am_kz N X) ((d + 1), 310, 512, [some (.inr (.inr 86)), some (.inl x1), some (.inl x2), some (.inl x3), none], [.inl r1], (am_sh, am_mm U1)) R
        refine ev_br (P := ¬ r1 = 0) (σ1 := ((d + 1), 310, 524, [some (.inr (.inr 86)), some (.inl x1), some (.inl x2), some (.inl x3), none], [], (am_sh, am_mm U1))) (σ2 := ((d + 1), 310, 515, [some (.inr (.inr 86)), some (.inl x1), some (.inl x2), some (.inl x3), none], [], (am_sh, am_mm U1))) 1 (fun _ => rfl) (fun hc => ?_) (fun hc => ?_)
        · have h111a1 := h111a.1 hc
          refine ev_br (P := (U1 86 8) ≤ 0) (σ1 := ((d + 1), 310, 533, [some (.inr (.inr 86)), some (.inl x1), some (.inl x2), some (.inl x3), none], [], (am_sh, am_mm U1))) (σ2 := ((d + 1), 310, 531, [some (.inr (.inr 86)), some (.inl x1), some (.inl x2), some (.inl x3), none], [], (am_sh, am_mm U1))) 3 (fun _ => rfl) (fun hc => ?_) (fun hc => ?_)
          · have h111a11 := h111a1.1 hc
            refine ev_seg (σ1 := ((d + 1), 310, 535, [some (.inr (.inr 86)), some (.inl x1), some (.inl x2), some (.inl x3), none], [.inl 1, .inr (.inr 86)], (am_sh, am_mm U1))) 2 (fun _ => rfl) ?_
            obtain ⟨U2, h111a11c, h111a11a⟩ := h111a11
            refine ev_cal (σc := (d, 329, 0, [some (.inr (.inr 86)), some (.inl 1)], [], (am_sh, am_mm U1))) (fun _ => rfl) h111a11c ?_
            show Ev (am_kz N X) ((d + 1), 310, 538, [some (.inr (.inr 86)), some (.inl x1), some (.inl x2), some (.inl x3), none], [], (am_sh, am_mm U2)) R
            refine ev_seg (σ1 := ((d + 1), 310, 545, [some (.inr (.inr 86)), some (.inl x1), some (.inl x2), some (.inl x3), none], [.inl (w32 ((U2 86 46) - 1)), .inr (.inr 86)], (am_sh, am_mm U2))) 5 (fun _ => rfl) ?_
            refine eu_puti 86 (n := 90) rfl (by decide) rfl rfl ?_
            refine ev_seg (σ1 := ((d + 1), 310, 555, [some (.inr (.inr 86)), some (.inl x1), some (.inl x2), some (.inl x3), none], [.inl (w32 (((am_upd U2 86 46 (w32 ((U2 86 46) - 1))) 86 47) - 1)), .inr (.inr 86)], (am_sh, am_mm (am_upd U2 86 46 (w32 ((U2 86 46) - 1)))))) 5 (fun _ => rfl) ?_
            refine eu_puti 86 (n := 90) rfl (by decide) rfl rfl ?_
            refine ev_br (P := ¬ x2 = 4) (σ1 := ((d + 1), 310, 574, [some (.inr (.inr 86)), some (.inl x1), some (.inl x2), some (.inl x3), none], [], (am_sh, am_mm (am_upd (am_upd U2 86 46 (w32 ((U2 86 46) - 1))) 86 47 (w32 (((am_upd U2 86 46 (w32 ((U2 86 46) - 1))) 86 47) - 1)))))) (σ2 := ((d + 1), 310, 563, [some (.inr (.inr 86)), some (.inl x1), some (.inl x2), some (.inl x3), none], [], (am_sh, am_mm (am_upd (am_upd U2 86 46 (w32 ((U2 86 46) - 1))) 86 47 (w32 (((am_upd U2 86 46 (w32 ((U2 86 46) - 1))) 86 47) - 1)))))) 3 (fun _ => rfl) (fun hc => ?_) (fun hc => ?_)
            · have h111a11a1 := h111a11a.1 hc
              refine ev_br (P := ¬ x2 = 5) (σ1 := ((d + 1), 310, 591, [some (.inr (.inr 86)), some (.inl x1), some (.inl x2), some (.inl x3), none], [], (am_sh, am_mm (am_upd (am_upd U2 86 46 (w32 ((U2 86 46) - 1))) 86 47 (w32 (((am_upd U2 86 46 (w32 ((U2 86 46) - 1))) 86 47) - 1)))))) (σ2 := ((d + 1), 310, 579, [some (.inr (.inr 86)), some (.inl x1), some (.inl x2), some (.inl x3), none], [], (am_sh, am_mm (am_upd (am_upd U2 86 46 (w32 ((U2 86 46) - 1))) 86 47 (w32 (((am_upd U2 86 46 (w32 ((U2 86 46) - 1))) 86 47) - 1)))))) 3 (fun _ => rfl) (fun hc => ?_) (fun hc => ?_)
              · have h111a11a11 := h111a11a1.1 hc
                refine ev_seg (σ1 := ((d + 1), 310, 592, [some (.inr (.inr 86)), some (.inl x1), some (.inl x2), some (.inl x3), none], [.inr (.inr 86)], (am_sh, am_mm (am_upd (am_upd U2 86 46 (w32 ((U2 86 46) - 1))) 86 47 (w32 (((am_upd U2 86 46 (w32 ((U2 86 46) - 1))) 86 47) - 1)))))) 1 (fun _ => rfl) ?_
                obtain ⟨U3, h111a11a11c, h111a11a11a⟩ := h111a11a11
                refine ev_cal (σc := (d, 93, 0, [some (.inr (.inr 86)), none, none, none, none, none], [], (am_sh, am_mm (am_upd (am_upd U2 86 46 (w32 ((U2 86 46) - 1))) 86 47 (w32 (((am_upd U2 86 46 (w32 ((U2 86 46) - 1))) 86 47) - 1)))))) (fun _ => rfl) h111a11a11c ?_
                show Ev (am_kz N X) ((d + 1), 310, 595, [some (.inr (.inr 86)), some (.inl x1), some (.inl x2), some (.inl x3), none], [], (am_sh, am_mm U3)) R
                subst h111a11a11a
                exact ev_end 2 (fun _ => rfl)
              · have h111a11a12 := h111a11a1.2 hc
                refine ev_seg (σ1 := ((d + 1), 310, 590, [some (.inr (.inr 86)), some (.inl x1), some (.inl x2), some (.inl x3), none], [.inl 2, .inl (w32 (((am_upd (am_upd U2 86 46 (w32 ((U2 86 46) - 1))) 86 47 (w32 (((am_upd U2 86 46 (w32 ((U2 86 46) - 1))) 86 47) - 1))) 86 46) - 1)), .inr (.inr 114)], (am_sh, am_mm (am_upd (am_upd U2 86 46 (w32 ((U2 86 46) - 1))) 86 47 (w32 (((am_upd U2 86 46 (w32 ((U2 86 46) - 1))) 86 47) - 1)))))) 7 (fun _ => rfl) ?_
                refine eu_iast 114 (n := 20) rfl (by decide) rfl (fun _ => rfl) h111a11a12.1 ?_
                have h111a11a12a := h111a11a12.2
                refine ev_seg (σ1 := ((d + 1), 310, 592, [some (.inr (.inr 86)), some (.inl x1), some (.inl x2), some (.inl x3), none], [.inr (.inr 86)], (am_sh, am_mm (am_upd (am_upd (am_upd U2 86 46 (w32 ((U2 86 46) - 1))) 86 47 (w32 (((am_upd U2 86 46 (w32 ((U2 86 46) - 1))) 86 47) - 1))) 114 (w32 (((am_upd (am_upd U2 86 46 (w32 ((U2 86 46) - 1))) 86 47 (w32 (((am_upd U2 86 46 (w32 ((U2 86 46) - 1))) 86 47) - 1))) 86 46) - 1)).toNat 2)))) 1 (fun _ => rfl) ?_
                obtain ⟨U4, h111a11a12ac, h111a11a12aa⟩ := h111a11a12a
                refine ev_cal (σc := (d, 93, 0, [some (.inr (.inr 86)), none, none, none, none, none], [], (am_sh, am_mm (am_upd (am_upd (am_upd U2 86 46 (w32 ((U2 86 46) - 1))) 86 47 (w32 (((am_upd U2 86 46 (w32 ((U2 86 46) - 1))) 86 47) - 1))) 114 (w32 (((am_upd (am_upd U2 86 46 (w32 ((U2 86 46) - 1))) 86 47 (w32 (((am_upd U2 86 46 (w32 ((U2 86 46) - 1))) 86 47) - 1))) 86 46) - 1)).toNat 2)))) (fun _ => rfl) h111a11a12ac ?_
                show Ev (am_kz N X) ((d + 1), 310, 595, [some (.inr (.inr 86)), some (.inl x1), some (.inl x2), some (.inl x3), none], [], (am_sh, am_mm U4)) R
                subst h111a11a12aa
                exact ev_end 2 (fun _ => rfl)
            · have h111a11a2 := h111a11a.2 hc
              refine ev_seg (σ1 := ((d + 1), 310, 569, [some (.inr (.inr 86)), some (.inl x1), some (.inl x2), some (.inl x3), none], [.inl x1, .inr (.inr 116), .inr (.inr 86)], (am_sh, am_mm (am_upd (am_upd U2 86 46 (w32 ((U2 86 46) - 1))) 86 47 (w32 (((am_upd U2 86 46 (w32 ((U2 86 46) - 1))) 86 47) - 1)))))) 4 (fun _ => rfl) ?_
              refine eu_iald 116 (n := 20) rfl (by decide) rfl (fun _ => rfl) h111a11a2.1 ?_
              have h111a11a2a := h111a11a2.2
              refine ev_seg (σ1 := ((d + 1), 310, 571, [some (.inr (.inr 86)), some (.inl x1), some (.inl x2), some (.inl x3), none], [.inl 0, .inl ((am_upd (am_upd U2 86 46 (w32 ((U2 86 46) - 1))) 86 47 (w32 (((am_upd U2 86 46 (w32 ((U2 86 46) - 1))) 86 47) - 1))) 116 x1.toNat), .inr (.inr 86)], (am_sh, am_mm (am_upd (am_upd U2 86 46 (w32 ((U2 86 46) - 1))) 86 47 (w32 (((am_upd U2 86 46 (w32 ((U2 86 46) - 1))) 86 47) - 1)))))) 1 (fun _ => rfl) ?_
              obtain ⟨U5, h111a11a2ac, h111a11a2aa⟩ := h111a11a2a
              refine ev_cal (σc := (d, 328, 0, [some (.inr (.inr 86)), some (.inl ((am_upd (am_upd U2 86 46 (w32 ((U2 86 46) - 1))) 86 47 (w32 (((am_upd U2 86 46 (w32 ((U2 86 46) - 1))) 86 47) - 1))) 116 x1.toNat)), some (.inl 0)], [], (am_sh, am_mm (am_upd (am_upd U2 86 46 (w32 ((U2 86 46) - 1))) 86 47 (w32 (((am_upd U2 86 46 (w32 ((U2 86 46) - 1))) 86 47) - 1)))))) (fun _ => rfl) h111a11a2ac ?_
              show Ev (am_kz N X) ((d + 1), 310, 574, [some (.inr (.inr 86)), some (.inl x1), some (.inl x2), some (.inl x3), none], [], (am_sh, am_mm U5)) R
              refine ev_br (P := ¬ x2 = 5) (σ1 := ((d + 1), 310, 591, [some (.inr (.inr 86)), some (.inl x1), some (.inl x2), some (.inl x3), none], [], (am_sh, am_mm U5))) (σ2 := ((d + 1), 310, 579, [some (.inr (.inr 86)), some (.inl x1), some (.inl x2), some (.inl x3), none], [], (am_sh, am_mm U5))) 3 (fun _ => rfl) (fun hc => ?_) (fun hc => ?_)
              · have h111a11a2aa1 := h111a11a2aa.1 hc
                refine ev_seg (σ1 := ((d + 1), 310, 592, [some (.inr (.inr 86)), some (.inl x1), some (.inl x2), some (.inl x3), none], [.inr (.inr 86)], (am_sh, am_mm U5))) 1 (fun _ => rfl) ?_
                obtain ⟨U6, h111a11a2aa1c, h111a11a2aa1a⟩ := h111a11a2aa1
                refine ev_cal (σc := (d, 93, 0, [some (.inr (.inr 86)), none, none, none, none, none], [], (am_sh, am_mm U5))) (fun _ => rfl) h111a11a2aa1c ?_
                show Ev (am_kz N X) ((d + 1), 310, 595, [some (.inr (.inr 86)), some (.inl x1), some (.inl x2), some (.inl x3), none], [], (am_sh, am_mm U6)) R
                subst h111a11a2aa1a
                exact ev_end 2 (fun _ => rfl)
              · have h111a11a2aa2 := h111a11a2aa.2 hc
                refine ev_seg (σ1 := ((d + 1), 310, 590, [some (.inr (.inr 86)), some (.inl x1), some (.inl x2), some (.inl x3), none], [.inl 2, .inl (w32 ((U5 86 46) - 1)), .inr (.inr 114)], (am_sh, am_mm U5))) 7 (fun _ => rfl) ?_
                refine eu_iast 114 (n := 20) rfl (by decide) rfl (fun _ => rfl) h111a11a2aa2.1 ?_
                have h111a11a2aa2a := h111a11a2aa2.2
                refine ev_seg (σ1 := ((d + 1), 310, 592, [some (.inr (.inr 86)), some (.inl x1), some (.inl x2), some (.inl x3), none], [.inr (.inr 86)], (am_sh, am_mm (am_upd U5 114 (w32 ((U5 86 46) - 1)).toNat 2)))) 1 (fun _ => rfl) ?_
                obtain ⟨U7, h111a11a2aa2ac, h111a11a2aa2aa⟩ := h111a11a2aa2a
                refine ev_cal (σc := (d, 93, 0, [some (.inr (.inr 86)), none, none, none, none, none], [], (am_sh, am_mm (am_upd U5 114 (w32 ((U5 86 46) - 1)).toNat 2)))) (fun _ => rfl) h111a11a2aa2ac ?_
                show Ev (am_kz N X) ((d + 1), 310, 595, [some (.inr (.inr 86)), some (.inl x1), some (.inl x2), some (.inl x3), none], [], (am_sh, am_mm U7)) R
                subst h111a11a2aa2aa
                exact ev_end 2 (fun _ => rfl)
          · have h111a12 := h111a1.2 hc
            subst h111a12
            exact ev_end 2 (fun _ => rfl)
        · have h111a2 := h111a.2 hc
          refine ev_seg (σ1 := ((d + 1), 310, 521, [some (.inr (.inr 86)), some (.inl x1), some (.inl x2), some (.inl x3), none], [.inl (U1 86 4), .inl 1, .inr (.inr 86)], (am_sh, am_mm U1))) 4 (fun _ => rfl) ?_
          obtain ⟨U8, h111a2c, h111a2a⟩ := h111a2
          refine ev_cal (σc := (d, 196, 0, [some (.inr (.inr 86)), some (.inl 1), some (.inl (U1 86 4))], [], (am_sh, am_mm U1))) (fun _ => rfl) h111a2c ?_
          show Ev (am_kz N X) ((d + 1), 310, 524, [some (.inr (.inr 86)), some (.inl x1), some (.inl x2), some (.inl x3), none], [], (am_sh, am_mm U8)) R
          refine ev_br (P := (U8 86 8) ≤ 0) (σ1 := ((d + 1), 310, 533, [some (.inr (.inr 86)), some (.inl x1), some (.inl x2), some (.inl x3), none], [], (am_sh, am_mm U8))) (σ2 := ((d + 1), 310, 531, [some (.inr (.inr 86)), some (.inl x1), some (.inl x2), some (.inl x3), none], [], (am_sh, am_mm U8))) 3 (fun _ => rfl) (fun hc => ?_) (fun hc => ?_)
          · have h111a2a1 := h111a2a.1 hc
            refine ev_seg (σ1 := ((d + 1), 310, 535, [some (.inr (.inr 86)), some (.inl x1), some (.inl x2), some (.inl x3), none], [.inl 1, .inr (.inr 86)], (am_sh, am_mm U8))) 2 (fun _ => rfl) ?_
            obtain ⟨U9, h111a2a1c, h111a2a1a⟩ := h111a2a1
            refine ev_cal (σc := (d, 329, 0, [some (.inr (.inr 86)), some (.inl 1)], [], (am_sh, am_mm U8))) (fun _ => rfl) h111a2a1c ?_
            show Ev (am_kz N X) ((d + 1), 310, 538, [some (.inr (.inr 86)), some (.inl x1), some (.inl x2), some (.inl x3), none], [], (am_sh, am_mm U9)) R
            refine ev_seg (σ1 := ((d + 1), 310, 545, [some (.inr (.inr 86)), some (.inl x1), some (.inl x2), some (.inl x3), none], [.inl (w32 ((U9 86 46) - 1)), .inr (.inr 86)], (am_sh, am_mm U9))) 5 (fun _ => rfl) ?_
            refine eu_puti 86 (n := 90) rfl (by decide) rfl rfl ?_
            refine ev_seg (σ1 := ((d + 1), 310, 555, [some (.inr (.inr 86)), some (.inl x1), some (.inl x2), some (.inl x3), none], [.inl (w32 (((am_upd U9 86 46 (w32 ((U9 86 46) - 1))) 86 47) - 1)), .inr (.inr 86)], (am_sh, am_mm (am_upd U9 86 46 (w32 ((U9 86 46) - 1)))))) 5 (fun _ => rfl) ?_
            refine eu_puti 86 (n := 90) rfl (by decide) rfl rfl ?_
            refine ev_br (P := ¬ x2 = 4) (σ1 := ((d + 1), 310, 574, [some (.inr (.inr 86)), some (.inl x1), some (.inl x2), some (.inl x3), none], [], (am_sh, am_mm (am_upd (am_upd U9 86 46 (w32 ((U9 86 46) - 1))) 86 47 (w32 (((am_upd U9 86 46 (w32 ((U9 86 46) - 1))) 86 47) - 1)))))) (σ2 := ((d + 1), 310, 563, [some (.inr (.inr 86)), some (.inl x1), some (.inl x2), some (.inl x3), none], [], (am_sh, am_mm (am_upd (am_upd U9 86 46 (w32 ((U9 86 46) - 1))) 86 47 (w32 (((am_upd U9 86 46 (w32 ((U9 86 46) - 1))) 86 47) - 1)))))) 3 (fun _ => rfl) (fun hc => ?_) (fun hc => ?_)
            · have h111a2a1a1 := h111a2a1a.1 hc
              refine ev_br (P := ¬ x2 = 5) (σ1 := ((d + 1), 310, 591, [some (.inr (.inr 86)), some (.inl x1), some (.inl x2), some (.inl x3), none], [], (am_sh, am_mm (am_upd (am_upd U9 86 46 (w32 ((U9 86 46) - 1))) 86 47 (w32 (((am_upd U9 86 46 (w32 ((U9 86 46) - 1))) 86 47) - 1)))))) (σ2 := ((d + 1), 310, 579, [some (.inr (.inr 86)), some (.inl x1), some (.inl x2), some (.inl x3), none], [], (am_sh, am_mm (am_upd (am_upd U9 86 46 (w32 ((U9 86 46) - 1))) 86 47 (w32 (((am_upd U9 86 46 (w32 ((U9 86 46) - 1))) 86 47) - 1)))))) 3 (fun _ => rfl) (fun hc => ?_) (fun hc => ?_)
              · have h111a2a1a11 := h111a2a1a1.1 hc
                refine ev_seg (σ1 := ((d + 1), 310, 592, [some (.inr (.inr 86)), some (.inl x1), some (.inl x2), some (.inl x3), none], [.inr (.inr 86)], (am_sh, am_mm (am_upd (am_upd U9 86 46 (w32 ((U9 86 46) - 1))) 86 47 (w32 (((am_upd U9 86 46 (w32 ((U9 86 46) - 1))) 86 47) - 1)))))) 1 (fun _ => rfl) ?_
                obtain ⟨U10, h111a2a1a11c, h111a2a1a11a⟩ := h111a2a1a11
                refine ev_cal (σc := (d, 93, 0, [some (.inr (.inr 86)), none, none, none, none, none], [], (am_sh, am_mm (am_upd (am_upd U9 86 46 (w32 ((U9 86 46) - 1))) 86 47 (w32 (((am_upd U9 86 46 (w32 ((U9 86 46) - 1))) 86 47) - 1)))))) (fun _ => rfl) h111a2a1a11c ?_
                show Ev (am_kz N X) ((d + 1), 310, 595, [some (.inr (.inr 86)), some (.inl x1), some (.inl x2), some (.inl x3), none], [], (am_sh, am_mm U10)) R
                subst h111a2a1a11a
                exact ev_end 2 (fun _ => rfl)
              · have h111a2a1a12 := h111a2a1a1.2 hc
                refine ev_seg (σ1 := ((d + 1), 310, 590, [some (.inr (.inr 86)), some (.inl x1), some (.inl x2), some (.inl x3), none], [.inl 2, .inl (w32 (((am_upd (am_upd U9 86 46 (w32 ((U9 86 46) - 1))) 86 47 (w32 (((am_upd U9 86 46 (w32 ((U9 86 46) - 1))) 86 47) - 1))) 86 46) - 1)), .inr (.inr 114)], (am_sh, am_mm (am_upd (am_upd U9 86 46 (w32 ((U9 86 46) - 1))) 86 47 (w32 (((am_upd U9 86 46 (w32 ((U9 86 46) - 1))) 86 47) - 1)))))) 7 (fun _ => rfl) ?_
                refine eu_iast 114 (n := 20) rfl (by decide) rfl (fun _ => rfl) h111a2a1a12.1 ?_
                have h111a2a1a12a := h111a2a1a12.2
                refine ev_seg (σ1 := ((d + 1), 310, 592, [some (.inr (.inr 86)), some (.inl x1), some (.inl x2), some (.inl x3), none], [.inr (.inr 86)], (am_sh, am_mm (am_upd (am_upd (am_upd U9 86 46 (w32 ((U9 86 46) - 1))) 86 47 (w32 (((am_upd U9 86 46 (w32 ((U9 86 46) - 1))) 86 47) - 1))) 114 (w32 (((am_upd (am_upd U9 86 46 (w32 ((U9 86 46) - 1))) 86 47 (w32 (((am_upd U9 86 46 (w32 ((U9 86 46) - 1))) 86 47) - 1))) 86 46) - 1)).toNat 2)))) 1 (fun _ => rfl) ?_
                obtain ⟨U11, h111a2a1a12ac, h111a2a1a12aa⟩ := h111a2a1a12a
                refine ev_cal (σc := (d, 93, 0, [some (.inr (.inr 86)), none, none, none, none, none], [], (am_sh, am_mm (am_upd (am_upd (am_upd U9 86 46 (w32 ((U9 86 46) - 1))) 86 47 (w32 (((am_upd U9 86 46 (w32 ((U9 86 46) - 1))) 86 47) - 1))) 114 (w32 (((am_upd (am_upd U9 86 46 (w32 ((U9 86 46) - 1))) 86 47 (w32 (((am_upd U9 86 46 (w32 ((U9 86 46) - 1))) 86 47) - 1))) 86 46) - 1)).toNat 2)))) (fun _ => rfl) h111a2a1a12ac ?_
                show Ev (am_kz N X) ((d + 1), 310, 595, [some (.inr (.inr 86)), some (.inl x1), some (.inl x2), some (.inl x3), none], [], (am_sh, am_mm U11)) R
                subst h111a2a1a12aa
                exact ev_end 2 (fun _ => rfl)
            · have h111a2a1a2 := h111a2a1a.2 hc
              refine ev_seg (σ1 := ((d + 1), 310, 569, [some (.inr (.inr 86)), some (.inl x1), some (.inl x2), some (.inl x3), none], [.inl x1, .inr (.inr 116), .inr (.inr 86)], (am_sh, am_mm (am_upd (am_upd U9 86 46 (w32 ((U9 86 46) - 1))) 86 47 (w32 (((am_upd U9 86 46 (w32 ((U9 86 46) - 1))) 86 47) - 1)))))) 4 (fun _ => rfl) ?_
              refine eu_iald 116 (n := 20) rfl (by decide) rfl (fun _ => rfl) h111a2a1a2.1 ?_
              have h111a2a1a2a := h111a2a1a2.2
              refine ev_seg (σ1 := ((d + 1), 310, 571, [some (.inr (.inr 86)), some (.inl x1), some (.inl x2), some (.inl x3), none], [.inl 0, .inl ((am_upd (am_upd U9 86 46 (w32 ((U9 86 46) - 1))) 86 47 (w32 (((am_upd U9 86 46 (w32 ((U9 86 46) - 1))) 86 47) - 1))) 116 x1.toNat), .inr (.inr 86)], (am_sh, am_mm (am_upd (am_upd U9 86 46 (w32 ((U9 86 46) - 1))) 86 47 (w32 (((am_upd U9 86 46 (w32 ((U9 86 46) - 1))) 86 47) - 1)))))) 1 (fun _ => rfl) ?_
              obtain ⟨U12, h111a2a1a2ac, h111a2a1a2aa⟩ := h111a2a1a2a
              refine ev_cal (σc := (d, 328, 0, [some (.inr (.inr 86)), some (.inl ((am_upd (am_upd U9 86 46 (w32 ((U9 86 46) - 1))) 86 47 (w32 (((am_upd U9 86 46 (w32 ((U9 86 46) - 1))) 86 47) - 1))) 116 x1.toNat)), some (.inl 0)], [], (am_sh, am_mm (am_upd (am_upd U9 86 46 (w32 ((U9 86 46) - 1))) 86 47 (w32 (((am_upd U9 86 46 (w32 ((U9 86 46) - 1))) 86 47) - 1)))))) (fun _ => rfl) h111a2a1a2ac ?_
              show Ev (am_kz N X) ((d + 1), 310, 574, [some (.inr (.inr 86)), some (.inl x1), some (.inl x2), some (.inl x3), none], [], (am_sh, am_mm U12)) R
              refine ev_br (P := ¬ x2 = 5) (σ1 := ((d + 1), 310, 591, [some (.inr (.inr 86)), some (.inl x1), some (.inl x2), some (.inl x3), none], [], (am_sh, am_mm U12))) (σ2 := ((d + 1), 310, 579, [some (.inr (.inr 86)), some (.inl x1), some (.inl x2), some (.inl x3), none], [], (am_sh, am_mm U12))) 3 (fun _ => rfl) (fun hc => ?_) (fun hc => ?_)
              · have h111a2a1a2aa1 := h111a2a1a2aa.1 hc
                refine ev_seg (σ1 := ((d + 1), 310, 592, [some (.inr (.inr 86)), some (.inl x1), some (.inl x2), some (.inl x3), none], [.inr (.inr 86)], (am_sh, am_mm U12))) 1 (fun _ => rfl) ?_
                obtain ⟨U13, h111a2a1a2aa1c, h111a2a1a2aa1a⟩ := h111a2a1a2aa1
                refine ev_cal (σc := (d, 93, 0, [some (.inr (.inr 86)), none, none, none, none, none], [], (am_sh, am_mm U12))) (fun _ => rfl) h111a2a1a2aa1c ?_
                show Ev (am_kz N X) ((d + 1), 310, 595, [some (.inr (.inr 86)), some (.inl x1), some (.inl x2), some (.inl x3), none], [], (am_sh, am_mm U13)) R
                subst h111a2a1a2aa1a
                exact ev_end 2 (fun _ => rfl)
              · have h111a2a1a2aa2 := h111a2a1a2aa.2 hc
                refine ev_seg (σ1 := ((d + 1), 310, 590, [some (.inr (.inr 86)), some (.inl x1), some (.inl x2), some (.inl x3), none], [.inl 2, .inl (w32 ((U12 86 46) - 1)), .inr (.inr 114)], (am_sh, am_mm U12))) 7 (fun _ => rfl) ?_
                refine eu_iast 114 (n := 20) rfl (by decide) rfl (fun _ => rfl) h111a2a1a2aa2.1 ?_
                have h111a2a1a2aa2a := h111a2a1a2aa2.2
                refine ev_seg (σ1 := ((d + 1), 310, 592, [some (.inr (.inr 86)), some (.inl x1), some (.inl x2), some (.inl x3), none], [.inr (.inr 86)], (am_sh, am_mm (am_upd U12 114 (w32 ((U12 86 46) - 1)).toNat 2)))) 1 (fun _ => rfl) ?_
                obtain ⟨U14, h111a2a1a2aa2ac, h111a2a1a2aa2aa⟩ := h111a2a1a2aa2a
                refine ev_cal (σc := (d, 93, 0, [some (.inr (.inr 86)), none, none, none, none, none], [], (am_sh, am_mm (am_upd U12 114 (w32 ((U12 86 46) - 1)).toNat 2)))) (fun _ => rfl) h111a2a1a2aa2ac ?_
                show Ev (am_kz N X) ((d + 1), 310, 595, [some (.inr (.inr 86)), some (.inl x1), some (.inl x2), some (.inl x3), none], [], (am_sh, am_mm U14)) R
                subst h111a2a1a2aa2aa
                exact ev_end 2 (fun _ => rfl)
          · have h111a2a2 := h111a2a.2 hc
            subst h111a2a2
            exact ev_end 2 (fun _ => rfl)
      · have h112 := h11.2 hc
        refine ev_seg (σ1 := ((d + 1), 310, 509, [some (.inr (.inr 86)), some (.inl x1), some (.inl x2), some (.inl x3), none], [.inl 93, .inr (.inr 86)], (am_sh, am_mm U))) 2 (fun _ => rfl) ?_
        obtain ⟨r15, U15, h112c, h112a⟩ := h112
        refine ev_cal (σc := (d, 197, 0, [some (.inr (.inr 86)), some (.inl 93)], [], (am_sh, am_mm U))) (fun _ => rfl) h112c ?_
        show Ev (am_kz N X) ((d + 1), 310, 512, [some (.inr (.inr 86)), some (.inl x1), some (.inl x2), some (.inl x3), none], [.inl r15], (am_sh, am_mm U15)) R
        refine ev_br (P := ¬ r15 = 0) (σ1 := ((d + 1), 310, 524, [some (.inr (.inr 86)), some (.inl x1), some (.inl x2), some (.inl x3), none], [], (am_sh, am_mm U15))) (σ2 := ((d + 1), 310, 515, [some (.inr (.inr 86)), some (.inl x1), some (.inl x2), some (.inl x3), none], [], (am_sh, am_mm U15))) 1 (fun _ => rfl) (fun hc => ?_) (fun hc => ?_)
        · have h112a1 := h112a.1 hc
          refine ev_br (P := (U15 86 8) ≤ 0) (σ1 := ((d + 1), 310, 533, [some (.inr (.inr 86)), some (.inl x1), some (.inl x2), some (.inl x3), none], [], (am_sh, am_mm U15))) (σ2 := ((d + 1), 310, 531, [some (.inr (.inr 86)), some (.inl x1), some (.inl x2), some (.inl x3), none], [], (am_sh, am_mm U15))) 3 (fun _ => rfl) (fun hc => ?_) (fun hc => ?_)
          · have h112a11 := h112a1.1 hc
            refine ev_seg (σ1 := ((d + 1), 310, 535, [some (.inr (.inr 86)), some (.inl x1), some (.inl x2), some (.inl x3), none], [.inl 1, .inr (.inr 86)], (am_sh, am_mm U15))) 2 (fun _ => rfl) ?_
            obtain ⟨U16, h112a11c, h112a11a⟩ := h112a11
            refine ev_cal (σc := (d, 329, 0, [some (.inr (.inr 86)), some (.inl 1)], [], (am_sh, am_mm U15))) (fun _ => rfl) h112a11c ?_
            show Ev (am_kz N X) ((d + 1), 310, 538, [some (.inr (.inr 86)), some (.inl x1), some (.inl x2), some (.inl x3), none], [], (am_sh, am_mm U16)) R
            refine ev_seg (σ1 := ((d + 1), 310, 545, [some (.inr (.inr 86)), some (.inl x1), some (.inl x2), some (.inl x3), none], [.inl (w32 ((U16 86 46) - 1)), .inr (.inr 86)], (am_sh, am_mm U16))) 5 (fun _ => rfl) ?_
            refine eu_puti 86 (n := 90) rfl (by decide) rfl rfl ?_
            refine ev_seg (σ1 := ((d + 1), 310, 555, [some (.inr (.inr 86)), some (.inl x1), some (.inl x2), some (.inl x3), none], [.inl (w32 (((am_upd U16 86 46 (w32 ((U16 86 46) - 1))) 86 47) - 1)), .inr (.inr 86)], (am_sh, am_mm (am_upd U16 86 46 (w32 ((U16 86 46) - 1)))))) 5 (fun _ => rfl) ?_
            refine eu_puti 86 (n := 90) rfl (by decide) rfl rfl ?_
            refine ev_br (P := ¬ x2 = 4) (σ1 := ((d + 1), 310, 574, [some (.inr (.inr 86)), some (.inl x1), some (.inl x2), some (.inl x3), none], [], (am_sh, am_mm (am_upd (am_upd U16 86 46 (w32 ((U16 86 46) - 1))) 86 47 (w32 (((am_upd U16 86 46 (w32 ((U16 86 46) - 1))) 86 47) - 1)))))) (σ2 := ((d + 1), 310, 563, [some (.inr (.inr 86)), some (.inl x1), some (.inl x2), some (.inl x3), none], [], (am_sh, am_mm (am_upd (am_upd U16 86 46 (w32 ((U16 86 46) - 1))) 86 47 (w32 (((am_upd U16 86 46 (w32 ((U16 86 46) - 1))) 86 47) - 1)))))) 3 (fun _ => rfl) (fun hc => ?_) (fun hc => ?_)
            · have h112a11a1 := h112a11a.1 hc
              refine ev_br (P := ¬ x2 = 5) (σ1 := ((d + 1), 310, 591, [some (.inr (.inr 86)), some (.inl x1), some (.inl x2), some (.inl x3), none], [], (am_sh, am_mm (am_upd (am_upd U16 86 46 (w32 ((U16 86 46) - 1))) 86 47 (w32 (((am_upd U16 86 46 (w32 ((U16 86 46) - 1))) 86 47) - 1)))))) (σ2 := ((d + 1), 310, 579, [some (.inr (.inr 86)), some (.inl x1), some (.inl x2), some (.inl x3), none], [], (am_sh, am_mm (am_upd (am_upd U16 86 46 (w32 ((U16 86 46) - 1))) 86 47 (w32 (((am_upd U16 86 46 (w32 ((U16 86 46) - 1))) 86 47) - 1)))))) 3 (fun _ => rfl) (fun hc => ?_) (fun hc => ?_)
              · have h112a11a11 := h112a11a1.1 hc
                refine ev_seg (σ1 := ((d + 1), 310, 592, [some (.inr (.inr 86)), some (.inl x1), some (.inl x2), some (.inl x3), none], [.inr (.inr 86)], (am_sh, am_mm (am_upd (am_upd U16 86 46 (w32 ((U16 86 46) - 1))) 86 47 (w32 (((am_upd U16 86 46 (w32 ((U16 86 46) - 1))) 86 47) - 1)))))) 1 (fun _ => rfl) ?_
                obtain ⟨U17, h112a11a11c, h112a11a11a⟩ := h112a11a11
                refine ev_cal (σc := (d, 93, 0, [some (.inr (.inr 86)), none, none, none, none, none], [], (am_sh, am_mm (am_upd (am_upd U16 86 46 (w32 ((U16 86 46) - 1))) 86 47 (w32 (((am_upd U16 86 46 (w32 ((U16 86 46) - 1))) 86 47) - 1)))))) (fun _ => rfl) h112a11a11c ?_
                show Ev (am_kz N X) ((d + 1), 310, 595, [some (.inr (.inr 86)), some (.inl x1), some (.inl x2), some (.inl x3), none], [], (am_sh, am_mm U17)) R
                subst h112a11a11a
                exact ev_end 2 (fun _ => rfl)
              · have h112a11a12 := h112a11a1.2 hc
                refine ev_seg (σ1 := ((d + 1), 310, 590, [some (.inr (.inr 86)), some (.inl x1), some (.inl x2), some (.inl x3), none], [.inl 2, .inl (w32 (((am_upd (am_upd U16 86 46 (w32 ((U16 86 46) - 1))) 86 47 (w32 (((am_upd U16 86 46 (w32 ((U16 86 46) - 1))) 86 47) - 1))) 86 46) - 1)), .inr (.inr 114)], (am_sh, am_mm (am_upd (am_upd U16 86 46 (w32 ((U16 86 46) - 1))) 86 47 (w32 (((am_upd U16 86 46 (w32 ((U16 86 46) - 1))) 86 47) - 1)))))) 7 (fun _ => rfl) ?_
                refine eu_iast 114 (n := 20) rfl (by decide) rfl (fun _ => rfl) h112a11a12.1 ?_
                have h112a11a12a := h112a11a12.2
                refine ev_seg (σ1 := ((d + 1), 310, 592, [some (.inr (.inr 86)), some (.inl x1), some (.inl x2), some (.inl x3), none], [.inr (.inr 86)], (am_sh, am_mm (am_upd (am_upd (am_upd U16 86 46 (w32 ((U16 86 46) - 1))) 86 47 (w32 (((am_upd U16 86 46 (w32 ((U16 86 46) - 1))) 86 47) - 1))) 114 (w32 (((am_upd (am_upd U16 86 46 (w32 ((U16 86 46) - 1))) 86 47 (w32 (((am_upd U16 86 46 (w32 ((U16 86 46) - 1))) 86 47) - 1))) 86 46) - 1)).toNat 2)))) 1 (fun _ => rfl) ?_
                obtain ⟨U18, h112a11a12ac, h112a11a12aa⟩ := h112a11a12a
                refine ev_cal (σc := (d, 93, 0, [some (.inr (.inr 86)), none, none, none, none, none], [], (am_sh, am_mm (am_upd (am_upd (am_upd U16 86 46 (w32 ((U16 86 46) - 1))) 86 47 (w32 (((am_upd U16 86 46 (w32 ((U16 86 46) - 1))) 86 47) - 1))) 114 (w32 (((am_upd (am_upd U16 86 46 (w32 ((U16 86 46) - 1))) 86 47 (w32 (((am_upd U16 86 46 (w32 ((U16 86 46) - 1))) 86 47) - 1))) 86 46) - 1)).toNat 2)))) (fun _ => rfl) h112a11a12ac ?_
                show Ev (am_kz N X) ((d + 1), 310, 595, [some (.inr (.inr 86)), some (.inl x1), some (.inl x2), some (.inl x3), none], [], (am_sh, am_mm U18)) R
                subst h112a11a12aa
                exact ev_end 2 (fun _ => rfl)
            · have h112a11a2 := h112a11a.2 hc
              refine ev_seg (σ1 := ((d + 1), 310, 569, [some (.inr (.inr 86)), some (.inl x1), some (.inl x2), some (.inl x3), none], [.inl x1, .inr (.inr 116), .inr (.inr 86)], (am_sh, am_mm (am_upd (am_upd U16 86 46 (w32 ((U16 86 46) - 1))) 86 47 (w32 (((am_upd U16 86 46 (w32 ((U16 86 46) - 1))) 86 47) - 1)))))) 4 (fun _ => rfl) ?_
              refine eu_iald 116 (n := 20) rfl (by decide) rfl (fun _ => rfl) h112a11a2.1 ?_
              have h112a11a2a := h112a11a2.2
              refine ev_seg (σ1 := ((d + 1), 310, 571, [some (.inr (.inr 86)), some (.inl x1), some (.inl x2), some (.inl x3), none], [.inl 0, .inl ((am_upd (am_upd U16 86 46 (w32 ((U16 86 46) - 1))) 86 47 (w32 (((am_upd U16 86 46 (w32 ((U16 86 46) - 1))) 86 47) - 1))) 116 x1.toNat), .inr (.inr 86)], (am_sh, am_mm (am_upd (am_upd U16 86 46 (w32 ((U16 86 46) - 1))) 86 47 (w32 (((am_upd U16 86 46 (w32 ((U16 86 46) - 1))) 86 47) - 1)))))) 1 (fun _ => rfl) ?_
              obtain ⟨U19, h112a11a2ac, h112a11a2aa⟩ := h112a11a2a
              refine ev_cal (σc := (d, 328, 0, [some (.inr (.inr 86)), some (.inl ((am_upd (am_upd U16 86 46 (w32 ((U16 86 46) - 1))) 86 47 (w32 (((am_upd U16 86 46 (w32 ((U16 86 46) - 1))) 86 47) - 1))) 116 x1.toNat)), some (.inl 0)], [], (am_sh, am_mm (am_upd (am_upd U16 86 46 (w32 ((U16 86 46) - 1))) 86 47 (w32 (((am_upd U16 86 46 (w32 ((U16 86 46) - 1))) 86 47) - 1)))))) (fun _ => rfl) h112a11a2ac ?_
              show Ev (am_kz N X) ((d + 1), 310, 574, [some (.inr (.inr 86)), some (.inl x1), some (.inl x2), some (.inl x3), none], [], (am_sh, am_mm U19)) R
              refine ev_br (P := ¬ x2 = 5) (σ1 := ((d + 1), 310, 591, [some (.inr (.inr 86)), some (.inl x1), some (.inl x2), some (.inl x3), none], [], (am_sh, am_mm U19))) (σ2 := ((d + 1), 310, 579, [some (.inr (.inr 86)), some (.inl x1), some (.inl x2), some (.inl x3), none], [], (am_sh, am_mm U19))) 3 (fun _ => rfl) (fun hc => ?_) (fun hc => ?_)
              · have h112a11a2aa1 := h112a11a2aa.1 hc
                refine ev_seg (σ1 := ((d + 1), 310, 592, [some (.inr (.inr 86)), some (.inl x1), some (.inl x2), some (.inl x3), none], [.inr (.inr 86)], (am_sh, am_mm U19))) 1 (fun _ => rfl) ?_
                obtain ⟨U20, h112a11a2aa1c, h112a11a2aa1a⟩ := h112a11a2aa1
                refine ev_cal (σc := (d, 93, 0, [some (.inr (.inr 86)), none, none, none, none, none], [], (am_sh, am_mm U19))) (fun _ => rfl) h112a11a2aa1c ?_
                show Ev (am_kz N X) ((d + 1), 310, 595, [some (.inr (.inr 86)), some (.inl x1), some (.inl x2), some (.inl x3), none], [], (am_sh, am_mm U20)) R
                subst h112a11a2aa1a
                exact ev_end 2 (fun _ => rfl)
              · have h112a11a2aa2 := h112a11a2aa.2 hc
                refine ev_seg (σ1 := ((d + 1), 310, 590, [some (.inr (.inr 86)), some (.inl x1), some (.inl x2), some (.inl x3), none], [.inl 2, .inl (w32 ((U19 86 46) - 1)), .inr (.inr 114)], (am_sh, am_mm U19))) 7 (fun _ => rfl) ?_
                refine eu_iast 114 (n := 20) rfl (by decide) rfl (fun _ => rfl) h112a11a2aa2.1 ?_
                have h112a11a2aa2a := h112a11a2aa2.2
                refine ev_seg (σ1 := ((d + 1), 310, 592, [some (.inr (.inr 86)), some (.inl x1), some (.inl x2), some (.inl x3), none], [.inr (.inr 86)], (am_sh, am_mm (am_upd U19 114 (w32 ((U19 86 46) - 1)).toNat 2)))) 1 (fun _ => rfl) ?_
                obtain ⟨U21, h112a11a2aa2ac, h112a11a2aa2aa⟩ := h112a11a2aa2a
                refine ev_cal (σc := (d, 93, 0, [some (.inr (.inr 86)), none, none, none, none, none], [], (am_sh, am_mm (am_upd U19 114 (w32 ((U19 86 46) - 1)).toNat 2)))) (fun _ => rfl) h112a11a2aa2ac ?_
                show Ev (am_kz N X) ((d + 1), 310, 595, [some (.inr (.inr 86)), some (.inl x1), some (.inl x2), some (.inl x3), none], [], (am_sh, am_mm U21)) R
                subst h112a11a2aa2aa
                exact ev_end 2 (fun _ => rfl)
          · have h112a12 := h112a1.2 hc
            subst h112a12
            exact ev_end 2 (fun _ => rfl)
        · have h112a2 := h112a.2 hc
          refine ev_seg (σ1 := ((d + 1), 310, 521, [some (.inr (.inr 86)), some (.inl x1), some (.inl x2), some (.inl x3), none], [.inl (U15 86 4), .inl 1, .inr (.inr 86)], (am_sh, am_mm U15))) 4 (fun _ => rfl) ?_
          obtain ⟨U22, h112a2c, h112a2a⟩ := h112a2
          refine ev_cal (σc := (d, 196, 0, [some (.inr (.inr 86)), some (.inl 1), some (.inl (U15 86 4))], [], (am_sh, am_mm U15))) (fun _ => rfl) h112a2c ?_
          show Ev (am_kz N X) ((d + 1), 310, 524, [some (.inr (.inr 86)), some (.inl x1), some (.inl x2), some (.inl x3), none], [], (am_sh, am_mm U22)) R
          refine ev_br (P := (U22 86 8) ≤ 0) (σ1 := ((d + 1), 310, 533, [some (.inr (.inr 86)), some (.inl x1), some (.inl x2), some (.inl x3), none], [], (am_sh, am_mm U22))) (σ2 := ((d + 1), 310, 531, [some (.inr (.inr 86)), some (.inl x1), some (.inl x2), some (.inl x3), none], [], (am_sh, am_mm U22))) 3 (fun _ => rfl) (fun hc => ?_) (fun hc => ?_)
          · have h112a2a1 := h112a2a.1 hc
            refine ev_seg (σ1 := ((d + 1), 310, 535, [some (.inr (.inr 86)), some (.inl x1), some (.inl x2), some (.inl x3), none], [.inl 1, .inr (.inr 86)], (am_sh, am_mm U22))) 2 (fun _ => rfl) ?_
            obtain ⟨U23, h112a2a1c, h112a2a1a⟩ := h112a2a1
            refine ev_cal (σc := (d, 329, 0, [some (.inr (.inr 86)), some (.inl 1)], [], (am_sh, am_mm U22))) (fun _ => rfl) h112a2a1c ?_
            show Ev (am_kz N X) ((d + 1), 310, 538, [some (.inr (.inr 86)), some (.inl x1), some (.inl x2), some (.inl x3), none], [], (am_sh, am_mm U23)) R
            refine ev_seg (σ1 := ((d + 1), 310, 545, [some (.inr (.inr 86)), some (.inl x1), some (.inl x2), some (.inl x3), none], [.inl (w32 ((U23 86 46) - 1)), .inr (.inr 86)], (am_sh, am_mm U23))) 5 (fun _ => rfl) ?_
            refine eu_puti 86 (n := 90) rfl (by decide) rfl rfl ?_
            refine ev_seg (σ1 := ((d + 1), 310, 555, [some (.inr (.inr 86)), some (.inl x1), some (.inl x2), some (.inl x3), none], [.inl (w32 (((am_upd U23 86 46 (w32 ((U23 86 46) - 1))) 86 47) - 1)), .inr (.inr 86)], (am_sh, am_mm (am_upd U23 86 46 (w32 ((U23 86 46) - 1)))))) 5 (fun _ => rfl) ?_
            refine eu_puti 86 (n := 90) rfl (by decide) rfl rfl ?_
            refine ev_br (P := ¬ x2 = 4) (σ1 := ((d + 1), 310, 574, [some (.inr (.inr 86)), some (.inl x1), some (.inl x2), some (.inl x3), none], [], (am_sh, am_mm (am_upd (am_upd U23 86 46 (w32 ((U23 86 46) - 1))) 86 47 (w32 (((am_upd U23 86 46 (w32 ((U23 86 46) - 1))) 86 47) - 1)))))) (σ2 := ((d + 1), 310, 563, [some (.inr (.inr 86)), some (.inl x1), some (.inl x2), some (.inl x3), none], [], (am_sh, am_mm (am_upd (am_upd U23 86 46 (w32 ((U23 86 46) - 1))) 86 47 (w32 (((am_upd U23 86 46 (w32 ((U23 86 46) - 1))) 86 47) - 1)))))) 3 (fun _ => rfl) (fun hc => ?_) (fun hc => ?_)
            · have h112a2a1a1 := h112a2a1a.1 hc
              refine ev_br (P := ¬ x2 = 5) (σ1 := ((d + 1), 310, 591, [some (.inr (.inr 86)), some (.inl x1), some (.inl x2), some (.inl x3), none], [], (am_sh, am_mm (am_upd (am_upd U23 86 46 (w32 ((U23 86 46) - 1))) 86 47 (w32 (((am_upd U23 86 46 (w32 ((U23 86 46) - 1))) 86 47) - 1)))))) (σ2 := ((d + 1), 310, 579, [some (.inr (.inr 86)), some (.inl x1), some (.inl x2), some (.inl x3), none], [], (am_sh, am_mm (am_upd (am_upd U23 86 46 (w32 ((U23 86 46) - 1))) 86 47 (w32 (((am_upd U23 86 46 (w32 ((U23 86 46) - 1))) 86 47) - 1)))))) 3 (fun _ => rfl) (fun hc => ?_) (fun hc => ?_)
              · have h112a2a1a11 := h112a2a1a1.1 hc
                refine ev_seg (σ1 := ((d + 1), 310, 592, [some (.inr (.inr 86)), some (.inl x1), some (.inl x2), some (.inl x3), none], [.inr (.inr 86)], (am_sh, am_mm (am_upd (am_upd U23 86 46 (w32 ((U23 86 46) - 1))) 86 47 (w32 (((am_upd U23 86 46 (w32 ((U23 86 46) - 1))) 86 47) - 1)))))) 1 (fun _ => rfl) ?_
                obtain ⟨U24, h112a2a1a11c, h112a2a1a11a⟩ := h112a2a1a11
                refine ev_cal (σc := (d, 93, 0, [some (.inr (.inr 86)), none, none, none, none, none], [], (am_sh, am_mm (am_upd (am_upd U23 86 46 (w32 ((U23 86 46) - 1))) 86 47 (w32 (((am_upd U23 86 46 (w32 ((U23 86 46) - 1))) 86 47) - 1)))))) (fun _ => rfl) h112a2a1a11c ?_
                show Ev (am_kz N X) ((d + 1), 310, 595, [some (.inr (.inr 86)), some (.inl x1), some (.inl x2), some (.inl x3), none], [], (am_sh, am_mm U24)) R
                subst h112a2a1a11a
                exact ev_end 2 (fun _ => rfl)
              · have h112a2a1a12 := h112a2a1a1.2 hc
                refine ev_seg (σ1 := ((d + 1), 310, 590, [some (.inr (.inr 86)), some (.inl x1), some (.inl x2), some (.inl x3), none], [.inl 2, .inl (w32 (((am_upd (am_upd U23 86 46 (w32 ((U23 86 46) - 1))) 86 47 (w32 (((am_upd U23 86 46 (w32 ((U23 86 46) - 1))) 86 47) - 1))) 86 46) - 1)), .inr (.inr 114)], (am_sh, am_mm (am_upd (am_upd U23 86 46 (w32 ((U23 86 46) - 1))) 86 47 (w32 (((am_upd U23 86 46 (w32 ((U23 86 46) - 1))) 86 47) - 1)))))) 7 (fun _ => rfl) ?_
                refine eu_iast 114 (n := 20) rfl (by decide) rfl (fun _ => rfl) h112a2a1a12.1 ?_
                have h112a2a1a12a := h112a2a1a12.2
                refine ev_seg (σ1 := ((d + 1), 310, 592, [some (.inr (.inr 86)), some (.inl x1), some (.inl x2), some (.inl x3), none], [.inr (.inr 86)], (am_sh, am_mm (am_upd (am_upd (am_upd U23 86 46 (w32 ((U23 86 46) - 1))) 86 47 (w32 (((am_upd U23 86 46 (w32 ((U23 86 46) - 1))) 86 47) - 1))) 114 (w32 (((am_upd (am_upd U23 86 46 (w32 ((U23 86 46) - 1))) 86 47 (w32 (((am_upd U23 86 46 (w32 ((U23 86 46) - 1))) 86 47) - 1))) 86 46) - 1)).toNat 2)))) 1 (fun _ => rfl) ?_
                obtain ⟨U25, h112a2a1a12ac, h112a2a1a12aa⟩ := h112a2a1a12a
                refine ev_cal (σc := (d, 93, 0, [some (.inr (.inr 86)), none, none, none, none, none], [], (am_sh, am_mm (am_upd (am_upd (am_upd U23 86 46 (w32 ((U23 86 46) - 1))) 86 47 (w32 (((am_upd U23 86 46 (w32 ((U23 86 46) - 1))) 86 47) - 1))) 114 (w32 (((am_upd (am_upd U23 86 46 (w32 ((U23 86 46) - 1))) 86 47 (w32 (((am_upd U23 86 46 (w32 ((U23 86 46) - 1))) 86 47) - 1))) 86 46) - 1)).toNat 2)))) (fun _ => rfl) h112a2a1a12ac ?_
                show Ev (am_kz N X) ((d + 1), 310, 595, [some (.inr (.inr 86)), some (.inl x1), some (.inl x2), some (.inl x3), none], [], (am_sh, am_mm U25)) R
                subst h112a2a1a12aa
                exact ev_end 2 (fun _ => rfl)
            · have h112a2a1a2 := h112a2a1a.2 hc
              refine ev_seg (σ1 := ((d + 1), 310, 569, [some (.inr (.inr 86)), some (.inl x1), some (.inl x2), some (.inl x3), none], [.inl x1, .inr (.inr 116), .inr (.inr 86)], (am_sh, am_mm (am_upd (am_upd U23 86 46 (w32 ((U23 86 46) - 1))) 86 47 (w32 (((am_upd U23 86 46 (w32 ((U23 86 46) - 1))) 86 47) - 1)))))) 4 (fun _ => rfl) ?_
              refine eu_iald 116 (n := 20) rfl (by decide) rfl (fun _ => rfl) h112a2a1a2.1 ?_
              have h112a2a1a2a := h112a2a1a2.2
              refine ev_seg (σ1 := ((d + 1), 310, 571, [some (.inr (.inr 86)), some (.inl x1), some (.inl x2), some (.inl x3), none], [.inl 0, .inl ((am_upd (am_upd U23 86 46 (w32 ((U23 86 46) - 1))) 86 47 (w32 (((am_upd U23 86 46 (w32 ((U23 86 46) - 1))) 86 47) - 1))) 116 x1.toNat), .inr (.inr 86)], (am_sh, am_mm (am_upd (am_upd U23 86 46 (w32 ((U23 86 46) - 1))) 86 47 (w32 (((am_upd U23 86 46 (w32 ((U23 86 46) - 1))) 86 47) - 1)))))) 1 (fun _ => rfl) ?_
              obtain ⟨U26, h112a2a1a2ac, h112a2a1a2aa⟩ := h112a2a1a2a
              refine ev_cal (σc := (d, 328, 0, [some (.inr (.inr 86)), some (.inl ((am_upd (am_upd U23 86 46 (w32 ((U23 86 46) - 1))) 86 47 (w32 (((am_upd U23 86 46 (w32 ((U23 86 46) - 1))) 86 47) - 1))) 116 x1.toNat)), some (.inl 0)], [], (am_sh, am_mm (am_upd (am_upd U23 86 46 (w32 ((U23 86 46) - 1))) 86 47 (w32 (((am_upd U23 86 46 (w32 ((U23 86 46) - 1))) 86 47) - 1)))))) (fun _ => rfl) h112a2a1a2ac ?_
              show Ev (am_kz N X) ((d + 1), 310, 574, [some (.inr (.inr 86)), some (.inl x1), some (.inl x2), some (.inl x3), none], [], (am_sh, am_mm U26)) R
              refine ev_br (P := ¬ x2 = 5) (σ1 := ((d + 1), 310, 591, [some (.inr (.inr 86)), some (.inl x1), some (.inl x2), some (.inl x3), none], [], (am_sh, am_mm U26))) (σ2 := ((d + 1), 310, 579, [some (.inr (.inr 86)), some (.inl x1), some (.inl x2), some (.inl x3), none], [], (am_sh, am_mm U26))) 3 (fun _ => rfl) (fun hc => ?_) (fun hc => ?_)
              · have h112a2a1a2aa1 := h112a2a1a2aa.1 hc
                refine ev_seg (σ1 := ((d + 1), 310, 592, [some (.inr (.inr 86)), some (.inl x1), some (.inl x2), some (.inl x3), none], [.inr (.inr 86)], (am_sh, am_mm U26))) 1 (fun _ => rfl) ?_
                obtain ⟨U27, h112a2a1a2aa1c, h112a2a1a2aa1a⟩ := h112a2a1a2aa1
                refine ev_cal (σc := (d, 93, 0, [some (.inr (.inr 86)), none, none, none, none, none], [], (am_sh, am_mm U26))) (fun _ => rfl) h112a2a1a2aa1c ?_
                show Ev (am_kz N X) ((d + 1), 310, 595, [some (.inr (.inr 86)), some (.inl x1), some (.inl x2), some (.inl x3), none], [], (am_sh, am_mm U27)) R
                subst h112a2a1a2aa1a
                exact ev_end 2 (fun _ => rfl)
              · have h112a2a1a2aa2 := h112a2a1a2aa.2 hc
                refine ev_seg (σ1 := ((d + 1), 310, 590, [some (.inr (.inr 86)), some (.inl x1), some (.inl x2), some (.inl x3), none], [.inl 2, .inl (w32 ((U26 86 46) - 1)), .inr (.inr 114)], (am_sh, am_mm U26))) 7 (fun _ => rfl) ?_
                refine eu_iast 114 (n := 20) rfl (by decide) rfl (fun _ => rfl) h112a2a1a2aa2.1 ?_
                have h112a2a1a2aa2a := h112a2a1a2aa2.2
                refine ev_seg (σ1 := ((d + 1), 310, 592, [some (.inr (.inr 86)), some (.inl x1), some (.inl x2), some (.inl x3), none], [.inr (.inr 86)], (am_sh, am_mm (am_upd U26 114 (w32 ((U26 86 46) - 1)).toNat 2)))) 1 (fun _ => rfl) ?_
                obtain ⟨U28, h112a2a1a2aa2ac, h112a2a1a2aa2aa⟩ := h112a2a1a2aa2a
                refine ev_cal (σc := (d, 93, 0, [some (.inr (.inr 86)), none, none, none, none, none], [], (am_sh, am_mm (am_upd U26 114 (w32 ((U26 86 46) - 1)).toNat 2)))) (fun _ => rfl) h112a2a1a2aa2ac ?_
                show Ev (am_kz N X) ((d + 1), 310, 595, [some (.inr (.inr 86)), some (.inl x1), some (.inl x2), some (.inl x3), none], [], (am_sh, am_mm U28)) R
                subst h112a2a1a2aa2aa
                exact ev_end 2 (fun _ => rfl)
          · have h112a2a2 := h112a2a.2 hc
            subst h112a2a2
            exact ev_end 2 (fun _ => rfl)
    · have h12 := h1.2 hc
      refine ev_seg (σ1 := ((d + 1), 310, 449, [some (.inr (.inr 86)), some (.inl x1), some (.inl x2), some (.inl x3), none], [.inl 44, .inr (.inr 86)], (am_sh, am_mm U))) 2 (fun _ => rfl) ?_
      obtain ⟨r29, U29, h12c, h12a⟩ := h12
      refine ev_cal (σc := (d, 197, 0, [some (.inr (.inr 86)), some (.inl 44)], [], (am_sh, am_mm U))) (fun _ => rfl) h12c ?_
      show Ev (am_kz N X) ((d + 1), 310, 452, [some (.inr (.inr 86)), some (.inl x1), some (.inl x2), some (.inl x3), none], [.inl r29], (am_sh, am_mm U29)) R
      refine ev_br (P := ¬ r29 = 0) (σ1 := ((d + 1), 310, 464, [some (.inr (.inr 86)), some (.inl x1), some (.inl x2), some (.inl x3), none], [], (am_sh, am_mm U29))) (σ2 := ((d + 1), 310, 455, [some (.inr (.inr 86)), some (.inl x1), some (.inl x2), some (.inl x3), none], [], (am_sh, am_mm U29))) 1 (fun _ => rfl) (fun hc => ?_) (fun hc => ?_)
      · have h12a1 := h12a.1 hc
        exact h12a1
      · have h12a2 := h12a.2 hc
        refine ev_seg (σ1 := ((d + 1), 310, 461, [some (.inr (.inr 86)), some (.inl x1), some (.inl x2), some (.inl x3), none], [.inl (U29 86 4), .inl 1, .inr (.inr 86)], (am_sh, am_mm U29))) 4 (fun _ => rfl) ?_
        obtain ⟨U30, h12a2c, h12a2a⟩ := h12a2
        refine ev_cal (σc := (d, 196, 0, [some (.inr (.inr 86)), some (.inl 1), some (.inl (U29 86 4))], [], (am_sh, am_mm U29))) (fun _ => rfl) h12a2c ?_
        show Ev (am_kz N X) ((d + 1), 310, 464, [some (.inr (.inr 86)), some (.inl x1), some (.inl x2), some (.inl x3), none], [], (am_sh, am_mm U30)) R
        exact h12a2a
  · have h2 := h.2 hc
    refine ev_br (P := ¬ (U 86 8) = 0) (σ1 := ((d + 1), 310, 439, [some (.inr (.inr 86)), some (.inl x1), some (.inl x2), some (.inl x3), none], [], (am_sh, am_mm U))) (σ2 := ((d + 1), 310, 434, [some (.inr (.inr 86)), some (.inl x1), some (.inl x2), some (.inl x3), none], [], (am_sh, am_mm U))) 3 (fun _ => rfl) (fun hc => ?_) (fun hc => ?_)
    · have h21 := h2.1 hc
      exact h21
    · have h22 := h2.2 hc
      refine ev_seg (σ1 := ((d + 1), 310, 436, [some (.inr (.inr 86)), some (.inl x1), some (.inl x2), some (.inl x3), none], [.inl 1, .inr (.inr 86)], (am_sh, am_mm U))) 2 (fun _ => rfl) ?_
      obtain ⟨U31, h22c, h22a⟩ := h22
      refine ev_cal (σc := (d, 329, 0, [some (.inr (.inr 86)), some (.inl 1)], [], (am_sh, am_mm U))) (fun _ => rfl) h22c ?_
      show Ev (am_kz N X) ((d + 1), 310, 439, [some (.inr (.inr 86)), some (.inl x1), some (.inl x2), some (.inl x3), none], [], (am_sh, am_mm U31)) R
      exact h22a
set_option maxRecDepth 8000 in
theorem st310_86_327 (N : Nat) (X : Nat → Int) (d : Nat) (x1 x2 x3 : Int) (U : Nat → Nat → Int) (R : Option am_V × am_M) (h : ((((U 86 8) ≤ 0 : Prop)) → ∃ (r1 : Int) (U1 : Nat → Nat → Int), Ev (am_kz N X) (d, 187, 0, [some (.inr (.inr 86)), some (.inr (.inl 6385252)), none], [], (am_sh, am_mm U)) (some (.inl r1), (am_sh, am_mm U1)) ∧ (((r1 = 0 : Prop)) → Ev (am_kz N X) ((d + 1), 310, 356, [some (.inr (.inr 86)), some (.inl x1), some (.inl x2), some (.inl x3), some (.inl r1)], [.inl 1, .inr (.inr 86)], (am_sh, am_mm U1)) R) ∧ (¬ (r1 = 0) → Ev (am_kz N X) ((d + 1), 310, 356, [some (.inr (.inr 86)), some (.inl x1), some (.inl x2), some (.inl x3), some (.inl r1)], [.inl 2, .inr (.inr 86)], (am_sh, am_mm U1)) R)) ∧ (¬ ((U 86 8) ≤ 0) → R = (some (.inl 0), (am_sh, am_mm U)))) : Ev (am_kz N X) ((d + 1), 310, 327, [some (.inr (.inr 86)), some (.inl x1), some (.inl x2), some (.inl x3), none], [], (am_sh, am_mm U)) R := by
  refine ev_br (P := (U 86 8) ≤ 0) (σ1 := ((d + 1), 310, 336, [some (.inr (.inr 86)), some (.inl x1), some (.inl x2), some (.inl x3), none], [], (am_sh, am_mm U))) (σ2 := ((d + 1), 310, 334, [some (.inr (.inr 86)), some (.inl x1), some (.inl x2), some (.inl x3), none], [], (am_sh, am_mm U))) 3 (fun _ => rfl) (fun hc => ?_) (fun hc => ?_)
  · have h1 := h.1 hc
    refine ev_seg (σ1 := ((d + 1), 310, 340, [some (.inr (.inr 86)), some (.inl x1), some (.inl x2), some (.inl x3), none], [.inr (.inl 6385252), .inr (.inr 86)], (am_sh, am_mm U))) 2 (fun _ => rfl) ?_
    obtain ⟨r1, U1, h1c, h1a⟩ := h1
    refine ev_cal (σc := (d, 187, 0, [some (.inr (.inr 86)), some (.inr (.inl 6385252)), none], [], (am_sh, am_mm U))) (fun _ => rfl) h1c ?_
    show Ev (am_kz N X) ((d + 1), 310, 343, [some (.inr (.inr 86)), some (.inl x1), some (.inl x2), some (.inl x3), none], [.inl r1], (am_sh, am_mm U1)) R
    refine ev_br (P := r1 = 0) (σ1 := ((d + 1), 310, 355, [some (.inr (.inr 86)), some (.inl x1), some (.inl x2), some (.inl x3), some (.inl r1)], [.inr (.inr 86)], (am_sh, am_mm U1))) (σ2 := ((d + 1), 310, 351, [some (.inr (.inr 86)), some (.inl x1), some (.inl x2), some (.inl x3), some (.inl r1)], [.inr (.inr 86)], (am_sh, am_mm U1))) 4 (fun _ => rfl) (fun hc => ?_) (fun hc => ?_)
    · have h1a1 := h1a.1 hc
      refine ev_seg (σ1 := ((d + 1), 310, 356, [some (.inr (.inr 86)), some (.inl x1), some (.inl x2), some (.inl x3), some (.inl r1)], [.inl 1, .inr (.inr 86)], (am_sh, am_mm U1))) 1 (fun _ => rfl) ?_
      exact h1a1
    · have h1a2 := h1a.2 hc
      refine ev_seg (σ1 := ((d + 1), 310, 356, [some (.inr (.inr 86)), some (.inl x1), some (.inl x2), some (.inl x3), some (.inl r1)], [.inl 2, .inr (.inr 86)], (am_sh, am_mm U1))) 2 (fun _ => rfl) ?_
      exact h1a2
  · have h2 := h.2 hc
    subst h2
    exact ev_end 2 (fun _ => rfl)
set_option maxRecDepth 8000 in
theorem st310_86_464 (N : Nat) (X : Nat → Int) (d : Nat) (x1 x2 x3 : Int) (U : Nat → Nat → Int) (R : Option am_V × am_M) (h : ((((U 86 8) ≤ 0 : Prop)) → ∃ U1 : Nat → Nat → Int, Ev (am_kz N X) (d, 329, 0, [some (.inr (.inr 86)), some (.inl 1)], [], (am_sh, am_mm U)) (none, (am_sh, am_mm U1)) ∧ (0 ≤ x1 ∧ x1 < 20) ∧ ∃ U2 : Nat → Nat → Int, Ev (am_kz N X) (d, 93, 0, [some (.inr (.inr 86)), none, none, none, none, none], [], (am_sh, am_mm (am_upd U1 113 x1.toNat 4))) (none, (am_sh, am_mm U2)) ∧ R = (some (.inl 1), (am_sh, am_mm (am_upd U2 86 50 0)))) ∧ (¬ ((U 86 8) ≤ 0) → R = (some (.inl 0), (am_sh, am_mm U)))) : Ev (am_kz N X) ((d + 1), 310, 464, [some (.inr (.inr 86)), some (.inl x1), some (.inl x2), some (.inl x3), none], [], (am_sh, am_mm U)) R := by
  refine ev_br (P := (U 86 8) ≤ 0) (σ1 := ((d + 1), 310, 473, [some (.inr (.inr 86)), some (.inl x1), some (.inl x2), some (.inl x3), none], [], (am_sh, am_mm U))) (σ2 := ((d + 1), 310, 471, [some (.inr (.inr 86)), some (.inl x1), some (.inl x2), some (.inl x3), none], [], (am_sh, am_mm U))) 3 (fun _ => rfl) (fun hc => ?_) (fun hc => ?_)
  · have h1 := h.1 hc
    refine ev_seg (σ1 := ((d + 1), 310, 475, [some (.inr (.inr 86)), some (.inl x1), some (.inl x2), some (.inl x3), none], [.inl 1, .inr (.inr 86)], (am_sh, am_mm U))) 2 (fun _ => rfl) ?_
    obtain ⟨U1, h1c, h1a⟩ := h1
    refine ev_cal (σc := (d, 329, 0, [some (.inr (.inr 86)), some (.inl 1)], [], (am_sh, am_mm U))) (fun _ => rfl) h1c ?_
    show Ev (am_kz N X) ((d + 1), 310, 478, [some (.inr (.inr 86)), some (.inl x1), some (.inl x2), some (.inl x3), none], [], (am_sh, am_mm U1)) R
    refine ev_seg (σ1 := ((d + 1), 310, 484, [some (.inr (.inr 86)), some (.inl x1), some (.inl x2), some (.inl x3), none], [.inl 4, .inl x1, .inr (.inr 113)], (am_sh, am_mm U1))) 4 (fun _ => rfl) ?_
    refine eu_iast 113 (n := 20) rfl (by decide) rfl (fun _ => rfl) h1a.1 ?_
    have h1aa := h1a.2
    refine ev_seg (σ1 := ((d + 1), 310, 486, [some (.inr (.inr 86)), some (.inl x1), some (.inl x2), some (.inl x3), none], [.inr (.inr 86)], (am_sh, am_mm (am_upd U1 113 x1.toNat 4)))) 1 (fun _ => rfl) ?_
    obtain ⟨U2, h1aac, h1aaa⟩ := h1aa
    refine ev_cal (σc := (d, 93, 0, [some (.inr (.inr 86)), none, none, none, none, none], [], (am_sh, am_mm (am_upd U1 113 x1.toNat 4)))) (fun _ => rfl) h1aac ?_
    show Ev (am_kz N X) ((d + 1), 310, 489, [some (.inr (.inr 86)), some (.inl x1), some (.inl x2), some (.inl x3), none], [], (am_sh, am_mm U2)) R
    refine ev_seg (σ1 := ((d + 1), 310, 491, [some (.inr (.inr 86)), some (.inl x1), some (.inl x2), some (.inl x3), none], [.inl 0, .inr (.inr 86)], (am_sh, am_mm U2))) 2 (fun _ => rfl) ?_
    refine eu_putz 86 (n := 90) rfl (by decide) rfl rfl (by decide) ?_
    subst h1aaa
    exact ev_end 2 (fun _ => rfl)
  · have h2 := h.2 hc
    subst h2
    exact ev_end 2 (fun _ => rfl)
set_option maxRecDepth 8000 in
theorem st310_86_439 (N : Nat) (X : Nat → Int) (d : Nat) (x1 x2 x3 : Int) (U : Nat → Nat → Int) (R : Option am_V × am_M) (h : R = (some (.inl 0), (am_sh, am_mm U))) : Ev (am_kz N X) ((d + 1), 310, 439, [some (.inr (.inr 86)), some (.inl x1), some (.inl x2), some (.inl x3), none], [], (am_sh, am_mm U)) R := by
  subst h
  exact ev_end 2 (fun _ => rfl)
set_option maxRecDepth 8000 in
theorem st310_86_356 (N : Nat) (X : Nat → Int) (d : Nat) (x1 x2 x3 x4 s1 : Int) (U : Nat → Nat → Int) (R : Option am_V × am_M) (h : ∃ U1 : Nat → Nat → Int, Ev (am_kz N X) (d, 329, 0, [some (.inr (.inr 86)), some (.inl s1)], [], (am_sh, am_mm U)) (none, (am_sh, am_mm U1)) ∧ (((x4 = 0 : Prop)) → Ev (am_kz N X) ((d + 1), 310, 372, [some (.inr (.inr 86)), some (.inl x1), some (.inl x2), some (.inl x3), some (.inl x4)], [.inl 21, .inr (.inr 86)], (am_sh, am_mm U1)) R) ∧ (¬ (x4 = 0) → Ev (am_kz N X) ((d + 1), 310, 372, [some (.inr (.inr 86)), some (.inl x1), some (.inl x2), some (.inl x3), some (.inl x4)], [.inl 20, .inr (.inr 86)], (am_sh, am_mm U1)) R)) : Ev (am_kz N X) ((d + 1), 310, 356, [some (.inr (.inr 86)), some (.inl x1), some (.inl x2), some (.inl x3), some (.inl x4)], [.inl s1, .inr (.inr 86)], (am_sh, am_mm U)) R := by
  obtain ⟨U1, hc, ha⟩ := h
  refine ev_cal (σc := (d, 329, 0, [some (.inr (.inr 86)), some (.inl s1)], [], (am_sh, am_mm U))) (fun _ => rfl) hc ?_
  show Ev (am_kz N X) ((d + 1), 310, 359, [some (.inr (.inr 86)), some (.inl x1), some (.inl x2), some (.inl x3), some (.inl x4)], [], (am_sh, am_mm U1)) R
  refine ev_br (P := x4 = 0) (σ1 := ((d + 1), 310, 370, [some (.inr (.inr 86)), some (.inl x1), some (.inl x2), some (.inl x3), some (.inl x4)], [.inr (.inr 86)], (am_sh, am_mm U1))) (σ2 := ((d + 1), 310, 365, [some (.inr (.inr 86)), some (.inl x1), some (.inl x2), some (.inl x3), some (.inl x4)], [.inr (.inr 86)], (am_sh, am_mm U1))) 3 (fun _ => rfl) (fun hc => ?_) (fun hc => ?_)
  · have ha1 := ha.1 hc
    refine ev_seg (σ1 := ((d + 1), 310, 372, [some (.inr (.inr 86)), some (.inl x1), some (.inl x2), some (.inl x3), some (.inl x4)], [.inl 21, .inr (.inr 86)], (am_sh, am_mm U1))) 1 (fun _ => rfl) ?_
    exact ha1
  · have ha2 := ha.2 hc
    refine ev_seg (σ1 := ((d + 1), 310, 372, [some (.inr (.inr 86)), some (.inl x1), some (.inl x2), some (.inl x3), some (.inl x4)], [.inl 20, .inr (.inr 86)], (am_sh, am_mm U1))) 2 (fun _ => rfl) ?_
    exact ha2
set_option maxRecDepth 8000 in
theorem st310_86_372 (N : Nat) (X : Nat → Int) (d : Nat) (x1 x2 x3 x4 s1 : Int) (U : Nat → Nat → Int) (R : Option am_V × am_M) (h : ∃ U1 : Nat → Nat → Int, Ev (am_kz N X) (d, 326, 0, [some (.inr (.inr 86)), some (.inl s1)], [], (am_sh, am_mm U)) (none, (am_sh, am_mm U1)) ∧ (0 ≤ x1 ∧ x1 < 20) ∧ (0 ≤ x1 ∧ x1 < 20) ∧ ∃ U2 : Nat → Nat → Int, Ev (am_kz N X) (d, 93, 0, [some (.inr (.inr 86)), none, none, none, none, none], [], (am_sh, am_mm (am_upd (am_upd U1 114 x1.toNat 0) 115 x1.toNat 1))) (none, (am_sh, am_mm U2)) ∧ R = (some (.inl 1), (am_sh, am_mm (am_upd U2 86 50 0)))) : Ev (am_kz N X) ((d + 1), 310, 372, [some (.inr (.inr 86)), some (.inl x1), some (.inl x2), some (.inl x3), some (.inl x4)], [.inl s1, .inr (.inr 86)], (am_sh, am_mm U)) R := by
  obtain ⟨U1, hc, ha⟩ := h
  refine ev_cal (σc := (d, 326, 0, [some (.inr (.inr 86)), some (.inl s1)], [], (am_sh, am_mm U))) (fun _ => rfl) hc ?_
  show Ev (am_kz N X) ((d + 1), 310, 375, [some (.inr (.inr 86)), some (.inl x1), some (.inl x2), some (.inl x3), some (.inl x4)], [], (am_sh, am_mm U1)) R
  refine ev_seg (σ1 := ((d + 1), 310, 381, [some (.inr (.inr 86)), some (.inl x1), some (.inl x2), some (.inl x3), some (.inl x4)], [.inl 0, .inl x1, .inr (.inr 114)], (am_sh, am_mm U1))) 4 (fun _ => rfl) ?_
  refine eu_iast 114 (n := 20) rfl (by decide) rfl (fun _ => rfl) ha.1 ?_
  have haa := ha.2
  refine ev_seg (σ1 := ((d + 1), 310, 388, [some (.inr (.inr 86)), some (.inl x1), some (.inl x2), some (.inl x3), some (.inl x4)], [.inl 1, .inl x1, .inr (.inr 115)], (am_sh, am_mm (am_upd U1 114 x1.toNat 0)))) 4 (fun _ => rfl) ?_
  refine eu_zast 115 (by decide) (n := 20) rfl (by decide) rfl (fun _ => rfl) haa.1 ?_
  have haaa := haa.2
  refine ev_seg (σ1 := ((d + 1), 310, 390, [some (.inr (.inr 86)), some (.inl x1), some (.inl x2), some (.inl x3), some (.inl x4)], [.inr (.inr 86)], (am_sh, am_mm (am_upd (am_upd U1 114 x1.toNat 0) 115 x1.toNat 1)))) 1 (fun _ => rfl) ?_
  obtain ⟨U2, haaac, haaaa⟩ := haaa
  refine ev_cal (σc := (d, 93, 0, [some (.inr (.inr 86)), none, none, none, none, none], [], (am_sh, am_mm (am_upd (am_upd U1 114 x1.toNat 0) 115 x1.toNat 1)))) (fun _ => rfl) haaac ?_
  show Ev (am_kz N X) ((d + 1), 310, 393, [some (.inr (.inr 86)), some (.inl x1), some (.inl x2), some (.inl x3), some (.inl x4)], [], (am_sh, am_mm U2)) R
  refine ev_seg (σ1 := ((d + 1), 310, 395, [some (.inr (.inr 86)), some (.inl x1), some (.inl x2), some (.inl x3), some (.inl x4)], [.inl 0, .inr (.inr 86)], (am_sh, am_mm U2))) 2 (fun _ => rfl) ?_
  refine eu_putz 86 (n := 90) rfl (by decide) rfl rfl (by decide) ?_
  subst haaaa
  exact ev_end 2 (fun _ => rfl)
