set_option maxRecDepth 8000 in
theorem st186_86_0 (N : Nat) (X : Nat → Int) (d : Nat) (U : Nat → Nat → Int) (R : Option am_V × am_M) (h : ((((U 86 12) = (-1) : Prop)) → R = (none, (am_sh, am_mm U))) ∧ (¬ ((U 86 12) = (-1)) → ∃ U1 : Nat → Nat → Int, Ev (am_kz N X) (d, 196, 0, [some (.inr (.inr 86)), some (.inl 1), some (.inl (U 86 12))], [], (am_sh, am_mm U)) (none, (am_sh, am_mm U1)) ∧ R = (none, (am_sh, am_mm U1)))) : Ev (am_kz N X) ((d + 1), 186, 0, [some (.inr (.inr 86))], [], (am_sh, am_mm U)) R := by
  refine ev_br (P := (U 86 12) = (-1)) (σ1 := ((d + 1), 186, 17, [some (.inr (.inr 86))], [], (am_sh, am_mm U))) (σ2 := ((d + 1), 186, 8, [some (.inr (.inr 86))], [], (am_sh, am_mm U))) 4 (fun _ => rfl) (fun hc => ?_) (fun hc => ?_)
  · have h1 := h.1 hc
    subst h1
    exact ev_end 1 (fun _ => rfl)
  · have h2 := h.2 hc
    refine ev_seg (σ1 := ((d + 1), 186, 14, [some (.inr (.inr 86))], [.inl (U 86 12), .inl 1, .inr (.inr 86)], (am_sh, am_mm U))) 4 (fun _ => rfl) ?_
    obtain ⟨U1, h2c, h2a⟩ := h2
    refine ev_cal (σc := (d, 196, 0, [some (.inr (.inr 86)), some (.inl 1), some (.inl (U 86 12))], [], (am_sh, am_mm U))) (fun _ => rfl) h2c ?_
    show Ev (am_kz N X) ((d + 1), 186, 17, [some (.inr (.inr 86))], [], (am_sh, am_mm U1)) R
    subst h2a
    exact ev_end 1 (fun _ => rfl)
set_option maxRecDepth 8000 in
theorem st187_86_0 (N : Nat) (X : Nat → Int) (d : Nat) (x1 : Int) (U : Nat → Nat → Int) (R : Option am_V × am_M) (h : (((¬ (U 86 3) = 1 : Prop)) → R = (some (.inl 0), (am_sh, am_mm U))) ∧ (¬ (¬ (U 86 3) = 1) → (((¬ (am_lcmp (U 86 7) x1) = 0 : Prop)) → R = (some (.inl 0), (am_sh, am_mm U))) ∧ (¬ (¬ (am_lcmp (U 86 7) x1) = 0) → R = (some (.inl 1), (am_sh, am_mm U))))) : Ev (am_kz N X) (d, 187, 0, [some (.inr (.inr 86)), some (.inr (.inl x1)), none], [], (am_sh, am_mm U)) R := by
  refine ev_br (P := ¬ (U 86 3) = 1) (σ1 := (d, 187, 21, [some (.inr (.inr 86)), some (.inr (.inl x1)), none], [], (am_sh, am_mm U))) (σ2 := (d, 187, 8, [some (.inr (.inr 86)), some (.inr (.inl x1)), none], [], (am_sh, am_mm U))) 4 (fun _ => rfl) (fun hc => ?_) (fun hc => ?_)
  · have h1 := h.1 hc
    subst h1
    exact ev_end 2 (fun _ => rfl)
  · have h2 := h.2 hc
    refine ev_br (P := ¬ (am_lcmp (U 86 7) x1) = 0) (σ1 := (d, 187, 21, [some (.inr (.inr 86)), some (.inr (.inl x1)), none], [], (am_sh, am_mm U))) (σ2 := (d, 187, 17, [some (.inr (.inr 86)), some (.inr (.inl x1)), none], [], (am_sh, am_mm U))) 5 (fun _ => rfl) (fun hc => ?_) (fun hc => ?_)
    · have h21 := h2.1 hc
      subst h21
      exact ev_end 2 (fun _ => rfl)
    · have h22 := h2.2 hc
      subst h22
      exact ev_end 3 (fun _ => rfl)
set_option maxRecDepth 8000 in
theorem st189_86_0 (N : Nat) (X : Nat → Int) (d : Nat) (U : Nat → Nat → Int) (R : Option am_V × am_M) (h : (0 ≤ (U 86 40) ∧ (U 86 40) < 2) ∧ (((¬ (U 90 (U 86 40).toNat) = 12 : Prop)) → ∃ (r1 : Int) (U1 : Nat → Nat → Int), Ev (am_kz N X) (d, 264, 0, [some (.inr (.inr 86)), some (.inl 0)], [], (am_sh, am_mm U)) (some (.inl r1), (am_sh, am_mm U1)) ∧ (((¬ r1 = 0 : Prop)) → (0 ≤ (U1 86 40) ∧ (U1 86 40) < 2) ∧ ∃ (r2 : Int) (U2 : Nat → Nat → Int), Ev (am_kz N X) (d, 265, 0, [some (.inr (.inr 86)), none, none], [], (am_sh, am_mm U1)) (some (.inr (.inl r2)), (am_sh, am_mm U2)) ∧ (0 ≤ (w32 ((w32 (12 * (U1 86 40))) + (U1 90 (U1 86 40).toNat))) ∧ (w32 ((w32 (12 * (U1 86 40))) + (U1 90 (U1 86 40).toNat))) < 24) ∧ ∃ U3 : Nat → Nat → Int, Ev (am_kz N X) (d, 266, 0, [some (.inr (.inr 86)), some (.inr (.inl 28518)), none], [], (am_sh, am_mm (am_upd U2 91 (w32 ((w32 (12 * (U1 86 40))) + (U1 90 (U1 86 40).toNat))).toNat r2))) (none, (am_sh, am_mm U3)) ∧ ∃ (r4 : Int) (U4 : Nat → Nat → Int), Ev (am_kz N X) (d, 267, 0, [some (.inr (.inr 86)), some (.inl 0), none], [], (am_sh, am_mm U3)) (some (.inl r4), (am_sh, am_mm U4)) ∧ (0 ≤ (w32 ((w32 (12 * (U1 86 40))) + (U1 90 (U1 86 40).toNat))) ∧ (w32 ((w32 (12 * (U1 86 40))) + (U1 90 (U1 86 40).toNat))) < 24) ∧ ∃ U5 : Nat → Nat → Int, Ev (am_kz N X) (d, 266, 0, [some (.inr (.inr 86)), some (.inr (.inl 491495845235)), none], [], (am_sh, am_mm (am_upd U4 92 (w32 ((w32 (12 * (U1 86 40))) + (U1 90 (U1 86 40).toNat))).toNat r4))) (none, (am_sh, am_mm U5)) ∧ ∃ (r6 : Int) (U6 : Nat → Nat → Int), Ev (am_kz N X) (d, 268, 0, [some (.inr (.inr 86)), some (.inl 1), some (.inl 6), none], [], (am_sh, am_mm U5)) (some (.inl r6), (am_sh, am_mm U6)) ∧ (0 ≤ (w32 ((w32 (12 * (U1 86 40))) + (U1 90 (U1 86 40).toNat))) ∧ (w32 ((w32 (12 * (U1 86 40))) + (U1 90 (U1 86 40).toNat))) < 24) ∧ (((¬ ((am_upd U6 93 (w32 ((w32 (12 * (U1 86 40))) + (U1 90 (U1 86 40).toNat))).toNat r6) 86 8) = 0 : Prop)) → R = (none, (am_sh, am_mm (am_upd U6 93 (w32 ((w32 (12 * (U1 86 40))) + (U1 90 (U1 86 40).toNat))).toNat r6)))) ∧ (¬ (¬ ((am_upd U6 93 (w32 ((w32 (12 * (U1 86 40))) + (U1 90 (U1 86 40).toNat))).toNat r6) 86 8) = 0) → (0 ≤ ((am_upd U6 93 (w32 ((w32 (12 * (U1 86 40))) + (U1 90 (U1 86 40).toNat))).toNat r6) 86 40) ∧ ((am_upd U6 93 (w32 ((w32 (12 * (U1 86 40))) + (U1 90 (U1 86 40).toNat))).toNat r6) 86 40) < 2) ∧ (0 ≤ ((am_upd U6 93 (w32 ((w32 (12 * (U1 86 40))) + (U1 90 (U1 86 40).toNat))).toNat r6) 86 40) ∧ ((am_upd U6 93 (w32 ((w32 (12 * (U1 86 40))) + (U1 90 (U1 86 40).toNat))).toNat r6) 86 40) < 2) ∧ R = (none, (am_sh, am_mm (am_upd (am_upd U6 93 (w32 ((w32 (12 * (U1 86 40))) + (U1 90 (U1 86 40).toNat))).toNat r6) 90 ((am_upd U6 93 (w32 ((w32 (12 * (U1 86 40))) + (U1 90 (U1 86 40).toNat))).toNat r6) 86 40).toNat (w32 (((am_upd U6 93 (w32 ((w32 (12 * (U1 86 40))) + (U1 90 (U1 86 40).toNat))).toNat r6) 90 ((am_upd U6 93 (w32 ((w32 (12 * (U1 86 40))) + (U1 90 (U1 86 40).toNat))).toNat r6) 86 40).toNat) + 1))))))) ∧ (¬ (¬ r1 = 0) → R = (none, (am_sh, am_mm U1)))) ∧ (¬ (¬ (U 90 (U 86 40).toNat) = 12) → ∃ (r7 : Int) (U7 : Nat → Nat → Int), Ev (am_kz N X) (d, 264, 0, [some (.inr (.inr 86)), some (.inl 1)], [], (am_sh, am_mm U)) (some (.inl r7), (am_sh, am_mm U7)) ∧ (((¬ r7 = 0 : Prop)) → (0 ≤ (U7 86 40) ∧ (U7 86 40) < 2) ∧ ∃ (r8 : Int) (U8 : Nat → Nat → Int), Ev (am_kz N X) (d, 265, 0, [some (.inr (.inr 86)), none, none], [], (am_sh, am_mm U7)) (some (.inr (.inl r8)), (am_sh, am_mm U8)) ∧ (0 ≤ (w32 ((w32 (12 * (U7 86 40))) + (U7 90 (U7 86 40).toNat))) ∧ (w32 ((w32 (12 * (U7 86 40))) + (U7 90 (U7 86 40).toNat))) < 24) ∧ ∃ U9 : Nat → Nat → Int, Ev (am_kz N X) (d, 266, 0, [some (.inr (.inr 86)), some (.inr (.inl 28518)), none], [], (am_sh, am_mm (am_upd U8 91 (w32 ((w32 (12 * (U7 86 40))) + (U7 90 (U7 86 40).toNat))).toNat r8))) (none, (am_sh, am_mm U9)) ∧ ∃ (r10 : Int) (U10 : Nat → Nat → Int), Ev (am_kz N X) (d, 267, 0, [some (.inr (.inr 86)), some (.inl 0), none], [], (am_sh, am_mm U9)) (some (.inl r10), (am_sh, am_mm U10)) ∧ (0 ≤ (w32 ((w32 (12 * (U7 86 40))) + (U7 90 (U7 86 40).toNat))) ∧ (w32 ((w32 (12 * (U7 86 40))) + (U7 90 (U7 86 40).toNat))) < 24) ∧ ∃ U11 : Nat → Nat → Int, Ev (am_kz N X) (d, 266, 0, [some (.inr (.inr 86)), some (.inr (.inl 491495845235)), none], [], (am_sh, am_mm (am_upd U10 92 (w32 ((w32 (12 * (U7 86 40))) + (U7 90 (U7 86 40).toNat))).toNat r10))) (none, (am_sh, am_mm U11)) ∧ ∃ (r12 : Int) (U12 : Nat → Nat → Int), Ev (am_kz N X) (d, 268, 0, [some (.inr (.inr 86)), some (.inl 1), some (.inl 6), none], [], (am_sh, am_mm U11)) (some (.inl r12), (am_sh, am_mm U12)) ∧ (0 ≤ (w32 ((w32 (12 * (U7 86 40))) + (U7 90 (U7 86 40).toNat))) ∧ (w32 ((w32 (12 * (U7 86 40))) + (U7 90 (U7 86 40).toNat))) < 24) ∧ (((¬ ((am_upd U12 93 (w32 ((w32 (12 * (U7 86 40))) + (U7 90 (U7 86 40).toNat))).toNat r12) 86 8) = 0 : Prop)) → R = (none, (am_sh, am_mm (am_upd U12 93 (w32 ((w32 (12 * (U7 86 40))) + (U7 90 (U7 86 40).toNat))).toNat r12)))) ∧ (¬ (¬ ((am_upd U12 93 (w32 ((w32 (12 * (U7 86 40))) + (U7 90 (U7 86 40).toNat))).toNat r12) 86 8) = 0) → (0 ≤ ((am_upd U12 93 (w32 ((w32 (12 * (U7 86 40))) + (U7 90 (U7 86 40).toNat))).toNat r12) 86 40) ∧ ((am_upd U12 93 (w32 ((w32 (12 * (U7 86 40))) + (U7 90 (U7 86 40).toNat))).toNat r12) 86 40) < 2) ∧ (0 ≤ ((am_upd U12 93 (w32 ((w32 (12 * (U7 86 40))) + (U7 90 (U7 86 40).toNat))).toNat r12) 86 40) ∧ ((am_upd U12 93 (w32 ((w32 (12 * (U7 86 40))) + (U7 90 (U7 86 40).toNat))).toNat r12) 86 40) < 2) ∧ R = (none, (am_sh, am_mm (am_upd (am_upd U12 93 (w32 ((w32 (12 * (U7 86 40))) + (U7 90 (U7 86 40).toNat))).toNat r12) 90 ((am_upd U12 93 (w32 ((w32 (12 * (U7 86 40))) + (U7 90 (U7 86 40).toNat))).toNat r12) 86 40).toNat (w32 (((am_upd U12 93 (w32 ((w32 (12 * (U7 86 40))) + (U7 90 (U7 86 40).toNat))).toNat r12) 90 ((am_upd U12 93 (w32 ((w32 (12 * (U7 86 40))) + (U7 90 (U7 86 40).toNat))).toNat r12) 86 40).toNat) + 1))))))) ∧ (¬ (¬ r7 = 0) → R = (none, (am_sh, am_mm U7))))) : Ev (am_kz N X) ((d + 1), 189, 0, [some (.inr (.inr 86)), none], [], (am_sh, am_mm U)) R := by
  refine ev_seg (σ1 := ((d + 1), 189, 9, [some (.inr (.inr 86)), none], [.inl (U 86 40), .inr (.inr 90), .inr (.inr 86)], (am_sh, am_mm U))) 5 (fun _ => rfl) ?_
  refine eu_iald 90 (n := 2) rfl (by decide) rfl (fun _ => rfl) h.1 ?_
  have ha := h.2
  refine ev_br (P := ¬ (U 90 (U 86 40).toNat) = 12) (σ1 := ((d + 1), 189, 19, [some (.inr (.inr 86)), none], [.inr (.inr 86)], (am_sh, am_mm U))) (σ2 := ((d + 1), 189, 15, [some (.inr (.inr 86)), none], [.inr (.inr 86)], (am_sh, am_mm U))) 2 (fun _ => rfl) (fun hc => ?_) (fun hc => ?_)
  · have ha1 := ha.1 hc
    refine ev_seg (σ1 := ((d + 1), 189, 20, [some (.inr (.inr 86)), none], [.inl 0, .inr (.inr 86)], (am_sh, am_mm U))) 1 (fun _ => rfl) ?_
    obtain ⟨r1, U1, ha1c, ha1a⟩ := ha1
    refine ev_cal (σc := (d, 264, 0, [some (.inr (.inr 86)), some (.inl 0)], [], (am_sh, am_mm U))) (fun _ => rfl) ha1c ?_
    show Ev (am_kz N X) ((d + 1), 189, 23, [some (.inr (.inr 86)), none], [.inl r1], (am_sh, am_mm U1)) R
    refine ev_br (P := ¬ r1 = 0) (σ1 := ((d + 1), 189, 27, [some (.inr (.inr 86)), none], [], (am_sh, am_mm U1))) (σ2 := ((d + 1), 189, 26, [some (.inr (.inr 86)), none], [], (am_sh, am_mm U1))) 1 (fun _ => rfl) (fun hc => ?_) (fun hc => ?_)
    · have ha1a1 := ha1a.1 hc
      refine ev_seg (σ1 := ((d + 1), 189, 42, [some (.inr (.inr 86)), none], [.inl (U1 86 40), .inr (.inr 90), .inl (w32 (12 * (U1 86 40)))], (am_sh, am_mm U1))) 8 (fun _ => rfl) ?_
      refine eu_iald 90 (n := 2) rfl (by decide) rfl (fun _ => rfl) ha1a1.1 ?_
      have ha1a1a := ha1a1.2
      refine ev_seg (σ1 := ((d + 1), 189, 51, [some (.inr (.inr 86)), some (.inl (w32 ((w32 (12 * (U1 86 40))) + (U1 90 (U1 86 40).toNat))))], [.inr (.inr 86), .inl (w32 ((w32 (12 * (U1 86 40))) + (U1 90 (U1 86 40).toNat))), .inr (.inr 91)], (am_sh, am_mm U1))) 6 (fun _ => rfl) ?_
      obtain ⟨r2, U2, ha1a1ac, ha1a1aa⟩ := ha1a1a
      refine ev_cal (σc := (d, 265, 0, [some (.inr (.inr 86)), none, none], [], (am_sh, am_mm U1))) (fun _ => rfl) ha1a1ac ?_
      show Ev (am_kz N X) ((d + 1), 189, 54, [some (.inr (.inr 86)), some (.inl (w32 ((w32 (12 * (U1 86 40))) + (U1 90 (U1 86 40).toNat))))], [.inr (.inl r2), .inl (w32 ((w32 (12 * (U1 86 40))) + (U1 90 (U1 86 40).toNat))), .inr (.inr 91)], (am_sh, am_mm U2)) R
      refine eu_last 91 (n := 24) rfl (by decide) rfl (fun _ => rfl) ha1a1aa.1 ?_
      have ha1a1aaa := ha1a1aa.2
      refine ev_seg (σ1 := ((d + 1), 189, 59, [some (.inr (.inr 86)), some (.inl (w32 ((w32 (12 * (U1 86 40))) + (U1 90 (U1 86 40).toNat))))], [.inr (.inl 28518), .inr (.inr 86)], (am_sh, am_mm (am_upd U2 91 (w32 ((w32 (12 * (U1 86 40))) + (U1 90 (U1 86 40).toNat))).toNat r2)))) 2 (fun _ => rfl) ?_
      obtain ⟨U3, ha1a1aaac, ha1a1aaaa⟩ := ha1a1aaa
      refine ev_cal (σc := (d, 266, 0, [some (.inr (.inr 86)), some (.inr (.inl 28518)), none], [], (am_sh, am_mm (am_upd U2 91 (w32 ((w32 (12 * (U1 86 40))) + (U1 90 (U1 86 40).toNat))).toNat r2)))) (fun _ => rfl) ha1a1aaac ?_
      show Ev (am_kz N X) ((d + 1), 189, 62, [some (.inr (.inr 86)), some (.inl (w32 ((w32 (12 * (U1 86 40))) + (U1 90 (U1 86 40).toNat))))], [], (am_sh, am_mm U3)) R
      refine ev_seg (σ1 := ((d + 1), 189, 69, [some (.inr (.inr 86)), some (.inl (w32 ((w32 (12 * (U1 86 40))) + (U1 90 (U1 86 40).toNat))))], [.inl 0, .inr (.inr 86), .inl (w32 ((w32 (12 * (U1 86 40))) + (U1 90 (U1 86 40).toNat))), .inr (.inr 92)], (am_sh, am_mm U3))) 5 (fun _ => rfl) ?_
      obtain ⟨r4, U4, ha1a1aaaac, ha1a1aaaaa⟩ := ha1a1aaaa
      refine ev_cal (σc := (d, 267, 0, [some (.inr (.inr 86)), some (.inl 0), none], [], (am_sh, am_mm U3))) (fun _ => rfl) ha1a1aaaac ?_
      show Ev (am_kz N X) ((d + 1), 189, 72, [some (.inr (.inr 86)), some (.inl (w32 ((w32 (12 * (U1 86 40))) + (U1 90 (U1 86 40).toNat))))], [.inl r4, .inl (w32 ((w32 (12 * (U1 86 40))) + (U1 90 (U1 86 40).toNat))), .inr (.inr 92)], (am_sh, am_mm U4)) R
      refine eu_iast 92 (n := 24) rfl (by decide) rfl (fun _ => rfl) ha1a1aaaaa.1 ?_
      have ha1a1aaaaaa := ha1a1aaaaa.2
      refine ev_seg (σ1 := ((d + 1), 189, 77, [some (.inr (.inr 86)), some (.inl (w32 ((w32 (12 * (U1 86 40))) + (U1 90 (U1 86 40).toNat))))], [.inr (.inl 491495845235), .inr (.inr 86)], (am_sh, am_mm (am_upd U4 92 (w32 ((w32 (12 * (U1 86 40))) + (U1 90 (U1 86 40).toNat))).toNat r4)))) 2 (fun _ => rfl) ?_
      obtain ⟨U5, ha1a1aaaaaac, ha1a1aaaaaaa⟩ := ha1a1aaaaaa
      refine ev_cal (σc := (d, 266, 0, [some (.inr (.inr 86)), some (.inr (.inl 491495845235)), none], [], (am_sh, am_mm (am_upd U4 92 (w32 ((w32 (12 * (U1 86 40))) + (U1 90 (U1 86 40).toNat))).toNat r4)))) (fun _ => rfl) ha1a1aaaaaac ?_
      show Ev (am_kz N X) ((d + 1), 189, 80, [some (.inr (.inr 86)), some (.inl (w32 ((w32 (12 * (U1 86 40))) + (U1 90 (U1 86 40).toNat))))], [], (am_sh, am_mm U5)) R
      refine ev_seg (σ1 := ((d + 1), 189, 89, [some (.inr (.inr 86)), some (.inl (w32 ((w32 (12 * (U1 86 40))) + (U1 90 (U1 86 40).toNat))))], [.inl 6, .inl 1, .inr (.inr 86), .inl (w32 ((w32 (12 * (U1 86 40))) + (U1 90 (U1 86 40).toNat))), .inr (.inr 93)], (am_sh, am_mm U5))) 6 (fun _ => rfl) ?_
      obtain ⟨r6, U6, ha1a1aaaaaaac, ha1a1aaaaaaaa⟩ := ha1a1aaaaaaa
      refine ev_cal (σc := (d, 268, 0, [some (.inr (.inr 86)), some (.inl 1), some (.inl 6), none], [], (am_sh, am_mm U5))) (fun _ => rfl) ha1a1aaaaaaac ?_
      show Ev (am_kz N X) ((d + 1), 189, 92, [some (.inr (.inr 86)), some (.inl (w32 ((w32 (12 * (U1 86 40))) + (U1 90 (U1 86 40).toNat))))], [.inl r6, .inl (w32 ((w32 (12 * (U1 86 40))) + (U1 90 (U1 86 40).toNat))), .inr (.inr 93)], (am_sh, am_mm U6)) R
      refine eu_iast 93 (n := 24) rfl (by decide) rfl (fun _ => rfl) ha1a1aaaaaaaa.1 ?_
      have ha1a1aaaaaaaaa := ha1a1aaaaaaaa.2
      refine ev_br (P := ¬ ((am_upd U6 93 (w32 ((w32 (12 * (U1 86 40))) + (U1 90 (U1 86 40).toNat))).toNat r6) 86 8) = 0) (σ1 := ((d + 1), 189, 113, [some (.inr (.inr 86)), some (.inl (w32 ((w32 (12 * (U1 86 40))) + (U1 90 (U1 86 40).toNat))))], [], (am_sh, am_mm (am_upd U6 93 (w32 ((w32 (12 * (U1 86 40))) + (U1 90 (U1 86 40).toNat))).toNat r6)))) (σ2 := ((d + 1), 189, 100, [some (.inr (.inr 86)), some (.inl (w32 ((w32 (12 * (U1 86 40))) + (U1 90 (U1 86 40).toNat))))], [], (am_sh, am_mm (am_upd U6 93 (w32 ((w32 (12 * (U1 86 40))) + (U1 90 (U1 86 40).toNat))).toNat r6)))) 3 (fun _ => rfl) (fun hc => ?_) (fun hc => ?_)
      · have ha1a1aaaaaaaaa1 := ha1a1aaaaaaaaa.1 hc
        subst ha1a1aaaaaaaaa1
        exact ev_end 1 (fun _ => rfl)
      · have ha1a1aaaaaaaaa2 := ha1a1aaaaaaaaa.2 hc
        refine ev_seg (σ1 := ((d + 1), 189, 109, [some (.inr (.inr 86)), some (.inl (w32 ((w32 (12 * (U1 86 40))) + (U1 90 (U1 86 40).toNat))))], [.inl ((am_upd U6 93 (w32 ((w32 (12 * (U1 86 40))) + (U1 90 (U1 86 40).toNat))).toNat r6) 86 40), .inr (.inr 90), .inl ((am_upd U6 93 (w32 ((w32 (12 * (U1 86 40))) + (U1 90 (U1 86 40).toNat))).toNat r6) 86 40), .inr (.inr 90)], (am_sh, am_mm (am_upd U6 93 (w32 ((w32 (12 * (U1 86 40))) + (U1 90 (U1 86 40).toNat))).toNat r6)))) 5 (fun _ => rfl) ?_
        refine eu_iald 90 (n := 2) rfl (by decide) rfl (fun _ => rfl) ha1a1aaaaaaaaa2.1 ?_
        have ha1a1aaaaaaaaa2a := ha1a1aaaaaaaaa2.2
        refine ev_seg (σ1 := ((d + 1), 189, 112, [some (.inr (.inr 86)), some (.inl (w32 ((w32 (12 * (U1 86 40))) + (U1 90 (U1 86 40).toNat))))], [.inl (w32 (((am_upd U6 93 (w32 ((w32 (12 * (U1 86 40))) + (U1 90 (U1 86 40).toNat))).toNat r6) 90 ((am_upd U6 93 (w32 ((w32 (12 * (U1 86 40))) + (U1 90 (U1 86 40).toNat))).toNat r6) 86 40).toNat) + 1)), .inl ((am_upd U6 93 (w32 ((w32 (12 * (U1 86 40))) + (U1 90 (U1 86 40).toNat))).toNat r6) 86 40), .inr (.inr 90)], (am_sh, am_mm (am_upd U6 93 (w32 ((w32 (12 * (U1 86 40))) + (U1 90 (U1 86 40).toNat))).toNat r6)))) 2 (fun _ => rfl) ?_
        refine eu_iast 90 (n := 2) rfl (by decide) rfl (fun _ => rfl) ha1a1aaaaaaaaa2a.1 ?_
        have ha1a1aaaaaaaaa2aa := ha1a1aaaaaaaaa2a.2
        subst ha1a1aaaaaaaaa2aa
        exact ev_end 1 (fun _ => rfl)
    · have ha1a2 := ha1a.2 hc
      subst ha1a2
      exact ev_end 1 (fun _ => rfl)
  · have ha2 := ha.2 hc
    refine ev_seg (σ1 := ((d + 1), 189, 20, [some (.inr (.inr 86)), none], [.inl 1, .inr (.inr 86)], (am_sh, am_mm U))) 2 (fun _ => rfl) ?_
    obtain ⟨r7, U7, ha2c, ha2a⟩ := ha2
    refine ev_cal (σc := (d, 264, 0, [some (.inr (.inr 86)), some (.inl 1)], [], (am_sh, am_mm U))) (fun _ => rfl) ha2c ?_
    show Ev (am_kz N X) ((d + 1), 189, 23, [some (.inr (.inr 86)), none], [.inl r7], (am_sh, am_mm U7)) R
    refine ev_br (P := ¬ r7 = 0) (σ1 := ((d + 1), 189, 27, [some (.inr (.inr 86)), none], [], (am_sh, am_mm U7))) (σ2 := ((d + 1), 189, 26, [some (.inr (.inr 86)), none], [], (am_sh, am_mm U7))) 1 (fun _ => rfl) (fun hc => ?_) (fun hc => ?_)
    · have ha2a1 := ha2a.1 hc
      refine ev_seg (σ1 := ((d + 1), 189, 42, [some (.inr (.inr 86)), none], [.inl (U7 86 40), .inr (.inr 90), .inl (w32 (12 * (U7 86 40)))], (am_sh, am_mm U7))) 8 (fun _ => rfl) ?_
      refine eu_iald 90 (n := 2) rfl (by decide) rfl (fun _ => rfl) ha2a1.1 ?_
      have ha2a1a := ha2a1.2
      refine ev_seg (σ1 := ((d + 1), 189, 51, [some (.inr (.inr 86)), some (.inl (w32 ((w32 (12 * (U7 86 40))) + (U7 90 (U7 86 40).toNat))))], [.inr (.inr 86), .inl (w32 ((w32 (12 * (U7 86 40))) + (U7 90 (U7 86 40).toNat))), .inr (.inr 91)], (am_sh, am_mm U7))) 6 (fun _ => rfl) ?_
      obtain ⟨r8, U8, ha2a1ac, ha2a1aa⟩ := ha2a1a
      refine ev_cal (σc := (d, 265, 0, [some (.inr (.inr 86)), none, none], [], (am_sh, am_mm U7))) (fun _ => rfl) ha2a1ac ?_
      show Ev (am_kz N X) ((d + 1), 189, 54, [some (.inr (.inr 86)), some (.inl (w32 ((w32 (12 * (U7 86 40))) + (U7 90 (U7 86 40).toNat))))], [.inr (.inl r8), .inl (w32 ((w32 (12 * (U7 86 40))) + (U7 90 (U7 86 40).toNat))), .inr (.inr 91)], (am_sh, am_mm U8)) R
      refine eu_last 91 (n := 24) rfl (by decide) rfl (fun _ => rfl) ha2a1aa.1 ?_
      have ha2a1aaa := ha2a1aa.2
      refine ev_seg (σ1 := ((d + 1), 189, 59, [some (.inr (.inr 86)), some (.inl (w32 ((w32 (12 * (U7 86 40))) + (U7 90 (U7 86 40).toNat))))], [.inr (.inl 28518), .inr (.inr 86)], (am_sh, am_mm (am_upd U8 91 (w32 ((w32 (12 * (U7 86 40))) + (U7 90 (U7 86 40).toNat))).toNat r8)))) 2 (fun _ => rfl) ?_
      obtain ⟨U9, ha2a1aaac, ha2a1aaaa⟩ := ha2a1aaa
      refine ev_cal (σc := (d, 266, 0, [some (.inr (.inr 86)), some (.inr (.inl 28518)), none], [], (am_sh, am_mm (am_upd U8 91 (w32 ((w32 (12 * (U7 86 40))) + (U7 90 (U7 86 40).toNat))).toNat r8)))) (fun _ => rfl) ha2a1aaac ?_
      show Ev (am_kz N X) ((d + 1), 189, 62, [some (.inr (.inr 86)), some (.inl (w32 ((w32 (12 * (U7 86 40))) + (U7 90 (U7 86 40).toNat))))], [], (am_sh, am_mm U9)) R
      refine ev_seg (σ1 := ((d + 1), 189, 69, [some (.inr (.inr 86)), some (.inl (w32 ((w32 (12 * (U7 86 40))) + (U7 90 (U7 86 40).toNat))))], [.inl 0, .inr (.inr 86), .inl (w32 ((w32 (12 * (U7 86 40))) + (U7 90 (U7 86 40).toNat))), .inr (.inr 92)], (am_sh, am_mm U9))) 5 (fun _ => rfl) ?_
      obtain ⟨r10, U10, ha2a1aaaac, ha2a1aaaaa⟩ := ha2a1aaaa
      refine ev_cal (σc := (d, 267, 0, [some (.inr (.inr 86)), some (.inl 0), none], [], (am_sh, am_mm U9))) (fun _ => rfl) ha2a1aaaac ?_
      show Ev (am_kz N X) ((d + 1), 189, 72, [some (.inr (.inr 86)), some (.inl (w32 ((w32 (12 * (U7 86 40))) + (U7 90 (U7 86 40).toNat))))], [.inl r10, .inl (w32 ((w32 (12 * (U7 86 40))) + (U7 90 (U7 86 40).toNat))), .inr (.inr 92)], (am_sh, am_mm U10)) R
      refine eu_iast 92 (n := 24) rfl (by decide) rfl (fun _ => rfl) ha2a1aaaaa.1 ?_
      have ha2a1aaaaaa := ha2a1aaaaa.2
      refine ev_seg (σ1 := ((d + 1), 189, 77, [some (.inr (.inr 86)), some (.inl (w32 ((w32 (12 * (U7 86 40))) + (U7 90 (U7 86 40).toNat))))], [.inr (.inl 491495845235), .inr (.inr 86)], (am_sh, am_mm (am_upd U10 92 (w32 ((w32 (12 * (U7 86 40))) + (U7 90 (U7 86 40).toNat))).toNat r10)))) 2 (fun _ => rfl) ?_
      obtain ⟨U11, ha2a1aaaaaac, ha2a1aaaaaaa⟩ := ha2a1aaaaaa
      refine ev_cal (σc := (d, 266, 0, [some (.inr (.inr 86)), some (.inr (.inl 491495845235)), none], [], (am_sh, am_mm (am_upd U10 92 (w32 ((w32 (12 * (U7 86 40))) + (U7 90 (U7 86 40).toNat))).toNat r10)))) (fun _ => rfl) ha2a1aaaaaac ?_
      show Ev (am_kz N X) ((d + 1), 189, 80, [some (.inr (.inr 86)), some (.inl (w32 ((w32 (12 * (U7 86 40))) + (U7 90 (U7 86 40).toNat))))], [], (am_sh, am_mm U11)) R
      refine ev_seg (σ1 := ((d + 1), 189, 89, [some (.inr (.inr 86)), some (.inl (w32 ((w32 (12 * (U7 86 40))) + (U7 90 (U7 86 40).toNat))))], [.inl 6, .inl 1, .inr (.inr 86), .inl (w32 ((w32 (12 * (U7 86 40))) + (U7 90 (U7 86 40).toNat))), .inr (.inr 93)], (am_sh, am_mm U11))) 6 (fun _ => rfl) ?_
      obtain ⟨r12, U12, ha2a1aaaaaaac, ha2a1aaaaaaaa⟩ := ha2a1aaaaaaa
      refine ev_cal (σc := (d, 268, 0, [some (.inr (.inr 86)), some (.inl 1), some (.inl 6), none], [], (am_sh, am_mm U11))) (fun _ => rfl) ha2a1aaaaaaac ?_
      show Ev (am_kz N X) ((d + 1), 189, 92, [some (.inr (.inr 86)), some (.inl (w32 ((w32 (12 * (U7 86 40))) + (U7 90 (U7 86 40).toNat))))], [.inl r12, .inl (w32 ((w32 (12 * (U7 86 40))) + (U7 90 (U7 86 40).toNat))), .inr (.inr 93)], (am_sh, am_mm U12)) R
      refine eu_iast 93 (n := 24) rfl (by decide) rfl (fun _ => rfl) ha2a1aaaaaaaa.1 ?_
      have ha2a1aaaaaaaaa := ha2a1aaaaaaaa.2
      refine ev_br (P := ¬ ((am_upd U12 93 (w32 ((w32 (12 * (U7 86 40))) + (U7 90 (U7 86 40).toNat))).toNat r12) 86 8) = 0) (σ1 := ((d + 1), 189, 113, [some (.inr (.inr 86)), some (.inl (w32 ((w32 (12 * (U7 86 40))) + (U7 90 (U7 86 40).toNat))))], [], (am_sh, am_mm (am_upd U12 93 (w32 ((w32 (12 * (U7 86 40))) + (U7 90 (U7 86 40).toNat))).toNat r12)))) (σ2 := ((d + 1), 189, 100, [some (.inr (.inr 86)), some (.inl (w32 ((w32 (12 * (U7 86 40))) + (U7 90 (U7 86 40).toNat))))], [], (am_sh, am_mm (am_upd U12 93 (w32 ((w32 (12 * (U7 86 40))) + (U7 90 (U7 86 40).toNat))).toNat r12)))) 3 (fun _ => rfl) (fun hc => ?_) (fun hc => ?_)
      · have ha2a1aaaaaaaaa1 := ha2a1aaaaaaaaa.1 hc
        subst ha2a1aaaaaaaaa1
        exact ev_end 1 (fun _ => rfl)
      · have ha2a1aaaaaaaaa2 := ha2a1aaaaaaaaa.2 hc
        refine ev_seg (σ1 := ((d + 1), 189, 109, [some (.inr (.inr 86)), some (.inl (w32 ((w32 (12 * (U7 86 40))) + (U7 90 (U7 86 40).toNat))))], [.inl ((am_upd U12 93 (w32 ((w32 (12 * (U7 86 40))) + (U7 90 (U7 86 40).toNat))).toNat r12) 86 40), .inr (.inr 90), .inl ((am_upd U12 93 (w32 ((w32 (12 * (U7 86 40))) + (U7 90 (U7 86 40).toNat))).toNat r12) 86 40), .inr (.inr 90)], (am_sh, am_mm (am_upd U12 93 (w32 ((w32 (12 * (U7 86 40))) + (U7 90 (U7 86 40).toNat))).toNat r12)))) 5 (fun _ => rfl) ?_
        refine eu_iald 90 (n := 2) rfl (by decide) rfl (fun _ => rfl) ha2a1aaaaaaaaa2.1 ?_
        have ha2a1aaaaaaaaa2a := ha2a1aaaaaaaaa2.2
        refine ev_seg (σ1 := ((d + 1), 189, 112, [some (.inr (.inr 86)), some (.inl (w32 ((w32 (12 * (U7 86 40))) + (U7 90 (U7 86 40).toNat))))], [.inl (w32 (((am_upd U12 93 (w32 ((w32 (12 * (U7 86 40))) + (U7 90 (U7 86 40).toNat))).toNat r12) 90 ((am_upd U12 93 (w32 ((w32 (12 * (U7 86 40))) + (U7 90 (U7 86 40).toNat))).toNat r12) 86 40).toNat) + 1)), .inl ((am_upd U12 93 (w32 ((w32 (12 * (U7 86 40))) + (U7 90 (U7 86 40).toNat))).toNat r12) 86 40), .inr (.inr 90)], (am_sh, am_mm (am_upd U12 93 (w32 ((w32 (12 * (U7 86 40))) + (U7 90 (U7 86 40).toNat))).toNat r12)))) 2 (fun _ => rfl) ?_
        refine eu_iast 90 (n := 2) rfl (by decide) rfl (fun _ => rfl) ha2a1aaaaaaaaa2a.1 ?_
        have ha2a1aaaaaaaaa2aa := ha2a1aaaaaaaaa2a.2
        subst ha2a1aaaaaaaaa2aa
        exact ev_end 1 (fun _ => rfl)
    · have ha2a2 := ha2a.2 hc
      subst ha2a2
      exact ev_end 1 (fun _ => rfl)
set_option maxRecDepth 8000 in
theorem st190_86_0 (N : Nat) (X : Nat → Int) (d : Nat) (U : Nat → Nat → Int) (R : Option am_V × am_M) (h : (0 ≤ (U 86 40) ∧ (U 86 40) < 2) ∧ (((¬ (U 94 (U 86 40).toNat) = 10 : Prop)) → ∃ (r1 : Int) (U1 : Nat → Nat → Int), Ev (am_kz N X) (d, 264, 0, [some (.inr (.inr 86)), some (.inl 0)], [], (am_sh, am_mm U)) (some (.inl r1), (am_sh, am_mm U1)) ∧ (((¬ r1 = 0 : Prop)) → (0 ≤ (U1 86 40) ∧ (U1 86 40) < 2) ∧ ∃ (r2 : Int) (U2 : Nat → Nat → Int), Ev (am_kz N X) (d, 267, 0, [some (.inr (.inr 86)), some (.inl 1), none], [], (am_sh, am_mm U1)) (some (.inl r2), (am_sh, am_mm U2)) ∧ ∃ (r3 : Int) (U3 : Nat → Nat → Int), Ev (am_kz N X) (d, 269, 0, [some (.inr (.inr 86)), some (.inl 1), none], [], (am_sh, am_mm U2)) (some (.inl r3), (am_sh, am_mm U3)) ∧ (((¬ (U3 86 8) = 0 : Prop)) → ((((U3 86 8) ≤ 0 : Prop)) → ∃ U4 : Nat → Nat → Int, Ev (am_kz N X) (d, 93, 0, [some (.inr (.inr 86)), none, none, none, none, none], [], (am_sh, am_mm U3)) (none, (am_sh, am_mm U4)) ∧ (0 ≤ (w32 ((w32 (10 * (U1 86 40))) + (U1 94 (U1 86 40).toNat))) ∧ (w32 ((w32 (10 * (U1 86 40))) + (U1 94 (U1 86 40).toNat))) < 20) ∧ (0 ≤ (w32 ((w32 (10 * (U1 86 40))) + (U1 94 (U1 86 40).toNat))) ∧ (w32 ((w32 (10 * (U1 86 40))) + (U1 94 (U1 86 40).toNat))) < 20) ∧ (0 ≤ ((am_upd (am_upd U4 95 (w32 ((w32 (10 * (U1 86 40))) + (U1 94 (U1 86 40).toNat))).toNat r2) 96 (w32 ((w32 (10 * (U1 86 40))) + (U1 94 (U1 86 40).toNat))).toNat r3) 86 40) ∧ ((am_upd (am_upd U4 95 (w32 ((w32 (10 * (U1 86 40))) + (U1 94 (U1 86 40).toNat))).toNat r2) 96 (w32 ((w32 (10 * (U1 86 40))) + (U1 94 (U1 86 40).toNat))).toNat r3) 86 40) < 2) ∧ (0 ≤ ((am_upd (am_upd U4 95 (w32 ((w32 (10 * (U1 86 40))) + (U1 94 (U1 86 40).toNat))).toNat r2) 96 (w32 ((w32 (10 * (U1 86 40))) + (U1 94 (U1 86 40).toNat))).toNat r3) 86 40) ∧ ((am_upd (am_upd U4 95 (w32 ((w32 (10 * (U1 86 40))) + (U1 94 (U1 86 40).toNat))).toNat r2) 96 (w32 ((w32 (10 * (U1 86 40))) + (U1 94 (U1 86 40).toNat))).toNat r3) 86 40) < 2) ∧ R = (none, (am_sh, am_mm (am_upd (am_upd (am_upd U4 95 (w32 ((w32 (10 * (U1 86 40))) + (U1 94 (U1 86 40).toNat))).toNat r2) 96 (w32 ((w32 (10 * (U1 86 40))) + (U1 94 (U1 86 40).toNat))).toNat r3) 94 ((am_upd (am_upd U4 95 (w32 ((w32 (10 * (U1 86 40))) + (U1 94 (U1 86 40).toNat))).toNat r2) 96 (w32 ((w32 (10 * (U1 86 40))) + (U1 94 (U1 86 40).toNat))).toNat r3) 86 40).toNat (w32 (((am_upd (am_upd U4 95 (w32 ((w32 (10 * (U1 86 40))) + (U1 94 (U1 86 40).toNat))).toNat r2) 96 (w32 ((w32 (10 * (U1 86 40))) + (U1 94 (U1 86 40).toNat))).toNat r3) 94 ((am_upd (am_upd U4 95 (w32 ((w32 (10 * (U1 86 40))) + (U1 94 (U1 86 40).toNat))).toNat r2) 96 (w32 ((w32 (10 * (U1 86 40))) + (U1 94 (U1 86 40).toNat))).toNat r3) 86 40).toNat) + 1)))))) ∧ (¬ ((U3 86 8) ≤ 0) → R = (none, (am_sh, am_mm U3)))) ∧ (¬ (¬ (U3 86 8) = 0) → (((r2 = r3 : Prop)) → ∃ U5 : Nat → Nat → Int, Ev (am_kz N X) (d, 196, 0, [some (.inr (.inr 86)), some (.inl 3), some (.inl (U3 86 4))], [], (am_sh, am_mm U3)) (none, (am_sh, am_mm U5)) ∧ ((((U5 86 8) ≤ 0 : Prop)) → ∃ U6 : Nat → Nat → Int, Ev (am_kz N X) (d, 93, 0, [some (.inr (.inr 86)), none, none, none, none, none], [], (am_sh, am_mm U5)) (none, (am_sh, am_mm U6)) ∧ (0 ≤ (w32 ((w32 (10 * (U1 86 40))) + (U1 94 (U1 86 40).toNat))) ∧ (w32 ((w32 (10 * (U1 86 40))) + (U1 94 (U1 86 40).toNat))) < 20) ∧ (0 ≤ (w32 ((w32 (10 * (U1 86 40))) + (U1 94 (U1 86 40).toNat))) ∧ (w32 ((w32 (10 * (U1 86 40))) + (U1 94 (U1 86 40).toNat))) < 20) ∧ (0 ≤ ((am_upd (am_upd U6 95 (w32 ((w32 (10 * (U1 86 40))) + (U1 94 (U1 86 40).toNat))).toNat r2) 96 (w32 ((w32 (10 * (U1 86 40))) + (U1 94 (U1 86 40).toNat))).toNat r3) 86 40) ∧ ((am_upd (am_upd U6 95 (w32 ((w32 (10 * (U1 86 40))) + (U1 94 (U1 86 40).toNat))).toNat r2) 96 (w32 ((w32 (10 * (U1 86 40))) + (U1 94 (U1 86 40).toNat))).toNat r3) 86 40) < 2) ∧ (0 ≤ ((am_upd (am_upd U6 95 (w32 ((w32 (10 * (U1 86 40))) + (U1 94 (U1 86 40).toNat))).toNat r2) 96 (w32 ((w32 (10 * (U1 86 40))) + (U1 94 (U1 86 40).toNat))).toNat r3) 86 40) ∧ ((am_upd (am_upd U6 95 (w32 ((w32 (10 * (U1 86 40))) + (U1 94 (U1 86 40).toNat))).toNat r2) 96 (w32 ((w32 (10 * (U1 86 40))) + (U1 94 (U1 86 40).toNat))).toNat r3) 86 40) < 2) ∧ R = (none, (am_sh, am_mm (am_upd (am_upd (am_upd U6 95 (w32 ((w32 (10 * (U1 86 40))) + (U1 94 (U1 86 40).toNat))).toNat r2) 96 (w32 ((w32 (10 * (U1 86 40))) + (U1 94 (U1 86 40).toNat))).toNat r3) 94 ((am_upd (am_upd U6 95 (w32 ((w32 (10 * (U1 86 40))) + (U1 94 (U1 86 40).toNat))).toNat r2) 96 (w32 ((w32 (10 * (U1 86 40))) + (U1 94 (U1 86 40).toNat))).toNat r3) 86 40).toNat (w32 (((am_upd (am_upd U6 95 (w32 ((w32 (10 * (U1 86 40))) + (U1 94 (U1 86 40).toNat))).toNat r2) 96 (w32 ((w32 (10 * (U1 86 40))) + (U1 94 (U1 86 40).toNat))).toNat r3) 94 ((am_upd (am_upd U6 95 (w32 ((w32 (10 * (U1 86 40))) + (U1 94 (U1 86 40).toNat))).toNat r2) 96 (w32 ((w32 (10 * (U1 86 40))) + (U1 94 (U1 86 40).toNat))).toNat r3) 86 40).toNat) + 1)))))) ∧ (¬ ((U5 86 8) ≤ 0) → R = (none, (am_sh, am_mm U5)))) ∧ (¬ (r2 = r3) → ∃ (r7 : Int) (U7 : Nat → Nat → Int), Ev (am_kz N X) (d, 113, 0, [some (.inr (.inr 86)), some (.inl (U3 86 40)), some (.inl r2), some (.inl r3), none, none], [], (am_sh, am_mm U3)) (some (.inl r7), (am_sh, am_mm U7)) ∧ (((r7 = 0 : Prop)) → ((((U7 86 8) ≤ 0 : Prop)) → ∃ U8 : Nat → Nat → Int, Ev (am_kz N X) (d, 93, 0, [some (.inr (.inr 86)), none, none, none, none, none], [], (am_sh, am_mm U7)) (none, (am_sh, am_mm U8)) ∧ (0 ≤ (w32 ((w32 (10 * (U1 86 40))) + (U1 94 (U1 86 40).toNat))) ∧ (w32 ((w32 (10 * (U1 86 40))) + (U1 94 (U1 86 40).toNat))) < 20) ∧ (0 ≤ (w32 ((w32 (10 * (U1 86 40))) + (U1 94 (U1 86 40).toNat))) ∧ (w32 ((w32 (10 * (U1 86 40))) + (U1 94 (U1 86 40).toNat))) < 20) ∧ (0 ≤ ((am_upd (am_upd U8 95 (w32 ((w32 (10 * (U1 86 40))) + (U1 94 (U1 86 40).toNat))).toNat r2) 96 (w32 ((w32 (10 * (U1 86 40))) + (U1 94 (U1 86 40).toNat))).toNat r3) 86 40) ∧ ((am_upd (am_upd U8 95 (w32 ((w32 (10 * (U1 86 40))) + (U1 94 (U1 86 40).toNat))).toNat r2) 96 (w32 ((w32 (10 * (U1 86 40))) + (U1 94 (U1 86 40).toNat))).toNat r3) 86 40) < 2) ∧ (0 ≤ ((am_upd (am_upd U8 95 (w32 ((w32 (10 * (U1 86 40))) + (U1 94 (U1 86 40).toNat))).toNat r2) 96 (w32 ((w32 (10 * (U1 86 40))) + (U1 94 (U1 86 40).toNat))).toNat r3) 86 40) ∧ ((am_upd (am_upd U8 95 (w32 ((w32 (10 * (U1 86 40))) + (U1 94 (U1 86 40).toNat))).toNat r2) 96 (w32 ((w32 (10 * (U1 86 40))) + (U1 94 (U1 86 40).toNat))).toNat r3) 86 40) < 2) ∧ R = (none, (am_sh, am_mm (am_upd (am_upd (am_upd U8 95 (w32 ((w32 (10 * (U1 86 40))) + (U1 94 (U1 86 40).toNat))).toNat r2) 96 (w32 ((w32 (10 * (U1 86 40))) + (U1 94 (U1 86 40).toNat))).toNat r3) 94 ((am_upd (am_upd U8 95 (w32 ((w32 (10 * (U1 86 40))) + (U1 94 (U1 86 40).toNat))).toNat r2) 96 (w32 ((w32 (10 * (U1 86 40))) + (U1 94 (U1 86 40).toNat))).toNat r3) 86 40).toNat (w32 (((am_upd (am_upd U8 95 (w32 ((w32 (10 * (U1 86 40))) + (U1 94 (U1 86 40).toNat))).toNat r2) 96 (w32 ((w32 (10 * (U1 86 40))) + (U1 94 (U1 86 40).toNat))).toNat r3) 94 ((am_upd (am_upd U8 95 (w32 ((w32 (10 * (U1 86 40))) + (U1 94 (U1 86 40).toNat))).toNat r2) 96 (w32 ((w32 (10 * (U1 86 40))) + (U1 94 (U1 86 40).toNat))).toNat r3) 86 40).toNat) + 1)))))) ∧ (¬ ((U7 86 8) ≤ 0) → R = (none, (am_sh, am_mm U7)))) ∧ (¬ (r7 = 0) → ∃ U9 : Nat → Nat → Int, Ev (am_kz N X) (d, 196, 0, [some (.inr (.inr 86)), some (.inl 3), some (.inl (U7 86 4))], [], (am_sh, am_mm U7)) (none, (am_sh, am_mm U9)) ∧ ((((U9 86 8) ≤ 0 : Prop)) → ∃ U10 : Nat → Nat → Int, Ev (am_kz N X) (d, 93, 0, [some (.inr (.inr 86)), none, none, none, none, none], [], (am_sh, am_mm U9)) (none, (am_sh, am_mm U10)) ∧ (0 ≤ (w32 ((w32 (10 * (U1 86 40))) + (U1 94 (U1 86 40).toNat))) ∧ (w32 ((w32 (10 * (U1 86 40))) + (U1 94 (U1 86 40).toNat))) < 20) ∧ (0 ≤ (w32 ((w32 (10 * (U1 86 40))) + (U1 94 (U1 86 40).toNat))) ∧ (w32 ((w32 (10 * (U1 86 40))) + (U1 94 (U1 86 40).toNat))) < 20) ∧ (0 ≤ ((am_upd (am_upd U10 95 (w32 ((w32 (10 * (U1 86 40))) + (U1 94 (U1 86 40).toNat))).toNat r2) 96 (w32 ((w32 (10 * (U1 86 40))) + (U1 94 (U1 86 40).toNat))).toNat r3) 86 40) ∧ ((am_upd (am_upd U10 95 (w32 ((w32 (10 * (U1 86 40))) + (U1 94 (U1 86 40).toNat))).toNat r2) 96 (w32 ((w32 (10 * (U1 86 40))) + (U1 94 (U1 86 40).toNat))).toNat r3) 86 40) < 2) ∧ (0 ≤ ((am_upd (am_upd U10 95 (w32 ((w32 (10 * (U1 86 40))) + (U1 94 (U1 86 40).toNat))).toNat r2) 96 (w32 ((w32 (10 * (U1 86 40))) + (U1 94 (U1 86 40).toNat))).toNat r3) 86 40) ∧ ((am_upd (am_upd U10 95 (w32 ((w32 (10 * (U1 86 40))) + (U1 94 (U1 86 40).toNat))).toNat r2) 96 (w32 ((w32 (10 * (U1 86 40))) + (U1 94 (U1 86 40).toNat))).toNat r3) 86 40) < 2) ∧ R = (none, (am_sh, am_mm (am_upd (am_upd (am_upd U10 95 (w32 ((w32 (10 * (U1 86 40))) + (U1 94 (U1 86 40).toNat))).toNat r2) 96 (w32 ((w32 (10 * (U1 86 40))) + (U1 94 (U1 86 40).toNat))).toNat r3) 94 ((am_upd (am_upd U10 95 (w32 ((w32 (10 * (U1 86 40))) + (U1 94 (U1 86 40).toNat))).toNat r2) 96 (w32 ((w32 (10 * (U1 86 40))) + (U1 94 (U1 86 40).toNat))).toNat r3) 86 40).toNat (w32 (((am_upd (am_upd U10 95 (w32 ((w32 (10 * (U1 86 40))) + (U1 94 (U1 86 40).toNat))).toNat r2) 96 (w32 ((w32 (10 * (U1 86 40))) + (U1 94 (U1 86 40).toNat))).toNat r3) 94 ((am_upd (am_upd U10 95 (w32 ((w32 (10 * (U1 86 40))) + (U1 94 (U1 86 40).toNat))).toNat r2) 96 (w32 ((w32 (10 * (U1 86 40))) + (U1 94 (U1 86 40).toNat))).toNat r3) 86 40).toNat) + 1)))))) ∧ (¬ ((U9 86 8) ≤ 0) → R = (none, (am_sh, am_mm U9))))))) ∧ (¬ (¬ r1 = 0) → R = (none, (am_sh, am_mm U1)))) ∧ (¬ (¬ (U 94 (U 86 40).toNat) = 10) → ∃ (r11 : Int) (U11 : Nat → Nat → Int), Ev (am_kz N X) (d, 264, 0, [some (.inr (.inr 86)), some (.inl 1)], [], (am_sh, am_mm U)) (some (.inl r11), (am_sh, am_mm U11)) ∧ (((¬ r11 = 0 : Prop)) → (0 ≤ (U11 86 40) ∧ (U11 86 40) < 2) ∧ ∃ (r12 : Int) (U12 : Nat → Nat → Int), Ev (am_kz N X) (d, 267, 0, [some (.inr (.inr 86)), some (.inl 1), none], [], (am_sh, am_mm U11)) (some (.inl r12), (am_sh, am_mm U12)) ∧ ∃ (r13 : Int) (U13 : Nat → Nat → Int), Ev (am_kz N X) (d, 269, 0, [some (.inr (.inr 86)), some (.inl 1), none], [], (am_sh, am_mm U12)) (some (.inl r13), (am_sh, am_mm U13)) ∧ (((¬ (U13 86 8) = 0 : Prop)) → ((((U13 86 8) ≤ 0 : Prop)) → ∃ U14 : Nat → Nat → Int, Ev (am_kz N X) (d, 93, 0, [some (.inr (.inr 86)), none, none, none, none, none], [], (am_sh, am_mm U13)) (none, (am_sh, am_mm U14)) ∧ (0 ≤ (w32 ((w32 (10 * (U11 86 40))) + (U11 94 (U11 86 40).toNat))) ∧ (w32 ((w32 (10 * (U11 86 40))) + (U11 94 (U11 86 40).toNat))) < 20) ∧ (0 ≤ (w32 ((w32 (10 * (U11 86 40))) + (U11 94 (U11 86 40).toNat))) ∧ (w32 ((w32 (10 * (U11 86 40))) + (U11 94 (U11 86 40).toNat))) < 20) ∧ (0 ≤ ((am_upd (am_upd U14 95 (w32 ((w32 (10 * (U11 86 40))) + (U11 94 (U11 86 40).toNat))).toNat r12) 96 (w32 ((w32 (10 * (U11 86 40))) + (U11 94 (U11 86 40).toNat))).toNat r13) 86 40) ∧ ((am_upd (am_upd U14 95 (w32 ((w32 (10 * (U11 86 40))) + (U11 94 (U11 86 40).toNat))).toNat r12) 96 (w32 ((w32 (10 * (U11 86 40))) + (U11 94 (U11 86 40).toNat))).toNat r13) 86 40) < 2) ∧ (0 ≤ ((am_upd (am_upd U14 95 (w32 ((w32 (10 * (U11 86 40))) + (U11 94 (U11 86 40).toNat))).toNat r12) 96 (w32 ((w32 (10 * (U11 86 40))) + (U11 94 (U11 86 40).toNat))).toNat r13) 86 40) ∧ ((am_upd (am_upd U14 95 (w32 ((w32 (10 * (U11 86 40))) + (U11 94 (U11 86 40).toNat))).toNat r12) 96 (w32 ((w32 (10 * (U11 86 40))) + (U11 94 (U11 86 40).toNat))).toNat r13) 86 40) < 2) ∧ R = (none, (am_sh, am_mm (am_upd (am_upd (am_upd U14 95 (w32 ((w32 (10 * (U11 86 40))) + (U11 94 (U11 86 40).toNat))).toNat r12) 96 (w32 ((w32 (10 * (U11 86 40))) + (U11 94 (U11 86 40).toNat))).toNat r13) 94 ((am_upd (am_upd U14 95 (w32 ((w32 (10 * (U11 86 40))) + (U11 94 (U11 86 40).toNat))).toNat r12) 96 (w32 ((w32 (10 * (U11 86 40))) + (U11 94 (U11 86 40).toNat))).toNat r13) 86 40).toNat (w32 (((am_upd (am_upd U14 95 (w32 ((w32 (10 * (U11 86 40))) + (U11 94 (U11 86 40).toNat))).toNat r12) 96 (w32 ((w32 (10 * (U11 86 40))) + (U11 94 (U11 86 40).toNat))).toNat r13) 94 ((am_upd (am_upd U14 95 (w32 ((w32 (10 * (U11 86 40))) + (U11 94 (U11 86 40).toNat))).toNat r12) 96 (w32 ((w32 (10 * (U11 86 40))) + (U11 94 (U11 86 40).toNat))).toNat r13) 86 40).toNat) + 1)))))) ∧ (¬ ((U13 86 8) ≤ 0) → R = (none, (am_sh, am_mm U13)))) ∧ (¬ (¬ (U13 86 8) = 0) → (((r12 = r13 : Prop)) → ∃ U15 : Nat → Nat → Int, Ev (am_kz N X) (d, 196, 0, [some (.inr (.inr 86)), some (.inl 3), some (.inl (U13 86 4))], [], (am_sh, am_mm U13)) (none, (am_sh, am_mm U15)) ∧ ((((U15 86 8) ≤ 0 : Prop)) → ∃ U16 : Nat → Nat → Int, Ev (am_kz N X) (d, 93, 0, [some (.inr (.inr 86)), none, none, none, none, none], [], (am_sh, am_mm U15)) (none, (am_sh, am_mm U16)) ∧ (0 ≤ (w32 ((w32 (10 * (U11 86 40))) + (U11 94 (U11 86 40).toNat))) ∧ (w32 ((w32 (10 * (U11 86 40))) + (U11 94 (U11 86 40).toNat))) < 20) ∧ (0 ≤ (w32 ((w32 (10 * (U11 86 40))) + (U11 94 (U11 86 40).toNat))) ∧ (w32 ((w32 (10 * (U11 86 40))) + (U11 94 (U11 86 40).toNat))) < 20) ∧ (0 ≤ ((am_upd (am_upd U16 95 (w32 ((w32 (10 * (U11 86 40))) + (U11 94 (U11 86 40).toNat))).toNat r12) 96 (w32 ((w32 (10 * (U11 86 40))) + (U11 94 (U11 86 40).toNat))).toNat r13) 86 40) ∧ ((am_upd (am_upd U16 95 (w32 ((w32 (10 * (U11 86 40))) + (U11 94 (U11 86 40).toNat))).toNat r12) 96 (w32 ((w32 (10 * (U11 86 40))) + (U11 94 (U11 86 40).toNat))).toNat r13) 86 40) < 2) ∧ (0 ≤ ((am_upd (am_upd U16 95 (w32 ((w32 (10 * (U11 86 40))) + (U11 94 (U11 86 40).toNat))).toNat r12) 96 (w32 ((w32 (10 * (U11 86 40))) + (U11 94 (U11 86 40).toNat))).toNat r13) 86 40) ∧ ((am_upd (am_upd U16 95 (w32 ((w32 (10 * (U11 86 40))) + (U11 94 (U11 86 40).toNat))).toNat r12) 96 (w32 ((w32 (10 * (U11 86 40))) + (U11 94 (U11 86 40).toNat))).toNat r13) 86 40) < 2) ∧ R = (none, (am_sh, am_mm (am_upd (am_upd (am_upd U16 95 (w32 ((w32 (10 * (U11 86 40))) + (U11 94 (U11 86 40).toNat))).toNat r12) 96 (w32 ((w32 (10 * (U11 86 40))) + (U11 94 (U11 86 40).toNat))).toNat r13) 94 ((am_upd (am_upd U16 95 (w32 ((w32 (10 * (U11 86 40))) + (U11 94 (U11 86 40).toNat))).toNat r12) 96 (w32 ((w32 (10 * (U11 86 40))) + (U11 94 (U11 86 40).toNat))).toNat r13) 86 40).toNat (w32 (((am_upd (am_upd U16 95 (w32 ((w32 (10 * (U11 86 40))) + (U11 94 (U11 86 40).toNat))).toNat r12) 96 (w32 ((w32 (10 * (U11 86 40))) + (U11 94 (U11 86 40).toNat))).toNat r13) 94 ((am_upd (am_upd U16 95 (w32 ((w32 (10 * (U11 86 40))) + (U11 94 (U11 86 40).toNat))).toNat r12) 96 (w32 ((w32 (10 * (U11 86 40))) + (U11 94 (U11 86 40).toNat))).toNat r13) 86 40).toNat) + 1)))))) ∧ (¬ ((U15 86 8) ≤ 0) → R = (none, (am_sh, am_mm U15)))) ∧ (¬ (r12 = r13) → ∃ (r17 : Int) (U17 : Nat → Nat → Int), Ev (am_kz N X) (d, 113, 0, [some (.inr (.inr 86)), some (.inl (U13 86 40)), some (.inl r12), some (.inl r13), none, none], [], (am_sh, am_mm U13)) (some (.inl r17), (am_sh, am_mm U17)) ∧ (((r17 = 0 : Prop)) → ((((U17 86 8) ≤ 0 : Prop)) → ∃ U18 : Nat → Nat → Int, Ev (am_kz N X) (d, 93, 0, [some (.inr (.inr 86)), none, none, none, none, none], [], (am_sh, am_mm U17)) (none, (am_sh, am_mm U18)) ∧ (0 ≤ (w32 ((w32 (10 * (U11 86 40))) + (U11 94 (U11 86 40).toNat))) ∧ (w32 ((w32 (10 * (U11 86 40))) + (U11 94 (U11 86 40).toNat))) < 20) ∧ (0 ≤ (w32 ((w32 (10 * (U11 86 40))) + (U11 94 (U11 86 40).toNat))) ∧ (w32 ((w32 (10 * (U11 86 40))) + (U11 94 (U11 86 40).toNat))) < 20) ∧ (0 ≤ ((am_upd (am_upd U18 95 (w32 ((w32 (10 * (U11 86 40))) + (U11 94 (U11 86 40).toNat))).toNat r12) 96 (w32 ((w32 (10 * (U11 86 40))) + (U11 94 (U11 86 40).toNat))).toNat r13) 86 40) ∧ ((am_upd (am_upd U18 95 (w32 ((w32 (10 * (U11 86 40))) + (U11 94 (U11 86 40).toNat))).toNat r12) 96 (w32 ((w32 (10 * (U11 86 40))) + (U11 94 (U11 86 40).toNat))).toNat r13) 86 40) < 2) ∧ (0 ≤ ((am_upd (am_upd U18 95 (w32 ((w32 (10 * (U11 86 40))) + (U11 94 (U11 86 40).toNat))).toNat r12) 96 (w32 ((w32 (10 * (U11 86 40))) + (U11 94 (U11 86 40).toNat))).toNat r13) 86 40) ∧ ((am_upd (am_upd U18 95 (w32 ((w32 (10 * (U11 86 40))) + (U11 94 (U11 86 40).toNat))).toNat r12) 96 (w32 ((w32 (10 * (U11 86 40))) + (U11 94 (U11 86 40).toNat))).toNat r13) 86 40) < 2) ∧ R = (none, (am_sh, am_mm (am_upd (am_upd (am_upd U18 95 (w32 ((w32 (10 * (U11 86 40))) + (U11 94 (U11 86 40).toNat))).toNat r12) 96 (w32 ((w32 (10 * (U11 86 40))) + (U11 94 (U11 86 40).toNat))).toNat r13) 94 ((am_upd (am_upd U18 95 (w32 ((w32 (10 * (U11 86 40))) + (U11 94 (U11 86 40).toNat))).toNat r12) 96 (w32 ((w32 (10 * (U11 86 40))) + (U11 94 (U11 86 40).toNat))).toNat r13) 86 40).toNat (w32 (((am_upd (am_upd U18 95 (w32 ((w32 (10 * (U11 86 40))) + (U11 94 (U11 86 40).toNat))).toNat r12) 96 (w32 ((w32 (10 * (U11 86 40))) + (U11 94 (U11 86 40).toNat))).toNat r13) 94 ((am_upd (am_upd U18 95 (w32 ((w32 (10 * (U11 86 40))) + (U11 94 (U11 86 40).toNat))).toNat r12) 96 (w32 ((w32 (10 * (U11 86 40))) + (U11 94 (U11 86 40).toNat))).toNat r13) 86 40).toNat) + 1)))))) ∧ (¬ ((U17 86 8) ≤ 0) → R = (none, (am_sh, am_mm U17)))) ∧ (¬ (r17 = 0) → ∃ U19 : Nat → Nat → Int, Ev (am_kz N X) (d, 196, 0, [some (.inr (.inr 86)), some (.inl 3), some (.inl (U17 86 4))], [], (am_sh, am_mm U17)) (none, (am_sh, am_mm U19)) ∧ ((((U19 86 8) ≤ 0 : Prop)) → ∃ U20 : Nat → Nat → Int, Ev (am_kz N X) (d, 93, 0, [some (.inr (.inr 86)), none, none, none, none, none], [], (am_sh, am_mm U19)) (none, (am_sh, am_mm U20)) ∧ (0 ≤ (w32 ((w32 (10 * (U11 86 40))) + (U11 94 (U11 86 40).toNat))) ∧ (w32 ((w32 (10 * (U11 86 40))) + (U11 94 (U11 86 40).toNat))) < 20) ∧ (0 ≤ (w32 ((w32 (10 * (U11 86 40))) + (U11 94 (U11 86 40).toNat))) ∧ (w32 ((w32 (10 * (U11 86 40))) + (U11 94 (U11 86 40).toNat))) < 20) ∧ (0 ≤ ((am_upd (am_upd U20 95 (w32 ((w32 (10 * (U11 86 40))) + (U11 94 (U11 86 40).toNat))).toNat r12) 96 (w32 ((w32 (10 * (U11 86 40))) + (U11 94 (U11 86 40).toNat))).toNat r13) 86 40) ∧ ((am_upd (am_upd U20 95 (w32 ((w32 (10 * (U11 86 40))) + (U11 94 (U11 86 40).toNat))).toNat r12) 96 (w32 ((w32 (10 * (U11 86 40))) + (U11 94 (U11 86 40).toNat))).toNat r13) 86 40) < 2) ∧ (0 ≤ ((am_upd (am_upd U20 95 (w32 ((w32 (10 * (U11 86 40))) + (U11 94 (U11 86 40).toNat))).toNat r12) 96 (w32 ((w32 (10 * (U11 86 40))) + (U11 94 (U11 86 40).toNat))).toNat r13) 86 40) ∧ ((am_upd (am_upd U20 95 (w32 ((w32 (10 * (U11 86 40))) + (U11 94 (U11 86 40).toNat))).toNat r12) 96 (w32 ((w32 (10 * (U11 86 40))) + (U11 94 (U11 86 40).toNat))).toNat r13) 86 40) < 2) ∧ R = (none, (am_sh, am_mm (am_upd (am_upd (am_upd U20 95 (w32 ((w32 (10 * (U11 86 40))) + (U11 94 (U11 86 40).toNat))).toNat r12) 96 (w32 ((w32 (10 * (U11 86 40))) + (U11 94 (U11 86 40).toNat))).toNat r13) 94 ((am_upd (am_upd U20 95 (w32 ((w32 (10 * (U11 86 40))) + (U11 94 (U11 86 40).toNat))).toNat r12) 96 (w32 ((w32 (10 * (U11 86 40))) + (U11 94 (U11 86 40).toNat))).toNat r13) 86 40).toNat (w32 (((am_upd (am_upd U20 95 (w32 ((w32 (10 * (U11 86 40))) + (U11 94 (U11 86 40).toNat))).toNat r12) 96 (w32 ((w32 (10 * (U11 86 40))) + (U11 94 (U11 86 40).toNat))).toNat r13) 94 ((am_upd (am_upd U20 95 (w32 ((w32 (10 * (U11 86 40))) + (U11 94 (U11 86 40).toNat))).toNat r12) 96 (w32 ((w32 (10 * (U11 86 40))) + (U11 94 (U11 86 40).toNat))).toNat r13) 86 40).toNat) + 1)))))) ∧ (¬ ((U19 86 8) ≤ 0) → R = (none, (am_sh, am_mm U19))))))) ∧ (¬ (¬ r11 = 0) → R = (none, (am_sh, am_mm U11))))) : Ev (am_kz N X) ((d + 1), 190, 0, [some (.inr (.inr 86)), none, none, none], [], (am_sh, am_mm U)) R := by
  refine ev_seg (σ1 := ((d + 1), 190, 9, [some (.inr (.inr 86)), none, none, none], [.inl (U 86 40), .inr (.inr 94), .inr (.inr 86)], (am_sh, am_mm U))) 5 (fun _ => rfl) ?_
  refine eu_iald 94 (n := 2) rfl (by decide) rfl (fun _ => rfl) h.1 ?_
  have ha := h.2
  refine ev_br (P := ¬ (U 94 (U 86 40).toNat) = 10) (σ1 := ((d + 1), 190, 19, [some (.inr (.inr 86)), none, none, none], [.inr (.inr 86)], (am_sh, am_mm U))) (σ2 := ((d + 1), 190, 15, [some (.inr (.inr 86)), none, none, none], [.inr (.inr 86)], (am_sh, am_mm U))) 2 (fun _ => rfl) (fun hc => ?_) (fun hc => ?_)
  · have ha1 := ha.1 hc
    refine ev_seg (σ1 := ((d + 1), 190, 20, [some (.inr (.inr 86)), none, none, none], [.inl 0, .inr (.inr 86)], (am_sh, am_mm U))) 1 (fun _ => rfl) ?_
    obtain ⟨r1, U1, ha1c, ha1a⟩ := ha1
    refine ev_cal (σc := (d, 264, 0, [some (.inr (.inr 86)), some (.inl 0)], [], (am_sh, am_mm U))) (fun _ => rfl) ha1c ?_
    show Ev (am_kz N X) ((d + 1), 190, 23, [some (.inr (.inr 86)), none, none, none], [.inl r1], (am_sh, am_mm U1)) R
    refine ev_br (P := ¬ r1 = 0) (σ1 := ((d + 1), 190, 27, [some (.inr (.inr 86)), none, none, none], [], (am_sh, am_mm U1))) (σ2 := ((d + 1), 190, 26, [some (.inr (.inr 86)), none, none, none], [], (am_sh, am_mm U1))) 1 (fun _ => rfl) (fun hc => ?_) (fun hc => ?_)
    · have ha1a1 := ha1a.1 hc
      refine ev_seg (σ1 := ((d + 1), 190, 42, [some (.inr (.inr 86)), none, none, none], [.inl (U1 86 40), .inr (.inr 94), .inl (w32 (10 * (U1 86 40)))], (am_sh, am_mm U1))) 8 (fun _ => rfl) ?_
      refine eu_iald 94 (n := 2) rfl (by decide) rfl (fun _ => rfl) ha1a1.1 ?_
      have ha1a1a := ha1a1.2
      refine ev_seg (σ1 := ((d + 1), 190, 47, [some (.inr (.inr 86)), some (.inl (w32 ((w32 (10 * (U1 86 40))) + (U1 94 (U1 86 40).toNat)))), none, none], [.inl 1, .inr (.inr 86)], (am_sh, am_mm U1))) 4 (fun _ => rfl) ?_
      obtain ⟨r2, U2, ha1a1ac, ha1a1aa⟩ := ha1a1a
      refine ev_cal (σc := (d, 267, 0, [some (.inr (.inr 86)), some (.inl 1), none], [], (am_sh, am_mm U1))) (fun _ => rfl) ha1a1ac ?_
      show Ev (am_kz N X) ((d + 1), 190, 50, [some (.inr (.inr 86)), some (.inl (w32 ((w32 (10 * (U1 86 40))) + (U1 94 (U1 86 40).toNat)))), none, none], [.inl r2], (am_sh, am_mm U2)) R
      refine ev_seg (σ1 := ((d + 1), 190, 53, [some (.inr (.inr 86)), some (.inl (w32 ((w32 (10 * (U1 86 40))) + (U1 94 (U1 86 40).toNat)))), some (.inl r2), none], [.inl 1, .inr (.inr 86)], (am_sh, am_mm U2))) 3 (fun _ => rfl) ?_
      obtain ⟨r3, U3, ha1a1aac, ha1a1aaa⟩ := ha1a1aa
      refine ev_cal (σc := (d, 269, 0, [some (.inr (.inr 86)), some (.inl 1), none], [], (am_sh, am_mm U2))) (fun _ => rfl) ha1a1aac ?_
      show Ev (am_kz N X) ((d + 1), 190, 56, [some (.inr (.inr 86)), some (.inl (w32 ((w32 (10 * (U1 86 40))) + (U1 94 (U1 86 40).toNat)))), some (.inl r2), none], [.inl r3], (am_sh, am_mm U3)) R
      refine ev_br (P := ¬ (U3 86 8) = 0) (σ1 := ((d + 1), 190, 91, [some (.inr (.inr 86)), some (.inl (w32 ((w32 (10 * (U1 86 40))) + (U1 94 (U1 86 40).toNat)))), some (.inl r2), some (.inl r3)], [], (am_sh, am_mm U3))) (σ2 := ((d + 1), 190, 64, [some (.inr (.inr 86)), some (.inl (w32 ((w32 (10 * (U1 86 40))) + (U1 94 (U1 86 40).toNat)))), some (.inl r2), some (.inl r3)], [], (am_sh, am_mm U3))) 4 (fun _ => rfl) (fun hc => ?_) (fun hc => ?_)
      · have ha1a1aaa1 := ha1a1aaa.1 hc
        refine ev_br (P := (U3 86 8) ≤ 0) (σ1 := ((d + 1), 190, 99, [some (.inr (.inr 86)), some (.inl (w32 ((w32 (10 * (U1 86 40))) + (U1 94 (U1 86 40).toNat)))), some (.inl r2), some (.inl r3)], [], (am_sh, am_mm U3))) (σ2 := ((d + 1), 190, 98, [some (.inr (.inr 86)), some (.inl (w32 ((w32 (10 * (U1 86 40))) + (U1 94 (U1 86 40).toNat)))), some (.inl r2), some (.inl r3)], [], (am_sh, am_mm U3))) 3 (fun _ => rfl) (fun hc => ?_) (fun hc => ?_)
        · have ha1a1aaa11 := ha1a1aaa1.1 hc
          refine ev_seg (σ1 := ((d + 1), 190, 100, [some (.inr (.inr 86)), some (.inl (w32 ((w32 (10 * (U1 86 40))) + (U1 94 (U1 86 40).toNat)))), some (.inl r2), some (.inl r3)], [.inr (.inr 86)], (am_sh, am_mm U3))) 1 (fun _ => rfl) ?_
          obtain ⟨U4, ha1a1aaa11c, ha1a1aaa11a⟩ := ha1a1aaa11
          refine ev_cal (σc := (d, 93, 0, [some (.inr (.inr 86)), none, none, none, none, none], [], (am_sh, am_mm U3))) (fun _ => rfl) ha1a1aaa11c ?_
          show Ev (am_kz N X) ((d + 1), 190, 103, [some (.inr (.inr 86)), some (.inl (w32 ((w32 (10 * (U1 86 40))) + (U1 94 (U1 86 40).toNat)))), some (.inl r2), some (.inl r3)], [], (am_sh, am_mm U4)) R
          refine ev_seg (σ1 := ((d + 1), 190, 109, [some (.inr (.inr 86)), some (.inl (w32 ((w32 (10 * (U1 86 40))) + (U1 94 (U1 86 40).toNat)))), some (.inl r2), some (.inl r3)], [.inl r2, .inl (w32 ((w32 (10 * (U1 86 40))) + (U1 94 (U1 86 40).toNat))), .inr (.inr 95)], (am_sh, am_mm U4))) 4 (fun _ => rfl) ?_
          refine eu_iast 95 (n := 20) rfl (by decide) rfl (fun _ => rfl) ha1a1aaa11a.1 ?_
          have ha1a1aaa11aa := ha1a1aaa11a.2
          refine ev_seg (σ1 := ((d + 1), 190, 116, [some (.inr (.inr 86)), some (.inl (w32 ((w32 (10 * (U1 86 40))) + (U1 94 (U1 86 40).toNat)))), some (.inl r2), some (.inl r3)], [.inl r3, .inl (w32 ((w32 (10 * (U1 86 40))) + (U1 94 (U1 86 40).toNat))), .inr (.inr 96)], (am_sh, am_mm (am_upd U4 95 (w32 ((w32 (10 * (U1 86 40))) + (U1 94 (U1 86 40).toNat))).toNat r2)))) 4 (fun _ => rfl) ?_
          refine eu_iast 96 (n := 20) rfl (by decide) rfl (fun _ => rfl) ha1a1aaa11aa.1 ?_
          have ha1a1aaa11aaa := ha1a1aaa11aa.2
          refine ev_seg (σ1 := ((d + 1), 190, 126, [some (.inr (.inr 86)), some (.inl (w32 ((w32 (10 * (U1 86 40))) + (U1 94 (U1 86 40).toNat)))), some (.inl r2), some (.inl r3)], [.inl ((am_upd (am_upd U4 95 (w32 ((w32 (10 * (U1 86 40))) + (U1 94 (U1 86 40).toNat))).toNat r2) 96 (w32 ((w32 (10 * (U1 86 40))) + (U1 94 (U1 86 40).toNat))).toNat r3) 86 40), .inr (.inr 94), .inl ((am_upd (am_upd U4 95 (w32 ((w32 (10 * (U1 86 40))) + (U1 94 (U1 86 40).toNat))).toNat r2) 96 (w32 ((w32 (10 * (U1 86 40))) + (U1 94 (U1 86 40).toNat))).toNat r3) 86 40), .inr (.inr 94)], (am_sh, am_mm (am_upd (am_upd U4 95 (w32 ((w32 (10 * (U1 86 40))) + (U1 94 (U1 86 40).toNat))).toNat r2) 96 (w32 ((w32 (10 * (U1 86 40))) + (U1 94 (U1 86 40).toNat))).toNat r3)))) 5 (fun _ => rfl) ?_
          refine eu_iald 94 (n := 2) rfl (by decide) rfl (fun _ => rfl) ha1a1aaa11aaa.1 ?_
          have ha1a1aaa11aaaa := ha1a1aaa11aaa.2
          refine ev_seg (σ1 := ((d + 1), 190, 129, [some (.inr (.inr 86)), some (.inl (w32 ((w32 (10 * (U1 86 40))) + (U1 94 (U1 86 40).toNat)))), some (.inl r2), some (.inl r3)], [.inl (w32 (((am_upd (am_upd U4 95 (w32 ((w32 (10 * (U1 86 40))) + (U1 94 (U1 86 40).toNat))).toNat r2) 96 (w32 ((w32 (10 * (U1 86 40))) + (U1 94 (U1 86 40).toNat))).toNat r3) 94 ((am_upd (am_upd U4 95 (w32 ((w32 (10 * (U1 86 40))) + (U1 94 (U1 86 40).toNat))).toNat r2) 96 (w32 ((w32 (10 * (U1 86 40))) + (U1 94 (U1 86 40).toNat))).toNat r3) 86 40).toNat) + 1)), .inl ((am_upd (am_upd U4 95 (w32 ((w32 (10 * (U1 86 40))) + (U1 94 (U1 86 40).toNat))).toNat r2) 96 (w32 ((w32 (10 * (U1 86 40))) + (U1 94 (U1 86 40).toNat))).toNat r3) 86 40), .inr (.inr 94)], (am_sh, am_mm (am_upd (am_upd U4 95 (w32 ((w32 (10 * (U1 86 40))) + (U1 94 (U1 86 40).toNat))).toNat r2) 96 (w32 ((w32 (10 * (U1 86 40))) + (U1 94 (U1 86 40).toNat))).toNat r3)))) 2 (fun _ => rfl) ?_
          refine eu_iast 94 (n := 2) rfl (by decide) rfl (fun _ => rfl) ha1a1aaa11aaaa.1 ?_
          have ha1a1aaa11aaaaa := ha1a1aaa11aaaa.2
          subst ha1a1aaa11aaaaa
          exact ev_end 1 (fun _ => rfl)
        · have ha1a1aaa12 := ha1a1aaa1.2 hc
          subst ha1a1aaa12
          exact ev_end 1 (fun _ => rfl)
      · have ha1a1aaa2 := ha1a1aaa.2 hc
        refine ev_br (P := r2 = r3) (σ1 := ((d + 1), 190, 82, [some (.inr (.inr 86)), some (.inl (w32 ((w32 (10 * (U1 86 40))) + (U1 94 (U1 86 40).toNat)))), some (.inl r2), some (.inl r3)], [], (am_sh, am_mm U3))) (σ2 := ((d + 1), 190, 69, [some (.inr (.inr 86)), some (.inl (w32 ((w32 (10 * (U1 86 40))) + (U1 94 (U1 86 40).toNat)))), some (.inl r2), some (.inl r3)], [], (am_sh, am_mm U3))) 3 (fun _ => rfl) (fun hc => ?_) (fun hc => ?_)
        · have ha1a1aaa21 := ha1a1aaa2.1 hc
          refine ev_seg (σ1 := ((d + 1), 190, 88, [some (.inr (.inr 86)), some (.inl (w32 ((w32 (10 * (U1 86 40))) + (U1 94 (U1 86 40).toNat)))), some (.inl r2), some (.inl r3)], [.inl (U3 86 4), .inl 3, .inr (.inr 86)], (am_sh, am_mm U3))) 4 (fun _ => rfl) ?_
          obtain ⟨U5, ha1a1aaa21c, ha1a1aaa21a⟩ := ha1a1aaa21
          refine ev_cal (σc := (d, 196, 0, [some (.inr (.inr 86)), some (.inl 3), some (.inl (U3 86 4))], [], (am_sh, am_mm U3))) (fun _ => rfl) ha1a1aaa21c ?_
          show Ev (am_kz N X) ((d + 1), 190, 91, [some (.inr (.inr 86)), some (.inl (w32 ((w32 (10 * (U1 86 40))) + (U1 94 (U1 86 40).toNat)))), some (.inl r2), some (.inl r3)], [], (am_sh, am_mm U5)) R
          refine ev_br (P := (U5 86 8) ≤ 0) (σ1 := ((d + 1), 190, 99, [some (.inr (.inr 86)), some (.inl (w32 ((w32 (10 * (U1 86 40))) + (U1 94 (U1 86 40).toNat)))), some (.inl r2), some (.inl r3)], [], (am_sh, am_mm U5))) (σ2 := ((d + 1), 190, 98, [some (.inr (.inr 86)), some (.inl (w32 ((w32 (10 * (U1 86 40))) + (U1 94 (U1 86 40).toNat)))), some (.inl r2), some (.inl r3)], [], (am_sh, am_mm U5))) 3 (fun _ => rfl) (fun hc => ?_) (fun hc => ?_)
          · have ha1a1aaa21a1 := ha1a1aaa21a.1 hc
            refine ev_seg (σ1 := ((d + 1), 190, 100, [some (.inr (.inr 86)), some (.inl (w32 ((w32 (10 * (U1 86 40))) + (U1 94 (U1 86 40).toNat)))), some (.inl r2), some (.inl r3)], [.inr (.inr 86)], (am_sh, am_mm U5))) 1 (fun _ => rfl) ?_
            obtain ⟨U6, ha1a1aaa21a1c, ha1a1aaa21a1a⟩ := ha1a1aaa21a1
            refine ev_cal (σc := (d, 93, 0, [some (.inr (.inr 86)), none, none, none, none, none], [], (am_sh, am_mm U5))) (fun _ => rfl) ha1a1aaa21a1c ?_
            show Ev (am_kz N X) ((d + 1), 190, 103, [some (.inr (.inr 86)), some (.inl (w32 ((w32 (10 * (U1 86 40))) + (U1 94 (U1 86 40).toNat)))), some (.inl r2), some (.inl r3)], [], (am_sh, am_mm U6)) R
            refine ev_seg (σ1 := ((d + 1), 190, 109, [some (.inr (.inr 86)), some (.inl (w32 ((w32 (10 * (U1 86 40))) + (U1 94 (U1 86 40).toNat)))), some (.inl r2), some (.inl r3)], [.inl r2, .inl (w32 ((w32 (10 * (U1 86 40))) + (U1 94 (U1 86 40).toNat))), .inr (.inr 95)], (am_sh, am_mm U6))) 4 (fun _ => rfl) ?_
            refine eu_iast 95 (n := 20) rfl (by decide) rfl (fun _ => rfl) ha1a1aaa21a1a.1 ?_
            have ha1a1aaa21a1aa := ha1a1aaa21a1a.2
            refine ev_seg (σ1 := ((d + 1), 190, 116, [some (.inr (.inr 86)), some (.inl (w32 ((w32 (10 * (U1 86 40))) + (U1 94 (U1 86 40).toNat)))), some (.inl r2), some (.inl r3)], [.inl r3, .inl (w32 ((w32 (10 * (U1 86 40))) + (U1 94 (U1 86 40).toNat))), .inr (.inr 96)], (am_sh, am_mm (am_upd U6 95 (w32 ((w32 (10 * (U1 86 40))) + (U1 94 (U1 86 40).toNat))).toNat r2)))) 4 (fun _ => rfl) ?_
            refine eu_iast 96 (n := 20) rfl (by decide) rfl (fun _ => rfl) ha1a1aaa21a1aa.1 ?_
            have ha1a1aaa21a1aaa := ha1a1aaa21a1aa.2
            refine ev_seg (σ1 := ((d + 1), 190, 126, [some (.inr (.inr 86)), some (.inl (w32 ((w32 (10 * (U1 86 40))) + (U1 94 (U1 86 40).toNat)))), some (.inl r2), some (.inl r3)], [.inl ((am_upd (am_upd U6 95 (w32 ((w32 (10 * (U1 86 40))) + (U1 94 (U1 86 40).toNat))).toNat r2) 96 (w32 ((w32 (10 * (U1 86 40))) + (U1 94 (U1 86 40).toNat))).toNat r3) 86 40), .inr (.inr 94), .inl ((am_upd (am_upd U6 95 (w32 ((w32 (10 * (U1 86 40))) + (U1 94 (U1 86 40).toNat))).toNat r2) 96 (w32 ((w32 (10 * (U1 86 40))) + (U1 94 (U1 86 40).toNat))).toNat r3) 86 40), .inr (.inr 94)], (am_sh, am_mm (am_upd (am_upd U6 95 (w32 ((w32 (10 * (U1 86 40))) + (U1 94 (U1 86 40).toNat))).toNat r2) 96 (w32 ((w32 (10 * (U1 86 40))) + (U1 94 (U1 86 40).toNat))).toNat r3)))) 5 (fun _ => rfl) ?_
            refine eu_iald 94 (n := 2) rfl (by decide) rfl (fun _ => rfl) ha1a1aaa21a1aaa.1 ?_
            have ha1a1aaa21a1aaaa := ha1a1aaa21a1aaa.2
            refine ev_seg (σ1 := ((d + 1), 190, 129, [some (.inr (.inr 86)), some (.inl (w32 ((w32 (10 * (U1 86 40))) + (U1 94 (U1 86 40).toNat)))), some (.inl r2), some (.inl r3)], [.inl (w32 (((am_upd (am_upd U6 95 (w32 ((w32 (10 * (U1 86 40))) + (U1 94 (U1 86 40).toNat))).toNat r2) 96 (w32 ((w32 (10 * (U1 86 40))) + (U1 94 (U1 86 40).toNat))).toNat r3) 94 ((am_upd (am_upd U6 95 (w32 ((w32 (10 * (U1 86 40))) + (U1 94 (U1 86 40).toNat))).toNat r2) 96 (w32 ((w32 (10 * (U1 86 40))) + (U1 94 (U1 86 40).toNat))).toNat r3) 86 40).toNat) + 1)), .inl ((am_upd (am_upd U6 95 (w32 ((w32 (10 * (U1 86 40))) + (U1 94 (U1 86 40).toNat))).toNat r2) 96 (w32 ((w32 (10 * (U1 86 40))) + (U1 94 (U1 86 40).toNat))).toNat r3) 86 40), .inr (.inr 94)], (am_sh, am_mm (am_upd (am_upd U6 95 (w32 ((w32 (10 * (U1 86 40))) + (U1 94 (U1 86 40).toNat))).toNat r2) 96 (w32 ((w32 (10 * (U1 86 40))) + (U1 94 (U1 86 40).toNat))).toNat r3)))) 2 (fun _ => rfl) ?_
            refine eu_iast 94 (n := 2) rfl (by decide) rfl (fun _ => rfl) ha1a1aaa21a1aaaa.1 ?_
            have ha1a1aaa21a1aaaaa := ha1a1aaa21a1aaaa.2
            subst ha1a1aaa21a1aaaaa
            exact ev_end 1 (fun _ => rfl)
          · have ha1a1aaa21a2 := ha1a1aaa21a.2 hc
            subst ha1a1aaa21a2
            exact ev_end 1 (fun _ => rfl)
        · have ha1a1aaa22 := ha1a1aaa2.2 hc
          refine ev_seg (σ1 := ((d + 1), 190, 76, [some (.inr (.inr 86)), some (.inl (w32 ((w32 (10 * (U1 86 40))) + (U1 94 (U1 86 40).toNat)))), some (.inl r2), some (.inl r3)], [.inl r3, .inl r2, .inl (U3 86 40), .inr (.inr 86)], (am_sh, am_mm U3))) 5 (fun _ => rfl) ?_
          obtain ⟨r7, U7, ha1a1aaa22c, ha1a1aaa22a⟩ := ha1a1aaa22
          refine ev_cal (σc := (d, 113, 0, [some (.inr (.inr 86)), some (.inl (U3 86 40)), some (.inl r2), some (.inl r3), none, none], [], (am_sh, am_mm U3))) (fun _ => rfl) ha1a1aaa22c ?_
          show Ev (am_kz N X) ((d + 1), 190, 79, [some (.inr (.inr 86)), some (.inl (w32 ((w32 (10 * (U1 86 40))) + (U1 94 (U1 86 40).toNat)))), some (.inl r2), some (.inl r3)], [.inl r7], (am_sh, am_mm U7)) R
          refine ev_br (P := r7 = 0) (σ1 := ((d + 1), 190, 91, [some (.inr (.inr 86)), some (.inl (w32 ((w32 (10 * (U1 86 40))) + (U1 94 (U1 86 40).toNat)))), some (.inl r2), some (.inl r3)], [], (am_sh, am_mm U7))) (σ2 := ((d + 1), 190, 82, [some (.inr (.inr 86)), some (.inl (w32 ((w32 (10 * (U1 86 40))) + (U1 94 (U1 86 40).toNat)))), some (.inl r2), some (.inl r3)], [], (am_sh, am_mm U7))) 1 (fun _ => rfl) (fun hc => ?_) (fun hc => ?_)
          · have ha1a1aaa22a1 := ha1a1aaa22a.1 hc
            refine ev_br (P := (U7 86 8) ≤ 0) (σ1 := ((d + 1), 190, 99, [some (.inr (.inr 86)), some (.inl (w32 ((w32 (10 * (U1 86 40))) + (U1 94 (U1 86 40).toNat)))), some (.inl r2), some (.inl r3)], [], (am_sh, am_mm U7))) (σ2 := ((d + 1), 190, 98, [some (.inr (.inr 86)), some (.inl (w32 ((w32 (10 * (U1 86 40))) + (U1 94 (U1 86 40).toNat)))), some (.inl r2), some (.inl r3)], [], (am_sh, am_mm U7))) 3 (fun _ => rfl) (fun hc => ?_) (fun hc => ?_)
            · have ha1a1aaa22a11 := ha1a1aaa22a1.1 hc
              refine ev_seg (σ1 := ((d + 1), 190, 100, [some (.inr (.inr 86)), some (.inl (w32 ((w32 (10 * (U1 86 40))) + (U1 94 (U1 86 40).toNat)))), some (.inl r2), some (.inl r3)], [.inr (.inr 86)], (am_sh, am_mm U7))) 1 (fun _ => rfl) ?_
              obtain ⟨U8, ha1a1aaa22a11c, ha1a1aaa22a11a⟩ := ha1a1aaa22a11
              refine ev_cal (σc := (d, 93, 0, [some (.inr (.inr 86)), none, none, none, none, none], [], (am_sh, am_mm U7))) (fun _ => rfl) ha1a1aaa22a11c ?_
              show Ev (am_kz N X) ((d + 1), 190, 103, [some (.inr (.inr 86)), some (.inl (w32 ((w32 (10 * (U1 86 40))) + (U1 94 (U1 86 40).toNat)))), some (.inl r2), some (.inl r3)], [], (am_sh, am_mm U8)) R
              refine ev_seg (σ1 := ((d + 1), 190, 109, [some (.inr (.inr 86)), some (.inl (w32 ((w32 (10 * (U1 86 40))) + (U1 94 (U1 86 40).toNat)))), some (.inl r2), some (.inl r3)], [.inl r2, .inl (w32 ((w32 (10 * (U1 86 40))) + (U1 94 (U1 86 40).toNat))), .inr (.inr 95)], (am_sh, am_mm U8))) 4 (fun _ => rfl) ?_
              refine eu_iast 95 (n := 20) rfl (by decide) rfl (fun _ => rfl) ha1a1aaa22a11a.1 ?_
              have ha1a1aaa22a11aa := ha1a1aaa22a11a.2
              refine ev_seg (σ1 := ((d + 1), 190, 116, [some (.inr (.inr 86)), some (.inl (w32 ((w32 (10 * (U1 86 40))) + (U1 94 (U1 86 40).toNat)))), some (.inl r2), some (.inl r3)], [.inl r3, .inl (w32 ((w32 (10 * (U1 86 40))) + (U1 94 (U1 86 40).toNat))), .inr (.inr 96)], (am_sh, am_mm (am_upd U8 95 (w32 ((w32 (10 * (U1 86 40))) + (U1 94 (U1 86 40).toNat))).toNat r2)))) 4 (fun _ => rfl) ?_
              refine eu_iast 96 (n := 20) rfl (by decide) rfl (fun _ => rfl) ha1a1aaa22a11aa.1 ?_
              have ha1a1aaa22a11aaa := ha1a1aaa22a11aa.2
              refine ev_seg (σ1 := ((d + 1), 190, 126, [some (.inr (.inr 86)), some (.inl (w32 ((w32 (10 * (U1 86 40))) + (U1 94 (U1 86 40).toNat)))), some (.inl r2), some (.inl r3)], [.inl ((am_upd (am_upd U8 95 (w32 ((w32 (10 * (U1 86 40))) + (U1 94 (U1 86 40).toNat))).toNat r2) 96 (w32 ((w32 (10 * (U1 86 40))) + (U1 94 (U1 86 40).toNat))).toNat r3) 86 40), .inr (.inr 94), .inl ((am_upd (am_upd U8 95 (w32 ((w32 (10 * (U1 86 40))) + (U1 94 (U1 86 40).toNat))).toNat r2) 96 (w32 ((w32 (10 * (U1 86 40))) + (U1 94 (U1 86 40).toNat))).toNat r3) 86 40), .inr (.inr 94)], (am_sh, am_mm (am_upd (am_upd U8 95 (w32 ((w32 (10 * (U1 86 40))) + (U1 94 (U1 86 40).toNat))).toNat r2) 96 (w32 ((w32 (10 * (U1 86 40))) + (U1 94 (U1 86 40).toNat))).toNat r3)))) 5 (fun _ => rfl) ?_
              refine eu_iald 94 (n := 2) rfl (by decide) rfl (fun _ => rfl) ha1a1aaa22a11aaa.1 ?_
              have ha1a1aaa22a11aaaa := ha1a1aaa22a11aaa.2
              refine ev_seg (σ1 := ((d + 1), 190, 129, [some (.inr (.inr 86)), some (.inl (w32 ((w32 (10 * (U1 86 40))) + (U1 94 (U1 86 40).toNat)))), some (.inl r2), some (.inl r3)], [.inl (w32 (((am_upd (am_upd U8 95 (w32 ((w32 (10 * (U1 86 40))) + (U1 94 (U1 86 40).toNat))).toNat r2) 96 (w32 ((w32 (10 * (U1 86 40))) + (U1 94 (U1 86 40).toNat))).toNat r3) 94 ((am_upd (am_upd U8 95 (w32 ((w32 (10 * (U1 86 40))) + (U1 94 (U1 86 40).toNat))).toNat r2) 96 (w32 ((w32 (10 * (U1 86 40))) + (U1 94 (U1 86 40).toNat))).toNat r3) 86 40).toNat) + 1)), .inl ((am_upd (am_upd U8 95 (w32 ((w32 (10 * (U1 86 40))) + (U1 94 (U1 86 40).toNat))).toNat r2) 96 (w32 ((w32 (10 * (U1 86 40))) + (U1 94 (U1 86 40).toNat))).toNat r3) 86 40), .inr (.inr 94)], (am_sh, am_mm (am_upd (am_upd U8 95 (w32 ((w32 (10 * (U1 86 40))) + (U1 94 (U1 86 40).toNat))).toNat r2) 96 (w32 ((w32 (10 * (U1 86 40))) + (U1 94 (U1 86 40).toNat))).toNat r3)))) 2 (fun _ => rfl) ?_
              refine eu_iast 94 (n := 2) rfl (by decide) rfl (fun _ => rfl) ha1a1aaa22a11aaaa.1 ?_
              have ha1a1aaa22a11aaaaa := ha1a1aaa22a11aaaa.2
              subst ha1a1aaa22a11aaaaa
              exact ev_end 1 (fun _ => rfl)
            · have ha1a1aaa22a12 := ha1a1aaa22a1.2 hc
              subst ha1a1aaa22a12
              exact ev_end 1 (fun _ => rfl)
          · have ha1a1aaa22a2 := ha1a1aaa22a.2 hc
            refine ev_seg (σ1 := ((d + 1), 190, 88, [some (.inr (.inr 86)), some (.inl (w32 ((w32 (10 * (U1 86 40))) + (U1 94 (U1 86 40).toNat)))), some (.inl r2), some (.inl r3)], [.inl (U7 86 4), .inl 3, .inr (.inr 86)], (am_sh, am_mm U7))) 4 (fun _ => rfl) ?_
            obtain ⟨U9, ha1a1aaa22a2c, ha1a1aaa22a2a⟩ := ha1a1aaa22a2
            refine ev_cal (σc := (d, 196, 0, [some (.inr (.inr 86)), some (.inl 3), some (.inl (U7 86 4))], [], (am_sh, am_mm U7))) (fun _ => rfl) ha1a1aaa22a2c ?_
            show Ev (am_kz N X) ((d + 1), 190, 91, [some (.inr (.inr 86)), some (.inl (w32 ((w32 (10 * (U1 86 40))) + (U1 94 (U1 86 40).toNat)))), some (.inl r2), some (.inl r3)], [], (am_sh, am_mm U9)) R
            refine ev_br (P := (U9 86 8) ≤ 0) (σ1 := ((d + 1), 190, 99, [some (.inr (.inr 86)), some (.inl (w32 ((w32 (10 * (U1 86 40))) + (U1 94 (U1 86 40).toNat)))), some (.inl r2), some (.inl r3)], [], (am_sh, am_mm U9))) (σ2 := ((d + 1), 190, 98, [some (.inr (.inr 86)), some (.inl (w32 ((w32 (10 * (U1 86 40))) + (U1 94 (U1 86 40).toNat)))), some (.inl r2), some (.inl r3)], [], (am_sh, am_mm U9))) 3 (fun _ => rfl) (fun hc => ?_) (fun hc => ?_)
            · have ha1a1aaa22a2a1 := ha1a1aaa22a2a.1 hc
              refine ev_seg (σ1 := ((d + 1), 190, 100, [some (.inr (.inr 86)), some (.inl (w32 ((w32 (10 * (U1 86 40))) + (U1 94 (U1 86 40).toNat)))), some (.inl r2), some (.inl r3)], [.inr (.inr 86)], (am_sh, am_mm U9))) 1 (fun _ => rfl) ?_
              obtain ⟨U10, ha1a1aaa22a2a1c, ha1a1aaa22a2a1a⟩ := ha1a1aaa22a2a1
              refine ev_cal (σc := (d, 93, 0, [some (.inr (.inr 86)), none, none, none, none, none], [], (am_sh, am_mm U9))) (fun _ => rfl) ha1a1aaa22a2a1c ?_
              show Ev (am_kz N X) ((d + 1), 190, 103, [some (.inr (.inr 86)), some (.inl (w32 ((w32 (10 * (U1 86 40))) + (U1 94 (U1 86 40).toNat)))), some (.inl r2), some (.inl r3)], [], (am_sh, am_mm U10)) R
              refine ev_seg (σ1 := ((d + 1), 190, 109, [some (.inr (.inr 86)), some (.inl (w32 ((w32 (10 * (U1 86 40))) + (U1 94 (U1 86 40).toNat)))), some (.inl r2), some (.inl r3)], [.inl r2, .inl (w32 ((w32 (10 * (U1 86 40))) + (U1 94 (U1 86 40).toNat))), .inr (.inr 95)], (am_sh, am_mm U10))) 4 (fun _ => rfl) ?_
              refine eu_iast 95 (n := 20) rfl (by decide) rfl (fun _ => rfl) ha1a1aaa22a2a1a.1 ?_
              have ha1a1aaa22a2a1aa := ha1a1aaa22a2a1a.2
              refine ev_seg (σ1 := ((d + 1), 190, 116, [some (.inr (.inr 86)), some (.inl (w32 ((w32 (10 * (U1 86 40))) + (U1 94 (U1 86 40).toNat)))), some (.inl r2), some (.inl r3)], [.inl r3, .inl (w32 ((w32 (10 * (U1 86 40))) + (U1 94 (U1 86 40).toNat))), .inr (.inr 96)], (am_sh, am_mm (am_upd U10 95 (w32 ((w32 (10 * (U1 86 40))) + (U1 94 (U1 86 40).toNat))).toNat r2)))) 4 (fun _ => rfl) ?_
              refine eu_iast 96 (n := 20) rfl (by decide) rfl (fun _ => rfl) ha1a1aaa22a2a1aa.1 ?_
              have ha1a1aaa22a2a1aaa := ha1a1aaa22a2a1aa.2
              refine ev_seg (σ1 := ((d + 1), 190, 126, [some (.inr (.inr 86)), some (.inl (w32 ((w32 (10 * (U1 86 40))) + (U1 94 (U1 86 40).toNat)))), some (.inl r2), some (.inl r3)], [.inl ((am_upd (am_upd U10 95 (w32 ((w32 (10 * (U1 86 40))) + (U1 94 (U1 86 40).toNat))).toNat r2) 96 (w32 ((w32 (10 * (U1 86 40))) + (U1 94 (U1 86 40).toNat))).toNat r3) 86 40), .inr (.inr 94), .inl ((am_upd (am_upd U10 95 (w32 ((w32 (10 * (U1 86 40))) + (U1 94 (U1 86 40).toNat))).toNat r2) 96 (w32 ((w32 (10 * (U1 86 40))) + (U1 94 (U1 86 40).toNat))).toNat r3) 86 40), .inr (.inr 94)], (am_sh, am_mm (am_upd (am_upd U10 95 (w32 ((w32 (10 * (U1 86 40))) + (U1 94 (U1 86 40).toNat))).toNat r2) 96 (w32 ((w32 (10 * (U1 86 40))) + (U1 94 (U1 86 40).toNat))).toNat r3)))) 5 (fun _ => rfl) ?_
              refine eu_iald 94 (n := 2) rfl (by decide) rfl (fun _ => rfl) ha1a1aaa22a2a1aaa.1 ?_
              have ha1a1aaa22a2a1aaaa := ha1a1aaa22a2a1aaa.2
              refine ev_seg (σ1 := ((d + 1), 190, 129, [some (.inr (.inr 86)), some (.inl (w32 ((w32 (10 * (U1 86 40))) + (U1 94 (U1 86 40).toNat)))), some (.inl r2), some (.inl r3)], [.inl (w32 (((am_upd (am_upd U10 95 (w32 ((w32 (10 * (U1 86 40))) + (U1 94 (U1 86 40).toNat))).toNat r2) 96 (w32 ((w32 (10 * (U1 86 40))) + (U1 94 (U1 86 40).toNat))).toNat r3) 94 ((am_upd (am_upd U10 95 (w32 ((w32 (10 * (U1 86 40))) + (U1 94 (U1 86 40).toNat))).toNat r2) 96 (w32 ((w32 (10 * (U1 86 40))) + (U1 94 (U1 86 40).toNat))).toNat r3) 86 40).toNat) + 1)), .inl ((am_upd (am_upd U10 95 (w32 ((w32 (10 * (U1 86 40))) + (U1 94 (U1 86 40).toNat))).toNat r2) 96 (w32 ((w32 (10 * (U1 86 40))) + (U1 94 (U1 86 40).toNat))).toNat r3) 86 40), .inr (.inr 94)], (am_sh, am_mm (am_upd (am_upd U10 95 (w32 ((w32 (10 * (U1 86 40))) + (U1 94 (U1 86 40).toNat))).toNat r2) 96 (w32 ((w32 (10 * (U1 86 40))) + (U1 94 (U1 86 40).toNat))).toNat r3)))) 2 (fun _ => rfl) ?_
              refine eu_iast 94 (n := 2) rfl (by decide) rfl (fun _ => rfl) ha1a1aaa22a2a1aaaa.1 ?_
              have ha1a1aaa22a2a1aaaaa := ha1a1aaa22a2a1aaaa.2
              subst ha1a1aaa22a2a1aaaaa
              exact ev_end 1 (fun _ => rfl)
            · have ha1a1aaa22a2a2 := ha1a1aaa22a2a.2 hc
              subst ha1a1aaa22a2a2
              exact ev_end 1 (fun _ => rfl)
    · have ha1a2 := ha1a.2 hc
      subst ha1a2
      exact ev_end 1 (fun _ => rfl)
  · have ha2 := ha.2 hc
    refine ev_seg (σ1 := ((d + 1), 190, 20, [some (.inr (.inr 86)), none, none, none], [.inl 1, .inr (.inr 86)], (am_sh, am_mm U))) 2 (fun _ => rfl) ?_
    obtain ⟨r11, U11, ha2c, ha2a⟩ := ha2
    refine ev_cal (σc := (d, 264, 0, [some (.inr (.inr 86)), some (.inl 1)], [], (am_sh, am_mm U))) (fun _ => rfl) ha2c ?_
    show Ev (am_kz N X) ((d + 1), 190, 23, [some (.inr (.inr 86)), none, none, none], [.inl r11], (am_sh, am_mm U11)) R
    refine ev_br (P := ¬ r11 = 0) (σ1 := ((d + 1), 190, 27, [some (.inr (.inr 86)), none, none, none], [], (am_sh, am_mm U11))) (σ2 := ((d + 1), 190, 26, [some (.inr (.inr 86)), none, none, none], [], (am_sh, am_mm U11))) 1 (fun _ => rfl) (fun hc => ?_) (fun hc => ?_)
    · have ha2a1 := ha2a.1 hc
      refine ev_seg (σ1 := ((d + 1), 190, 42, [some (.inr (.inr 86)), none, none, none], [.inl (U11 86 40), .inr (.inr 94), .inl (w32 (10 * (U11 86 40)))], (am_sh, am_mm U11))) 8 (fun _ => rfl) ?_
      refine eu_iald 94 (n := 2) rfl (by decide) rfl (fun _ => rfl) ha2a1.1 ?_
      have ha2a1a := ha2a1.2
      refine ev_seg (σ1 := ((d + 1), 190, 47, [some (.inr (.inr 86)), some (.inl (w32 ((w32 (10 * (U11 86 40))) + (U11 94 (U11 86 40).toNat)))), none, none], [.inl 1, .inr (.inr 86)], (am_sh, am_mm U11))) 4 (fun _ => rfl) ?_
      obtain ⟨r12, U12, ha2a1ac, ha2a1aa⟩ := ha2a1a
      refine ev_cal (σc := (d, 267, 0, [some (.inr (.inr 86)), some (.inl 1), none], [], (am_sh, am_mm U11))) (fun _ => rfl) ha2a1ac ?_
      show Ev (am_kz N X) ((d + 1), 190, 50, [some (.inr (.inr 86)), some (.inl (w32 ((w32 (10 * (U11 86 40))) + (U11 94 (U11 86 40).toNat)))), none, none], [.inl r12], (am_sh, am_mm U12)) R
      refine ev_seg (σ1 := ((d + 1), 190, 53, [some (.inr (.inr 86)), some (.inl (w32 ((w32 (10 * (U11 86 40))) + (U11 94 (U11 86 40).toNat)))), some (.inl r12), none], [.inl 1, .inr (.inr 86)], (am_sh, am_mm U12))) 3 (fun _ => rfl) ?_
      obtain ⟨r13, U13, ha2a1aac, ha2a1aaa⟩ := ha2a1aa
      refine ev_cal (σc := (d, 269, 0, [some (.inr (.inr 86)), some (.inl 1), none], [], (am_sh, am_mm U12))) (fun _ => rfl) ha2a1aac ?_
      show Ev (am_kz N X) ((d + 1), 190, 56, [some (.inr (.inr 86)), some (.inl (w32 ((w32 (10 * (U11 86 40))) + (U11 94 (U11 86 40).toNat)))), some (.inl r12), none], [.inl r13], (am_sh, am_mm U13)) R
      refine ev_br (P := ¬ (U13 86 8) = 0) (σ1 := ((d + 1), 190, 91, [some (.inr (.inr 86)), some (.inl (w32 ((w32 (10 * (U11 86 40))) + (U11 94 (U11 86 40).toNat)))), some (.inl r12), some (.inl r13)], [], (am_sh, am_mm U13))) (σ2 := ((d + 1), 190, 64, [some (.inr (.inr 86)), some (.inl (w32 ((w32 (10 * (U11 86 40))) + (U11 94 (U11 86 40).toNat)))), some (.inl r12), some (.inl r13)], [], (am_sh, am_mm U13))) 4 (fun _ => rfl) (fun hc => ?_) (fun hc => ?_)
      · have ha2a1aaa1 := ha2a1aaa.1 hc
        refine ev_br (P := (U13 86 8) ≤ 0) (σ1 := ((d + 1), 190, 99, [some (.inr (.inr 86)), some (.inl (w32 ((w32 (10 * (U11 86 40))) + (U11 94 (U11 86 40).toNat)))), some (.inl r12), some (.inl r13)], [], (am_sh, am_mm U13))) (σ2 := ((d + 1), 190, 98, [some (.inr (.inr 86)), some (.inl (w32 ((w32 (10 * (U11 86 40))) + (U11 94 (U11 86 40).toNat)))), some (.inl r12), some (.inl r13)], [], (am_sh, am_mm U13))) 3 (fun _ => rfl) (fun hc => ?_) (fun hc => ?_)
        · have ha2a1aaa11 := ha2a1aaa1.1 hc
          refine ev_seg (σ1 := ((d + 1), 190, 100, [some (.inr (.inr 86)), some (.inl (w32 ((w32 (10 * (U11 86 40))) + (U11 94 (U11 86 40).toNat)))), some (.inl r12), some (.inl r13)], [.inr (.inr 86)], (am_sh, am_mm U13))) 1 (fun _ => rfl) ?_
          obtain ⟨U14, ha2a1aaa11c, ha2a1aaa11a⟩ := ha2a1aaa11
          refine ev_cal (σc := (d, 93, 0, [some (.inr (.inr 86)), none, none, none, none, none], [], (am_sh, am_mm U13))) (fun _ => rfl) ha2a1aaa11c ?_
          show Ev (am_kz N X) ((d + 1), 190, 103, [some (.inr (.inr 86)), some (.inl (w32 ((w32 (10 * (U11 86 40))) + (U11 94 (U11 86 40).toNat)))), some (.inl r12), some (.inl r13)], [], (am_sh, am_mm U14)) R
          refine ev_seg (σ1 := ((d + 1), 190, 109, [some (.inr (.inr 86)), some (.inl (w32 ((w32 (10 * (U11 86 40))) + (U11 94 (U11 86 40).toNat)))), some (.inl r12), some (.inl r13)], [.inl r12, .inl (w32 ((w32 (10 * (U11 86 40))) + (U11 94 (U11 86 40).toNat))), .inr (.inr 95)], (am_sh, am_mm U14))) 4 (fun _ => rfl) ?_
          refine eu_iast 95 (n := 20) rfl (by decide) rfl (fun _ => rfl) ha2a1aaa11a.1 ?_
          have ha2a1aaa11aa := ha2a1aaa11a.2
          refine ev_seg (σ1 := ((d + 1), 190, 116, [some (.inr (.inr 86)), some (.inl (w32 ((w32 (10 * (U11 86 40))) + (U11 94 (U11 86 40).toNat)))), some (.inl r12), some (.inl r13)], [.inl r13, .inl (w32 ((w32 (10 * (U11 86 40))) + (U11 94 (U11 86 40).toNat))), .inr (.inr 96)], (am_sh, am_mm (am_upd U14 95 (w32 ((w32 (10 * (U11 86 40))) + (U11 94 (U11 86 40).toNat))).toNat r12)))) 4 (fun _ => rfl) ?_
          refine eu_iast 96 (n := 20) rfl (by decide) rfl (fun _ => rfl) ha2a1aaa11aa.1 ?_
          have ha2a1aaa11aaa := ha2a1aaa11aa.2
          refine ev_seg (σ1 := ((d + 1), 190, 126, [some (.inr (.inr 86)), some (.inl (w32 ((w32 (10 * (U11 86 40))) + (U11 94 (U11 86 40).toNat)))), some (.inl r12), some (.inl r13)], [.inl ((am_upd (am_upd U14 95 (w32 ((w32 (10 * (U11 86 40))) + (U11 94 (U11 86 40).toNat))).toNat r12) 96 (w32 ((w32 (10 * (U11 86 40))) + (U11 94 (U11 86 40).toNat))).toNat r13) 86 40), .inr (.inr 94), .inl ((am_upd (am_upd U14 95 (w32 ((w32 (10 * (U11 86 40))) + (U11 94 (U11 86 40).toNat))).toNat r12) 96 (w32 ((w32 (10 * (U11 86 40))) + (U11 94 (U11 86 40).toNat))).toNat r13) 86 40), .inr (.inr 94)], (am_sh, am_mm (am_upd (am_upd U14 95 (w32 ((w32 (10 * (U11 86 40))) + (U11 94 (U11 86 40).toNat))).toNat r12) 96 (w32 ((w32 (10 * (U11 86 40))) + (U11 94 (U11 86 40).toNat))).toNat r13)))) 5 (fun _ => rfl) ?_
          refine eu_iald 94 (n := 2) rfl (by decide) rfl (fun _ => rfl) ha2a1aaa11aaa.1 ?_
          have ha2a1aaa11aaaa := ha2a1aaa11aaa.2
          refine ev_seg (σ1 := ((d + 1), 190, 129, [some (.inr (.inr 86)), some (.inl (w32 ((w32 (10 * (U11 86 40))) + (U11 94 (U11 86 40).toNat)))), some (.inl r12), some (.inl r13)], [.inl (w32 (((am_upd (am_upd U14 95 (w32 ((w32 (10 * (U11 86 40))) + (U11 94 (U11 86 40).toNat))).toNat r12) 96 (w32 ((w32 (10 * (U11 86 40))) + (U11 94 (U11 86 40).toNat))).toNat r13) 94 ((am_upd (am_upd U14 95 (w32 ((w32 (10 * (U11 86 40))) + (U11 94 (U11 86 40).toNat))).toNat r12) 96 (w32 ((w32 (10 * (U11 86 40))) + (U11 94 (U11 86 40).toNat))).toNat r13) 86 40).toNat) + 1)), .inl ((am_upd (am_upd U14 95 (w32 ((w32 (10 * (U11 86 40))) + (U11 94 (U11 86 40).toNat))).toNat r12) 96 (w32 ((w32 (10 * (U11 86 40))) + (U11 94 (U11 86 40).toNat))).toNat r13) 86 40), .inr (.inr 94)], (am_sh, am_mm (am_upd (am_upd U14 95 (w32 ((w32 (10 * (U11 86 40))) + (U11 94 (U11 86 40).toNat))).toNat r12) 96 (w32 ((w32 (10 * (U11 86 40))) + (U11 94 (U11 86 40).toNat))).toNat r13)))) 2 (fun _ => rfl) ?_
          refine eu_iast 94 (n := 2) rfl (by decide) rfl (fun _ => rfl) ha2a1aaa11aaaa.1 ?_
          have ha2a1aaa11aaaaa := ha2a1aaa11aaaa.2
          subst ha2a1aaa11aaaaa
          exact ev_end 1 (fun _ => rfl)
        · have ha2a1aaa12 := ha2a1aaa1.2 hc
          subst ha2a1aaa12
          exact ev_end 1 (fun _ => rfl)
      · have ha2a1aaa2 := ha2a1aaa.2 hc
        refine ev_br (P := r12 = r13) (σ1 := ((d + 1), 190, 82, [some (.inr (.inr 86)), some (.inl (w32 ((w32 (10 * (U11 86 40))) + (U11 94 (U11 86 40).toNat)))), some (.inl r12), some (.inl r13)], [], (am_sh, am_mm U13))) (σ2 := ((d + 1), 190, 69, [some (.inr (.inr 86)), some (.inl (w32 ((w32 (10 * (U11 86 40))) + (U11 94 (U11 86 40).toNat)))), some (.inl r12), some (.inl r13)], [], (am_sh, am_mm U13))) 3 (fun _ => rfl) (fun hc => ?_) (fun hc => ?_)
        · have ha2a1aaa21 := ha2a1aaa2.1 hc
          refine ev_seg (σ1 := ((d + 1), 190, 88, [some (.inr (.inr 86)), some (.inl (w32 ((w32 (10 * (U11 86 40))) + (U11 94 (U11 86 40).toNat)))), some (.inl r12), some (.inl r13)], [.inl (U13 86 4), .inl 3, .inr (.inr 86)], (am_sh, am_mm U13))) 4 (fun _ => rfl) ?_
          obtain ⟨U15, ha2a1aaa21c, ha2a1aaa21a⟩ := ha2a1aaa21
          refine ev_cal (σc := (d, 196, 0, [some (.inr (.inr 86)), some (.inl 3), some (.inl (U13 86 4))], [], (am_sh, am_mm U13))) (fun _ => rfl) ha2a1aaa21c ?_
          show Ev (am_kz N X) ((d + 1), 190, 91, [some (.inr (.inr 86)), some (.inl (w32 ((w32 (10 * (U11 86 40))) + (U11 94 (U11 86 40).toNat)))), some (.inl r12), some (.inl r13)], [], (am_sh, am_mm U15)) R
          refine ev_br (P := (U15 86 8) ≤ 0) (σ1 := ((d + 1), 190, 99, [some (.inr (.inr 86)), some (.inl (w32 ((w32 (10 * (U11 86 40))) + (U11 94 (U11 86 40).toNat)))), some (.inl r12), some (.inl r13)], [], (am_sh, am_mm U15))) (σ2 := ((d + 1), 190, 98, [some (.inr (.inr 86)), some (.inl (w32 ((w32 (10 * (U11 86 40))) + (U11 94 (U11 86 40).toNat)))), some (.inl r12), some (.inl r13)], [], (am_sh, am_mm U15))) 3 (fun _ => rfl) (fun hc => ?_) (fun hc => ?_)
          · have ha2a1aaa21a1 := ha2a1aaa21a.1 hc
            refine ev_seg (σ1 := ((d + 1), 190, 100, [some (.inr (.inr 86)), some (.inl (w32 ((w32 (10 * (U11 86 40))) + (U11 94 (U11 86 40).toNat)))), some (.inl r12), some (.inl r13)], [.inr (.inr 86)], (am_sh, am_mm U15))) 1 (fun _ => rfl) ?_
            obtain ⟨U16, ha2a1aaa21a1c, ha2a1aaa21a1a⟩ := ha2a1aaa21a1
            refine ev_cal (σc := (d, 93, 0, [some (.inr (.inr 86)), none, none, none, none, none], [], (am_sh, am_mm U15))) (fun _ => rfl) ha2a1aaa21a1c ?_
            show Ev (am_kz N X) ((d + 1), 190, 103, [some (.inr (.inr 86)), some (.inl (w32 ((w32 (10 * (U11 86 40))) + (U11 94 (U11 86 40).toNat)))), some (.inl r12), some (.inl r13)], [], (am_sh, am_mm U16)) R
            refine ev_seg (σ1 := ((d + 1), 190, 109, [some (.inr (.inr 86)), some (.inl (w32 ((w32 (10 * (U11 86 40))) + (U11 94 (U11 86 40).toNat)))), some (.inl r12), some (.inl r13)], [.inl r12, .inl (w32 ((w32 (10 * (U11 86 40))) + (U11 94 (U11 86 40).toNat))), .inr (.inr 95)], (am_sh, am_mm U16))) 4 (fun _ => rfl) ?_
            refine eu_iast 95 (n := 20) rfl (by decide) rfl (fun _ => rfl) ha2a1aaa21a1a.1 ?_
            have ha2a1aaa21a1aa := ha2a1aaa21a1a.2
            refine ev_seg (σ1 := ((d + 1), 190, 116, [some (.inr (.inr 86)), some (.inl (w32 ((w32 (10 * (U11 86 40))) + (U11 94 (U11 86 40).toNat)))), some (.inl r12), some (.inl r13)], [.inl r13, .inl (w32 ((w32 (10 * (U11 86 40))) + (U11 94 (U11 86 40).toNat))), .inr (.inr 96)], (am_sh, am_mm (am_upd U16 95 (w32 ((w32 (10 * (U11 86 40))) + (U11 94 (U11 86 40).toNat))).toNat r12)))) 4 (fun _ => rfl) ?_
            refine eu_iast 96 (n := 20) rfl (by decide) rfl (fun _ => rfl) ha2a1aaa21a1aa.1 ?_
            have ha2a1aaa21a1aaa := ha2a1aaa21a1aa.2
            refine ev_seg (σ1 := ((d + 1), 190, 126, [some (.inr (.inr 86)), some (.inl (w32 ((w32 (10 * (U11 86 40))) + (U11 94 (U11 86 40).toNat)))), some (.inl r12), some (.inl r13)], [.inl ((am_upd (am_upd U16 95 (w32 ((w32 (10 * (U11 86 40))) + (U11 94 (U11 86 40).toNat))).toNat r12) 96 (w32 ((w32 (10 * (U11 86 40))) + (U11 94 (U11 86 40).toNat))).toNat r13) 86 40), .inr (.inr 94), .inl ((am_upd (am_upd U16 95 (w32 ((w32 (10 * (U11 86 40))) + (U11 94 (U11 86 40).toNat))).toNat r12) 96 (w32 ((w32 (10 * (U11 86 40))) + (U11 94 (U11 86 40).toNat))).toNat r13) 86 40), .inr (.inr 94)], (am_sh, am_mm (am_upd (am_upd U16 95 (w32 ((w32 (10 * (U11 86 40))) + (U11 94 (U11 86 40).toNat))).toNat r12) 96 (w32 ((w32 (10 * (U11 86 40))) + (U11 94 (U11 86 40).toNat))).toNat r13)))) 5 (fun _ => rfl) ?_
            refine eu_iald 94 (n := 2) rfl (by decide) rfl (fun _ => rfl) ha2a1aaa21a1aaa.1 ?_
            have ha2a1aaa21a1aaaa := ha2a1aaa21a1aaa.2
            refine ev_seg (σ1 := ((d + 1), 190, 129, [some (.inr (.inr 86)), some (.inl (w32 ((w32 (10 * (U11 86 40))) + (U11 94 (U11 86 40).toNat)))), some (.inl r12), some (.inl r13)], [.inl (w32 (((am_upd (am_upd U16 95 (w32 ((w32 (10 * (U11 86 40))) + (U11 94 (U11 86 40).toNat))).toNat r12) 96 (w32 ((w32 (10 * (U11 86 40))) + (U11 94 (U11 86 40).toNat))).toNat r13) 94 ((am_upd (am_upd U16 95 (w32 ((w32 (10 * (U11 86 40))) + (U11 94 (U11 86 40).toNat))).toNat r12) 96 (w32 ((w32 (10 * (U11 86 40))) + (U11 94 (U11 86 40).toNat))).toNat r13) 86 40).toNat) + 1)), .inl ((am_upd (am_upd U16 95 (w32 ((w32 (10 * (U11 86 40))) + (U11 94 (U11 86 40).toNat))).toNat r12) 96 (w32 ((w32 (10 * (U11 86 40))) + (U11 94 (U11 86 40).toNat))).toNat r13) 86 40), .inr (.inr 94)], (am_sh, am_mm (am_upd (am_upd U16 95 (w32 ((w32 (10 * (U11 86 40))) + (U11 94 (U11 86 40).toNat))).toNat r12) 96 (w32 ((w32 (10 * (U11 86 40))) + (U11 94 (U11 86 40).toNat))).toNat r13)))) 2 (fun _ => rfl) ?_
            refine eu_iast 94 (n := 2) rfl (by decide) rfl (fun _ => rfl) ha2a1aaa21a1aaaa.1 ?_
            have ha2a1aaa21a1aaaaa := ha2a1aaa21a1aaaa.2
            subst ha2a1aaa21a1aaaaa
            exact ev_end 1 (fun _ => rfl)
          · have ha2a1aaa21a2 := ha2a1aaa21a.2 hc
            subst ha2a1aaa21a2
            exact ev_end 1 (fun _ => rfl)
        · have ha2a1aaa22 := ha2a1aaa2.2 hc
          refine ev_seg (σ1 := ((d + 1), 190, 76, [some (.inr (.inr 86)), some (.inl (w32 ((w32 (10 * (U11 86 40))) + (U11 94 (U11 86 40).toNat)))), some (.inl r12), some (.inl r13)], [.inl r13, .inl r12, .inl (U13 86 40), .inr (.inr 86)], (am_sh, am_mm U13))) 5 (fun _ => rfl) ?_
          obtain ⟨r17, U17, ha2a1aaa22c, ha2a1aaa22a⟩ := ha2a1aaa22
          refine ev_cal (σc := (d, 113, 0, [some (.inr (.inr 86)), some (.inl (U13 86 40)), some (.inl r12), some (.inl r13), none, none], [], (am_sh, am_mm U13))) (fun _ => rfl) ha2a1aaa22c ?_
          show Ev (am_kz N X) ((d + 1), 190, 79, [some (.inr (.inr 86)), some (.inl (w32 ((w32 (10 * (U11 86 40))) + (U11 94 (U11 86 40).toNat)))), some (.inl r12), some (.inl r13)], [.inl r17], (am_sh, am_mm U17)) R
          refine ev_br (P := r17 = 0) (σ1 := ((d + 1), 190, 91, [some (.inr (.inr 86)), some (.inl (w32 ((w32 (10 * (U11 86 40))) + (U11 94 (U11 86 40).toNat)))), some (.inl r12), some (.inl r13)], [], (am_sh, am_mm U17))) (σ2 := ((d + 1), 190, 82, [some (.inr (.inr 86)), some (.inl (w32 ((w32 (10 * (U11 86 40))) + (U11 94 (U11 86 40).toNat)))), some (.inl r12), some (.inl r13)], [], (am_sh, am_mm U17))) 1 (fun _ => rfl) (fun hc => ?_) (fun hc => ?_)
          · have ha2a1aaa22a1 := ha2a1aaa22a.1 hc
            refine ev_br (P := (U17 86 8) ≤ 0) (σ1 := ((d + 1), 190, 99, [some (.inr (.inr 86)), some (.inl (w32 ((w32 (10 * (U11 86 40))) + (U11 94 (U11 86 40).toNat)))), some (.inl r12), some (.inl r13)], [], (am_sh, am_mm U17))) (σ2 := ((d + 1), 190, 98, [some (.inr (.inr 86)), some (.inl (w32 ((w32 (10 * (U11 86 40))) + (U11 94 (U11 86 40).toNat)))), some (.inl r12), some (.inl r13)], [], (am_sh, am_mm U17))) 3 (fun _ => rfl) (fun hc => ?_) (fun hc => ?_)
            · have ha2a1aaa22a11 := ha2a1aaa22a1.1 hc
              refine ev_seg (σ1 := ((d + 1), 190, 100, [some (.inr (.inr 86)), some (.inl (w32 ((w32 (10 * (U11 86 40))) + (U11 94 (U11 86 40).toNat)))), some (.inl r12), some (.inl r13)], [.inr (.inr 86)], (am_sh, am_mm U17))) 1 (fun _ => rfl) ?_
              obtain ⟨U18, ha2a1aaa22a11c, ha2a1aaa22a11a⟩ := ha2a1aaa22a11
              refine ev_cal (σc := (d, 93, 0, [some (.inr (.inr 86)), none, none, none, none, none], [], (am_sh, am_mm U17))) (fun _ => rfl) ha2a1aaa22a11c ?_
              show Ev (am_kz N X) ((d + 1), 190, 103, [some (.inr (.inr 86)), some (.inl (w32 ((w32 (10 * (U11 86 40))) + (U11 94 (U11 86 40).toNat)))), some (.inl r12), some (.inl r13)], [], (am_sh, am_mm U18)) R
              refine ev_seg (σ1 := ((d + 1), 190, 109, [some (.inr (.inr 86)), some (.inl (w32 ((w32 (10 * (U11 86 40))) + (U11 94 (U11 86 40).toNat)))), some (.inl r12), some (.inl r13)], [.inl r12, .inl (w32 ((w32 (10 * (U11 86 40))) + (U11 94 (U11 86 40).toNat))), .inr (.inr 95)], (am_sh, am_mm U18))) 4 (fun _ => rfl) ?_
              refine eu_iast 95 (n := 20) rfl (by decide) rfl (fun _ => rfl) ha2a1aaa22a11a.1 ?_
              have ha2a1aaa22a11aa := ha2a1aaa22a11a.2
              refine ev_seg (σ1 := ((d + 1), 190, 116, [some (.inr (.inr 86)), some (.inl (w32 ((w32 (10 * (U11 86 40))) + (U11 94 (U11 86 40).toNat)))), some (.inl r12), some (.inl r13)], [.inl r13, .inl (w32 ((w32 (10 * (U11 86 40))) + (U11 94 (U11 86 40).toNat))), .inr (.inr 96)], (am_sh, am_mm (am_upd U18 95 (w32 ((w32 (10 * (U11 86 40))) + (U11 94 (U11 86 40).toNat))).toNat r12)))) 4 (fun _ => rfl) ?_
              refine eu_iast 96 (n := 20) rfl (by decide) rfl (fun _ => rfl) ha2a1aaa22a11aa.1 ?_
              have ha2a1aaa22a11aaa := ha2a1aaa22a11aa.2
              refine ev_seg (σ1 := ((d + 1), 190, 126, [some (.inr (.inr 86)), some (.inl (w32 ((w32 (10 * (U11 86 40))) + (U11 94 (U11 86 40).toNat)))), some (.inl r12), some (.inl r13)], [.inl ((am_upd (am_upd U18 95 (w32 ((w32 (10 * (U11 86 40))) + (U11 94 (U11 86 40).toNat))).toNat r12) 96 (w32 ((w32 (10 * (U11 86 40))) + (U11 94 (U11 86 40).toNat))).toNat r13) 86 40), .inr (.inr 94), .inl ((am_upd (am_upd U18 95 (w32 ((w32 (10 * (U11 86 40))) + (U11 94 (U11 86 40).toNat))).toNat r12) 96 (w32 ((w32 (10 * (U11 86 40))) + (U11 94 (U11 86 40).toNat))).toNat r13) 86 40), .inr (.inr 94)], (am_sh, am_mm (am_upd (am_upd U18 95 (w32 ((w32 (10 * (U11 86 40))) + (U11 94 (U11 86 40).toNat))).toNat r12) 96 (w32 ((w32 (10 * (U11 86 40))) + (U11 94 (U11 86 40).toNat))).toNat r13)))) 5 (fun _ => rfl) ?_
              refine eu_iald 94 (n := 2) rfl (by decide) rfl (fun _ => rfl) ha2a1aaa22a11aaa.1 ?_
              have ha2a1aaa22a11aaaa := ha2a1aaa22a11aaa.2
              refine ev_seg (σ1 := ((d + 1), 190, 129, [some (.inr (.inr 86)), some (.inl (w32 ((w32 (10 * (U11 86 40))) + (U11 94 (U11 86 40).toNat)))), some (.inl r12), some (.inl r13)], [.inl (w32 (((am_upd (am_upd U18 95 (w32 ((w32 (10 * (U11 86 40))) + (U11 94 (U11 86 40).toNat))).toNat r12) 96 (w32 ((w32 (10 * (U11 86 40))) + (U11 94 (U11 86 40).toNat))).toNat r13) 94 ((am_upd (am_upd U18 95 (w32 ((w32 (10 * (U11 86 40))) + (U11 94 (U11 86 40).toNat))).toNat r12) 96 (w32 ((w32 (10 * (U11 86 40))) + (U11 94 (U11 86 40).toNat))).toNat r13) 86 40).toNat) + 1)), .inl ((am_upd (am_upd U18 95 (w32 ((w32 (10 * (U11 86 40))) + (U11 94 (U11 86 40).toNat))).toNat r12) 96 (w32 ((w32 (10 * (U11 86 40))) + (U11 94 (U11 86 40).toNat))).toNat r13) 86 40), .inr (.inr 94)], (am_sh, am_mm (am_upd (am_upd U18 95 (w32 ((w32 (10 * (U11 86 40))) + (U11 94 (U11 86 40).toNat))).toNat r12) 96 (w32 ((w32 (10 * (U11 86 40))) + (U11 94 (U11 86 40).toNat))).toNat r13)))) 2 (fun _ => rfl) ?_
              refine eu_iast 94 (n := 2) rfl (by decide) rfl (fun _ => rfl) ha2a1aaa22a11aaaa.1 ?_
              have ha2a1aaa22a11aaaaa := ha2a1aaa22a11aaaa.2
              subst ha2a1aaa22a11aaaaa
              exact ev_end 1 (fun _ => rfl)
            · have ha2a1aaa22a12 := ha2a1aaa22a1.2 hc
              subst ha2a1aaa22a12
              exact ev_end 1 (fun _ => rfl)
          · have ha2a1aaa22a2 := ha2a1aaa22a.2 hc
            refine ev_seg (σ1 := ((d + 1), 190, 88, [some (.inr (.inr 86)), some (.inl (w32 ((w32 (10 * (U11 86 40))) + (U11 94 (U11 86 40).toNat)))), some (.inl r12), some (.inl r13)], [.inl (U17 86 4), .inl 3, .inr (.inr 86)], (am_sh, am_mm U17))) 4 (fun _ => rfl) ?_
            obtain ⟨U19, ha2a1aaa22a2c, ha2a1aaa22a2a⟩ := ha2a1aaa22a2
            refine ev_cal (σc := (d, 196, 0, [some (.inr (.inr 86)), some (.inl 3), some (.inl (U17 86 4))], [], (am_sh, am_mm U17))) (fun _ => rfl) ha2a1aaa22a2c ?_
            show Ev (am_kz N X) ((d + 1), 190, 91, [some (.inr (.inr 86)), some (.inl (w32 ((w32 (10 * (U11 86 40))) + (U11 94 (U11 86 40).toNat)))), some (.inl r12), some (.inl r13)], [], (am_sh, am_mm U19)) R
            refine ev_br (P := (U19 86 8) ≤ 0) (σ1 := ((d + 1), 190, 99, [some (.inr (.inr 86)), some (.inl (w32 ((w32 (10 * (U11 86 40))) + (U11 94 (U11 86 40).toNat)))), some (.inl r12), some (.inl r13)], [], (am_sh, am_mm U19))) (σ2 := ((d + 1), 190, 98, [some (.inr (.inr 86)), some (.inl (w32 ((w32 (10 * (U11 86 40))) + (U11 94 (U11 86 40).toNat)))), some (.inl r12), some (.inl r13)], [], (am_sh, am_mm U19))) 3 (fun _ => rfl) (fun hc => ?_) (fun hc => ?_)
            · have ha2a1aaa22a2a1 := ha2a1aaa22a2a.1 hc
              refine ev_seg (σ1 := ((d + 1), 190, 100, [some (.inr (.inr 86)), some (.inl (w32 ((w32 (10 * (U11 86 40))) + (U11 94 (U11 86 40).toNat)))), some (.inl r12), some (.inl r13)], [.inr (.inr 86)], (am_sh, am_mm U19))) 1 (fun _ => rfl) ?_
              obtain ⟨U20, ha2a1aaa22a2a1c, ha2a1aaa22a2a1a⟩ := ha2a1aaa22a2a1
              refine ev_cal (σc := (d, 93, 0, [some (.inr (.inr 86)), none, none, none, none, none], [], (am_sh, am_mm U19))) (fun _ => rfl) ha2a1aaa22a2a1c ?_
              show Ev (am_kz N X) ((d + 1), 190, 103, [some (.inr (.inr 86)), some (.inl (w32 ((w32 (10 * (U11 86 40))) + (U11 94 (U11 86 40).toNat)))), some (.inl r12), some (.inl r13)], [], (am_sh, am_mm U20)) R
              refine ev_seg (σ1 := ((d + 1), 190, 109, [some (.inr (.inr 86)), some (.inl (w32 ((w32 (10 * (U11 86 40))) + (U11 94 (U11 86 40).toNat)))), some (.inl r12), some (.inl r13)], [.inl r12, .inl (w32 ((w32 (10 * (U11 86 40))) + (U11 94 (U11 86 40).toNat))), .inr (.inr 95)], (am_sh, am_mm U20))) 4 (fun _ => rfl) ?_
              refine eu_iast 95 (n := 20) rfl (by decide) rfl (fun _ => rfl) ha2a1aaa22a2a1a.1 ?_
              have ha2a1aaa22a2a1aa := ha2a1aaa22a2a1a.2
              refine ev_seg (σ1 := ((d + 1), 190, 116, [some (.inr (.inr 86)), some (.inl (w32 ((w32 (10 * (U11 86 40))) + (U11 94 (U11 86 40).toNat)))), some (.inl r12), some (.inl r13)], [.inl r13, .inl (w32 ((w32 (10 * (U11 86 40))) + (U11 94 (U11 86 40).toNat))), .inr (.inr 96)], (am_sh, am_mm (am_upd U20 95 (w32 ((w32 (10 * (U11 86 40))) + (U11 94 (U11 86 40).toNat))).toNat r12)))) 4 (fun _ => rfl) ?_
              refine eu_iast 96 (n := 20) rfl (by decide) rfl (fun _ => rfl) ha2a1aaa22a2a1aa.1 ?_
              have ha2a1aaa22a2a1aaa := ha2a1aaa22a2a1aa.2
              refine ev_seg (σ1 := ((d + 1), 190, 126, [some (.inr (.inr 86)), some (.inl (w32 ((w32 (10 * (U11 86 40))) + (U11 94 (U11 86 40).toNat)))), some (.inl r12), some (.inl r13)], [.inl ((am_upd (am_upd U20 95 (w32 ((w32 (10 * (U11 86 40))) + (U11 94 (U11 86 40).toNat))).toNat r12) 96 (w32 ((w32 (10 * (U11 86 40))) + (U11 94 (U11 86 40).toNat))).toNat r13) 86 40), .inr (.inr 94), .inl ((am_upd (am_upd U20 95 (w32 ((w32 (10 * (U11 86 40))) + (U11 94 (U11 86 40).toNat))).toNat r12) 96 (w32 ((w32 (10 * (U11 86 40))) + (U11 94 (U11 86 40).toNat))).toNat r13) 86 40), .inr (.inr 94)], (am_sh, am_mm (am_upd (am_upd U20 95 (w32 ((w32 (10 * (U11 86 40))) + (U11 94 (U11 86 40).toNat))).toNat r12) 96 (w32 ((w32 (10 * (U11 86 40))) + (U11 94 (U11 86 40).toNat))).toNat r13)))) 5 (fun _ => rfl) ?_
              refine eu_iald 94 (n := 2) rfl (by decide) rfl (fun _ => rfl) ha2a1aaa22a2a1aaa.1 ?_
              have ha2a1aaa22a2a1aaaa := ha2a1aaa22a2a1aaa.2
              refine ev_seg (σ1 := ((d + 1), 190, 129, [some (.inr (.inr 86)), some (.inl (w32 ((w32 (10 * (U11 86 40))) + (U11 94 (U11 86 40).toNat)))), some (.inl r12), some (.inl r13)], [.inl (w32 (((am_upd (am_upd U20 95 (w32 ((w32 (10 * (U11 86 40))) + (U11 94 (U11 86 40).toNat))).toNat r12) 96 (w32 ((w32 (10 * (U11 86 40))) + (U11 94 (U11 86 40).toNat))).toNat r13) 94 ((am_upd (am_upd U20 95 (w32 ((w32 (10 * (U11 86 40))) + (U11 94 (U11 86 40).toNat))).toNat r12) 96 (w32 ((w32 (10 * (U11 86 40))) + (U11 94 (U11 86 40).toNat))).toNat r13) 86 40).toNat) + 1)), .inl ((am_upd (am_upd U20 95 (w32 ((w32 (10 * (U11 86 40))) + (U11 94 (U11 86 40).toNat))).toNat r12) 96 (w32 ((w32 (10 * (U11 86 40))) + (U11 94 (U11 86 40).toNat))).toNat r13) 86 40), .inr (.inr 94)], (am_sh, am_mm (am_upd (am_upd U20 95 (w32 ((w32 (10 * (U11 86 40))) + (U11 94 (U11 86 40).toNat))).toNat r12) 96 (w32 ((w32 (10 * (U11 86 40))) + (U11 94 (U11 86 40).toNat))).toNat r13)))) 2 (fun _ => rfl) ?_
              refine eu_iast 94 (n := 2) rfl (by decide) rfl (fun _ => rfl) ha2a1aaa22a2a1aaaa.1 ?_
              have ha2a1aaa22a2a1aaaaa := ha2a1aaa22a2a1aaaa.2
              subst ha2a1aaa22a2a1aaaaa
              exact ev_end 1 (fun _ => rfl)
            · have ha2a1aaa22a2a2 := ha2a1aaa22a2a.2 hc
              subst ha2a1aaa22a2a2
              exact ev_end 1 (fun _ => rfl)
    · have ha2a2 := ha2a.2 hc
      subst ha2a2
      exact ev_end 1 (fun _ => rfl)
set_option maxRecDepth 8000 in
theorem st191_86_0 (N : Nat) (X : Nat → Int) (d : Nat) (U : Nat → Nat → Int) (R : Option am_V × am_M) (h : (0 ≤ (U 86 40) ∧ (U 86 40) < 2) ∧ (((¬ (U 97 (U 86 40).toNat) = 16 : Prop)) → Ev (am_kz N X) ((d + 1), 191, 20, [some (.inr (.inr 86)), none, none, none, none, none, none], [.inl 0, .inr (.inr 86)], (am_sh, am_mm U)) R) ∧ (¬ (¬ (U 97 (U 86 40).toNat) = 16) → Ev (am_kz N X) ((d + 1), 191, 20, [some (.inr (.inr 86)), none, none, none, none, none, none], [.inl 1, .inr (.inr 86)], (am_sh, am_mm U)) R)) : Ev (am_kz N X) ((d + 1), 191, 0, [some (.inr (.inr 86)), none, none, none, none, none, none], [], (am_sh, am_mm U)) R := by
  refine ev_seg (σ1 := ((d + 1), 191, 9, [some (.inr (.inr 86)), none, none, none, none, none, none], [.inl (U 86 40), .inr (.inr 97), .inr (.inr 86)], (am_sh, am_mm U))) 5 (fun _ => rfl) ?_
  refine eu_iald 97 (n := 2) rfl (by decide) rfl (fun _ => rfl) h.1 ?_
  have ha := h.2
  refine ev_br (P := ¬ (U 97 (U 86 40).toNat) = 16) (σ1 := ((d + 1), 191, 19, [some (.inr (.inr 86)), none, none, none, none, none, none], [.inr (.inr 86)], (am_sh, am_mm U))) (σ2 := ((d + 1), 191, 15, [some (.inr (.inr 86)), none, none, none, none, none, none], [.inr (.inr 86)], (am_sh, am_mm U))) 2 (fun _ => rfl) (fun hc => ?_) (fun hc => ?_)
  · have ha1 := ha.1 hc
    refine ev_seg (σ1 := ((d + 1), 191, 20, [some (.inr (.inr 86)), none, none, none, none, none, none], [.inl 0, .inr (.inr 86)], (am_sh, am_mm U))) 1 (fun _ => rfl) ?_
    exact ha1
  · have ha2 := ha.2 hc
    refine ev_seg (σ1 := ((d + 1), 191, 20, [some (.inr (.inr 86)), none, none, none, none, none, none], [.inl 1, .inr (.inr 86)], (am_sh, am_mm U))) 2 (fun _ => rfl) ?_
    exact ha2
set_option maxRecDepth 8000 in
theorem st191_86_20 (N : Nat) (X : Nat → Int) (d : Nat) (s1 : Int) (U : Nat → Nat → Int) (R : Option am_V × am_M) (h : ∃ (r1 : Int) (U1 : Nat → Nat → Int), Ev (am_kz N X) (d, 264, 0, [some (.inr (.inr 86)), some (.inl s1)], [], (am_sh, am_mm U)) (some (.inl r1), (am_sh, am_mm U1)) ∧ (((¬ r1 = 0 : Prop)) → (0 ≤ (U1 86 40) ∧ (U1 86 40) < 2) ∧ ∃ U2 : Nat → Nat → Int, Ev (am_kz N X) (d, 186, 0, [some (.inr (.inr 86))], [], (am_sh, am_mm U1)) (none, (am_sh, am_mm U2)) ∧ (((¬ (U2 86 8) = 0 : Prop)) → (((0 = 0 : Prop)) → ∃ U3 : Nat → Nat → Int, Ev (am_kz N X) (d, 186, 0, [some (.inr (.inr 86))], [], (am_sh, am_mm U2)) (none, (am_sh, am_mm U3)) ∧ (((¬ (U3 86 8) = 0 : Prop)) → Ev (am_kz N X) ((d + 1), 191, 112, [some (.inr (.inr 86)), some (.inl (w32 ((w32 (16 * (U1 86 40))) + (U1 97 (U1 86 40).toNat)))), some (.inl 0), some (.inl (U2 86 4)), none, none, none], [], (am_sh, am_mm U3)) R) ∧ (¬ (¬ (U3 86 8) = 0) → ((((U3 86 3) = 2 : Prop)) → Ev (am_kz N X) ((d + 1), 191, 112, [some (.inr (.inr 86)), some (.inl (w32 ((w32 (16 * (U1 86 40))) + (U1 97 (U1 86 40).toNat)))), some (.inl 0), some (.inl (U2 86 4)), none, none, none], [], (am_sh, am_mm U3)) R) ∧ (¬ ((U3 86 3) = 2) → ∃ U4 : Nat → Nat → Int, Ev (am_kz N X) (d, 196, 0, [some (.inr (.inr 86)), some (.inl 1), some (.inl (U3 86 4))], [], (am_sh, am_mm U3)) (none, (am_sh, am_mm U4)) ∧ Ev (am_kz N X) ((d + 1), 191, 112, [some (.inr (.inr 86)), some (.inl (w32 ((w32 (16 * (U1 86 40))) + (U1 97 (U1 86 40).toNat)))), some (.inl 0), some (.inl (U2 86 4)), none, none, none], [], (am_sh, am_mm U4)) R))) ∧ (¬ (0 = 0) → ∃ U5 : Nat → Nat → Int, Ev (am_kz N X) (d, 93, 0, [some (.inr (.inr 86)), none, none, none, none, none], [], (am_sh, am_mm U2)) (none, (am_sh, am_mm U5)) ∧ ∃ U6 : Nat → Nat → Int, Ev (am_kz N X) (d, 186, 0, [some (.inr (.inr 86))], [], (am_sh, am_mm U5)) (none, (am_sh, am_mm U6)) ∧ (((¬ (U6 86 8) = 0 : Prop)) → Ev (am_kz N X) ((d + 1), 191, 112, [some (.inr (.inr 86)), some (.inl (w32 ((w32 (16 * (U1 86 40))) + (U1 97 (U1 86 40).toNat)))), some (.inl 0), some (.inl (U2 86 4)), none, none, none], [], (am_sh, am_mm U6)) R) ∧ (¬ (¬ (U6 86 8) = 0) → ((((U6 86 3) = 2 : Prop)) → Ev (am_kz N X) ((d + 1), 191, 112, [some (.inr (.inr 86)), some (.inl (w32 ((w32 (16 * (U1 86 40))) + (U1 97 (U1 86 40).toNat)))), some (.inl 0), some (.inl (U2 86 4)), none, none, none], [], (am_sh, am_mm U6)) R) ∧ (¬ ((U6 86 3) = 2) → ∃ U7 : Nat → Nat → Int, Ev (am_kz N X) (d, 196, 0, [some (.inr (.inr 86)), some (.inl 1), some (.inl (U6 86 4))], [], (am_sh, am_mm U6)) (none, (am_sh, am_mm U7)) ∧ Ev (am_kz N X) ((d + 1), 191, 112, [some (.inr (.inr 86)), some (.inl (w32 ((w32 (16 * (U1 86 40))) + (U1 97 (U1 86 40).toNat)))), some (.inl 0), some (.inl (U2 86 4)), none, none, none], [], (am_sh, am_mm U7)) R)))) ∧ (¬ (¬ (U2 86 8) = 0) → ∃ (r8 : Int) (U8 : Nat → Nat → Int), Ev (am_kz N X) (d, 197, 0, [some (.inr (.inr 86)), some (.inl 45)], [], (am_sh, am_mm U2)) (some (.inl r8), (am_sh, am_mm U8)) ∧ (((r8 = 0 : Prop)) → (((0 = 0 : Prop)) → ∃ U9 : Nat → Nat → Int, Ev (am_kz N X) (d, 186, 0, [some (.inr (.inr 86))], [], (am_sh, am_mm U8)) (none, (am_sh, am_mm U9)) ∧ (((¬ (U9 86 8) = 0 : Prop)) → Ev (am_kz N X) ((d + 1), 191, 112, [some (.inr (.inr 86)), some (.inl (w32 ((w32 (16 * (U1 86 40))) + (U1 97 (U1 86 40).toNat)))), some (.inl 0), some (.inl (U8 86 4)), none, none, none], [], (am_sh, am_mm U9)) R) ∧ (¬ (¬ (U9 86 8) = 0) → ((((U9 86 3) = 2 : Prop)) → Ev (am_kz N X) ((d + 1), 191, 112, [some (.inr (.inr 86)), some (.inl (w32 ((w32 (16 * (U1 86 40))) + (U1 97 (U1 86 40).toNat)))), some (.inl 0), some (.inl (U8 86 4)), none, none, none], [], (am_sh, am_mm U9)) R) ∧ (¬ ((U9 86 3) = 2) → ∃ U10 : Nat → Nat → Int, Ev (am_kz N X) (d, 196, 0, [some (.inr (.inr 86)), some (.inl 1), some (.inl (U9 86 4))], [], (am_sh, am_mm U9)) (none, (am_sh, am_mm U10)) ∧ Ev (am_kz N X) ((d + 1), 191, 112, [some (.inr (.inr 86)), some (.inl (w32 ((w32 (16 * (U1 86 40))) + (U1 97 (U1 86 40).toNat)))), some (.inl 0), some (.inl (U8 86 4)), none, none, none], [], (am_sh, am_mm U10)) R))) ∧ (¬ (0 = 0) → ∃ U11 : Nat → Nat → Int, Ev (am_kz N X) (d, 93, 0, [some (.inr (.inr 86)), none, none, none, none, none], [], (am_sh, am_mm U8)) (none, (am_sh, am_mm U11)) ∧ ∃ U12 : Nat → Nat → Int, Ev (am_kz N X) (d, 186, 0, [some (.inr (.inr 86))], [], (am_sh, am_mm U11)) (none, (am_sh, am_mm U12)) ∧ (((¬ (U12 86 8) = 0 : Prop)) → Ev (am_kz N X) ((d + 1), 191, 112, [some (.inr (.inr 86)), some (.inl (w32 ((w32 (16 * (U1 86 40))) + (U1 97 (U1 86 40).toNat)))), some (.inl 0), some (.inl (U8 86 4)), none, none, none], [], (am_sh, am_mm U12)) R) ∧ (¬ (¬ (U12 86 8) = 0) → ((((U12 86 3) = 2 : Prop)) → Ev (am_kz N X) ((d + 1), 191, 112, [some (.inr (.inr 86)), some (.inl (w32 ((w32 (16 * (U1 86 40))) + (U1 97 (U1 86 40).toNat)))), some (.inl 0), some (.inl (U8 86 4)), none, none, none], [], (am_sh, am_mm U12)) R) ∧ (¬ ((U12 86 3) = 2) → ∃ U13 : Nat → Nat → Int, Ev (am_kz N X) (d, 196, 0, [some (.inr (.inr 86)), some (.inl 1), some (.inl (U12 86 4))], [], (am_sh, am_mm U12)) (none, (am_sh, am_mm U13)) ∧ Ev (am_kz N X) ((d + 1), 191, 112, [some (.inr (.inr 86)), some (.inl (w32 ((w32 (16 * (U1 86 40))) + (U1 97 (U1 86 40).toNat)))), some (.inl 0), some (.inl (U8 86 4)), none, none, none], [], (am_sh, am_mm U13)) R)))) ∧ (¬ (r8 = 0) → (((1 = 0 : Prop)) → ∃ U14 : Nat → Nat → Int, Ev (am_kz N X) (d, 186, 0, [some (.inr (.inr 86))], [], (am_sh, am_mm U8)) (none, (am_sh, am_mm U14)) ∧ (((¬ (U14 86 8) = 0 : Prop)) → Ev (am_kz N X) ((d + 1), 191, 112, [some (.inr (.inr 86)), some (.inl (w32 ((w32 (16 * (U1 86 40))) + (U1 97 (U1 86 40).toNat)))), some (.inl 1), some (.inl (U8 86 4)), none, none, none], [], (am_sh, am_mm U14)) R) ∧ (¬ (¬ (U14 86 8) = 0) → ((((U14 86 3) = 2 : Prop)) → Ev (am_kz N X) ((d + 1), 191, 112, [some (.inr (.inr 86)), some (.inl (w32 ((w32 (16 * (U1 86 40))) + (U1 97 (U1 86 40).toNat)))), some (.inl 1), some (.inl (U8 86 4)), none, none, none], [], (am_sh, am_mm U14)) R) ∧ (¬ ((U14 86 3) = 2) → ∃ U15 : Nat → Nat → Int, Ev (am_kz N X) (d, 196, 0, [some (.inr (.inr 86)), some (.inl 1), some (.inl (U14 86 4))], [], (am_sh, am_mm U14)) (none, (am_sh, am_mm U15)) ∧ Ev (am_kz N X) ((d + 1), 191, 112, [some (.inr (.inr 86)), some (.inl (w32 ((w32 (16 * (U1 86 40))) + (U1 97 (U1 86 40).toNat)))), some (.inl 1), some (.inl (U8 86 4)), none, none, none], [], (am_sh, am_mm U15)) R))) ∧ (¬ (1 = 0) → ∃ U16 : Nat → Nat → Int, Ev (am_kz N X) (d, 93, 0, [some (.inr (.inr 86)), none, none, none, none, none], [], (am_sh, am_mm U8)) (none, (am_sh, am_mm U16)) ∧ ∃ U17 : Nat → Nat → Int, Ev (am_kz N X) (d, 186, 0, [some (.inr (.inr 86))], [], (am_sh, am_mm U16)) (none, (am_sh, am_mm U17)) ∧ (((¬ (U17 86 8) = 0 : Prop)) → Ev (am_kz N X) ((d + 1), 191, 112, [some (.inr (.inr 86)), some (.inl (w32 ((w32 (16 * (U1 86 40))) + (U1 97 (U1 86 40).toNat)))), some (.inl 1), some (.inl (U8 86 4)), none, none, none], [], (am_sh, am_mm U17)) R) ∧ (¬ (¬ (U17 86 8) = 0) → ((((U17 86 3) = 2 : Prop)) → Ev (am_kz N X) ((d + 1), 191, 112, [some (.inr (.inr 86)), some (.inl (w32 ((w32 (16 * (U1 86 40))) + (U1 97 (U1 86 40).toNat)))), some (.inl 1), some (.inl (U8 86 4)), none, none, none], [], (am_sh, am_mm U17)) R) ∧ (¬ ((U17 86 3) = 2) → ∃ U18 : Nat → Nat → Int, Ev (am_kz N X) (d, 196, 0, [some (.inr (.inr 86)), some (.inl 1), some (.inl (U17 86 4))], [], (am_sh, am_mm U17)) (none, (am_sh, am_mm U18)) ∧ Ev (am_kz N X) ((d + 1), 191, 112, [some (.inr (.inr 86)), some (.inl (w32 ((w32 (16 * (U1 86 40))) + (U1 97 (U1 86 40).toNat)))), some (.inl 1), some (.inl (U8 86 4)), none, none, none], [], (am_sh, am_mm U18)) R)))))) ∧ (¬ (¬ r1 = 0) → R = (none, (am_sh, am_mm U1)))) : Ev (am_kz N X) ((d + 1), 191, 20, [some (.inr (.inr 86)), none, none, none, none, none, none], [.inl s1, .inr (.inr 86)], (am_sh, am_mm U)) R := by
  obtain ⟨r1, U1, hc, ha⟩ := h
  refine ev_cal (σc := (d, 264, 0, [some (.inr (.inr 86)), some (.inl s1)], [], (am_sh, am_mm U))) (fun _ => rfl) hc ?_
  show Ev (am_kz N X) ((d + 1), 191, 23, [some (.inr (.inr 86)), none, none, none, none, none, none], [.inl r1], (am_sh, am_mm U1)) R
  refine ev_br (P := ¬ r1 = 0) (σ1 := ((d + 1), 191, 27, [some (.inr (.inr 86)), none, none, none, none, none, none], [], (am_sh, am_mm U1))) (σ2 := ((d + 1), 191, 26, [some (.inr (.inr 86)), none, none, none, none, none, none], [], (am_sh, am_mm U1))) 1 (fun _ => rfl) (fun hc => ?_) (fun hc => ?_)
  · have ha1 := ha.1 hc
    refine ev_seg (σ1 := ((d + 1), 191, 42, [some (.inr (.inr 86)), none, none, none, none, none, none], [.inl (U1 86 40), .inr (.inr 97), .inl (w32 (16 * (U1 86 40)))], (am_sh, am_mm U1))) 8 (fun _ => rfl) ?_
    refine eu_iald 97 (n := 2) rfl (by decide) rfl (fun _ => rfl) ha1.1 ?_
    have ha1a := ha1.2
    refine ev_seg (σ1 := ((d + 1), 191, 46, [some (.inr (.inr 86)), some (.inl (w32 ((w32 (16 * (U1 86 40))) + (U1 97 (U1 86 40).toNat)))), none, none, none, none, none], [.inr (.inr 86)], (am_sh, am_mm U1))) 3 (fun _ => rfl) ?_
    obtain ⟨U2, ha1ac, ha1aa⟩ := ha1a
    refine ev_cal (σc := (d, 186, 0, [some (.inr (.inr 86))], [], (am_sh, am_mm U1))) (fun _ => rfl) ha1ac ?_
    show Ev (am_kz N X) ((d + 1), 191, 49, [some (.inr (.inr 86)), some (.inl (w32 ((w32 (16 * (U1 86 40))) + (U1 97 (U1 86 40).toNat)))), none, none, none, none, none], [], (am_sh, am_mm U2)) R
    refine ev_br (P := ¬ (U2 86 8) = 0) (σ1 := ((d + 1), 191, 69, [some (.inr (.inr 86)), some (.inl (w32 ((w32 (16 * (U1 86 40))) + (U1 97 (U1 86 40).toNat)))), none, none, none, none, none], [], (am_sh, am_mm U2))) (σ2 := ((d + 1), 191, 56, [some (.inr (.inr 86)), some (.inl (w32 ((w32 (16 * (U1 86 40))) + (U1 97 (U1 86 40).toNat)))), none, none, none, none, none], [], (am_sh, am_mm U2))) 3 (fun _ => rfl) (fun hc => ?_) (fun hc => ?_)
    · have ha1aa1 := ha1aa.1 hc
      refine ev_br (P := 0 = 0) (σ1 := ((d + 1), 191, 84, [some (.inr (.inr 86)), some (.inl (w32 ((w32 (16 * (U1 86 40))) + (U1 97 (U1 86 40).toNat)))), some (.inl 0), some (.inl (U2 86 4)), none, none, none], [], (am_sh, am_mm U2))) (σ2 := ((d + 1), 191, 80, [some (.inr (.inr 86)), some (.inl (w32 ((w32 (16 * (U1 86 40))) + (U1 97 (U1 86 40).toNat)))), some (.inl 0), some (.inl (U2 86 4)), none, none, none], [], (am_sh, am_mm U2))) 7 (fun _ => rfl) (fun hc => ?_) (fun hc => ?_)
      · have ha1aa11 := ha1aa1.1 hc
        refine ev_seg (σ1 := ((d + 1), 191, 85, [some (.inr (.inr 86)), some (.inl (w32 ((w32 (16 * (U1 86 40))) + (U1 97 (U1 86 40).toNat)))), some (.inl 0), some (.inl (U2 86 4)), none, none, none], [.inr (.inr 86)], (am_sh, am_mm U2))) 1 (fun _ => rfl) ?_
        obtain ⟨U3, ha1aa11c, ha1aa11a⟩ := ha1aa11
        refine ev_cal (σc := (d, 186, 0, [some (.inr (.inr 86))], [], (am_sh, am_mm U2))) (fun _ => rfl) ha1aa11c ?_
        show Ev (am_kz N X) ((d + 1), 191, 88, [some (.inr (.inr 86)), some (.inl (w32 ((w32 (16 * (U1 86 40))) + (U1 97 (U1 86 40).toNat)))), some (.inl 0), some (.inl (U2 86 4)), none, none, none], [], (am_sh, am_mm U3)) R
        refine ev_br (P := ¬ (U3 86 8) = 0) (σ1 := ((d + 1), 191, 112, [some (.inr (.inr 86)), some (.inl (w32 ((w32 (16 * (U1 86 40))) + (U1 97 (U1 86 40).toNat)))), some (.inl 0), some (.inl (U2 86 4)), none, none, none], [], (am_sh, am_mm U3))) (σ2 := ((d + 1), 191, 95, [some (.inr (.inr 86)), some (.inl (w32 ((w32 (16 * (U1 86 40))) + (U1 97 (U1 86 40).toNat)))), some (.inl 0), some (.inl (U2 86 4)), none, none, none], [], (am_sh, am_mm U3))) 3 (fun _ => rfl) (fun hc => ?_) (fun hc => ?_)
        · have ha1aa11a1 := ha1aa11a.1 hc
          exact ha1aa11a1
        · have ha1aa11a2 := ha1aa11a.2 hc
          refine ev_br (P := (U3 86 3) = 2) (σ1 := ((d + 1), 191, 112, [some (.inr (.inr 86)), some (.inl (w32 ((w32 (16 * (U1 86 40))) + (U1 97 (U1 86 40).toNat)))), some (.inl 0), some (.inl (U2 86 4)), none, none, none], [], (am_sh, am_mm U3))) (σ2 := ((d + 1), 191, 103, [some (.inr (.inr 86)), some (.inl (w32 ((w32 (16 * (U1 86 40))) + (U1 97 (U1 86 40).toNat)))), some (.inl 0), some (.inl (U2 86 4)), none, none, none], [], (am_sh, am_mm U3))) 4 (fun _ => rfl) (fun hc => ?_) (fun hc => ?_)
          · have ha1aa11a21 := ha1aa11a2.1 hc
            exact ha1aa11a21
          · have ha1aa11a22 := ha1aa11a2.2 hc
            refine ev_seg (σ1 := ((d + 1), 191, 109, [some (.inr (.inr 86)), some (.inl (w32 ((w32 (16 * (U1 86 40))) + (U1 97 (U1 86 40).toNat)))), some (.inl 0), some (.inl (U2 86 4)), none, none, none], [.inl (U3 86 4), .inl 1, .inr (.inr 86)], (am_sh, am_mm U3))) 4 (fun _ => rfl) ?_
            obtain ⟨U4, ha1aa11a22c, ha1aa11a22a⟩ := ha1aa11a22
            refine ev_cal (σc := (d, 196, 0, [some (.inr (.inr 86)), some (.inl 1), some (.inl (U3 86 4))], [], (am_sh, am_mm U3))) (fun _ => rfl) ha1aa11a22c ?_
            show Ev (am_kz N X) ((d + 1), 191, 112, [some (.inr (.inr 86)), some (.inl (w32 ((w32 (16 * (U1 86 40))) + (U1 97 (U1 86 40).toNat)))), some (.inl 0), some (.inl (U2 86 4)), none, none, none], [], (am_sh, am_mm U4)) R
            exact ha1aa11a22a
      · have ha1aa12 := ha1aa1.2 hc
        refine ev_seg (σ1 := ((d + 1), 191, 81, [some (.inr (.inr 86)), some (.inl (w32 ((w32 (16 * (U1 86 40))) + (U1 97 (U1 86 40).toNat)))), some (.inl 0), some (.inl (U2 86 4)), none, none, none], [.inr (.inr 86)], (am_sh, am_mm U2))) 1 (fun _ => rfl) ?_
        obtain ⟨U5, ha1aa12c, ha1aa12a⟩ := ha1aa12
        refine ev_cal (σc := (d, 93, 0, [some (.inr (.inr 86)), none, none, none, none, none], [], (am_sh, am_mm U2))) (fun _ => rfl) ha1aa12c ?_
        show Ev (am_kz N X) ((d + 1), 191, 84, [some (.inr (.inr 86)), some (.inl (w32 ((w32 (16 * (U1 86 40))) + (U1 97 (U1 86 40).toNat)))), some (.inl 0), some (.inl (U2 86 4)), none, none, none], [], (am_sh, am_mm U5)) R
        refine ev_seg (σ1 := ((d + 1), 191, 85, [some (.inr (.inr 86)), some (.inl (w32 ((w32 (16 * (U1 86 40))) + (U1 97 (U1 86 40).toNat)))), some (.inl 0), some (.inl (U2 86 4)), none, none, none], [.inr (.inr 86)], (am_sh, am_mm U5))) 1 (fun _ => rfl) ?_
        obtain ⟨U6, ha1aa12ac, ha1aa12aa⟩ := ha1aa12a
        refine ev_cal (σc := (d, 186, 0, [some (.inr (.inr 86))], [], (am_sh, am_mm U5))) (fun _ => rfl) ha1aa12ac ?_
        show Ev (am_kz N X) ((d + 1), 191, 88, [some (.inr (.inr 86)), some (.inl (w32 ((w32 (16 * (U1 86 40))) + (U1 97 (U1 86 40).toNat)))), some (.inl 0), some (.inl (U2 86 4)), none, none, none], [], (am_sh, am_mm U6)) R
        refine ev_br (P := ¬ (U6 86 8) = 0) (σ1 := ((d + 1), 191, 112, [some (.inr (.inr 86)), some (.inl (w32 ((w32 (16 * (U1 86 40))) + (U1 97 (U1 86 40).toNat)))), some (.inl 0), some (.inl (U2 86 4)), none, none, none], [], (am_sh, am_mm U6))) (σ2 := ((d + 1), 191, 95, [some (.inr (.inr 86)), some (.inl (w32 ((w32 (16 * (U1 86 40))) + (U1 97 (U1 86 40).toNat)))), some (.inl 0), some (.inl (U2 86 4)), none, none, none], [], (am_sh, am_mm U6))) 3 (fun _ => rfl) (fun hc => ?_) (fun hc => ?_)
        · have ha1aa12aa1 := ha1aa12aa.1 hc
          exact ha1aa12aa1
        · have ha1aa12aa2 := ha1aa12aa.2 hc
          refine ev_br (P := (U6 86 3) = 2) (σ1 := ((d + 1), 191, 112, [some (.inr (.inr 86)), some (.inl (w32 ((w32 (16 * (U1 86 40))) + (U1 97 (U1 86 40).toNat)))), some (.inl 0), some (.inl (U2 86 4)), none, none, none], [], (am_sh, am_mm U6))) (σ2 := ((d + 1), 191, 103, [some (.inr (.inr 86)), some (.inl (w32 ((w32 (16 * (U1 86 40))) + (U1 97 (U1 86 40).toNat)))), some (.inl 0), some (.inl (U2 86 4)), none, none, none], [], (am_sh, am_mm U6))) 4 (fun _ => rfl) (fun hc => ?_) (fun hc => ?_)
          · have ha1aa12aa21 := ha1aa12aa2.1 hc
            exact ha1aa12aa21
          · have ha1aa12aa22 := ha1aa12aa2.2 hc
            refine ev_seg (σ1 := ((d + 1), 191, 109, [some (.inr (.inr 86)), some (.inl (w32 ((w32 (16 * (U1 86 40))) + (U1 97 (U1 86 40).toNat)))), some (.inl 0), some (.inl (U2 86 4)), none, none, none], [.inl (U6 86 4), .inl 1, .inr (.inr 86)], (am_sh, am_mm U6))) 4 (fun _ => rfl) ?_
            obtain ⟨U7, ha1aa12aa22c, ha1aa12aa22a⟩ := ha1aa12aa22
            refine ev_cal (σc := (d, 196, 0, [some (.inr (.inr 86)), some (.inl 1), some (.inl (U6 86 4))], [], (am_sh, am_mm U6))) (fun _ => rfl) ha1aa12aa22c ?_
            show Ev (am_kz N X) ((d + 1), 191, 112, [some (.inr (.inr 86)), some (.inl (w32 ((w32 (16 * (U1 86 40))) + (U1 97 (U1 86 40).toNat)))), some (.inl 0), some (.inl (U2 86 4)), none, none, none], [], (am_sh, am_mm U7)) R
            exact ha1aa12aa22a
    · have ha1aa2 := ha1aa.2 hc
      refine ev_seg (σ1 := ((d + 1), 191, 59, [some (.inr (.inr 86)), some (.inl (w32 ((w32 (16 * (U1 86 40))) + (U1 97 (U1 86 40).toNat)))), none, none, none, none, none], [.inl 45, .inr (.inr 86)], (am_sh, am_mm U2))) 2 (fun _ => rfl) ?_
      obtain ⟨r8, U8, ha1aa2c, ha1aa2a⟩ := ha1aa2
      refine ev_cal (σc := (d, 197, 0, [some (.inr (.inr 86)), some (.inl 45)], [], (am_sh, am_mm U2))) (fun _ => rfl) ha1aa2c ?_
      show Ev (am_kz N X) ((d + 1), 191, 62, [some (.inr (.inr 86)), some (.inl (w32 ((w32 (16 * (U1 86 40))) + (U1 97 (U1 86 40).toNat)))), none, none, none, none, none], [.inl r8], (am_sh, am_mm U8)) R
      refine ev_br (P := r8 = 0) (σ1 := ((d + 1), 191, 69, [some (.inr (.inr 86)), some (.inl (w32 ((w32 (16 * (U1 86 40))) + (U1 97 (U1 86 40).toNat)))), none, none, none, none, none], [], (am_sh, am_mm U8))) (σ2 := ((d + 1), 191, 65, [some (.inr (.inr 86)), some (.inl (w32 ((w32 (16 * (U1 86 40))) + (U1 97 (U1 86 40).toNat)))), none, none, none, none, none], [], (am_sh, am_mm U8))) 1 (fun _ => rfl) (fun hc => ?_) (fun hc => ?_)
      · have ha1aa2a1 := ha1aa2a.1 hc
        refine ev_br (P := 0 = 0) (σ1 := ((d + 1), 191, 84, [some (.inr (.inr 86)), some (.inl (w32 ((w32 (16 * (U1 86 40))) + (U1 97 (U1 86 40).toNat)))), some (.inl 0), some (.inl (U8 86 4)), none, none, none], [], (am_sh, am_mm U8))) (σ2 := ((d + 1), 191, 80, [some (.inr (.inr 86)), some (.inl (w32 ((w32 (16 * (U1 86 40))) + (U1 97 (U1 86 40).toNat)))), some (.inl 0), some (.inl (U8 86 4)), none, none, none], [], (am_sh, am_mm U8))) 7 (fun _ => rfl) (fun hc => ?_) (fun hc => ?_)
        · have ha1aa2a11 := ha1aa2a1.1 hc
          refine ev_seg (σ1 := ((d + 1), 191, 85, [some (.inr (.inr 86)), some (.inl (w32 ((w32 (16 * (U1 86 40))) + (U1 97 (U1 86 40).toNat)))), some (.inl 0), some (.inl (U8 86 4)), none, none, none], [.inr (.inr 86)], (am_sh, am_mm U8))) 1 (fun _ => rfl) ?_
          obtain ⟨U9, ha1aa2a11c, ha1aa2a11a⟩ := ha1aa2a11
          refine ev_cal (σc := (d, 186, 0, [some (.inr (.inr 86))], [], (am_sh, am_mm U8))) (fun _ => rfl) ha1aa2a11c ?_
          show Ev (am_kz N X) ((d + 1), 191, 88, [some (.inr (.inr 86)), some (.inl (w32 ((w32 (16 * (U1 86 40))) + (U1 97 (U1 86 40).toNat)))), some (.inl 0), some (.inl (U8 86 4)), none, none, none], [], (am_sh, am_mm U9)) R
          refine ev_br (P := ¬ (U9 86 8) = 0) (σ1 := ((d + 1), 191, 112, [some (.inr (.inr 86)), some (.inl (w32 ((w32 (16 * (U1 86 40))) + (U1 97 (U1 86 40).toNat)))), some (.inl 0), some (.inl (U8 86 4)), none, none, none], [], (am_sh, am_mm U9))) (σ2 := ((d + 1), 191, 95, [some (.inr (.inr 86)), some (.inl (w32 ((w32 (16 * (U1 86 40))) + (U1 97 (U1 86 40).toNat)))), some (.inl 0), some (.inl (U8 86 4)), none, none, none], [], (am_sh, am_mm U9))) 3 (fun _ => rfl) (fun hc => ?_) (fun hc => ?_)
          · have ha1aa2a11a1 := ha1aa2a11a.1 hc
            exact ha1aa2a11a1
          · have ha1aa2a11a2 := ha1aa2a11a.2 hc
            refine ev_br (P := (U9 86 3) = 2) (σ1 := ((d + 1), 191, 112, [some (.inr (.inr 86)), some (.inl (w32 ((w32 (16 * (U1 86 40))) + (U1 97 (U1 86 40).toNat)))), some (.inl 0), some (.inl (U8 86 4)), none, none, none], [], (am_sh, am_mm U9))) (σ2 := ((d + 1), 191, 103, [some (.inr (.inr 86)), some (.inl (w32 ((w32 (16 * (U1 86 40))) + (U1 97 (U1 86 40).toNat)))), some (.inl 0), some (.inl (U8 86 4)), none, none, none], [], (am_sh, am_mm U9))) 4 (fun _ => rfl) (fun hc => ?_) (fun hc => ?_)
            · have ha1aa2a11a21 := ha1aa2a11a2.1 hc
              exact ha1aa2a11a21
            · have ha1aa2a11a22 := ha1aa2a11a2.2 hc
              refine ev_seg (σ1 := ((d + 1), 191, 109, [some (.inr (.inr 86)), some (.inl (w32 ((w32 (16 * (U1 86 40))) + (U1 97 (U1 86 40).toNat)))), some (.inl 0), some (.inl (U8 86 4)), none, none, none], [.inl (U9 86 4), .inl 1, .inr (.inr 86)], (am_sh, am_mm U9))) 4 (fun _ => rfl) ?_
              obtain ⟨U10, ha1aa2a11a22c, ha1aa2a11a22a⟩ := ha1aa2a11a22
              refine ev_cal (σc := (d, 196, 0, [some (.inr (.inr 86)), some (.inl 1), some (.inl (U9 86 4))], [], (am_sh, am_mm U9))) (fun _ => rfl) ha1aa2a11a22c ?_
              show Ev (am_kz N X) ((d + 1), 191, 112, [some (.inr (.inr 86)), some (.inl (w32 ((w32 (16 * (U1 86 40))) + (U1 97 (U1 86 40).toNat)))), some (.inl 0), some (.inl (U8 86 4)), none, none, none], [], (am_sh, am_mm U10)) R
              exact ha1aa2a11a22a
        · have ha1aa2a12 := ha1aa2a1.2 hc
          refine ev_seg (σ1 := ((d + 1), 191, 81, [some (.inr (.inr 86)), some (.inl (w32 ((w32 (16 * (U1 86 40))) + (U1 97 (U1 86 40).toNat)))), some (.inl 0), some (.inl (U8 86 4)), none, none, none], [.inr (.inr 86)], (am_sh, am_mm U8))) 1 (fun _ => rfl) ?_
          obtain ⟨U11, ha1aa2a12c, ha1aa2a12a⟩ := ha1aa2a12
          refine ev_cal (σc := (d, 93, 0, [some (.inr (.inr 86)), none, none, none, none, none], [], (am_sh, am_mm U8))) (fun _ => rfl) ha1aa2a12c ?_
          show Ev (am_kz N X) ((d + 1), 191, 84, [some (.inr (.inr 86)), some (.inl (w32 ((w32 (16 * (U1 86 40))) + (U1 97 (U1 86 40).toNat)))), some (.inl 0), some (.inl (U8 86 4)), none, none, none], [], (am_sh, am_mm U11)) R
          refine ev_seg (σ1 := ((d + 1), 191, 85, [some (.inr (.inr 86)), some (.inl (w32 ((w32 (16 * (U1 86 40))) + (U1 97 (U1 86 40).toNat)))), some (.inl 0), some (.inl (U8 86 4)), none, none, none], [.inr (.inr 86)], (am_sh, am_mm U11))) 1 (fun _ => rfl) ?_
          obtain ⟨U12, ha1aa2a12ac, ha1aa2a12aa⟩ := ha1aa2a12a
          refine ev_cal (σc := (d, 186, 0, [some (.inr (.inr 86))], [], (am_sh, am_mm U11))) (fun _ => rfl) ha1aa2a12ac ?_
          show Ev (am_kz N X) ((d + 1), 191, 88, [some (.inr (.inr 86)), some (.inl (w32 ((w32 (16 * (U1 86 40))) + (U1 97 (U1 86 40).toNat)))), some (.inl 0), some (.inl (U8 86 4)), none, none, none], [], (am_sh, am_mm U12)) R
          refine ev_br (P := ¬ (U12 86 8) = 0) (σ1 := ((d + 1), 191, 112, [some (.inr (.inr 86)), some (.inl (w32 ((w32 (16 * (U1 86 40))) + (U1 97 (U1 86 40).toNat)))), some (.inl 0), some (.inl (U8 86 4)), none, none, none], [], (am_sh, am_mm U12))) (σ2 := ((d + 1), 191, 95, [some (.inr (.inr 86)), some (.inl (w32 ((w32 (16 * (U1 86 40))) + (U1 97 (U1 86 40).toNat)))), some (.inl 0), some (.inl (U8 86 4)), none, none, none], [], (am_sh, am_mm U12))) 3 (fun _ => rfl) (fun hc => ?_) (fun hc => ?_)
          · have ha1aa2a12aa1 := ha1aa2a12aa.1 hc
            exact ha1aa2a12aa1
          · have ha1aa2a12aa2 := ha1aa2a12aa.2 hc
            refine ev_br (P := (U12 86 3) = 2) (σ1 := ((d + 1), 191, 112, [some (.inr (.inr 86)), some (.inl (w32 ((w32 (16 * (U1 86 40))) + (U1 97 (U1 86 40).toNat)))), some (.inl 0), some (.inl (U8 86 4)), none, none, none], [], (am_sh, am_mm U12))) (σ2 := ((d + 1), 191, 103, [some (.inr (.inr 86)), some (.inl (w32 ((w32 (16 * (U1 86 40))) + (U1 97 (U1 86 40).toNat)))), some (.inl 0), some (.inl (U8 86 4)), none, none, none], [], (am_sh, am_mm U12))) 4 (fun _ => rfl) (fun hc => ?_) (fun hc => ?_)
            · have ha1aa2a12aa21 := ha1aa2a12aa2.1 hc
              exact ha1aa2a12aa21
            · have ha1aa2a12aa22 := ha1aa2a12aa2.2 hc
              refine ev_seg (σ1 := ((d + 1), 191, 109, [some (.inr (.inr 86)), some (.inl (w32 ((w32 (16 * (U1 86 40))) + (U1 97 (U1 86 40).toNat)))), some (.inl 0), some (.inl (U8 86 4)), none, none, none], [.inl (U12 86 4), .inl 1, .inr (.inr 86)], (am_sh, am_mm U12))) 4 (fun _ => rfl) ?_
              obtain ⟨U13, ha1aa2a12aa22c, ha1aa2a12aa22a⟩ := ha1aa2a12aa22
              refine ev_cal (σc := (d, 196, 0, [some (.inr (.inr 86)), some (.inl 1), some (.inl (U12 86 4))], [], (am_sh, am_mm U12))) (fun _ => rfl) ha1aa2a12aa22c ?_
              show Ev (am_kz N X) ((d + 1), 191, 112, [some (.inr (.inr 86)), some (.inl (w32 ((w32 (16 * (U1 86 40))) + (U1 97 (U1 86 40).toNat)))), some (.inl 0), some (.inl (U8 86 4)), none, none, none], [], (am_sh, am_mm U13)) R
              exact ha1aa2a12aa22a
      · have ha1aa2a2 := ha1aa2a.2 hc
        refine ev_br (P := 1 = 0) (σ1 := ((d + 1), 191, 84, [some (.inr (.inr 86)), some (.inl (w32 ((w32 (16 * (U1 86 40))) + (U1 97 (U1 86 40).toNat)))), some (.inl 1), some (.inl (U8 86 4)), none, none, none], [], (am_sh, am_mm U8))) (σ2 := ((d + 1), 191, 80, [some (.inr (.inr 86)), some (.inl (w32 ((w32 (16 * (U1 86 40))) + (U1 97 (U1 86 40).toNat)))), some (.inl 1), some (.inl (U8 86 4)), none, none, none], [], (am_sh, am_mm U8))) 8 (fun _ => rfl) (fun hc => ?_) (fun hc => ?_)
        · have ha1aa2a21 := ha1aa2a2.1 hc
          refine ev_seg (σ1 := ((d + 1), 191, 85, [some (.inr (.inr 86)), some (.inl (w32 ((w32 (16 * (U1 86 40))) + (U1 97 (U1 86 40).toNat)))), some (.inl 1), some (.inl (U8 86 4)), none, none, none], [.inr (.inr 86)], (am_sh, am_mm U8))) 1 (fun _ => rfl) ?_
          obtain ⟨U14, ha1aa2a21c, ha1aa2a21a⟩ := ha1aa2a21
          refine ev_cal (σc := (d, 186, 0, [some (.inr (.inr 86))], [], (am_sh, am_mm U8))) (fun _ => rfl) ha1aa2a21c ?_
          show Ev (am_kz N X) ((d + 1), 191, 88, [some (.inr (.inr 86)), some (.inl (w32 ((w32 (16 * (U1 86 40))) + (U1 97 (U1 86 40).toNat)))), some (.inl 1), some (.inl (U8 86 4)), none, none, none], [], (am_sh, am_mm U14)) R
          refine ev_br (P := ¬ (U14 86 8) = 0) (σ1 := ((d + 1), 191, 112, [some (.inr (.inr 86)), some (.inl (w32 ((w32 (16 * (U1 86 40))) + (U1 97 (U1 86 40).toNat)))), some (.inl 1), some (.inl (U8 86 4)), none, none, none], [], (am_sh, am_mm U14))) (σ2 := ((d + 1), 191, 95, [some (.inr (.inr 86)), some (.inl (w32 ((w32 (16 * (U1 86 40))) + (U1 97 (U1 86 40).toNat)))), some (.inl 1), some (.inl (U8 86 4)), none, none, none], [], (am_sh, am_mm U14))) 3 (fun _ => rfl) (fun hc => ?_) (fun hc => ?_)
          · have ha1aa2a21a1 := ha1aa2a21a.1 hc
            exact ha1aa2a21a1
          · have ha1aa2a21a2 := ha1aa2a21a.2 hc
            refine ev_br (P := (U14 86 3) = 2) (σ1 := ((d + 1), 191, 112, [some (.inr (.inr 86)), some (.inl (w32 ((w32 (16 * (U1 86 40))) + (U1 97 (U1 86 40).toNat)))), some (.inl 1), some (.inl (U8 86 4)), none, none, none], [], (am_sh, am_mm U14))) (σ2 := ((d + 1), 191, 103, [some (.inr (.inr 86)), some (.inl (w32 ((w32 (16 * (U1 86 40))) + (U1 97 (U1 86 40).toNat)))), some (.inl 1), some (.inl (U8 86 4)), none, none, none], [], (am_sh, am_mm U14))) 4 (fun _ => rfl) (fun hc => ?_) (fun hc => ?_)
            · have ha1aa2a21a21 := ha1aa2a21a2.1 hc
              exact ha1aa2a21a21
            · have ha1aa2a21a22 := ha1aa2a21a2.2 hc
              refine ev_seg (σ1 := ((d + 1), 191, 109, [some (.inr (.inr 86)), some (.inl (w32 ((w32 (16 * (U1 86 40))) + (U1 97 (U1 86 40).toNat)))), some (.inl 1), some (.inl (U8 86 4)), none, none, none], [.inl (U14 86 4), .inl 1, .inr (.inr 86)], (am_sh, am_mm U14))) 4 (fun _ => rfl) ?_
              obtain ⟨U15, ha1aa2a21a22c, ha1aa2a21a22a⟩ := ha1aa2a21a22
              refine ev_cal (σc := (d, 196, 0, [some (.inr (.inr 86)), some (.inl 1), some (.inl (U14 86 4))], [], (am_sh, am_mm U14))) (fun _ => rfl) ha1aa2a21a22c ?_
              show Ev (am_kz N X) ((d + 1), 191, 112, [some (.inr (.inr 86)), some (.inl (w32 ((w32 (16 * (U1 86 40))) + (U1 97 (U1 86 40).toNat)))), some (.inl 1), some (.inl (U8 86 4)), none, none, none], [], (am_sh, am_mm U15)) R
              exact ha1aa2a21a22a
        · have ha1aa2a22 := ha1aa2a2.2 hc
          refine ev_seg (σ1 := ((d + 1), 191, 81, [some (.inr (.inr 86)), some (.inl (w32 ((w32 (16 * (U1 86 40))) + (U1 97 (U1 86 40).toNat)))), some (.inl 1), some (.inl (U8 86 4)), none, none, none], [.inr (.inr 86)], (am_sh, am_mm U8))) 1 (fun _ => rfl) ?_
          obtain ⟨U16, ha1aa2a22c, ha1aa2a22a⟩ := ha1aa2a22
          refine ev_cal (σc := (d, 93, 0, [some (.inr (.inr 86)), none, none, none, none, none], [], (am_sh, am_mm U8))) (fun _ => rfl) ha1aa2a22c ?_
          show Ev (am_kz N X) ((d + 1), 191, 84, [some (.inr (.inr 86)), some (.inl (w32 ((w32 (16 * (U1 86 40))) + (U1 97 (U1 86 40).toNat)))), some (.inl 1), some (.inl (U8 86 4)), none, none, none], [], (am_sh, am_mm U16)) R
          refine ev_seg (σ1 := ((d + 1), 191, 85, [some (.inr (.inr 86)), some (.inl (w32 ((w32 (16 * (U1 86 40))) + (U1 97 (U1 86 40).toNat)))), some (.inl 1), some (.inl (U8 86 4)), none, none, none], [.inr (.inr 86)], (am_sh, am_mm U16))) 1 (fun _ => rfl) ?_
          obtain ⟨U17, ha1aa2a22ac, ha1aa2a22aa⟩ := ha1aa2a22a
          refine ev_cal (σc := (d, 186, 0, [some (.inr (.inr 86))], [], (am_sh, am_mm U16))) (fun _ => rfl) ha1aa2a22ac ?_
          show Ev (am_kz N X) ((d + 1), 191, 88, [some (.inr (.inr 86)), some (.inl (w32 ((w32 (16 * (U1 86 40))) + (U1 97 (U1 86 40).toNat)))), some (.inl 1), some (.inl (U8 86 4)), none, none, none], [], (am_sh, am_mm U17)) R
          refine ev_br (P := ¬ (U17 86 8) = 0) (σ1 := ((d + 1), 191, 112, [some (.inr (.inr 86)), some (.inl (w32 ((w32 (16 * (U1 86 40))) + (U1 97 (U1 86 40).toNat)))), some (.inl 1), some (.inl (U8 86 4)), none, none, none], [], (am_sh, am_mm U17))) (σ2 := ((d + 1), 191, 95, [some (.inr (.inr 86)), some (.inl (w32 ((w32 (16 * (U1 86 40))) + (U1 97 (U1 86 40).toNat)))), some (.inl 1), some (.inl (U8 86 4)), none, none, none], [], (am_sh, am_mm U17))) 3 (fun _ => rfl) (fun hc => ?_) (fun hc => ?_)
          · have ha1aa2a22aa1 := ha1aa2a22aa.1 hc
            exact ha1aa2a22aa1
          · have ha1aa2a22aa2 := ha1aa2a22aa.2 hc
            refine ev_br (P := (U17 86 3) = 2) (σ1 := ((d + 1), 191, 112, [some (.inr (.inr 86)), some (.inl (w32 ((w32 (16 * (U1 86 40))) + (U1 97 (U1 86 40).toNat)))), some (.inl 1), some (.inl (U8 86 4)), none, none, none], [], (am_sh, am_mm U17))) (σ2 := ((d + 1), 191, 103, [some (.inr (.inr 86)), some (.inl (w32 ((w32 (16 * (U1 86 40))) + (U1 97 (U1 86 40).toNat)))), some (.inl 1), some (.inl (U8 86 4)), none, none, none], [], (am_sh, am_mm U17))) 4 (fun _ => rfl) (fun hc => ?_) (fun hc => ?_)
            · have ha1aa2a22aa21 := ha1aa2a22aa2.1 hc
              exact ha1aa2a22aa21
            · have ha1aa2a22aa22 := ha1aa2a22aa2.2 hc
              refine ev_seg (σ1 := ((d + 1), 191, 109, [some (.inr (.inr 86)), some (.inl (w32 ((w32 (16 * (U1 86 40))) + (U1 97 (U1 86 40).toNat)))), some (.inl 1), some (.inl (U8 86 4)), none, none, none], [.inl (U17 86 4), .inl 1, .inr (.inr 86)], (am_sh, am_mm U17))) 4 (fun _ => rfl) ?_
              obtain ⟨U18, ha1aa2a22aa22c, ha1aa2a22aa22a⟩ := ha1aa2a22aa22
              refine ev_cal (σc := (d, 196, 0, [some (.inr (.inr 86)), some (.inl 1), some (.inl (U17 86 4))], [], (am_sh, am_mm U17))) (fun _ => rfl) ha1aa2a22aa22c ?_
              show Ev (am_kz N X) ((d + 1), 191, 112, [some (.inr (.inr 86)), some (.inl (w32 ((w32 (16 * (U1 86 40))) + (U1 97 (U1 86 40).toNat)))), some (.inl 1), some (.inl (U8 86 4)), none, none, none], [], (am_sh, am_mm U18)) R
              exact ha1aa2a22aa22a
  · have ha2 := ha.2 hc
    subst ha2
    exact ev_end 1 (fun _ => rfl)
set_option maxRecDepth 8000 in
theorem st191_86_112 (N : Nat) (X : Nat → Int) (d : Nat) (x1 x2 x3 : Int) (U : Nat → Nat → Int) (R : Option am_V × am_M) (h : ((((U 86 8) ≤ 0 : Prop)) → (((x2 = 0 : Prop)) → (((¬ (U 86 6) = 0 : Prop)) → Ev (am_kz N X) ((d + 1), 191, 153, [some (.inr (.inr 86)), some (.inl x1), some (.inl x2), some (.inl x3), some (.inl (U 86 6)), some (.inl 0), some (.inl 0)], [], (am_sh, am_mm U)) R) ∧ (¬ (¬ (U 86 6) = 0) → Ev (am_kz N X) ((d + 1), 191, 153, [some (.inr (.inr 86)), some (.inl x1), some (.inl x2), some (.inl x3), some (.inl (U 86 6)), some (.inl 1), some (.inl 0)], [], (am_sh, am_mm U)) R)) ∧ (¬ (x2 = 0) → (((¬ (w32 (-(U 86 6))) = 0 : Prop)) → Ev (am_kz N X) ((d + 1), 191, 153, [some (.inr (.inr 86)), some (.inl x1), some (.inl x2), some (.inl x3), some (.inl (w32 (-(U 86 6)))), some (.inl 0), some (.inl 0)], [], (am_sh, am_mm U)) R) ∧ (¬ (¬ (w32 (-(U 86 6))) = 0) → Ev (am_kz N X) ((d + 1), 191, 153, [some (.inr (.inr 86)), some (.inl x1), some (.inl x2), some (.inl x3), some (.inl (w32 (-(U 86 6)))), some (.inl 1), some (.inl 0)], [], (am_sh, am_mm U)) R))) ∧ (¬ ((U 86 8) ≤ 0) → R = (none, (am_sh, am_mm U)))) : Ev (am_kz N X) ((d + 1), 191, 112, [some (.inr (.inr 86)), some (.inl x1), some (.inl x2), some (.inl x3), none, none, none], [], (am_sh, am_mm U)) R := by
  refine ev_br (P := (U 86 8) ≤ 0) (σ1 := ((d + 1), 191, 120, [some (.inr (.inr 86)), some (.inl x1), some (.inl x2), some (.inl x3), none, none, none], [], (am_sh, am_mm U))) (σ2 := ((d + 1), 191, 119, [some (.inr (.inr 86)), some (.inl x1), some (.inl x2), some (.inl x3), none, none, none], [], (am_sh, am_mm U))) 3 (fun _ => rfl) (fun hc => ?_) (fun hc => ?_)
  · have h1 := h.1 hc
    refine ev_br (P := x2 = 0) (σ1 := ((d + 1), 191, 132, [some (.inr (.inr 86)), some (.inl x1), some (.inl x2), some (.inl x3), none, none, none], [], (am_sh, am_mm U))) (σ2 := ((d + 1), 191, 124, [some (.inr (.inr 86)), some (.inl x1), some (.inl x2), some (.inl x3), none, none, none], [], (am_sh, am_mm U))) 2 (fun _ => rfl) (fun hc => ?_) (fun hc => ?_)
    · have h11 := h1.1 hc
      refine ev_br (P := ¬ (U 86 6) = 0) (σ1 := ((d + 1), 191, 147, [some (.inr (.inr 86)), some (.inl x1), some (.inl x2), some (.inl x3), some (.inl (U 86 6)), none, none], [], (am_sh, am_mm U))) (σ2 := ((d + 1), 191, 143, [some (.inr (.inr 86)), some (.inl x1), some (.inl x2), some (.inl x3), some (.inl (U 86 6)), none, none], [], (am_sh, am_mm U))) 5 (fun _ => rfl) (fun hc => ?_) (fun hc => ?_)
      · have h111 := h11.1 hc
        refine ev_seg (σ1 := ((d + 1), 191, 153, [some (.inr (.inr 86)), some (.inl x1), some (.inl x2), some (.inl x3), some (.inl (U 86 6)), some (.inl 0), some (.inl 0)], [], (am_sh, am_mm U))) 4 (fun _ => rfl) ?_
        exact h111
      · have h112 := h11.2 hc
        refine ev_seg (σ1 := ((d + 1), 191, 153, [some (.inr (.inr 86)), some (.inl x1), some (.inl x2), some (.inl x3), some (.inl (U 86 6)), some (.inl 1), some (.inl 0)], [], (am_sh, am_mm U))) 5 (fun _ => rfl) ?_
        exact h112
    · have h12 := h1.2 hc
      refine ev_br (P := ¬ (w32 (-(U 86 6))) = 0) (σ1 := ((d + 1), 191, 147, [some (.inr (.inr 86)), some (.inl x1), some (.inl x2), some (.inl x3), some (.inl (w32 (-(U 86 6)))), none, none], [], (am_sh, am_mm U))) (σ2 := ((d + 1), 191, 143, [some (.inr (.inr 86)), some (.inl x1), some (.inl x2), some (.inl x3), some (.inl (w32 (-(U 86 6)))), none, none], [], (am_sh, am_mm U))) 7 (fun _ => rfl) (fun hc => ?_) (fun hc => ?_)
      · have h121 := h12.1 hc
        refine ev_seg (σ1 := ((d + 1), 191, 153, [some (.inr (.inr 86)), some (.inl x1), some (.inl x2), some (.inl x3), some (.inl (w32 (-(U 86 6)))), some (.inl 0), some (.inl 0)], [], (am_sh, am_mm U))) 4 (fun _ => rfl) ?_
        exact h121
      · have h122 := h12.2 hc
        refine ev_seg (σ1 := ((d + 1), 191, 153, [some (.inr (.inr 86)), some (.inl x1), some (.inl x2), some (.inl x3), some (.inl (w32 (-(U 86 6)))), some (.inl 1), some (.inl 0)], [], (am_sh, am_mm U))) 5 (fun _ => rfl) ?_
        exact h122
  · have h2 := h.2 hc
    subst h2
    exact ev_end 1 (fun _ => rfl)
set_option maxRecDepth 8000 in
theorem st191_86_153 (N : Nat) (X : Nat → Int) (d : Nat) (x1 x2 x3 x4 x5 x6 : Int) (U : Nat → Nat → Int) (R : Option am_V × am_M) (h : (0 ≤ (U 86 40) ∧ (U 86 40) < 2) ∧ ((((U 97 (U 86 40).toNat) ≤ x6 : Prop)) → (((x5 = 0 : Prop)) → ((((U 86 8) ≤ 0 : Prop)) → ∃ U1 : Nat → Nat → Int, Ev (am_kz N X) (d, 93, 0, [some (.inr (.inr 86)), none, none, none, none, none], [], (am_sh, am_mm U)) (none, (am_sh, am_mm U1)) ∧ (0 ≤ x1 ∧ x1 < 32) ∧ (0 ≤ x1 ∧ x1 < 32) ∧ (((¬ ((am_upd (am_upd U1 98 x1.toNat x4) 99 x1.toNat (-1)) 86 12) = (-1) : Prop)) → Ev (am_kz N X) ((d + 1), 191, 342, [some (.inr (.inr 86)), some (.inl x1), some (.inl x2), some (.inl x3), some (.inl x4), some (.inl x5), some (.inl x6)], [], (am_sh, am_mm (am_upd (am_upd U1 98 x1.toNat x4) 99 x1.toNat (-1)))) R) ∧ (¬ (¬ ((am_upd (am_upd U1 98 x1.toNat x4) 99 x1.toNat (-1)) 86 12) = (-1)) → ∃ (r2 : Int) (U2 : Nat → Nat → Int), Ev (am_kz N X) (d, 187, 0, [some (.inr (.inr 86)), some (.inr (.inl 26990)), none], [], (am_sh, am_mm (am_upd (am_upd U1 98 x1.toNat x4) 99 x1.toNat (-1)))) (some (.inl r2), (am_sh, am_mm U2)) ∧ (((r2 = 0 : Prop)) → Ev (am_kz N X) ((d + 1), 191, 342, [some (.inr (.inr 86)), some (.inl x1), some (.inl x2), some (.inl x3), some (.inl x4), some (.inl x5), some (.inl x6)], [], (am_sh, am_mm U2)) R) ∧ (¬ (r2 = 0) → ∃ U3 : Nat → Nat → Int, Ev (am_kz N X) (d, 93, 0, [some (.inr (.inr 86)), none, none, none, none, none], [], (am_sh, am_mm U2)) (none, (am_sh, am_mm U3)) ∧ ∃ (r4 : Int) (U4 : Nat → Nat → Int), Ev (am_kz N X) (d, 269, 0, [some (.inr (.inr 86)), some (.inl 1), none], [], (am_sh, am_mm U3)) (some (.inl r4), (am_sh, am_mm U4)) ∧ (((¬ (U4 86 8) = 0 : Prop)) → Ev (am_kz N X) ((d + 1), 191, 323, [some (.inr (.inr 86)), some (.inl x1), some (.inl x2), some (.inl x3), some (.inl x4), some (.inl x5), some (.inl r4)], [], (am_sh, am_mm U4)) R) ∧ (¬ (¬ (U4 86 8) = 0) → ∃ (r5 : Int) (U5 : Nat → Nat → Int), Ev (am_kz N X) (d, 270, 0, [some (.inr (.inr 86)), some (.inl r4), none, none], [], (am_sh, am_mm U4)) (some (.inl r5), (am_sh, am_mm U5)) ∧ (0 ≤ (w32 ((w32 (12 * (U5 86 40))) + r4)) ∧ (w32 ((w32 (12 * (U5 86 40))) + r4)) < 24) ∧ (((¬ r5 = (U5 93 (w32 ((w32 (12 * (U5 86 40))) + r4)).toNat) : Prop)) → Ev (am_kz N X) ((d + 1), 191, 323, [some (.inr (.inr 86)), some (.inl x1), some (.inl x2), some (.inl x3), some (.inl x4), some (.inl x5), some (.inl r4)], [], (am_sh, am_mm U5)) R) ∧ (¬ (¬ r5 = (U5 93 (w32 ((w32 (12 * (U5 86 40))) + r4)).toNat)) → ∃ U6 : Nat → Nat → Int, Ev (am_kz N X) (d, 196, 0, [some (.inr (.inr 86)), some (.inl 3), some (.inl (U5 86 4))], [], (am_sh, am_mm U5)) (none, (am_sh, am_mm U6)) ∧ Ev (am_kz N X) ((d + 1), 191, 323, [some (.inr (.inr 86)), some (.inl x1), some (.inl x2), some (.inl x3), some (.inl x4), some (.inl x5), some (.inl r4)], [], (am_sh, am_mm U6)) R))))) ∧ (¬ ((U 86 8) ≤ 0) → R = (none, (am_sh, am_mm U)))) ∧ (¬ (x5 = 0) → (((x2 = 0 : Prop)) → ∃ U7 : Nat → Nat → Int, Ev (am_kz N X) (d, 196, 0, [some (.inr (.inr 86)), some (.inl 4), some (.inl (U 86 4))], [], (am_sh, am_mm U)) (none, (am_sh, am_mm U7)) ∧ ((((U7 86 8) ≤ 0 : Prop)) → ∃ U8 : Nat → Nat → Int, Ev (am_kz N X) (d, 93, 0, [some (.inr (.inr 86)), none, none, none, none, none], [], (am_sh, am_mm U7)) (none, (am_sh, am_mm U8)) ∧ (0 ≤ x1 ∧ x1 < 32) ∧ (0 ≤ x1 ∧ x1 < 32) ∧ (((¬ ((am_upd (am_upd U8 98 x1.toNat x4) 99 x1.toNat (-1)) 86 12) = (-1) : Prop)) → Ev (am_kz N X) ((d + 1), 191, 342, [some (.inr (.inr 86)), some (.inl x1), some (.inl x2), some (.inl x3), some (.inl x4), some (.inl x5), some (.inl x6)], [], (am_sh, am_mm (am_upd (am_upd U8 98 x1.toNat x4) 99 x1.toNat (-1)))) R) ∧ (¬ (¬ ((am_upd (am_upd U8 98 x1.toNat x4) 99 x1.toNat (-1)) 86 12) = (-1)) → ∃ (r9 : Int) (U9 : Nat → Nat → Int), Ev (am_kz N X) (d, 187, 0, [some (.inr (.inr 86)), some (.inr (.inl 26990)), none], [], (am_sh, am_mm (am_upd (am_upd U8 98 x1.toNat x4) 99 x1.toNat (-1)))) (some (.inl r9), (am_sh, am_mm U9)) ∧ (((r9 = 0 : Prop)) → Ev (am_kz N X) ((d + 1), 191, 342, [some (.inr (.inr 86)), some (.inl x1), some (.inl x2), some (.inl x3), some (.inl x4), some (.inl x5), some (.inl x6)], [], (am_sh, am_mm U9)) R) ∧ (¬ (r9 = 0) → ∃ U10 : Nat → Nat → Int, Ev (am_kz N X) (d, 93, 0, [some (.inr (.inr 86)), none, none, none, none, none], [], (am_sh, am_mm U9)) (none, (am_sh, am_mm U10)) ∧ ∃ (r11 : Int) (U11 : Nat → Nat → Int), Ev (am_kz N X) (d, 269, 0, [some (.inr (.inr 86)), some (.inl 1), none], [], (am_sh, am_mm U10)) (some (.inl r11), (am_sh, am_mm U11)) ∧ (((¬ (U11 86 8) = 0 : Prop)) → Ev (am_kz N X) ((d + 1), 191, 323, [some (.inr (.inr 86)), some (.inl x1), some (.inl x2), some (.inl x3), some (.inl x4), some (.inl x5), some (.inl r11)], [], (am_sh, am_mm U11)) R) ∧ (¬ (¬ (U11 86 8) = 0) → ∃ (r12 : Int) (U12 : Nat → Nat → Int), Ev (am_kz N X) (d, 270, 0, [some (.inr (.inr 86)), some (.inl r11), none, none], [], (am_sh, am_mm U11)) (some (.inl r12), (am_sh, am_mm U12)) ∧ (0 ≤ (w32 ((w32 (12 * (U12 86 40))) + r11)) ∧ (w32 ((w32 (12 * (U12 86 40))) + r11)) < 24) ∧ (((¬ r12 = (U12 93 (w32 ((w32 (12 * (U12 86 40))) + r11)).toNat) : Prop)) → Ev (am_kz N X) ((d + 1), 191, 323, [some (.inr (.inr 86)), some (.inl x1), some (.inl x2), some (.inl x3), some (.inl x4), some (.inl x5), some (.inl r11)], [], (am_sh, am_mm U12)) R) ∧ (¬ (¬ r12 = (U12 93 (w32 ((w32 (12 * (U12 86 40))) + r11)).toNat)) → ∃ U13 : Nat → Nat → Int, Ev (am_kz N X) (d, 196, 0, [some (.inr (.inr 86)), some (.inl 3), some (.inl (U12 86 4))], [], (am_sh, am_mm U12)) (none, (am_sh, am_mm U13)) ∧ Ev (am_kz N X) ((d + 1), 191, 323, [some (.inr (.inr 86)), some (.inl x1), some (.inl x2), some (.inl x3), some (.inl x4), some (.inl x5), some (.inl r11)], [], (am_sh, am_mm U13)) R))))) ∧ (¬ ((U7 86 8) ≤ 0) → R = (none, (am_sh, am_mm U7)))) ∧ (¬ (x2 = 0) → ∃ U14 : Nat → Nat → Int, Ev (am_kz N X) (d, 196, 0, [some (.inr (.inr 86)), some (.inl 4), some (.inl x3)], [], (am_sh, am_mm U)) (none, (am_sh, am_mm U14)) ∧ ((((U14 86 8) ≤ 0 : Prop)) → ∃ U15 : Nat → Nat → Int, Ev (am_kz N X) (d, 93, 0, [some (.inr (.inr 86)), none, none, none, none, none], [], (am_sh, am_mm U14)) (none, (am_sh, am_mm U15)) ∧ (0 ≤ x1 ∧ x1 < 32) ∧ (0 ≤ x1 ∧ x1 < 32) ∧ (((¬ ((am_upd (am_upd U15 98 x1.toNat x4) 99 x1.toNat (-1)) 86 12) = (-1) : Prop)) → Ev (am_kz N X) ((d + 1), 191, 342, [some (.inr (.inr 86)), some (.inl x1), some (.inl x2), some (.inl x3), some (.inl x4), some (.inl x5), some (.inl x6)], [], (am_sh, am_mm (am_upd (am_upd U15 98 x1.toNat x4) 99 x1.toNat (-1)))) R) ∧ (¬ (¬ ((am_upd (am_upd U15 98 x1.toNat x4) 99 x1.toNat (-1)) 86 12) = (-1)) → ∃ (r16 : Int) (U16 : Nat → Nat → Int), Ev (am_kz N X) (d, 187, 0, [some (.inr (.inr 86)), some (.inr (.inl 26990)), none], [], (am_sh, am_mm (am_upd (am_upd U15 98 x1.toNat x4) 99 x1.toNat (-1)))) (some (.inl r16), (am_sh, am_mm U16)) ∧ (((r16 = 0 : Prop)) → Ev (am_kz N X) ((d + 1), 191, 342, [some (.inr (.inr 86)), some (.inl x1), some (.inl x2), some (.inl x3), some (.inl x4), some (.inl x5), some (.inl x6)], [], (am_sh, am_mm U16)) R) ∧ (¬ (r16 = 0) → ∃ U17 : Nat → Nat → Int, Ev (am_kz N X) (d, 93, 0, [some (.inr (.inr 86)), none, none, none, none, none], [], (am_sh, am_mm U16)) (none, (am_sh, am_mm U17)) ∧ ∃ (r18 : Int) (U18 : Nat → Nat → Int), Ev (am_kz N X) (d, 269, 0, [some (.inr (.inr 86)), some (.inl 1), none], [], (am_sh, am_mm U17)) (some (.inl r18), (am_sh, am_mm U18)) ∧ (((¬ (U18 86 8) = 0 : Prop)) → Ev (am_kz N X) ((d + 1), 191, 323, [some (.inr (.inr 86)), some (.inl x1), some (.inl x2), some (.inl x3), some (.inl x4), some (.inl x5), some (.inl r18)], [], (am_sh, am_mm U18)) R) ∧ (¬ (¬ (U18 86 8) = 0) → ∃ (r19 : Int) (U19 : Nat → Nat → Int), Ev (am_kz N X) (d, 270, 0, [some (.inr (.inr 86)), some (.inl r18), none, none], [], (am_sh, am_mm U18)) (some (.inl r19), (am_sh, am_mm U19)) ∧ (0 ≤ (w32 ((w32 (12 * (U19 86 40))) + r18)) ∧ (w32 ((w32 (12 * (U19 86 40))) + r18)) < 24) ∧ (((¬ r19 = (U19 93 (w32 ((w32 (12 * (U19 86 40))) + r18)).toNat) : Prop)) → Ev (am_kz N X) ((d + 1), 191, 323, [some (.inr (.inr 86)), some (.inl x1), some (.inl x2), some (.inl x3), some (.inl x4), some (.inl x5), some (.inl r18)], [], (am_sh, am_mm U19)) R) ∧ (¬ (¬ r19 = (U19 93 (w32 ((w32 (12 * (U19 86 40))) + r18)).toNat)) → ∃ U20 : Nat → Nat → Int, Ev (am_kz N X) (d, 196, 0, [some (.inr (.inr 86)), some (.inl 3), some (.inl (U19 86 4))], [], (am_sh, am_mm U19)) (none, (am_sh, am_mm U20)) ∧ Ev (am_kz N X) ((d + 1), 191, 323, [some (.inr (.inr 86)), some (.inl x1), some (.inl x2), some (.inl x3), some (.inl x4), some (.inl x5), some (.inl r18)], [], (am_sh, am_mm U20)) R))))) ∧ (¬ ((U14 86 8) ≤ 0) → R = (none, (am_sh, am_mm U14)))))) ∧ (¬ ((U 97 (U 86 40).toNat) ≤ x6) → (((¬ x5 = 0 : Prop)) → Ev (am_kz N X) ((d + 1), 191, 153, [some (.inr (.inr 86)), some (.inl x1), some (.inl x2), some (.inl x3), some (.inl x4), some (.inl 1), some (.inl (w32 (x6 + 1)))], [], (am_sh, am_mm U)) R) ∧ (¬ (¬ x5 = 0) → (0 ≤ (w32 ((w32 (16 * (U 86 40))) + x6)) ∧ (w32 ((w32 (16 * (U 86 40))) + x6)) < 32) ∧ (((¬ (U 98 (w32 ((w32 (16 * (U 86 40))) + x6)).toNat) = x4 : Prop)) → Ev (am_kz N X) ((d + 1), 191, 153, [some (.inr (.inr 86)), some (.inl x1), some (.inl x2), some (.inl x3), some (.inl x4), some (.inl 0), some (.inl (w32 (x6 + 1)))], [], (am_sh, am_mm U)) R) ∧ (¬ (¬ (U 98 (w32 ((w32 (16 * (U 86 40))) + x6)).toNat) = x4) → Ev (am_kz N X) ((d + 1), 191, 153, [some (.inr (.inr 86)), some (.inl x1), some (.inl x2), some (.inl x3), some (.inl x4), some (.inl 1), some (.inl (w32 (x6 + 1)))], [], (am_sh, am_mm U)) R)))) : Ev (am_kz N X) ((d + 1), 191, 153, [some (.inr (.inr 86)), some (.inl x1), some (.inl x2), some (.inl x3), some (.inl x4), some (.inl x5), some (.inl x6)], [], (am_sh, am_mm U)) R := by
  refine ev_seg (σ1 := ((d + 1), 191, 163, [some (.inr (.inr 86)), some (.inl x1), some (.inl x2), some (.inl x3), some (.inl x4), some (.inl x5), some (.inl x6)], [.inl (U 86 40), .inr (.inr 97), .inl x6], (am_sh, am_mm U))) 5 (fun _ => rfl) ?_
  refine eu_iald 97 (n := 2) rfl (by decide) rfl (fun _ => rfl) h.1 ?_
  have ha := h.2
  refine ev_br (P := (U 97 (U 86 40).toNat) ≤ x6) (σ1 := ((d + 1), 191, 205, [some (.inr (.inr 86)), some (.inl x1), some (.inl x2), some (.inl x3), some (.inl x4), some (.inl x5), some (.inl x6)], [], (am_sh, am_mm U))) (σ2 := ((d + 1), 191, 167, [some (.inr (.inr 86)), some (.inl x1), some (.inl x2), some (.inl x3), some (.inl x4), some (.inl x5), some (.inl x6)], [], (am_sh, am_mm U))) 1 (fun _ => rfl) (fun hc => ?_) (fun hc => ?_)
  · have ha1 := ha.1 hc
    refine ev_br (P := x5 = 0) (σ1 := ((d + 1), 191, 227, [some (.inr (.inr 86)), some (.inl x1), some (.inl x2), some (.inl x3), some (.inl x4), some (.inl x5), some (.inl x6)], [], (am_sh, am_mm U))) (σ2 := ((d + 1), 191, 210, [some (.inr (.inr 86)), some (.inl x1), some (.inl x2), some (.inl x3), some (.inl x4), some (.inl x5), some (.inl x6)], [], (am_sh, am_mm U))) 2 (fun _ => rfl) (fun hc => ?_) (fun hc => ?_)
    · have ha11 := ha1.1 hc
      refine ev_br (P := (U 86 8) ≤ 0) (σ1 := ((d + 1), 191, 235, [some (.inr (.inr 86)), some (.inl x1), some (.inl x2), some (.inl x3), some (.inl x4), some (.inl x5), some (.inl x6)], [], (am_sh, am_mm U))) (σ2 := ((d + 1), 191, 234, [some (.inr (.inr 86)), some (.inl x1), some (.inl x2), some (.inl x3), some (.inl x4), some (.inl x5), some (.inl x6)], [], (am_sh, am_mm U))) 3 (fun _ => rfl) (fun hc => ?_) (fun hc => ?_)
      · have ha111 := ha11.1 hc
        refine ev_seg (σ1 := ((d + 1), 191, 236, [some (.inr (.inr 86)), some (.inl x1), some (.inl x2), some (.inl x3), some (.inl x4), some (.inl x5), some (.inl x6)], [.inr (.inr 86)], (am_sh, am_mm U))) 1 (fun _ => rfl) ?_
        obtain ⟨U1, ha111c, ha111a⟩ := ha111
        refine ev_cal (σc := (d, 93, 0, [some (.inr (.inr 86)), none, none, none, none, none], [], (am_sh, am_mm U))) (fun _ => rfl) ha111c ?_
        show Ev (am_kz N X) ((d + 1), 191, 239, [some (.inr (.inr 86)), some (.inl x1), some (.inl x2), some (.inl x3), some (.inl x4), some (.inl x5), some (.inl x6)], [], (am_sh, am_mm U1)) R
        refine ev_seg (σ1 := ((d + 1), 191, 246, [some (.inr (.inr 86)), some (.inl x1), some (.inl x2), some (.inl x3), some (.inl x4), some (.inl x5), some (.inl x6)], [.inl x4, .inl x1, .inr (.inr 98)], (am_sh, am_mm U1))) 4 (fun _ => rfl) ?_
        refine eu_iast 98 (n := 32) rfl (by decide) rfl (fun _ => rfl) ha111a.1 ?_
        have ha111aa := ha111a.2
        refine ev_seg (σ1 := ((d + 1), 191, 253, [some (.inr (.inr 86)), some (.inl x1), some (.inl x2), some (.inl x3), some (.inl x4), some (.inl x5), some (.inl x6)], [.inl (-1), .inl x1, .inr (.inr 99)], (am_sh, am_mm (am_upd U1 98 x1.toNat x4)))) 4 (fun _ => rfl) ?_
        refine eu_iast 99 (n := 32) rfl (by decide) rfl (fun _ => rfl) ha111aa.1 ?_
        have ha111aaa := ha111aa.2
        refine ev_br (P := ¬ ((am_upd (am_upd U1 98 x1.toNat x4) 99 x1.toNat (-1)) 86 12) = (-1)) (σ1 := ((d + 1), 191, 342, [some (.inr (.inr 86)), some (.inl x1), some (.inl x2), some (.inl x3), some (.inl x4), some (.inl x5), some (.inl x6)], [], (am_sh, am_mm (am_upd (am_upd U1 98 x1.toNat x4) 99 x1.toNat (-1))))) (σ2 := ((d + 1), 191, 262, [some (.inr (.inr 86)), some (.inl x1), some (.inl x2), some (.inl x3), some (.inl x4), some (.inl x5), some (.inl x6)], [], (am_sh, am_mm (am_upd (am_upd U1 98 x1.toNat x4) 99 x1.toNat (-1))))) 4 (fun _ => rfl) (fun hc => ?_) (fun hc => ?_)
        · have ha111aaa1 := ha111aaa.1 hc
          exact ha111aaa1
        · have ha111aaa2 := ha111aaa.2 hc
          refine ev_seg (σ1 := ((d + 1), 191, 266, [some (.inr (.inr 86)), some (.inl x1), some (.inl x2), some (.inl x3), some (.inl x4), some (.inl x5), some (.inl x6)], [.inr (.inl 26990), .inr (.inr 86)], (am_sh, am_mm (am_upd (am_upd U1 98 x1.toNat x4) 99 x1.toNat (-1))))) 2 (fun _ => rfl) ?_
          obtain ⟨r2, U2, ha111aaa2c, ha111aaa2a⟩ := ha111aaa2
          refine ev_cal (σc := (d, 187, 0, [some (.inr (.inr 86)), some (.inr (.inl 26990)), none], [], (am_sh, am_mm (am_upd (am_upd U1 98 x1.toNat x4) 99 x1.toNat (-1))))) (fun _ => rfl) ha111aaa2c ?_
          show Ev (am_kz N X) ((d + 1), 191, 269, [some (.inr (.inr 86)), some (.inl x1), some (.inl x2), some (.inl x3), some (.inl x4), some (.inl x5), some (.inl x6)], [.inl r2], (am_sh, am_mm U2)) R
          refine ev_br (P := r2 = 0) (σ1 := ((d + 1), 191, 342, [some (.inr (.inr 86)), some (.inl x1), some (.inl x2), some (.inl x3), some (.inl x4), some (.inl x5), some (.inl x6)], [], (am_sh, am_mm U2))) (σ2 := ((d + 1), 191, 272, [some (.inr (.inr 86)), some (.inl x1), some (.inl x2), some (.inl x3), some (.inl x4), some (.inl x5), some (.inl x6)], [], (am_sh, am_mm U2))) 1 (fun _ => rfl) (fun hc => ?_) (fun hc => ?_)
          · have ha111aaa2a1 := ha111aaa2a.1 hc
            exact ha111aaa2a1
          · have ha111aaa2a2 := ha111aaa2a.2 hc
            refine ev_seg (σ1 := ((d + 1), 191, 273, [some (.inr (.inr 86)), some (.inl x1), some (.inl x2), some (.inl x3), some (.inl x4), some (.inl x5), some (.inl x6)], [.inr (.inr 86)], (am_sh, am_mm U2))) 1 (fun _ => rfl) ?_
            obtain ⟨U3, ha111aaa2a2c, ha111aaa2a2a⟩ := ha111aaa2a2
            refine ev_cal (σc := (d, 93, 0, [some (.inr (.inr 86)), none, none, none, none, none], [], (am_sh, am_mm U2))) (fun _ => rfl) ha111aaa2a2c ?_
            show Ev (am_kz N X) ((d + 1), 191, 276, [some (.inr (.inr 86)), some (.inl x1), some (.inl x2), some (.inl x3), some (.inl x4), some (.inl x5), some (.inl x6)], [], (am_sh, am_mm U3)) R
            refine ev_seg (σ1 := ((d + 1), 191, 278, [some (.inr (.inr 86)), some (.inl x1), some (.inl x2), some (.inl x3), some (.inl x4), some (.inl x5), some (.inl x6)], [.inl 1, .inr (.inr 86)], (am_sh, am_mm U3))) 2 (fun _ => rfl) ?_
            obtain ⟨r4, U4, ha111aaa2a2ac, ha111aaa2a2aa⟩ := ha111aaa2a2a
            refine ev_cal (σc := (d, 269, 0, [some (.inr (.inr 86)), some (.inl 1), none], [], (am_sh, am_mm U3))) (fun _ => rfl) ha111aaa2a2ac ?_
            show Ev (am_kz N X) ((d + 1), 191, 281, [some (.inr (.inr 86)), some (.inl x1), some (.inl x2), some (.inl x3), some (.inl x4), some (.inl x5), some (.inl x6)], [.inl r4], (am_sh, am_mm U4)) R
            refine ev_br (P := ¬ (U4 86 8) = 0) (σ1 := ((d + 1), 191, 323, [some (.inr (.inr 86)), some (.inl x1), some (.inl x2), some (.inl x3), some (.inl x4), some (.inl x5), some (.inl r4)], [], (am_sh, am_mm U4))) (σ2 := ((d + 1), 191, 290, [some (.inr (.inr 86)), some (.inl x1), some (.inl x2), some (.inl x3), some (.inl x4), some (.inl x5), some (.inl r4)], [], (am_sh, am_mm U4))) 4 (fun _ => rfl) (fun hc => ?_) (fun hc => ?_)
            · have ha111aaa2a2aa1 := ha111aaa2a2aa.1 hc
              exact ha111aaa2a2aa1
            · have ha111aaa2a2aa2 := ha111aaa2a2aa.2 hc
              refine ev_seg (σ1 := ((d + 1), 191, 293, [some (.inr (.inr 86)), some (.inl x1), some (.inl x2), some (.inl x3), some (.inl x4), some (.inl x5), some (.inl r4)], [.inl r4, .inr (.inr 86)], (am_sh, am_mm U4))) 2 (fun _ => rfl) ?_
              obtain ⟨r5, U5, ha111aaa2a2aa2c, ha111aaa2a2aa2a⟩ := ha111aaa2a2aa2
              refine ev_cal (σc := (d, 270, 0, [some (.inr (.inr 86)), some (.inl r4), none, none], [], (am_sh, am_mm U4))) (fun _ => rfl) ha111aaa2a2aa2c ?_
              show Ev (am_kz N X) ((d + 1), 191, 296, [some (.inr (.inr 86)), some (.inl x1), some (.inl x2), some (.inl x3), some (.inl x4), some (.inl x5), some (.inl r4)], [.inl r5], (am_sh, am_mm U5)) R
              refine ev_seg (σ1 := ((d + 1), 191, 310, [some (.inr (.inr 86)), some (.inl x1), some (.inl x2), some (.inl x3), some (.inl x4), some (.inl x5), some (.inl r4)], [.inl (w32 ((w32 (12 * (U5 86 40))) + r4)), .inr (.inr 93), .inl r5], (am_sh, am_mm U5))) 8 (fun _ => rfl) ?_
              refine eu_iald 93 (n := 24) rfl (by decide) rfl (fun _ => rfl) ha111aaa2a2aa2a.1 ?_
              have ha111aaa2a2aa2aa := ha111aaa2a2aa2a.2
              refine ev_br (P := ¬ r5 = (U5 93 (w32 ((w32 (12 * (U5 86 40))) + r4)).toNat)) (σ1 := ((d + 1), 191, 323, [some (.inr (.inr 86)), some (.inl x1), some (.inl x2), some (.inl x3), some (.inl x4), some (.inl x5), some (.inl r4)], [], (am_sh, am_mm U5))) (σ2 := ((d + 1), 191, 314, [some (.inr (.inr 86)), some (.inl x1), some (.inl x2), some (.inl x3), some (.inl x4), some (.inl x5), some (.inl r4)], [], (am_sh, am_mm U5))) 1 (fun _ => rfl) (fun hc => ?_) (fun hc => ?_)
              · have ha111aaa2a2aa2aa1 := ha111aaa2a2aa2aa.1 hc
                exact ha111aaa2a2aa2aa1
              · have ha111aaa2a2aa2aa2 := ha111aaa2a2aa2aa.2 hc
                refine ev_seg (σ1 := ((d + 1), 191, 320, [some (.inr (.inr 86)), some (.inl x1), some (.inl x2), some (.inl x3), some (.inl x4), some (.inl x5), some (.inl r4)], [.inl (U5 86 4), .inl 3, .inr (.inr 86)], (am_sh, am_mm U5))) 4 (fun _ => rfl) ?_
                obtain ⟨U6, ha111aaa2a2aa2aa2c, ha111aaa2a2aa2aa2a⟩ := ha111aaa2a2aa2aa2
                refine ev_cal (σc := (d, 196, 0, [some (.inr (.inr 86)), some (.inl 3), some (.inl (U5 86 4))], [], (am_sh, am_mm U5))) (fun _ => rfl) ha111aaa2a2aa2aa2c ?_
                show Ev (am_kz N X) ((d + 1), 191, 323, [some (.inr (.inr 86)), some (.inl x1), some (.inl x2), some (.inl x3), some (.inl x4), some (.inl x5), some (.inl r4)], [], (am_sh, am_mm U6)) R
                exact ha111aaa2a2aa2aa2a
      · have ha112 := ha11.2 hc
        subst ha112
        exact ev_end 1 (fun _ => rfl)
    · have ha12 := ha1.2 hc
      refine ev_br (P := x2 = 0) (σ1 := ((d + 1), 191, 220, [some (.inr (.inr 86)), some (.inl x1), some (.inl x2), some (.inl x3), some (.inl x4), some (.inl x5), some (.inl x6)], [.inl 4, .inr (.inr 86)], (am_sh, am_mm U))) (σ2 := ((d + 1), 191, 216, [some (.inr (.inr 86)), some (.inl x1), some (.inl x2), some (.inl x3), some (.inl x4), some (.inl x5), some (.inl x6)], [.inl 4, .inr (.inr 86)], (am_sh, am_mm U))) 4 (fun _ => rfl) (fun hc => ?_) (fun hc => ?_)
      · have ha121 := ha12.1 hc
        refine ev_seg (σ1 := ((d + 1), 191, 224, [some (.inr (.inr 86)), some (.inl x1), some (.inl x2), some (.inl x3), some (.inl x4), some (.inl x5), some (.inl x6)], [.inl (U 86 4), .inl 4, .inr (.inr 86)], (am_sh, am_mm U))) 2 (fun _ => rfl) ?_
        obtain ⟨U7, ha121c, ha121a⟩ := ha121
        refine ev_cal (σc := (d, 196, 0, [some (.inr (.inr 86)), some (.inl 4), some (.inl (U 86 4))], [], (am_sh, am_mm U))) (fun _ => rfl) ha121c ?_
        show Ev (am_kz N X) ((d + 1), 191, 227, [some (.inr (.inr 86)), some (.inl x1), some (.inl x2), some (.inl x3), some (.inl x4), some (.inl x5), some (.inl x6)], [], (am_sh, am_mm U7)) R
        refine ev_br (P := (U7 86 8) ≤ 0) (σ1 := ((d + 1), 191, 235, [some (.inr (.inr 86)), some (.inl x1), some (.inl x2), some (.inl x3), some (.inl x4), some (.inl x5), some (.inl x6)], [], (am_sh, am_mm U7))) (σ2 := ((d + 1), 191, 234, [some (.inr (.inr 86)), some (.inl x1), some (.inl x2), some (.inl x3), some (.inl x4), some (.inl x5), some (.inl x6)], [], (am_sh, am_mm U7))) 3 (fun _ => rfl) (fun hc => ?_) (fun hc => ?_)
        · have ha121a1 := ha121a.1 hc
          refine ev_seg (σ1 := ((d + 1), 191, 236, [some (.inr (.inr 86)), some (.inl x1), some (.inl x2), some (.inl x3), some (.inl x4), some (.inl x5), some (.inl x6)], [.inr (.inr 86)], (am_sh, am_mm U7))) 1 (fun _ => rfl) ?_
          obtain ⟨U8, ha121a1c, ha121a1a⟩ := ha121a1
          refine ev_cal (σc := (d, 93, 0, [some (.inr (.inr 86)), none, none, none, none, none], [], (am_sh, am_mm U7))) (fun _ => rfl) ha121a1c ?_
          show Ev (am_kz N X) ((d + 1), 191, 239, [some (.inr (.inr 86)), some (.inl x1), some (.inl x2), some (.inl x3), some (.inl x4), some (.inl x5), some (.inl x6)], [], (am_sh, am_mm U8)) R
          refine ev_seg (σ1 := ((d + 1), 191, 246, [some (.inr (.inr 86)), some (.inl x1), some (.inl x2), some (.inl x3), some (.inl x4), some (.inl x5), some (.inl x6)], [.inl x4, .inl x1, .inr (.inr 98)], (am_sh, am_mm U8))) 4 (fun _ => rfl) ?_
          refine eu_iast 98 (n := 32) rfl (by decide) rfl (fun _ => rfl) ha121a1a.1 ?_
          have ha121a1aa := ha121a1a.2
          refine ev_seg (σ1 := ((d + 1), 191, 253, [some (.inr (.inr 86)), some (.inl x1), some (.inl x2), some (.inl x3), some (.inl x4), some (.inl x5), some (.inl x6)], [.inl (-1), .inl x1, .inr (.inr 99)], (am_sh, am_mm (am_upd U8 98 x1.toNat x4)))) 4 (fun _ => rfl) ?_
          refine eu_iast 99 (n := 32) rfl (by decide) rfl (fun _ => rfl) ha121a1aa.1 ?_
          have ha121a1aaa := ha121a1aa.2
          refine ev_br (P := ¬ ((am_upd (am_upd U8 98 x1.toNat x4) 99 x1.toNat (-1)) 86 12) = (-1)) (σ1 := ((d + 1), 191, 342, [some (.inr (.inr 86)), some (.inl x1), some (.inl x2), some (.inl x3), some (.inl x4), some (.inl x5), some (.inl x6)], [], (am_sh, am_mm (am_upd (am_upd U8 98 x1.toNat x4) 99 x1.toNat (-1))))) (σ2 := ((d + 1), 191, 262, [some (.inr (.inr 86)), some (.inl x1), some (.inl x2), some (.inl x3), some (.inl x4), some (.inl x5), some (.inl x6)], [], (am_sh, am_mm (am_upd (am_upd U8 98 x1.toNat x4) 99 x1.toNat (-1))))) 4 (fun _ => rfl) (fun hc => ?_) (fun hc => ?_)
          · have ha121a1aaa1 := ha121a1aaa.1 hc
            exact ha121a1aaa1
          · have ha121a1aaa2 := ha121a1aaa.2 hc
            refine ev_seg (σ1 := ((d + 1), 191, 266, [some (.inr (.inr 86)), some (.inl x1), some (.inl x2), some (.inl x3), some (.inl x4), some (.inl x5), some (.inl x6)], [.inr (.inl 26990), .inr (.inr 86)], (am_sh, am_mm (am_upd (am_upd U8 98 x1.toNat x4) 99 x1.toNat (-1))))) 2 (fun _ => rfl) ?_
            obtain ⟨r9, U9, ha121a1aaa2c, ha121a1aaa2a⟩ := ha121a1aaa2
            refine ev_cal (σc := (d, 187, 0, [some (.inr (.inr 86)), some (.inr (.inl 26990)), none], [], (am_sh, am_mm (am_upd (am_upd U8 98 x1.toNat x4) 99 x1.toNat (-1))))) (fun _ => rfl) ha121a1aaa2c ?_
            show Ev (am_kz N X) ((d + 1), 191, 269, [some (.inr (.inr 86)), some (.inl x1), some (.inl x2), some (.inl x3), some (.inl x4), some (.inl x5), some (.inl x6)], [.inl r9], (am_sh, am_mm U9)) R
            refine ev_br (P := r9 = 0) (σ1 := ((d + 1), 191, 342, [some (.inr (.inr 86)), some (.inl x1), some (.inl x2), some (.inl x3), some (.inl x4), some (.inl x5), some (.inl x6)], [], (am_sh, am_mm U9))) (σ2 := ((d + 1), 191, 272, [some (.inr (.inr 86)), some (.inl x1), some (.inl x2), some (.inl x3), some (.inl x4), some (.inl x5), some (.inl x6)], [], (am_sh, am_mm U9))) 1 (fun _ => rfl) (fun hc => ?_) (fun hc => ?_)
            · have ha121a1aaa2a1 := ha121a1aaa2a.1 hc
              exact ha121a1aaa2a1
            · have ha121a1aaa2a2 := ha121a1aaa2a.2 hc
              refine ev_seg (σ1 := ((d + 1), 191, 273, [some (.inr (.inr 86)), some (.inl x1), some (.inl x2), some (.inl x3), some (.inl x4), some (.inl x5), some (.inl x6)], [.inr (.inr 86)], (am_sh, am_mm U9))) 1 (fun _ => rfl) ?_
              obtain ⟨U10, ha121a1aaa2a2c, ha121a1aaa2a2a⟩ := ha121a1aaa2a2
              refine ev_cal (σc := (d, 93, 0, [some (.inr (.inr 86)), none, none, none, none, none], [], (am_sh, am_mm U9))) (fun _ => rfl) ha121a1aaa2a2c ?_
              show Ev (am_kz N X) ((d + 1), 191, 276, [some (.inr (.inr 86)), some (.inl x1), some (.inl x2), some (.inl x3), some (.inl x4), some (.inl x5), some (.inl x6)], [], (am_sh, am_mm U10)) R
              refine ev_seg (σ1 := ((d + 1), 191, 278, [some (.inr (.inr 86)), some (.inl x1), some (.inl x2), some (.inl x3), some (.inl x4), some (.inl x5), some (.inl x6)], [.inl 1, .inr (.inr 86)], (am_sh, am_mm U10))) 2 (fun _ => rfl) ?_
              obtain ⟨r11, U11, ha121a1aaa2a2ac, ha121a1aaa2a2aa⟩ := ha121a1aaa2a2a
              refine ev_cal (σc := (d, 269, 0, [some (.inr (.inr 86)), some (.inl 1), none], [], (am_sh, am_mm U10))) (fun _ => rfl) ha121a1aaa2a2ac ?_
              show Ev (am_kz N X) ((d + 1), 191, 281, [some (.inr (.inr 86)), some (.inl x1), some (.inl x2), some (.inl x3), some (.inl x4), some (.inl x5), some (.inl x6)], [.inl r11], (am_sh, am_mm U11)) R
              refine ev_br (P := ¬ (U11 86 8) = 0) (σ1 := ((d + 1), 191, 323, [some (.inr (.inr 86)), some (.inl x1), some (.inl x2), some (.inl x3), some (.inl x4), some (.inl x5), some (.inl r11)], [], (am_sh, am_mm U11))) (σ2 := ((d + 1), 191, 290, [some (.inr (.inr 86)), some (.inl x1), some (.inl x2), some (.inl x3), some (.inl x4), some (.inl x5), some (.inl r11)], [], (am_sh, am_mm U11))) 4 (fun _ => rfl) (fun hc => ?_) (fun hc => ?_)
              · have ha121a1aaa2a2aa1 := ha121a1aaa2a2aa.1 hc
                exact ha121a1aaa2a2aa1
              · have ha121a1aaa2a2aa2 := ha121a1aaa2a2aa.2 hc
                refine ev_seg (σ1 := ((d + 1), 191, 293, [some (.inr (.inr 86)), some (.inl x1), some (.inl x2), some (.inl x3), some (.inl x4), some (.inl x5), some (.inl r11)], [.inl r11, .inr (.inr 86)], (am_sh, am_mm U11))) 2 (fun _ => rfl) ?_
                obtain ⟨r12, U12, ha121a1aaa2a2aa2c, ha121a1aaa2a2aa2a⟩ := ha121a1aaa2a2aa2
                refine ev_cal (σc := (d, 270, 0, [some (.inr (.inr 86)), some (.inl r11), none, none], [], (am_sh, am_mm U11))) (fun _ => rfl) ha121a1aaa2a2aa2c ?_
                show Ev (am_kz N X) ((d + 1), 191, 296, [some (.inr (.inr 86)), some (.inl x1), some (.inl x2), some (.inl x3), some (.inl x4), some (.inl x5), some (.inl r11)], [.inl r12], (am_sh, am_mm U12)) R
                refine ev_seg (σ1 := ((d + 1), 191, 310, [some (.inr (.inr 86)), some (.inl x1), some (.inl x2), some (.inl x3), some (.inl x4), some (.inl x5), some (.inl r11)], [.inl (w32 ((w32 (12 * (U12 86 40))) + r11)), .inr (.inr 93), .inl r12], (am_sh, am_mm U12))) 8 (fun _ => rfl) ?_
                refine eu_iald 93 (n := 24) rfl (by decide) rfl (fun _ => rfl) ha121a1aaa2a2aa2a.1 ?_
                have ha121a1aaa2a2aa2aa := ha121a1aaa2a2aa2a.2
                refine ev_br (P := ¬ r12 = (U12 93 (w32 ((w32 (12 * (U12 86 40))) + r11)).toNat)) (σ1 := ((d + 1), 191, 323, [some (.inr (.inr 86)), some (.inl x1), some (.inl x2), some (.inl x3), some (.inl x4), some (.inl x5), some (.inl r11)], [], (am_sh, am_mm U12))) (σ2 := ((d + 1), 191, 314, [some (.inr (.inr 86)), some (.inl x1), some (.inl x2), some (.inl x3), some (.inl x4), some (.inl x5), some (.inl r11)], [], (am_sh, am_mm U12))) 1 (fun _ => rfl) (fun hc => ?_) (fun hc => ?_)
                · have ha121a1aaa2a2aa2aa1 := ha121a1aaa2a2aa2aa.1 hc
                  exact ha121a1aaa2a2aa2aa1
                · have ha121a1aaa2a2aa2aa2 := ha121a1aaa2a2aa2aa.2 hc
                  refine ev_seg (σ1 := ((d + 1), 191, 320, [some (.inr (.inr 86)), some (.inl x1), some (.inl x2), some (.inl x3), some (.inl x4), some (.inl x5), some (.inl r11)], [.inl (U12 86 4), .inl 3, .inr (.inr 86)], (am_sh, am_mm U12))) 4 (fun _ => rfl) ?_
                  obtain ⟨U13, ha121a1aaa2a2aa2aa2c, ha121a1aaa2a2aa2aa2a⟩ := ha121a1aaa2a2aa2aa2
                  refine ev_cal (σc := (d, 196, 0, [some (.inr (.inr 86)), some (.inl 3), some (.inl (U12 86 4))], [], (am_sh, am_mm U12))) (fun _ => rfl) ha121a1aaa2a2aa2aa2c ?_
                  show Ev (am_kz N X) ((d + 1), 191, 323, [some (.inr (.inr 86)), some (.inl x1), some (.inl x2), some (.inl x3), some (.inl x4), some (.inl x5), some (.inl r11)], [], (am_sh, am_mm U13)) R
                  exact ha121a1aaa2a2aa2aa2a
        · have ha121a2 := ha121a.2 hc
          subst ha121a2
          exact ev_end 1 (fun _ => rfl)
      · have ha122 := ha12.2 hc
        refine ev_seg (σ1 := ((d + 1), 191, 224, [some (.inr (.inr 86)), some (.inl x1), some (.inl x2), some (.inl x3), some (.inl x4), some (.inl x5), some (.inl x6)], [.inl x3, .inl 4, .inr (.inr 86)], (am_sh, am_mm U))) 2 (fun _ => rfl) ?_
        obtain ⟨U14, ha122c, ha122a⟩ := ha122
        refine ev_cal (σc := (d, 196, 0, [some (.inr (.inr 86)), some (.inl 4), some (.inl x3)], [], (am_sh, am_mm U))) (fun _ => rfl) ha122c ?_
        show Ev (am_kz N X) ((d + 1), 191, 227, [some (.inr (.inr 86)), some (.inl x1), some (.inl x2), some (.inl x3), some (.inl x4), some (.inl x5), some (.inl x6)], [], (am_sh, am_mm U14)) R
        refine ev_br (P := (U14 86 8) ≤ 0) (σ1 := ((d + 1), 191, 235, [some (.inr (.inr 86)), some (.inl x1), some (.inl x2), some (.inl x3), some (.inl x4), some (.inl x5), some (.inl x6)], [], (am_sh, am_mm U14))) (σ2 := ((d + 1), 191, 234, [some (.inr (.inr 86)), some (.inl x1), some (.inl x2), some (.inl x3), some (.inl x4), some (.inl x5), some (.inl x6)], [], (am_sh, am_mm U14))) 3 (fun _ => rfl) (fun hc => ?_) (fun hc => ?_)
        · have ha122a1 := ha122a.1 hc
          refine ev_seg (σ1 := ((d + 1), 191, 236, [some (.inr (.inr 86)), some (.inl x1), some (.inl x2), some (.inl x3), some (.inl x4), some (.inl x5), some (.inl x6)], [.inr (.inr 86)], (am_sh, am_mm U14))) 1 (fun _ => rfl) ?_
          obtain ⟨U15, ha122a1c, ha122a1a⟩ := ha122a1
          refine ev_cal (σc := (d, 93, 0, [some (.inr (.inr 86)), none, none, none, none, none], [], (am_sh, am_mm U14))) (fun _ => rfl) ha122a1c ?_
          show Ev (am_kz N X) ((d + 1), 191, 239, [some (.inr (.inr 86)), some (.inl x1), some (.inl x2), some (.inl x3), some (.inl x4), some (.inl x5), some (.inl x6)], [], (am_sh, am_mm U15)) R
          refine ev_seg (σ1 := ((d + 1), 191, 246, [some (.inr (.inr 86)), some (.inl x1), some (.inl x2), some (.inl x3), some (.inl x4), some (.inl x5), some (.inl x6)], [.inl x4, .inl x1, .inr (.inr 98)], (am_sh, am_mm U15))) 4 (fun _ => rfl) ?_
          refine eu_iast 98 (n := 32) rfl (by decide) rfl (fun _ => rfl) ha122a1a.1 ?_
          have ha122a1aa := ha122a1a.2
          refine ev_seg (σ1 := ((d + 1), 191, 253, [some (.inr (.inr 86)), some (.inl x1), some (.inl x2), some (.inl x3), some (.inl x4), some (.inl x5), some (.inl x6)], [.inl (-1), .inl x1, .inr (.inr 99)], (am_sh, am_mm (am_upd U15 98 x1.toNat x4)))) 4 (fun _ => rfl) ?_
          refine eu_iast 99 (n := 32) rfl (by decide) rfl (fun _ => rfl) ha122a1aa.1 ?_
          have ha122a1aaa := ha122a1aa.2
          refine ev_br (P := ¬ ((am_upd (am_upd U15 98 x1.toNat x4) 99 x1.toNat (-1)) 86 12) = (-1)) (σ1 := ((d + 1), 191, 342, [some (.inr (.inr 86)), some (.inl x1), some (.inl x2), some (.inl x3), some (.inl x4), some (.inl x5), some (.inl x6)], [], (am_sh, am_mm (am_upd (am_upd U15 98 x1.toNat x4) 99 x1.toNat (-1))))) (σ2 := ((d + 1), 191, 262, [some (.inr (.inr 86)), some (.inl x1), some (.inl x2), some (.inl x3), some (.inl x4), some (.inl x5), some (.inl x6)], [], (am_sh, am_mm (am_upd (am_upd U15 98 x1.toNat x4) 99 x1.toNat (-1))))) 4 (fun _ => rfl) (fun hc => ?_) (fun hc => ?_)
          · have ha122a1aaa1 := ha122a1aaa.1 hc
            exact ha122a1aaa1
          · have ha122a1aaa2 := ha122a1aaa.2 hc
            refine ev_seg (σ1 := ((d + 1), 191, 266, [some (.inr (.inr 86)), some (.inl x1), some (.inl x2), some (.inl x3), some (.inl x4), some (.inl x5), some (.inl x6)], [.inr (.inl 26990), .inr (.inr 86)], (am_sh, am_mm (am_upd (am_upd U15 98 x1.toNat x4) 99 x1.toNat (-1))))) 2 (fun _ => rfl) ?_
            obtain ⟨r16, U16, ha122a1aaa2c, ha122a1aaa2a⟩ := ha122a1aaa2
            refine ev_cal (σc := (d, 187, 0, [some (.inr (.inr 86)), some (.inr (.inl 26990)), none], [], (am_sh, am_mm (am_upd (am_upd U15 98 x1.toNat x4) 99 x1.toNat (-1))))) (fun _ => rfl) ha122a1aaa2c ?_
            show Ev (am_kz N X) ((d + 1), 191, 269, [some (.inr (.inr 86)), some (.inl x1), some (.inl x2), some (.inl x3), some (.inl x4), some (.inl x5), some (.inl x6)], [.inl r16], (am_sh, am_mm U16)) R
            refine ev_br (P := r16 = 0) (σ1 := ((d + 1), 191, 342, [some (.inr (.inr 86)), some (.inl x1), some (.inl x2), some (.inl x3), some (.inl x4), some (.inl x5), some (.inl x6)], [], (am_sh, am_mm U16))) (σ2 := ((d + 1), 191, 272, [some (.inr (.inr 86)), some (.inl x1), some (.inl x2), some (.inl x3), some (.inl x4), some (.inl x5), some (.inl x6)], [], (am_sh, am_mm U16))) 1 (fun _ => rfl) (fun hc => ?_) (fun hc => ?_)
            · have ha122a1aaa2a1 := ha122a1aaa2a.1 hc
              exact ha122a1aaa2a1
            · have ha122a1aaa2a2 := ha122a1aaa2a.2 hc
              refine ev_seg (σ1 := ((d + 1), 191, 273, [some (.inr (.inr 86)), some (.inl x1), some (.inl x2), some (.inl x3), some (.inl x4), some (.inl x5), some (.inl x6)], [.inr (.inr 86)], (am_sh, am_mm U16))) 1 (fun _ => rfl) ?_
              obtain ⟨U17, ha122a1aaa2a2c, ha122a1aaa2a2a⟩ := ha122a1aaa2a2
              refine ev_cal (σc := (d, 93, 0, [some (.inr (.inr 86)), none, none, none, none, none], [], (am_sh, am_mm U16))) (fun _ => rfl) ha122a1aaa2a2c ?_
              show Ev (am_kz N X) ((d + 1), 191, 276, [some (.inr (.inr 86)), some (.inl x1), some (.inl x2), some (.inl x3), some (.inl x4), some (.inl x5), some (.inl x6)], [], (am_sh, am_mm U17)) R
              refine ev_seg (σ1 := ((d + 1), 191, 278, [some (.inr (.inr 86)), some (.inl x1), some (.inl x2), some (.inl x3), some (.inl x4), some (.inl x5), some (.inl x6)], [.inl 1, .inr (.inr 86)], (am_sh, am_mm U17))) 2 (fun _ => rfl) ?_
              obtain ⟨r18, U18, ha122a1aaa2a2ac, ha122a1aaa2a2aa⟩ := ha122a1aaa2a2a
              refine ev_cal (σc := (d, 269, 0, [some (.inr (.inr 86)), some (.inl 1), none], [], (am_sh, am_mm U17))) (fun _ => rfl) ha122a1aaa2a2ac ?_
              show Ev (am_kz N X) ((d + 1), 191, 281, [some (.inr (.inr 86)), some (.inl x1), some (.inl x2), some (.inl x3), some (.inl x4), some (.inl x5), some (.inl x6)], [.inl r18], (am_sh, am_mm U18)) R
              refine ev_br (P := ¬ (U18 86 8) = 0) (σ1 := ((d + 1), 191, 323, [some (.inr (.inr 86)), some (.inl x1), some (.inl x2), some (.inl x3), some (.inl x4), some (.inl x5), some (.inl r18)], [], (am_sh, am_mm U18))) (σ2 := ((d + 1), 191, 290, [some (.inr (.inr 86)), some (.inl x1), some (.inl x2), some (.inl x3), some (.inl x4), some (.inl x5), some (.inl r18)], [], (am_sh, am_mm U18))) 4 (fun _ => rfl) (fun hc => ?_) (fun hc => ?_)
              · have ha122a1aaa2a2aa1 := ha122a1aaa2a2aa.1 hc
                exact ha122a1aaa2a2aa1
              · have ha122a1aaa2a2aa2 := ha122a1aaa2a2aa.2 hc
                refine ev_seg (σ1 := ((d + 1), 191, 293, [some (.inr (.inr 86)), some (.inl x1), some (.inl x2), some (.inl x3), some (.inl x4), some (.inl x5), some (.inl r18)], [.inl r18, .inr (.inr 86)], (am_sh, am_mm U18))) 2 (fun _ => rfl) ?_
                obtain ⟨r19, U19, ha122a1aaa2a2aa2c, ha122a1aaa2a2aa2a⟩ := ha122a1aaa2a2aa2
                refine ev_cal (σc := (d, 270, 0, [some (.inr (.inr 86)), some (.inl r18), none, none], [], (am_sh, am_mm U18))) (fun _ => rfl) ha122a1aaa2a2aa2c ?_
                show Ev (am_kz N X) ((d + 1), 191, 296, [some (.inr (.inr 86)), some (.inl x1), some (.inl x2), some (.inl x3), some (.inl x4), some (.inl x5), some (.inl r18)], [.inl r19], (am_sh, am_mm U19)) R
                refine ev_seg (σ1 := ((d + 1), 191, 310, [some (.inr (.inr 86)), some (.inl x1), some (.inl x2), some (.inl x3), some (.inl x4), some (.inl x5), some (.inl r18)], [.inl (w32 ((w32 (12 * (U19 86 40))) + r18)), .inr (.inr 93), .inl r19], (am_sh, am_mm U19))) 8 (fun _ => rfl) ?_
                refine eu_iald 93 (n := 24) rfl (by decide) rfl (fun _ => rfl) ha122a1aaa2a2aa2a.1 ?_
                have ha122a1aaa2a2aa2aa := ha122a1aaa2a2aa2a.2
                refine ev_br (P := ¬ r19 = (U19 93 (w32 ((w32 (12 * (U19 86 40))) + r18)).toNat)) (σ1 := ((d + 1), 191, 323, [some (.inr (.inr 86)), some (.inl x1), some (.inl x2), some (.inl x3), some (.inl x4), some (.inl x5), some (.inl r18)], [], (am_sh, am_mm U19))) (σ2 := ((d + 1), 191, 314, [some (.inr (.inr 86)), some (.inl x1), some (.inl x2), some (.inl x3), some (.inl x4), some (.inl x5), some (.inl r18)], [], (am_sh, am_mm U19))) 1 (fun _ => rfl) (fun hc => ?_) (fun hc => ?_)
                · have ha122a1aaa2a2aa2aa1 := ha122a1aaa2a2aa2aa.1 hc
                  exact ha122a1aaa2a2aa2aa1
                · have ha122a1aaa2a2aa2aa2 := ha122a1aaa2a2aa2aa.2 hc
                  refine ev_seg (σ1 := ((d + 1), 191, 320, [some (.inr (.inr 86)), some (.inl x1), some (.inl x2), some (.inl x3), some (.inl x4), some (.inl x5), some (.inl r18)], [.inl (U19 86 4), .inl 3, .inr (.inr 86)], (am_sh, am_mm U19))) 4 (fun _ => rfl) ?_
                  obtain ⟨U20, ha122a1aaa2a2aa2aa2c, ha122a1aaa2a2aa2aa2a⟩ := ha122a1aaa2a2aa2aa2
                  refine ev_cal (σc := (d, 196, 0, [some (.inr (.inr 86)), some (.inl 3), some (.inl (U19 86 4))], [], (am_sh, am_mm U19))) (fun _ => rfl) ha122a1aaa2a2aa2aa2c ?_
                  show Ev (am_kz N X) ((d + 1), 191, 323, [some (.inr (.inr 86)), some (.inl x1), some (.inl x2), some (.inl x3), some (.inl x4), some (.inl x5), some (.inl r18)], [], (am_sh, am_mm U20)) R
                  exact ha122a1aaa2a2aa2aa2a
        · have ha122a2 := ha122a.2 hc
          subst ha122a2
          exact ev_end 1 (fun _ => rfl)
  · have ha2 := ha.2 hc
    refine ev_br (P := ¬ x5 = 0) (σ1 := ((d + 1), 191, 192, [some (.inr (.inr 86)), some (.inl x1), some (.inl x2), some (.inl x3), some (.inl x4), some (.inl x5), some (.inl x6)], [], (am_sh, am_mm U))) (σ2 := ((d + 1), 191, 172, [some (.inr (.inr 86)), some (.inl x1), some (.inl x2), some (.inl x3), some (.inl x4), some (.inl x5), some (.inl x6)], [], (am_sh, am_mm U))) 2 (fun _ => rfl) (fun hc => ?_) (fun hc => ?_)
    · have ha21 := ha2.1 hc
      refine ev_seg (σ1 := ((d + 1), 191, 153, [some (.inr (.inr 86)), some (.inl x1), some (.inl x2), some (.inl x3), some (.inl x4), some (.inl 1), some (.inl (w32 (x6 + 1)))], [], (am_sh, am_mm U))) 5 (fun _ => rfl) ?_
      exact ha21
    · have ha22 := ha2.2 hc
      refine ev_seg (σ1 := ((d + 1), 191, 186, [some (.inr (.inr 86)), some (.inl x1), some (.inl x2), some (.inl x3), some (.inl x4), some (.inl x5), some (.inl x6)], [.inl (w32 ((w32 (16 * (U 86 40))) + x6)), .inr (.inr 98)], (am_sh, am_mm U))) 8 (fun _ => rfl) ?_
      refine eu_iald 98 (n := 32) rfl (by decide) rfl (fun _ => rfl) ha22.1 ?_
      have ha22a := ha22.2
      refine ev_br (P := ¬ (U 98 (w32 ((w32 (16 * (U 86 40))) + x6)).toNat) = x4) (σ1 := ((d + 1), 191, 196, [some (.inr (.inr 86)), some (.inl x1), some (.inl x2), some (.inl x3), some (.inl x4), some (.inl x5), some (.inl x6)], [], (am_sh, am_mm U))) (σ2 := ((d + 1), 191, 192, [some (.inr (.inr 86)), some (.inl x1), some (.inl x2), some (.inl x3), some (.inl x4), some (.inl x5), some (.inl x6)], [], (am_sh, am_mm U))) 2 (fun _ => rfl) (fun hc => ?_) (fun hc => ?_)
      · have ha22a1 := ha22a.1 hc
        refine ev_seg (σ1 := ((d + 1), 191, 153, [some (.inr (.inr 86)), some (.inl x1), some (.inl x2), some (.inl x3), some (.inl x4), some (.inl 0), some (.inl (w32 (x6 + 1)))], [], (am_sh, am_mm U))) 4 (fun _ => rfl) ?_
        exact ha22a1
      · have ha22a2 := ha22a.2 hc
        refine ev_seg (σ1 := ((d + 1), 191, 153, [some (.inr (.inr 86)), some (.inl x1), some (.inl x2), some (.inl x3), some (.inl x4), some (.inl 1), some (.inl (w32 (x6 + 1)))], [], (am_sh, am_mm U))) 5 (fun _ => rfl) ?_
        exact ha22a2
set_option maxRecDepth 8000 in
theorem st191_86_342 (N : Nat) (X : Nat → Int) (d : Nat) (x1 x2 x3 x4 x5 x6 : Int) (U : Nat → Nat → Int) (R : Option am_V × am_M) (h : (((¬ (U 86 8) = 0 : Prop)) → R = (none, (am_sh, am_mm U))) ∧ (¬ (¬ (U 86 8) = 0) → (0 ≤ (U 86 40) ∧ (U 86 40) < 2) ∧ (0 ≤ (U 86 40) ∧ (U 86 40) < 2) ∧ R = (none, (am_sh, am_mm (am_upd U 97 (U 86 40).toNat (w32 ((U 97 (U 86 40).toNat) + 1))))))) : Ev (am_kz N X) ((d + 1), 191, 342, [some (.inr (.inr 86)), some (.inl x1), some (.inl x2), some (.inl x3), some (.inl x4), some (.inl x5), some (.inl x6)], [], (am_sh, am_mm U)) R := by
  refine ev_br (P := ¬ (U 86 8) = 0) (σ1 := ((d + 1), 191, 362, [some (.inr (.inr 86)), some (.inl x1), some (.inl x2), some (.inl x3), some (.inl x4), some (.inl x5), some (.inl x6)], [], (am_sh, am_mm U))) (σ2 := ((d + 1), 191, 349, [some (.inr (.inr 86)), some (.inl x1), some (.inl x2), some (.inl x3), some (.inl x4), some (.inl x5), some (.inl x6)], [], (am_sh, am_mm U))) 3 (fun _ => rfl) (fun hc => ?_) (fun hc => ?_)
  · have h1 := h.1 hc
    subst h1
    exact ev_end 1 (fun _ => rfl)
  · have h2 := h.2 hc
    refine ev_seg (σ1 := ((d + 1), 191, 358, [some (.inr (.inr 86)), some (.inl x1), some (.inl x2), some (.inl x3), some (.inl x4), some (.inl x5), some (.inl x6)], [.inl (U 86 40), .inr (.inr 97), .inl (U 86 40), .inr (.inr 97)], (am_sh, am_mm U))) 5 (fun _ => rfl) ?_
    refine eu_iald 97 (n := 2) rfl (by decide) rfl (fun _ => rfl) h2.1 ?_
    have h2a := h2.2
    refine ev_seg (σ1 := ((d + 1), 191, 361, [some (.inr (.inr 86)), some (.inl x1), some (.inl x2), some (.inl x3), some (.inl x4), some (.inl x5), some (.inl x6)], [.inl (w32 ((U 97 (U 86 40).toNat) + 1)), .inl (U 86 40), .inr (.inr 97)], (am_sh, am_mm U))) 2 (fun _ => rfl) ?_
    refine eu_iast 97 (n := 2) rfl (by decide) rfl (fun _ => rfl) h2a.1 ?_
    have h2aa := h2a.2
    subst h2aa
    exact ev_end 1 (fun _ => rfl)
set_option maxRecDepth 8000 in
theorem st191_86_323 (N : Nat) (X : Nat → Int) (d : Nat) (x1 x2 x3 x4 x5 x6 : Int) (U : Nat → Nat → Int) (R : Option am_V × am_M) (h : (((¬ (U 86 8) = 0 : Prop)) → (0 ≤ x1 ∧ x1 < 32) ∧ Ev (am_kz N X) ((d + 1), 191, 342, [some (.inr (.inr 86)), some (.inl x1), some (.inl x2), some (.inl x3), some (.inl x4), some (.inl x5), some (.inl x6)], [], (am_sh, am_mm (am_upd U 99 x1.toNat x6))) R) ∧ (¬ (¬ (U 86 8) = 0) → ∃ U1 : Nat → Nat → Int, Ev (am_kz N X) (d, 93, 0, [some (.inr (.inr 86)), none, none, none, none, none], [], (am_sh, am_mm U)) (none, (am_sh, am_mm U1)) ∧ (0 ≤ x1 ∧ x1 < 32) ∧ Ev (am_kz N X) ((d + 1), 191, 342, [some (.inr (.inr 86)), some (.inl x1), some (.inl x2), some (.inl x3), some (.inl x4), some (.inl x5), some (.inl x6)], [], (am_sh, am_mm (am_upd U1 99 x1.toNat x6))) R)) : Ev (am_kz N X) ((d + 1), 191, 323, [some (.inr (.inr 86)), some (.inl x1), some (.inl x2), some (.inl x3), some (.inl x4), some (.inl x5), some (.inl x6)], [], (am_sh, am_mm U)) R := by
  refine ev_br (P := ¬ (U 86 8) = 0) (σ1 := ((d + 1), 191, 334, [some (.inr (.inr 86)), some (.inl x1), some (.inl x2), some (.inl x3), some (.inl x4), some (.inl x5), some (.inl x6)], [], (am_sh, am_mm U))) (σ2 := ((d + 1), 191, 330, [some (.inr (.inr 86)), some (.inl x1), some (.inl x2), some (.inl x3), some (.inl x4), some (.inl x5), some (.inl x6)], [], (am_sh, am_mm U))) 3 (fun _ => rfl) (fun hc => ?_) (fun hc => ?_)
  · have h1 := h.1 hc
    refine ev_seg (σ1 := ((d + 1), 191, 341, [some (.inr (.inr 86)), some (.inl x1), some (.inl x2), some (.inl x3), some (.inl x4), some (.inl x5), some (.inl x6)], [.inl x6, .inl x1, .inr (.inr 99)], (am_sh, am_mm U))) 4 (fun _ => rfl) ?_
    refine eu_iast 99 (n := 32) rfl (by decide) rfl (fun _ => rfl) h1.1 ?_
    have h1a := h1.2
    exact h1a
  · have h2 := h.2 hc
    refine ev_seg (σ1 := ((d + 1), 191, 331, [some (.inr (.inr 86)), some (.inl x1), some (.inl x2), some (.inl x3), some (.inl x4), some (.inl x5), some (.inl x6)], [.inr (.inr 86)], (am_sh, am_mm U))) 1 (fun _ => rfl) ?_
    obtain ⟨U1, h2c, h2a⟩ := h2
    refine ev_cal (σc := (d, 93, 0, [some (.inr (.inr 86)), none, none, none, none, none], [], (am_sh, am_mm U))) (fun _ => rfl) h2c ?_
    show Ev (am_kz N X) ((d + 1), 191, 334, [some (.inr (.inr 86)), some (.inl x1), some (.inl x2), some (.inl x3), some (.inl x4), some (.inl x5), some (.inl x6)], [], (am_sh, am_mm U1)) R
    refine ev_seg (σ1 := ((d + 1), 191, 341, [some (.inr (.inr 86)), some (.inl x1), some (.inl x2), some (.inl x3), some (.inl x4), some (.inl x5), some (.inl x6)], [.inl x6, .inl x1, .inr (.inr 99)], (am_sh, am_mm U1))) 4 (fun _ => rfl) ?_
    refine eu_iast 99 (n := 32) rfl (by decide) rfl (fun _ => rfl) h2a.1 ?_
    have h2aa := h2a.2
    exact h2aa
set_option maxRecDepth 8000 in
theorem st197_86_0 (N : Nat) (X : Nat → Int) (d : Nat) (x1 : Int) (U : Nat → Nat → Int) (R : Option am_V × am_M) (h : (((¬ (U 86 3) = 3 : Prop)) → R = (some (.inl 0), (am_sh, am_mm U))) ∧ (¬ (¬ (U 86 3) = 3) → (((¬ (U 86 6) = x1 : Prop)) → R = (some (.inl 0), (am_sh, am_mm U))) ∧ (¬ (¬ (U 86 6) = x1) → R = (some (.inl 1), (am_sh, am_mm U))))) : Ev (am_kz N X) (d, 197, 0, [some (.inr (.inr 86)), some (.inl x1)], [], (am_sh, am_mm U)) R := by
  refine ev_br (P := ¬ (U 86 3) = 3) (σ1 := (d, 197, 20, [some (.inr (.inr 86)), some (.inl x1)], [], (am_sh, am_mm U))) (σ2 := (d, 197, 8, [some (.inr (.inr 86)), some (.inl x1)], [], (am_sh, am_mm U))) 4 (fun _ => rfl) (fun hc => ?_) (fun hc => ?_)
  · have h1 := h.1 hc
    subst h1
    exact ev_end 2 (fun _ => rfl)
  · have h2 := h.2 hc
    refine ev_br (P := ¬ (U 86 6) = x1) (σ1 := (d, 197, 20, [some (.inr (.inr 86)), some (.inl x1)], [], (am_sh, am_mm U))) (σ2 := (d, 197, 16, [some (.inr (.inr 86)), some (.inl x1)], [], (am_sh, am_mm U))) 4 (fun _ => rfl) (fun hc => ?_) (fun hc => ?_)
    · have h21 := h2.1 hc
      subst h21
      exact ev_end 2 (fun _ => rfl)
    · have h22 := h2.2 hc
      subst h22
      exact ev_end 3 (fun _ => rfl)
set_option maxRecDepth 8000 in
theorem st198_86_0 (N : Nat) (X : Nat → Int) (d : Nat) (x1 : Int) (U : Nat → Nat → Int) (R : Option am_V × am_M) (h : ∃ U1 : Nat → Nat → Int, Ev (am_kz N X) (d, 186, 0, [some (.inr (.inr 86))], [], (am_sh, am_mm U)) (none, (am_sh, am_mm U1)) ∧ ∃ (r2 : Int) (U2 : Nat → Nat → Int), Ev (am_kz N X) (d, 197, 0, [some (.inr (.inr 86)), some (.inl x1)], [], (am_sh, am_mm U1)) (some (.inl r2), (am_sh, am_mm U2)) ∧ (((¬ r2 = 0 : Prop)) → (((¬ (U2 86 8) = 0 : Prop)) → R = (none, (am_sh, am_mm U2))) ∧ (¬ (¬ (U2 86 8) = 0) → ∃ U3 : Nat → Nat → Int, Ev (am_kz N X) (d, 93, 0, [some (.inr (.inr 86)), none, none, none, none, none], [], (am_sh, am_mm U2)) (none, (am_sh, am_mm U3)) ∧ R = (none, (am_sh, am_mm U3)))) ∧ (¬ (¬ r2 = 0) → ∃ U4 : Nat → Nat → Int, Ev (am_kz N X) (d, 196, 0, [some (.inr (.inr 86)), some (.inl 1), some (.inl (U2 86 4))], [], (am_sh, am_mm U2)) (none, (am_sh, am_mm U4)) ∧ (((¬ (U4 86 8) = 0 : Prop)) → R = (none, (am_sh, am_mm U4))) ∧ (¬ (¬ (U4 86 8) = 0) → ∃ U5 : Nat → Nat → Int, Ev (am_kz N X) (d, 93, 0, [some (.inr (.inr 86)), none, none, none, none, none], [], (am_sh, am_mm U4)) (none, (am_sh, am_mm U5)) ∧ R = (none, (am_sh, am_mm U5))))) : Ev (am_kz N X) ((d + 1), 198, 0, [some (.inr (.inr 86)), some (.inl x1)], [], (am_sh, am_mm U)) R := by
  refine ev_seg (σ1 := ((d + 1), 198, 1, [some (.inr (.inr 86)), some (.inl x1)], [.inr (.inr 86)], (am_sh, am_mm U))) 1 (fun _ => rfl) ?_
  obtain ⟨U1, hc, ha⟩ := h
  refine ev_cal (σc := (d, 186, 0, [some (.inr (.inr 86))], [], (am_sh, am_mm U))) (fun _ => rfl) hc ?_
  show Ev (am_kz N X) ((d + 1), 198, 4, [some (.inr (.inr 86)), some (.inl x1)], [], (am_sh, am_mm U1)) R
  refine ev_seg (σ1 := ((d + 1), 198, 6, [some (.inr (.inr 86)), some (.inl x1)], [.inl x1, .inr (.inr 86)], (am_sh, am_mm U1))) 2 (fun _ => rfl) ?_
  obtain ⟨r2, U2, hac, haa⟩ := ha
  refine ev_cal (σc := (d, 197, 0, [some (.inr (.inr 86)), some (.inl x1)], [], (am_sh, am_mm U1))) (fun _ => rfl) hac ?_
  show Ev (am_kz N X) ((d + 1), 198, 9, [some (.inr (.inr 86)), some (.inl x1)], [.inl r2], (am_sh, am_mm U2)) R
  refine ev_br (P := ¬ r2 = 0) (σ1 := ((d + 1), 198, 21, [some (.inr (.inr 86)), some (.inl x1)], [], (am_sh, am_mm U2))) (σ2 := ((d + 1), 198, 12, [some (.inr (.inr 86)), some (.inl x1)], [], (am_sh, am_mm U2))) 1 (fun _ => rfl) (fun hc => ?_) (fun hc => ?_)
  · have haa1 := haa.1 hc
    refine ev_br (P := ¬ (U2 86 8) = 0) (σ1 := ((d + 1), 198, 32, [some (.inr (.inr 86)), some (.inl x1)], [], (am_sh, am_mm U2))) (σ2 := ((d + 1), 198, 28, [some (.inr (.inr 86)), some (.inl x1)], [], (am_sh, am_mm U2))) 3 (fun _ => rfl) (fun hc => ?_) (fun hc => ?_)
    · have haa11 := haa1.1 hc
      subst haa11
      exact ev_end 1 (fun _ => rfl)
    · have haa12 := haa1.2 hc
      refine ev_seg (σ1 := ((d + 1), 198, 29, [some (.inr (.inr 86)), some (.inl x1)], [.inr (.inr 86)], (am_sh, am_mm U2))) 1 (fun _ => rfl) ?_
      obtain ⟨U3, haa12c, haa12a⟩ := haa12
      refine ev_cal (σc := (d, 93, 0, [some (.inr (.inr 86)), none, none, none, none, none], [], (am_sh, am_mm U2))) (fun _ => rfl) haa12c ?_
      show Ev (am_kz N X) ((d + 1), 198, 32, [some (.inr (.inr 86)), some (.inl x1)], [], (am_sh, am_mm U3)) R
      subst haa12a
      exact ev_end 1 (fun _ => rfl)
  · have haa2 := haa.2 hc
    refine ev_seg (σ1 := ((d + 1), 198, 18, [some (.inr (.inr 86)), some (.inl x1)], [.inl (U2 86 4), .inl 1, .inr (.inr 86)], (am_sh, am_mm U2))) 4 (fun _ => rfl) ?_
    obtain ⟨U4, haa2c, haa2a⟩ := haa2
    refine ev_cal (σc := (d, 196, 0, [some (.inr (.inr 86)), some (.inl 1), some (.inl (U2 86 4))], [], (am_sh, am_mm U2))) (fun _ => rfl) haa2c ?_
    show Ev (am_kz N X) ((d + 1), 198, 21, [some (.inr (.inr 86)), some (.inl x1)], [], (am_sh, am_mm U4)) R
    refine ev_br (P := ¬ (U4 86 8) = 0) (σ1 := ((d + 1), 198, 32, [some (.inr (.inr 86)), some (.inl x1)], [], (am_sh, am_mm U4))) (σ2 := ((d + 1), 198, 28, [some (.inr (.inr 86)), some (.inl x1)], [], (am_sh, am_mm U4))) 3 (fun _ => rfl) (fun hc => ?_) (fun hc => ?_)
    · have haa2a1 := haa2a.1 hc
      subst haa2a1
      exact ev_end 1 (fun _ => rfl)
    · have haa2a2 := haa2a.2 hc
      refine ev_seg (σ1 := ((d + 1), 198, 29, [some (.inr (.inr 86)), some (.inl x1)], [.inr (.inr 86)], (am_sh, am_mm U4))) 1 (fun _ => rfl) ?_
      obtain ⟨U5, haa2a2c, haa2a2a⟩ := haa2a2
      refine ev_cal (σc := (d, 93, 0, [some (.inr (.inr 86)), none, none, none, none, none], [], (am_sh, am_mm U4))) (fun _ => rfl) haa2a2c ?_
      show Ev (am_kz N X) ((d + 1), 198, 32, [some (.inr (.inr 86)), some (.inl x1)], [], (am_sh, am_mm U5)) R
      subst haa2a2a
      exact ev_end 1 (fun _ => rfl)
set_option maxRecDepth 8000 in
theorem st185_0 (N : Nat) (X : Nat → Int) (d : Nat) (x0 : Int) (U : Nat → Nat → Int) (R : Option am_V × am_M) (h : (((x0 < 48 : Prop)) → R = (some (.inl 0), (am_sh, am_mm U))) ∧ (¬ (x0 < 48) → (((57 < x0 : Prop)) → R = (some (.inl 0), (am_sh, am_mm U))) ∧ (¬ (57 < x0) → R = (some (.inl 1), (am_sh, am_mm U))))) : Ev (am_kz N X) (d, 185, 0, [some (.inl x0)], [], (am_sh, am_mm U)) R := by
  refine ev_br (P := x0 < 48) (σ1 := (d, 185, 16, [some (.inl x0)], [], (am_sh, am_mm U))) (σ2 := (d, 185, 6, [some (.inl x0)], [], (am_sh, am_mm U))) 3 (fun _ => rfl) (fun hc => ?_) (fun hc => ?_)
  · have h1 := h.1 hc
    subst h1
    exact ev_end 2 (fun _ => rfl)
  · have h2 := h.2 hc
    refine ev_br (P := 57 < x0) (σ1 := (d, 185, 16, [some (.inl x0)], [], (am_sh, am_mm U))) (σ2 := (d, 185, 12, [some (.inl x0)], [], (am_sh, am_mm U))) 3 (fun _ => rfl) (fun hc => ?_) (fun hc => ?_)
    · have h21 := h2.1 hc
      subst h21
      exact ev_end 2 (fun _ => rfl)
    · have h22 := h2.2 hc
      subst h22
      exact ev_end 3 (fun _ => rfl)
set_option maxRecDepth 8000 in
theorem st184_0 (N : Nat) (X : Nat → Int) (d : Nat) (x0 : Int) (U : Nat → Nat → Int) (R : Option am_V × am_M) (h : (((x0 < 97 : Prop)) → R = (some (.inl 0), (am_sh, am_mm U))) ∧ (¬ (x0 < 97) → (((122 < x0 : Prop)) → R = (some (.inl 0), (am_sh, am_mm U))) ∧ (¬ (122 < x0) → R = (some (.inl 1), (am_sh, am_mm U))))) : Ev (am_kz N X) (d, 184, 0, [some (.inl x0)], [], (am_sh, am_mm U)) R := by
  refine ev_br (P := x0 < 97) (σ1 := (d, 184, 16, [some (.inl x0)], [], (am_sh, am_mm U))) (σ2 := (d, 184, 6, [some (.inl x0)], [], (am_sh, am_mm U))) 3 (fun _ => rfl) (fun hc => ?_) (fun hc => ?_)
  · have h1 := h.1 hc
    subst h1
    exact ev_end 2 (fun _ => rfl)
  · have h2 := h.2 hc
    refine ev_br (P := 122 < x0) (σ1 := (d, 184, 16, [some (.inl x0)], [], (am_sh, am_mm U))) (σ2 := (d, 184, 12, [some (.inl x0)], [], (am_sh, am_mm U))) 3 (fun _ => rfl) (fun hc => ?_) (fun hc => ?_)
    · have h21 := h2.1 hc
      subst h21
      exact ev_end 2 (fun _ => rfl)
    · have h22 := h2.2 hc
      subst h22
      exact ev_end 3 (fun _ => rfl)
set_option maxRecDepth 8000 in
theorem st199_45_0 (N : Nat) (X : Nat → Int) (d : Nat) (U : Nat → Nat → Int) (R : Option am_V × am_M) (h : ((((U 45 5) = 0 : Prop)) → ∃ U1 : Nat → Nat → Int, Ev (am_kz N X) (d, 211, 0, [some (.inr (.inr 47)), some (.inl 0), none, none], [], (am_sh, am_mm U)) (none, (am_sh, am_mm U1)) ∧ Ev (am_kz N X) ((d + 1), 199, 18, [some (.inr (.inr 45)), some (.inl 0), none], [], (am_sh, am_mm U1)) R) ∧ (¬ ((U 45 5) = 0) → R = (none, (am_sh, am_mm U)))) : Ev (am_kz N X) ((d + 1), 199, 0, [some (.inr (.inr 45)), none, none], [], (am_sh, am_mm U)) R := by
  refine ev_br (P := (U 45 5) = 0) (σ1 := ((d + 1), 199, 8, [some (.inr (.inr 45)), none, none], [], (am_sh, am_mm U))) (σ2 := ((d + 1), 199, 7, [some (.inr (.inr 45)), none, none], [], (am_sh, am_mm U))) 3 (fun _ => rfl) (fun hc => ?_) (fun hc => ?_)
  · have h1 := h.1 hc
    refine ev_seg (σ1 := ((d + 1), 199, 13, [some (.inr (.inr 45)), none, none], [.inl 0, .inr (.inr 47)], (am_sh, am_mm U))) 3 (fun _ => rfl) ?_
    obtain ⟨U1, h1c, h1a⟩ := h1
    refine ev_cal (σc := (d, 211, 0, [some (.inr (.inr 47)), some (.inl 0), none, none], [], (am_sh, am_mm U))) (fun _ => rfl) h1c ?_
    show Ev (am_kz N X) ((d + 1), 199, 16, [some (.inr (.inr 45)), none, none], [], (am_sh, am_mm U1)) R
    refine ev_seg (σ1 := ((d + 1), 199, 18, [some (.inr (.inr 45)), some (.inl 0), none], [], (am_sh, am_mm U1))) 2 (fun _ => rfl) ?_
    exact h1a
  · have h2 := h.2 hc
    subst h2
    exact ev_end 1 (fun _ => rfl)
set_option maxRecDepth 8000 in
theorem st199_45_18 (N : Nat) (X : Nat → Int) (d : Nat) (x1 : Int) (U : Nat → Nat → Int) (R : Option am_V × am_M) (h : ((((U 3 4) ≤ x1 : Prop)) → R = (none, (am_sh, am_mm (am_upd U 45 5 1)))) ∧ (¬ ((U 3 4) ≤ x1) → Ev (am_kz N X) ((d + 1), 199, 31, [some (.inr (.inr 45)), some (.inl x1), some (.inl 0)], [], (am_sh, am_mm U)) R)) : Ev (am_kz N X) ((d + 1), 199, 18, [some (.inr (.inr 45)), some (.inl x1), none], [], (am_sh, am_mm U)) R := by
  refine ev_br (P := (U 3 4) ≤ x1) (σ1 := ((d + 1), 199, 72, [some (.inr (.inr 45)), some (.inl x1), none], [], (am_sh, am_mm U))) (σ2 := ((d + 1), 199, 29, [some (.inr (.inr 45)), some (.inl x1), none], [], (am_sh, am_mm U))) 5 (fun _ => rfl) (fun hc => ?_) (fun hc => ?_)
  · have h1 := h.1 hc
    refine ev_seg (σ1 := ((d + 1), 199, 74, [some (.inr (.inr 45)), some (.inl x1), none], [.inl 1, .inr (.inr 45)], (am_sh, am_mm U))) 2 (fun _ => rfl) ?_
    refine eu_putz 45 (n := 6) rfl (by decide) rfl rfl (by decide) ?_
    subst h1
    exact ev_end 1 (fun _ => rfl)
  · have h2 := h.2 hc
    refine ev_seg (σ1 := ((d + 1), 199, 31, [some (.inr (.inr 45)), some (.inl x1), some (.inl 0)], [], (am_sh, am_mm U))) 2 (fun _ => rfl) ?_
    exact h2
set_option maxRecDepth 8000 in
theorem st199_45_31 (N : Nat) (X : Nat → Int) (d : Nat) (x1 x2 : Int) (U : Nat → Nat → Int) (R : Option am_V × am_M) (h : ((((U 16 0) ≤ x2 : Prop)) → Ev (am_kz N X) ((d + 1), 199, 18, [some (.inr (.inr 45)), some (.inl (w32 (x1 + 1))), some (.inl x2)], [], (am_sh, am_mm U)) R) ∧ (¬ ((U 16 0) ≤ x2) → ∃ (r1 : Int) (U1 : Nat → Nat → Int), Ev (am_kz N X) (d, 272, 0, [some (.inr (.inr 45)), some (.inl x1), some (.inl x2), some (.inl (-1)), none, none, none, none], [], (am_sh, am_mm U)) (some (.inl r1), (am_sh, am_mm U1)) ∧ (0 ≤ (w32 ((w32 (16 * x1)) + x2)) ∧ (w32 ((w32 (16 * x1)) + x2)) < 128) ∧ Ev (am_kz N X) ((d + 1), 199, 31, [some (.inr (.inr 45)), some (.inl x1), some (.inl (w32 (x2 + 1)))], [], (am_sh, am_mm (am_upd U1 47 (w32 ((w32 (16 * x1)) + x2)).toNat r1))) R)) : Ev (am_kz N X) ((d + 1), 199, 31, [some (.inr (.inr 45)), some (.inl x1), some (.inl x2)], [], (am_sh, am_mm U)) R := by
  refine ev_br (P := (U 16 0) ≤ x2) (σ1 := ((d + 1), 199, 66, [some (.inr (.inr 45)), some (.inl x1), some (.inl x2)], [], (am_sh, am_mm U))) (σ2 := ((d + 1), 199, 42, [some (.inr (.inr 45)), some (.inl x1), some (.inl x2)], [], (am_sh, am_mm U))) 5 (fun _ => rfl) (fun hc => ?_) (fun hc => ?_)
  · have h1 := h.1 hc
    refine ev_seg (σ1 := ((d + 1), 199, 18, [some (.inr (.inr 45)), some (.inl (w32 (x1 + 1))), some (.inl x2)], [], (am_sh, am_mm U))) 2 (fun _ => rfl) ?_
    exact h1
  · have h2 := h.2 hc
    refine ev_seg (σ1 := ((d + 1), 199, 56, [some (.inr (.inr 45)), some (.inl x1), some (.inl x2)], [.inl (-1), .inl x2, .inl x1, .inr (.inr 45), .inl (w32 ((w32 (16 * x1)) + x2)), .inr (.inr 47)], (am_sh, am_mm U))) 11 (fun _ => rfl) ?_
    obtain ⟨r1, U1, h2c, h2a⟩ := h2
    refine ev_cal (σc := (d, 272, 0, [some (.inr (.inr 45)), some (.inl x1), some (.inl x2), some (.inl (-1)), none, none, none, none], [], (am_sh, am_mm U))) (fun _ => rfl) h2c ?_
    show Ev (am_kz N X) ((d + 1), 199, 59, [some (.inr (.inr 45)), some (.inl x1), some (.inl x2)], [.inl r1, .inl (w32 ((w32 (16 * x1)) + x2)), .inr (.inr 47)], (am_sh, am_mm U1)) R
    refine eu_iast 47 (n := 128) rfl (by decide) rfl (fun _ => rfl) h2a.1 ?_
    have h2aa := h2a.2
    refine ev_seg (σ1 := ((d + 1), 199, 31, [some (.inr (.inr 45)), some (.inl x1), some (.inl (w32 (x2 + 1)))], [], (am_sh, am_mm (am_upd U1 47 (w32 ((w32 (16 * x1)) + x2)).toNat r1)))) 2 (fun _ => rfl) ?_
    exact h2aa
set_option maxRecDepth 8000 in
theorem st200_86_0 (N : Nat) (X : Nat → Int) (d : Nat) (x1 x2 : Int) (U : Nat → Nat → Int) (R : Option am_V × am_M) (h : (0 ≤ (w32 ((w32 (16 * x1)) + x2)) ∧ (w32 ((w32 (16 * x1)) + x2)) < 352) ∧ R = (some (.inl (U 124 (w32 ((w32 (16 * x1)) + x2)).toNat)), (am_sh, am_mm U))) : Ev (am_kz N X) (d, 200, 0, [some (.inr (.inr 86)), some (.inl x1), some (.inl x2)], [], (am_sh, am_mm U)) R := by
  refine ev_seg (σ1 := (d, 200, 10, [some (.inr (.inr 86)), some (.inl x1), some (.inl x2)], [.inl (w32 ((w32 (16 * x1)) + x2)), .inr (.inr 124)], (am_sh, am_mm U))) 7 (fun _ => rfl) ?_
  refine eu_iald 124 (n := 352) rfl (by decide) rfl (fun _ => rfl) h.1 ?_
  have ha := h.2
  subst ha
  exact ev_end 1 (fun _ => rfl)
set_option maxRecDepth 8000 in
theorem st203_86_0 (N : Nat) (X : Nat → Int) (d : Nat) (x1 x2 : Int) (U : Nat → Nat → Int) (R : Option am_V × am_M) (h : (0 ≤ (w32 ((w32 (16 * x1)) + x2)) ∧ (w32 ((w32 (16 * x1)) + x2)) < 352) ∧ R = (some (.inl (U 123 (w32 ((w32 (16 * x1)) + x2)).toNat)), (am_sh, am_mm U))) : Ev (am_kz N X) (d, 203, 0, [some (.inr (.inr 86)), some (.inl x1), some (.inl x2)], [], (am_sh, am_mm U)) R := by
  refine ev_seg (σ1 := (d, 203, 10, [some (.inr (.inr 86)), some (.inl x1), some (.inl x2)], [.inl (w32 ((w32 (16 * x1)) + x2)), .inr (.inr 123)], (am_sh, am_mm U))) 7 (fun _ => rfl) ?_
  refine eu_iald 123 (n := 352) rfl (by decide) rfl (fun _ => rfl) h.1 ?_
  have ha := h.2
  subst ha
  exact ev_end 1 (fun _ => rfl)
set_option maxRecDepth 8000 in
theorem st202_86_0 (N : Nat) (X : Nat → Int) (d : Nat) (x1 x2 x3 x4 : Int) (U : Nat → Nat → Int) (R : Option am_V × am_M) (h : ∃ (r1 : Int) (U1 : Nat → Nat → Int), Ev (am_kz N X) (d, 200, 0, [some (.inr (.inr 86)), some (.inl x1), some (.inl x3)], [], (am_sh, am_mm U)) (some (.inl r1), (am_sh, am_mm U1)) ∧ ∃ (r2 : Int) (U2 : Nat → Nat → Int), Ev (am_kz N X) (d, 200, 0, [some (.inr (.inr 86)), some (.inl x1), some (.inl x4)], [], (am_sh, am_mm U1)) (some (.inl r2), (am_sh, am_mm U2)) ∧ (((x3 = x4 : Prop)) → R = (some (.inl 0), (am_sh, am_mm U2))) ∧ (¬ (x3 = x4) → (((r1 = (-1) : Prop)) → R = (some (.inl 0), (am_sh, am_mm U2))) ∧ (¬ (r1 = (-1)) → (((¬ r2 = (-1) : Prop)) → (((¬ x2 = 2 : Prop)) → ∃ (r3 : Int) (U3 : Nat → Nat → Int), Ev (am_kz N X) (d, 113, 0, [some (.inr (.inr 86)), some (.inl (U2 86 13)), some (.inl r1), some (.inl r2), none, none], [], (am_sh, am_mm U2)) (some (.inl r3), (am_sh, am_mm U3)) ∧ (r3 = 0 ∨ r3 = 1) ∧ R = (some (.inl r3), (am_sh, am_mm U3))) ∧ (¬ (¬ x2 = 2) → (((¬ r1 = r2 : Prop)) → R = (some (.inl 0), (am_sh, am_mm U2))) ∧ (¬ (¬ r1 = r2) → R = (some (.inl 1), (am_sh, am_mm U2))))) ∧ (¬ (¬ r2 = (-1)) → R = (some (.inl 0), (am_sh, am_mm U2)))))) : Ev (am_kz N X) ((d + 1), 202, 0, [some (.inr (.inr 86)), some (.inl x1), some (.inl x2), some (.inl x3), some (.inl x4), none, none], [], (am_sh, am_mm U)) R := by
  refine ev_seg (σ1 := ((d + 1), 202, 3, [some (.inr (.inr 86)), some (.inl x1), some (.inl x2), some (.inl x3), some (.inl x4), none, none], [.inl x3, .inl x1, .inr (.inr 86)], (am_sh, am_mm U))) 3 (fun _ => rfl) ?_
  obtain ⟨r1, U1, hc, ha⟩ := h
  refine ev_cal (σc := (d, 200, 0, [some (.inr (.inr 86)), some (.inl x1), some (.inl x3)], [], (am_sh, am_mm U))) (fun _ => rfl) hc ?_
  show Ev (am_kz N X) ((d + 1), 202, 6, [some (.inr (.inr 86)), some (.inl x1), some (.inl x2), some (.inl x3), some (.inl x4), none, none], [.inl r1], (am_sh, am_mm U1)) R
  refine ev_seg (σ1 := ((d + 1), 202, 12, [some (.inr (.inr 86)), some (.inl x1), some (.inl x2), some (.inl x3), some (.inl x4), some (.inl r1), none], [.inl x4, .inl x1, .inr (.inr 86)], (am_sh, am_mm U1))) 4 (fun _ => rfl) ?_
  obtain ⟨r2, U2, hac, haa⟩ := ha
  refine ev_cal (σc := (d, 200, 0, [some (.inr (.inr 86)), some (.inl x1), some (.inl x4)], [], (am_sh, am_mm U1))) (fun _ => rfl) hac ?_
  show Ev (am_kz N X) ((d + 1), 202, 15, [some (.inr (.inr 86)), some (.inl x1), some (.inl x2), some (.inl x3), some (.inl x4), some (.inl r1), none], [.inl r2], (am_sh, am_mm U2)) R
  refine ev_br (P := x3 = x4) (σ1 := ((d + 1), 202, 35, [some (.inr (.inr 86)), some (.inl x1), some (.inl x2), some (.inl x3), some (.inl x4), some (.inl r1), some (.inl r2)], [], (am_sh, am_mm U2))) (σ2 := ((d + 1), 202, 23, [some (.inr (.inr 86)), some (.inl x1), some (.inl x2), some (.inl x3), some (.inl x4), some (.inl r1), some (.inl r2)], [], (am_sh, am_mm U2))) 4 (fun _ => rfl) (fun hc => ?_) (fun hc => ?_)
  · have haa1 := haa.1 hc
    subst haa1
    exact ev_end 2 (fun _ => rfl)
  · have haa2 := haa.2 hc
    refine ev_br (P := r1 = (-1)) (σ1 := ((d + 1), 202, 35, [some (.inr (.inr 86)), some (.inl x1), some (.inl x2), some (.inl x3), some (.inl x4), some (.inl r1), some (.inl r2)], [], (am_sh, am_mm U2))) (σ2 := ((d + 1), 202, 29, [some (.inr (.inr 86)), some (.inl x1), some (.inl x2), some (.inl x3), some (.inl x4), some (.inl r1), some (.inl r2)], [], (am_sh, am_mm U2))) 3 (fun _ => rfl) (fun hc => ?_) (fun hc => ?_)
    · have haa21 := haa2.1 hc
      subst haa21
      exact ev_end 2 (fun _ => rfl)
    · have haa22 := haa2.2 hc
      refine ev_br (P := ¬ r2 = (-1)) (σ1 := ((d + 1), 202, 37, [some (.inr (.inr 86)), some (.inl x1), some (.inl x2), some (.inl x3), some (.inl x4), some (.inl r1), some (.inl r2)], [], (am_sh, am_mm U2))) (σ2 := ((d + 1), 202, 35, [some (.inr (.inr 86)), some (.inl x1), some (.inl x2), some (.inl x3), some (.inl x4), some (.inl r1), some (.inl r2)], [], (am_sh, am_mm U2))) 3 (fun _ => rfl) (fun hc => ?_) (fun hc => ?_)
      · have haa221 := haa22.1 hc
        refine ev_br (P := ¬ x2 = 2) (σ1 := ((d + 1), 202, 57, [some (.inr (.inr 86)), some (.inl x1), some (.inl x2), some (.inl x3), some (.inl x4), some (.inl r1), some (.inl r2)], [], (am_sh, am_mm U2))) (σ2 := ((d + 1), 202, 42, [some (.inr (.inr 86)), some (.inl x1), some (.inl x2), some (.inl x3), some (.inl x4), some (.inl r1), some (.inl r2)], [], (am_sh, am_mm U2))) 3 (fun _ => rfl) (fun hc => ?_) (fun hc => ?_)
        · have haa2211 := haa221.1 hc
          refine ev_seg (σ1 := ((d + 1), 202, 66, [some (.inr (.inr 86)), some (.inl x1), some (.inl x2), some (.inl x3), some (.inl x4), some (.inl r1), some (.inl r2)], [.inl r2, .inl r1, .inl (U2 86 13), .inr (.inr 86)], (am_sh, am_mm U2))) 5 (fun _ => rfl) ?_
          obtain ⟨r3, U3, haa2211c, haa2211a⟩ := haa2211
          refine ev_cal (σc := (d, 113, 0, [some (.inr (.inr 86)), some (.inl (U2 86 13)), some (.inl r1), some (.inl r2), none, none], [], (am_sh, am_mm U2))) (fun _ => rfl) haa2211c ?_
          show Ev (am_kz N X) ((d + 1), 202, 69, [some (.inr (.inr 86)), some (.inl x1), some (.inl x2), some (.inl x3), some (.inl x4), some (.inl r1), some (.inl r2)], [.inl r3], (am_sh, am_mm U3)) R
          rw [haa2211a.2]
          exact ev_retz rfl rfl haa2211a.1
        · have haa2212 := haa221.2 hc
          refine ev_br (P := ¬ r1 = r2) (σ1 := ((d + 1), 202, 53, [some (.inr (.inr 86)), some (.inl x1), some (.inl x2), some (.inl x3), some (.inl x4), some (.inl r1), some (.inl r2)], [], (am_sh, am_mm U2))) (σ2 := ((d + 1), 202, 49, [some (.inr (.inr 86)), some (.inl x1), some (.inl x2), some (.inl x3), some (.inl x4), some (.inl r1), some (.inl r2)], [], (am_sh, am_mm U2))) 3 (fun _ => rfl) (fun hc => ?_) (fun hc => ?_)
          · have haa22121 := haa2212.1 hc
            subst haa22121
            exact ev_end 3 (fun _ => rfl)
          · have haa22122 := haa2212.2 hc
            subst haa22122
            exact ev_end 3 (fun _ => rfl)
      · have haa222 := haa22.2 hc
        subst haa222
        exact ev_end 2 (fun _ => rfl)
set_option maxRecDepth 8000 in
theorem st201_86_0 (N : Nat) (X : Nat → Int) (d : Nat) (x1 x2 x3 x4 : Int) (U : Nat → Nat → Int) (R : Option am_V × am_M) (h : (((¬ (U 86 67) = x4 : Prop)) → R = (none, (am_sh, am_mm (am_upd U 86 67 (w32 ((U 86 67) + 1)))))) ∧ (¬ (¬ (U 86 67) = x4) → R = (none, (am_sh, am_mm (am_upd (am_upd (am_upd (am_upd U 86 64 x1) 86 65 x2) 86 66 x3) 86 67 (w32 (((am_upd (am_upd (am_upd U 86 64 x1) 86 65 x2) 86 66 x3) 86 67) + 1))))))) : Ev (am_kz N X) (d, 201, 0, [some (.inr (.inr 86)), some (.inl x1), some (.inl x2), some (.inl x3), some (.inl x4)], [], (am_sh, am_mm U)) R := by
  refine ev_br (P := ¬ (U 86 67) = x4) (σ1 := (d, 201, 24, [some (.inr (.inr 86)), some (.inl x1), some (.inl x2), some (.inl x3), some (.inl x4)], [], (am_sh, am_mm U))) (σ2 := (d, 201, 9, [some (.inr (.inr 86)), some (.inl x1), some (.inl x2), some (.inl x3), some (.inl x4)], [], (am_sh, am_mm U))) 4 (fun _ => rfl) (fun hc => ?_) (fun hc => ?_)
  · have h1 := h.1 hc
    refine ev_seg (σ1 := (d, 201, 31, [some (.inr (.inr 86)), some (.inl x1), some (.inl x2), some (.inl x3), some (.inl x4)], [.inl (w32 ((U 86 67) + 1)), .inr (.inr 86)], (am_sh, am_mm U))) 5 (fun _ => rfl) ?_
    refine eu_puti 86 (n := 90) rfl (by decide) rfl rfl ?_
    subst h1
    exact ev_end 1 (fun _ => rfl)
  · have h2 := h.2 hc
    refine ev_seg (σ1 := (d, 201, 11, [some (.inr (.inr 86)), some (.inl x1), some (.inl x2), some (.inl x3), some (.inl x4)], [.inl x1, .inr (.inr 86)], (am_sh, am_mm U))) 2 (fun _ => rfl) ?_
    refine eu_puti 86 (n := 90) rfl (by decide) rfl rfl ?_
    refine ev_seg (σ1 := (d, 201, 16, [some (.inr (.inr 86)), some (.inl x1), some (.inl x2), some (.inl x3), some (.inl x4)], [.inl x2, .inr (.inr 86)], (am_sh, am_mm (am_upd U 86 64 x1)))) 2 (fun _ => rfl) ?_
    refine eu_puti 86 (n := 90) rfl (by decide) rfl rfl ?_
    refine ev_seg (σ1 := (d, 201, 21, [some (.inr (.inr 86)), some (.inl x1), some (.inl x2), some (.inl x3), some (.inl x4)], [.inl x3, .inr (.inr 86)], (am_sh, am_mm (am_upd (am_upd U 86 64 x1) 86 65 x2)))) 2 (fun _ => rfl) ?_
    refine eu_puti 86 (n := 90) rfl (by decide) rfl rfl ?_
    refine ev_seg (σ1 := (d, 201, 31, [some (.inr (.inr 86)), some (.inl x1), some (.inl x2), some (.inl x3), some (.inl x4)], [.inl (w32 (((am_upd (am_upd (am_upd U 86 64 x1) 86 65 x2) 86 66 x3) 86 67) + 1)), .inr (.inr 86)], (am_sh, am_mm (am_upd (am_upd (am_upd U 86 64 x1) 86 65 x2) 86 66 x3)))) 5 (fun _ => rfl) ?_
    refine eu_puti 86 (n := 90) rfl (by decide) rfl rfl ?_
    subst h2
    exact ev_end 1 (fun _ => rfl)
set_option maxRecDepth 8000 in
theorem st204_45_0 (N : Nat) (X : Nat → Int) (d : Nat) (x1 : Int) (U : Nat → Nat → Int) (R : Option am_V × am_M) (h : (0 ≤ x1 ∧ x1 < 16) ∧ ((((U 18 x1.toNat) < 0 : Prop)) → R = (some (.inl 0), (am_sh, am_mm U))) ∧ (¬ ((U 18 x1.toNat) < 0) → ((((U 3 1) ≤ (U 18 x1.toNat) : Prop)) → R = (some (.inl 0), (am_sh, am_mm U))) ∧ (¬ ((U 3 1) ≤ (U 18 x1.toNat)) → (0 ≤ (U 18 x1.toNat) ∧ (U 18 x1.toNat) < 12) ∧ R = (some (.inl (am_and (U 19 (U 18 x1.toNat).toNat) (am_xor (am_shl 1 x1) (-1)))), (am_sh, am_mm U))))) : Ev (am_kz N X) (d, 204, 0, [some (.inr (.inr 45)), some (.inl x1), none], [], (am_sh, am_mm U)) R := by
  refine ev_seg (σ1 := (d, 204, 8, [some (.inr (.inr 45)), some (.inl x1), none], [.inl x1, .inr (.inr 18)], (am_sh, am_mm U))) 4 (fun _ => rfl) ?_
  refine eu_iald 18 (n := 16) rfl (by decide) rfl (fun _ => rfl) h.1 ?_
  have ha := h.2
  refine ev_br (P := (U 18 x1.toNat) < 0) (σ1 := (d, 204, 43, [some (.inr (.inr 45)), some (.inl x1), some (.inl (U 18 x1.toNat))], [], (am_sh, am_mm U))) (σ2 := (d, 204, 14, [some (.inr (.inr 45)), some (.inl x1), some (.inl (U 18 x1.toNat))], [], (am_sh, am_mm U))) 3 (fun _ => rfl) (fun hc => ?_) (fun hc => ?_)
  · have ha1 := ha.1 hc
    subst ha1
    exact ev_end 2 (fun _ => rfl)
  · have ha2 := ha.2 hc
    refine ev_br (P := (U 3 1) ≤ (U 18 x1.toNat)) (σ1 := (d, 204, 43, [some (.inr (.inr 45)), some (.inl x1), some (.inl (U 18 x1.toNat))], [], (am_sh, am_mm U))) (σ2 := (d, 204, 25, [some (.inr (.inr 45)), some (.inl x1), some (.inl (U 18 x1.toNat))], [], (am_sh, am_mm U))) 5 (fun _ => rfl) (fun hc => ?_) (fun hc => ?_)
    · have ha21 := ha2.1 hc
      subst ha21
      exact ev_end 2 (fun _ => rfl)
    · have ha22 := ha2.2 hc
      refine ev_seg (σ1 := (d, 204, 33, [some (.inr (.inr 45)), some (.inl x1), some (.inl (U 18 x1.toNat))], [.inl (U 18 x1.toNat), .inr (.inr 19)], (am_sh, am_mm U))) 4 (fun _ => rfl) ?_
      refine eu_iald 19 (n := 12) rfl (by decide) rfl (fun _ => rfl) ha22.1 ?_
      have ha22a := ha22.2
      subst ha22a
      exact ev_end 8 (fun _ => rfl)
set_option maxRecDepth 8000 in
theorem st205_45_0 (N : Nat) (X : Nat → Int) (d : Nat) (x1 : Int) (U : Nat → Nat → Int) (R : Option am_V × am_M) (h : (0 ≤ x1 ∧ x1 < 16) ∧ ((((U 18 x1.toNat) < 0 : Prop)) → R = (some (.inl 0), (am_sh, am_mm U))) ∧ (¬ ((U 18 x1.toNat) < 0) → ((((U 18 x1.toNat) < (U 3 1) : Prop)) → Ev (am_kz N X) (d, 205, 32, [some (.inr (.inr 45)), some (.inl x1), some (.inl (U 18 x1.toNat)), some (.inl 0), some (.inl 0)], [], (am_sh, am_mm U)) R) ∧ (¬ ((U 18 x1.toNat) < (U 3 1)) → R = (some (.inl 0), (am_sh, am_mm U))))) : Ev (am_kz N X) (d, 205, 0, [some (.inr (.inr 45)), some (.inl x1), none, none, none], [], (am_sh, am_mm U)) R := by
  refine ev_seg (σ1 := (d, 205, 8, [some (.inr (.inr 45)), some (.inl x1), none, none, none], [.inl x1, .inr (.inr 18)], (am_sh, am_mm U))) 4 (fun _ => rfl) ?_
  refine eu_iald 18 (n := 16) rfl (by decide) rfl (fun _ => rfl) h.1 ?_
  have ha := h.2
  refine ev_br (P := (U 18 x1.toNat) < 0) (σ1 := (d, 205, 25, [some (.inr (.inr 45)), some (.inl x1), some (.inl (U 18 x1.toNat)), none, none], [], (am_sh, am_mm U))) (σ2 := (d, 205, 14, [some (.inr (.inr 45)), some (.inl x1), some (.inl (U 18 x1.toNat)), none, none], [], (am_sh, am_mm U))) 3 (fun _ => rfl) (fun hc => ?_) (fun hc => ?_)
  · have ha1 := ha.1 hc
    subst ha1
    exact ev_end 2 (fun _ => rfl)
  · have ha2 := ha.2 hc
    refine ev_br (P := (U 18 x1.toNat) < (U 3 1)) (σ1 := (d, 205, 27, [some (.inr (.inr 45)), some (.inl x1), some (.inl (U 18 x1.toNat)), none, none], [], (am_sh, am_mm U))) (σ2 := (d, 205, 25, [some (.inr (.inr 45)), some (.inl x1), some (.inl (U 18 x1.toNat)), none, none], [], (am_sh, am_mm U))) 5 (fun _ => rfl) (fun hc => ?_) (fun hc => ?_)
    · have ha21 := ha2.1 hc
      refine ev_seg (σ1 := (d, 205, 32, [some (.inr (.inr 45)), some (.inl x1), some (.inl (U 18 x1.toNat)), some (.inl 0), some (.inl 0)], [], (am_sh, am_mm U))) 4 (fun _ => rfl) ?_
      exact ha21
    · have ha22 := ha2.2 hc
      subst ha22
      exact ev_end 2 (fun _ => rfl)
set_option maxRecDepth 8000 in
theorem st205_45_32 (N : Nat) (X : Nat → Int) (d : Nat) (x1 x2 x3 x4 : Int) (U : Nat → Nat → Int) (R : Option am_V × am_M) (h : ((((U 3 1) ≤ x4 : Prop)) → R = (some (.inl x3), (am_sh, am_mm U))) ∧ (¬ ((U 3 1) ≤ x4) → (0 ≤ x2 ∧ x2 < 12) ∧ (((¬ (am_and (am_shr (U 9 x2.toNat) x4) 1) = 1 : Prop)) → Ev (am_kz N X) (d, 205, 32, [some (.inr (.inr 45)), some (.inl x1), some (.inl x2), some (.inl x3), some (.inl (w32 (x4 + 1)))], [], (am_sh, am_mm U)) R) ∧ (¬ (¬ (am_and (am_shr (U 9 x2.toNat) x4) 1) = 1) → (0 ≤ x4 ∧ x4 < 12) ∧ Ev (am_kz N X) (d, 205, 32, [some (.inr (.inr 45)), some (.inl x1), some (.inl x2), some (.inl (am_or x3 (U 19 x4.toNat))), some (.inl (w32 (x4 + 1)))], [], (am_sh, am_mm U)) R))) : Ev (am_kz N X) (d, 205, 32, [some (.inr (.inr 45)), some (.inl x1), some (.inl x2), some (.inl x3), some (.inl x4)], [], (am_sh, am_mm U)) R := by
  refine ev_br (P := (U 3 1) ≤ x4) (σ1 := (d, 205, 81, [some (.inr (.inr 45)), some (.inl x1), some (.inl x2), some (.inl x3), some (.inl x4)], [], (am_sh, am_mm U))) (σ2 := (d, 205, 44, [some (.inr (.inr 45)), some (.inl x1), some (.inl x2), some (.inl x3), some (.inl x4)], [], (am_sh, am_mm U))) 5 (fun _ => rfl) (fun hc => ?_) (fun hc => ?_)
  · have h1 := h.1 hc
    subst h1
    exact ev_end 2 (fun _ => rfl)
  · have h2 := h.2 hc
    refine ev_seg (σ1 := (d, 205, 52, [some (.inr (.inr 45)), some (.inl x1), some (.inl x2), some (.inl x3), some (.inl x4)], [.inl x2, .inr (.inr 9)], (am_sh, am_mm U))) 4 (fun _ => rfl) ?_
    refine eu_iald 9 (n := 12) rfl (by decide) rfl (fun _ => rfl) h2.1 ?_
    have h2a := h2.2
    refine ev_br (P := ¬ (am_and (am_shr (U 9 x2.toNat) x4) 1) = 1) (σ1 := (d, 205, 75, [some (.inr (.inr 45)), some (.inl x1), some (.inl x2), some (.inl x3), some (.inl x4)], [], (am_sh, am_mm U))) (σ2 := (d, 205, 62, [some (.inr (.inr 45)), some (.inl x1), some (.inl x2), some (.inl x3), some (.inl x4)], [], (am_sh, am_mm U))) 6 (fun _ => rfl) (fun hc => ?_) (fun hc => ?_)
    · have h2a1 := h2a.1 hc
      refine ev_seg (σ1 := (d, 205, 32, [some (.inr (.inr 45)), some (.inl x1), some (.inl x2), some (.inl x3), some (.inl (w32 (x4 + 1)))], [], (am_sh, am_mm U))) 2 (fun _ => rfl) ?_
      exact h2a1
    · have h2a2 := h2a.2 hc
      refine ev_seg (σ1 := (d, 205, 72, [some (.inr (.inr 45)), some (.inl x1), some (.inl x2), some (.inl x3), some (.inl x4)], [.inl x4, .inr (.inr 19), .inl x3], (am_sh, am_mm U))) 5 (fun _ => rfl) ?_
      refine eu_iald 19 (n := 12) rfl (by decide) rfl (fun _ => rfl) h2a2.1 ?_
      have h2a2a := h2a2.2
      refine ev_seg (σ1 := (d, 205, 32, [some (.inr (.inr 45)), some (.inl x1), some (.inl x2), some (.inl (am_or x3 (U 19 x4.toNat))), some (.inl (w32 (x4 + 1)))], [], (am_sh, am_mm U))) 4 (fun _ => rfl) ?_
      exact h2a2a
set_option maxRecDepth 8000 in
theorem st206_0 (N : Nat) (X : Nat → Int) (d : Nat) (x0 : Int) (U : Nat → Nat → Int) (R : Option am_V × am_M) (h : (((2 ≤ x0 : Prop)) → ∃ (r1 : Int) (U1 : Nat → Nat → Int), Ev (am_kz N X) (d, 118, 0, [some (.inl x0), none, none, none, none, none, none, none], [], (am_sh, am_mm U)) (some (.inl r1), (am_sh, am_mm U1)) ∧ Ev (am_kz N X) ((d + 1), 206, 20, [some (.inl x0), some (.inr (.inl 1)), none, some (.inl x0), some (.inl r1), some (.inl 2), none, none, none], [], (am_sh, am_mm U1)) R) ∧ (¬ (2 ≤ x0) → R = (some (.inr (.inl 0)), (am_sh, am_mm U)))) : Ev (am_kz N X) ((d + 1), 206, 0, [some (.inl x0), none, none, none, none, none, none, none, none], [], (am_sh, am_mm U)) R := by
  refine ev_br (P := 2 ≤ x0) (σ1 := ((d + 1), 206, 7, [some (.inl x0), none, none, none, none, none, none, none, none], [], (am_sh, am_mm U))) (σ2 := ((d + 1), 206, 5, [some (.inl x0), none, none, none, none, none, none, none, none], [], (am_sh, am_mm U))) 3 (fun _ => rfl) (fun hc => ?_) (fun hc => ?_)
  · have h1 := h.1 hc
    refine ev_seg (σ1 := ((d + 1), 206, 12, [some (.inl x0), some (.inr (.inl 1)), none, some (.inl x0), none, none, none, none, none], [.inl x0], (am_sh, am_mm U))) 5 (fun _ => rfl) ?_
    obtain ⟨r1, U1, h1c, h1a⟩ := h1
    refine ev_cal (σc := (d, 118, 0, [some (.inl x0), none, none, none, none, none, none, none], [], (am_sh, am_mm U))) (fun _ => rfl) h1c ?_
    show Ev (am_kz N X) ((d + 1), 206, 15, [some (.inl x0), some (.inr (.inl 1)), none, some (.inl x0), none, none, none, none, none], [.inl r1], (am_sh, am_mm U1)) R
    refine ev_seg (σ1 := ((d + 1), 206, 20, [some (.inl x0), some (.inr (.inl 1)), none, some (.inl x0), some (.inl r1), some (.inl 2), none, none, none], [], (am_sh, am_mm U1))) 3 (fun _ => rfl) ?_
    exact h1a
  · have h2 := h.2 hc
    subst h2
    exact ev_end 2 (fun _ => rfl)
set_option maxRecDepth 8000 in
theorem st206_20 (N : Nat) (X : Nat → Int) (d : Nat) (x0 x1 x3 x4 x5 : Int) (U : Nat → Nat → Int) (R : Option am_V × am_M) (h : (((31623 < x5 : Prop)) → (((x3 ≤ 1 : Prop)) → R = (some (.inr (.inl (w64 (x1 - x0)))), (am_sh, am_mm U))) ∧ (¬ (x3 ≤ 1) → R = (some (.inr (.inl (w64 ((w64 (x1 * (w32 (x3 + 1)))) - x0)))), (am_sh, am_mm U)))) ∧ (¬ (31623 < x5) → (((¬ x4 = 0 : Prop)) → (((x3 ≤ 1 : Prop)) → R = (some (.inr (.inl (w64 (x1 - x0)))), (am_sh, am_mm U))) ∧ (¬ (x3 ≤ 1) → R = (some (.inr (.inl (w64 ((w64 (x1 * (w32 (x3 + 1)))) - x0)))), (am_sh, am_mm U)))) ∧ (¬ (¬ x4 = 0) → (((x3 < (w32 (x5 * x5)) : Prop)) → (((x3 ≤ 1 : Prop)) → R = (some (.inr (.inl (w64 (x1 - x0)))), (am_sh, am_mm U))) ∧ (¬ (x3 ≤ 1) → R = (some (.inr (.inl (w64 ((w64 (x1 * (w32 (x3 + 1)))) - x0)))), (am_sh, am_mm U)))) ∧ (¬ (x3 < (w32 (x5 * x5))) → x5 ≠ 0 ∧ (((¬ (Int.tmod x3 x5) = 0 : Prop)) → (((¬ x5 = 2 : Prop)) → Ev (am_kz N X) ((d + 1), 206, 20, [some (.inl x0), some (.inr (.inl x1)), none, some (.inl x3), some (.inl x4), some (.inl (w32 (x5 + 2))), none, none, none], [], (am_sh, am_mm U)) R) ∧ (¬ (¬ x5 = 2) → Ev (am_kz N X) ((d + 1), 206, 20, [some (.inl x0), some (.inr (.inl x1)), none, some (.inl x3), some (.inl x4), some (.inl (w32 (x5 + 1))), none, none, none], [], (am_sh, am_mm U)) R)) ∧ (¬ (¬ (Int.tmod x3 x5) = 0) → Ev (am_kz N X) ((d + 1), 206, 55, [some (.inl x0), some (.inr (.inl x1)), none, some (.inl x3), some (.inl x4), some (.inl x5), some (.inr (.inl 1)), none, some (.inl 0)], [], (am_sh, am_mm U)) R))))) : Ev (am_kz N X) ((d + 1), 206, 20, [some (.inl x0), some (.inr (.inl x1)), none, some (.inl x3), some (.inl x4), some (.inl x5), none, none, none], [], (am_sh, am_mm U)) R := by
  refine ev_br (P := 31623 < x5) (σ1 := ((d + 1), 206, 120, [some (.inl x0), some (.inr (.inl x1)), none, some (.inl x3), some (.inl x4), some (.inl x5), none, none, none], [], (am_sh, am_mm U))) (σ2 := ((d + 1), 206, 28, [some (.inl x0), some (.inr (.inl x1)), none, some (.inl x3), some (.inl x4), some (.inl x5), none, none, none], [], (am_sh, am_mm U))) 3 (fun _ => rfl) (fun hc => ?_) (fun hc => ?_)
  · have h1 := h.1 hc
    refine ev_br (P := x3 ≤ 1) (σ1 := ((d + 1), 206, 134, [some (.inl x0), some (.inr (.inl x1)), none, some (.inl x3), some (.inl x4), some (.inl x5), none, none, none], [], (am_sh, am_mm U))) (σ2 := ((d + 1), 206, 125, [some (.inl x0), some (.inr (.inl x1)), none, some (.inl x3), some (.inl x4), some (.inl x5), none, none, none], [], (am_sh, am_mm U))) 3 (fun _ => rfl) (fun hc => ?_) (fun hc => ?_)
    · have h11 := h1.1 hc
      subst h11
      exact ev_end 5 (fun _ => rfl)
    · have h12 := h1.2 hc
      subst h12
      exact ev_end 11 (fun _ => rfl)
  · have h2 := h.2 hc
    refine ev_br (P := ¬ x4 = 0) (σ1 := ((d + 1), 206, 120, [some (.inl x0), some (.inr (.inl x1)), none, some (.inl x3), some (.inl x4), some (.inl x5), none, none, none], [], (am_sh, am_mm U))) (σ2 := ((d + 1), 206, 33, [some (.inl x0), some (.inr (.inl x1)), none, some (.inl x3), some (.inl x4), some (.inl x5), none, none, none], [], (am_sh, am_mm U))) 2 (fun _ => rfl) (fun hc => ?_) (fun hc => ?_)
    · have h21 := h2.1 hc
      refine ev_br (P := x3 ≤ 1) (σ1 := ((d + 1), 206, 134, [some (.inl x0), some (.inr (.inl x1)), none, some (.inl x3), some (.inl x4), some (.inl x5), none, none, none], [], (am_sh, am_mm U))) (σ2 := ((d + 1), 206, 125, [some (.inl x0), some (.inr (.inl x1)), none, some (.inl x3), some (.inl x4), some (.inl x5), none, none, none], [], (am_sh, am_mm U))) 3 (fun _ => rfl) (fun hc => ?_) (fun hc => ?_)
      · have h211 := h21.1 hc
        subst h211
        exact ev_end 5 (fun _ => rfl)
      · have h212 := h21.2 hc
        subst h212
        exact ev_end 11 (fun _ => rfl)
    · have h22 := h2.2 hc
      refine ev_br (P := x3 < (w32 (x5 * x5))) (σ1 := ((d + 1), 206, 120, [some (.inl x0), some (.inr (.inl x1)), none, some (.inl x3), some (.inl x4), some (.inl x5), none, none, none], [], (am_sh, am_mm U))) (σ2 := ((d + 1), 206, 42, [some (.inl x0), some (.inr (.inl x1)), none, some (.inl x3), some (.inl x4), some (.inl x5), none, none, none], [], (am_sh, am_mm U))) 5 (fun _ => rfl) (fun hc => ?_) (fun hc => ?_)
      · have h221 := h22.1 hc
        refine ev_br (P := x3 ≤ 1) (σ1 := ((d + 1), 206, 134, [some (.inl x0), some (.inr (.inl x1)), none, some (.inl x3), some (.inl x4), some (.inl x5), none, none, none], [], (am_sh, am_mm U))) (σ2 := ((d + 1), 206, 125, [some (.inl x0), some (.inr (.inl x1)), none, some (.inl x3), some (.inl x4), some (.inl x5), none, none, none], [], (am_sh, am_mm U))) 3 (fun _ => rfl) (fun hc => ?_) (fun hc => ?_)
        · have h2211 := h221.1 hc
          subst h2211
          exact ev_end 5 (fun _ => rfl)
        · have h2212 := h221.2 hc
          subst h2212
          exact ev_end 11 (fun _ => rfl)
      · have h222 := h22.2 hc
        refine ev_seg (σ1 := ((d + 1), 206, 45, [some (.inl x0), some (.inr (.inl x1)), none, some (.inl x3), some (.inl x4), some (.inl x5), none, none, none], [.inl x5, .inl x3], (am_sh, am_mm U))) 2 (fun _ => rfl) ?_
        refine ev_irem rfl h222.1 ?_
        have h222a := h222.2
        refine ev_br (P := ¬ (Int.tmod x3 x5) = 0) (σ1 := ((d + 1), 206, 101, [some (.inl x0), some (.inr (.inl x1)), none, some (.inl x3), some (.inl x4), some (.inl x5), none, none, none], [], (am_sh, am_mm U))) (σ2 := ((d + 1), 206, 49, [some (.inl x0), some (.inr (.inl x1)), none, some (.inl x3), some (.inl x4), some (.inl x5), none, none, none], [], (am_sh, am_mm U))) 1 (fun _ => rfl) (fun hc => ?_) (fun hc => ?_)
        · have h222a1 := h222a.1 hc
          refine ev_br (P := ¬ x5 = 2) (σ1 := ((d + 1), 206, 113, [some (.inl x0), some (.inr (.inl x1)), none, some (.inl x3), some (.inl x4), some (.inl x5), none, none, none], [.inl x5], (am_sh, am_mm U))) (σ2 := ((d + 1), 206, 109, [some (.inl x0), some (.inr (.inl x1)), none, some (.inl x3), some (.inl x4), some (.inl x5), none, none, none], [.inl x5], (am_sh, am_mm U))) 4 (fun _ => rfl) (fun hc => ?_) (fun hc => ?_)
          · have h222a11 := h222a1.1 hc
            refine ev_seg (σ1 := ((d + 1), 206, 20, [some (.inl x0), some (.inr (.inl x1)), none, some (.inl x3), some (.inl x4), some (.inl (w32 (x5 + 2))), none, none, none], [], (am_sh, am_mm U))) 4 (fun _ => rfl) ?_
            exact h222a11
          · have h222a12 := h222a1.2 hc
            refine ev_seg (σ1 := ((d + 1), 206, 20, [some (.inl x0), some (.inr (.inl x1)), none, some (.inl x3), some (.inl x4), some (.inl (w32 (x5 + 1))), none, none, none], [], (am_sh, am_mm U))) 5 (fun _ => rfl) ?_
            exact h222a12
        · have h222a2 := h222a.2 hc
          refine ev_seg (σ1 := ((d + 1), 206, 55, [some (.inl x0), some (.inr (.inl x1)), none, some (.inl x3), some (.inl x4), some (.inl x5), some (.inr (.inl 1)), none, some (.inl 0)], [], (am_sh, am_mm U))) 4 (fun _ => rfl) ?_
          exact h222a2
set_option maxRecDepth 8000 in
theorem st206_55 (N : Nat) (X : Nat → Int) (d : Nat) (x0 x1 x3 x4 x5 x6 x8 : Int) (U : Nat → Nat → Int) (R : Option am_V × am_M) (h : (((31 ≤ x8 : Prop)) → ∃ (r1 : Int) (U1 : Nat → Nat → Int), Ev (am_kz N X) (d, 118, 0, [some (.inl x3), none, none, none, none, none, none, none], [], (am_sh, am_mm U)) (some (.inl r1), (am_sh, am_mm U1)) ∧ (((¬ x5 = 2 : Prop)) → Ev (am_kz N X) ((d + 1), 206, 20, [some (.inl x0), some (.inr (.inl (w64 (x1 * x6)))), none, some (.inl x3), some (.inl r1), some (.inl (w32 (x5 + 2))), some (.inr (.inl x6)), none, some (.inl x8)], [], (am_sh, am_mm U1)) R) ∧ (¬ (¬ x5 = 2) → Ev (am_kz N X) ((d + 1), 206, 20, [some (.inl x0), some (.inr (.inl (w64 (x1 * x6)))), none, some (.inl x3), some (.inl r1), some (.inl (w32 (x5 + 1))), some (.inr (.inl x6)), none, some (.inl x8)], [], (am_sh, am_mm U1)) R)) ∧ (¬ (31 ≤ x8) → x5 ≠ 0 ∧ (((¬ (Int.tmod x3 x5) = 0 : Prop)) → ∃ (r2 : Int) (U2 : Nat → Nat → Int), Ev (am_kz N X) (d, 118, 0, [some (.inl x3), none, none, none, none, none, none, none], [], (am_sh, am_mm U)) (some (.inl r2), (am_sh, am_mm U2)) ∧ (((¬ x5 = 2 : Prop)) → Ev (am_kz N X) ((d + 1), 206, 20, [some (.inl x0), some (.inr (.inl (w64 (x1 * x6)))), none, some (.inl x3), some (.inl r2), some (.inl (w32 (x5 + 2))), some (.inr (.inl x6)), none, some (.inl x8)], [], (am_sh, am_mm U2)) R) ∧ (¬ (¬ x5 = 2) → Ev (am_kz N X) ((d + 1), 206, 20, [some (.inl x0), some (.inr (.inl (w64 (x1 * x6)))), none, some (.inl x3), some (.inl r2), some (.inl (w32 (x5 + 1))), some (.inr (.inl x6)), none, some (.inl x8)], [], (am_sh, am_mm U2)) R)) ∧ (¬ (¬ (Int.tmod x3 x5) = 0) → x5 ≠ 0 ∧ Ev (am_kz N X) ((d + 1), 206, 55, [some (.inl x0), some (.inr (.inl x1)), none, some (.inl (w32 (Int.tdiv x3 x5))), some (.inl x4), some (.inl x5), some (.inr (.inl (w64 ((w64 (x6 * x5)) + 1)))), none, some (.inl (w32 (x8 + 1)))], [], (am_sh, am_mm U)) R))) : Ev (am_kz N X) ((d + 1), 206, 55, [some (.inl x0), some (.inr (.inl x1)), none, some (.inl x3), some (.inl x4), some (.inl x5), some (.inr (.inl x6)), none, some (.inl x8)], [], (am_sh, am_mm U)) R := by
  refine ev_br (P := 31 ≤ x8) (σ1 := ((d + 1), 206, 90, [some (.inl x0), some (.inr (.inl x1)), none, some (.inl x3), some (.inl x4), some (.inl x5), some (.inr (.inl x6)), none, some (.inl x8)], [], (am_sh, am_mm U))) (σ2 := ((d + 1), 206, 62, [some (.inl x0), some (.inr (.inl x1)), none, some (.inl x3), some (.inl x4), some (.inl x5), some (.inr (.inl x6)), none, some (.inl x8)], [], (am_sh, am_mm U))) 3 (fun _ => rfl) (fun hc => ?_) (fun hc => ?_)
  · have h1 := h.1 hc
    refine ev_seg (σ1 := ((d + 1), 206, 96, [some (.inl x0), some (.inr (.inl (w64 (x1 * x6)))), none, some (.inl x3), some (.inl x4), some (.inl x5), some (.inr (.inl x6)), none, some (.inl x8)], [.inl x3], (am_sh, am_mm U))) 5 (fun _ => rfl) ?_
    obtain ⟨r1, U1, h1c, h1a⟩ := h1
    refine ev_cal (σc := (d, 118, 0, [some (.inl x3), none, none, none, none, none, none, none], [], (am_sh, am_mm U))) (fun _ => rfl) h1c ?_
    show Ev (am_kz N X) ((d + 1), 206, 99, [some (.inl x0), some (.inr (.inl (w64 (x1 * x6)))), none, some (.inl x3), some (.inl x4), some (.inl x5), some (.inr (.inl x6)), none, some (.inl x8)], [.inl r1], (am_sh, am_mm U1)) R
    refine ev_br (P := ¬ x5 = 2) (σ1 := ((d + 1), 206, 113, [some (.inl x0), some (.inr (.inl (w64 (x1 * x6)))), none, some (.inl x3), some (.inl r1), some (.inl x5), some (.inr (.inl x6)), none, some (.inl x8)], [.inl x5], (am_sh, am_mm U1))) (σ2 := ((d + 1), 206, 109, [some (.inl x0), some (.inr (.inl (w64 (x1 * x6)))), none, some (.inl x3), some (.inl r1), some (.inl x5), some (.inr (.inl x6)), none, some (.inl x8)], [.inl x5], (am_sh, am_mm U1))) 5 (fun _ => rfl) (fun hc => ?_) (fun hc => ?_)
    · have h1a1 := h1a.1 hc
      refine ev_seg (σ1 := ((d + 1), 206, 20, [some (.inl x0), some (.inr (.inl (w64 (x1 * x6)))), none, some (.inl x3), some (.inl r1), some (.inl (w32 (x5 + 2))), some (.inr (.inl x6)), none, some (.inl x8)], [], (am_sh, am_mm U1))) 4 (fun _ => rfl) ?_
      exact h1a1
    · have h1a2 := h1a.2 hc
      refine ev_seg (σ1 := ((d + 1), 206, 20, [some (.inl x0), some (.inr (.inl (w64 (x1 * x6)))), none, some (.inl x3), some (.inl r1), some (.inl (w32 (x5 + 1))), some (.inr (.inl x6)), none, some (.inl x8)], [], (am_sh, am_mm U1))) 5 (fun _ => rfl) ?_
      exact h1a2
  · have h2 := h.2 hc
    refine ev_seg (σ1 := ((d + 1), 206, 65, [some (.inl x0), some (.inr (.inl x1)), none, some (.inl x3), some (.inl x4), some (.inl x5), some (.inr (.inl x6)), none, some (.inl x8)], [.inl x5, .inl x3], (am_sh, am_mm U))) 2 (fun _ => rfl) ?_
    refine ev_irem rfl h2.1 ?_
    have h2a := h2.2
    refine ev_br (P := ¬ (Int.tmod x3 x5) = 0) (σ1 := ((d + 1), 206, 90, [some (.inl x0), some (.inr (.inl x1)), none, some (.inl x3), some (.inl x4), some (.inl x5), some (.inr (.inl x6)), none, some (.inl x8)], [], (am_sh, am_mm U))) (σ2 := ((d + 1), 206, 69, [some (.inl x0), some (.inr (.inl x1)), none, some (.inl x3), some (.inl x4), some (.inl x5), some (.inr (.inl x6)), none, some (.inl x8)], [], (am_sh, am_mm U))) 1 (fun _ => rfl) (fun hc => ?_) (fun hc => ?_)
    · have h2a1 := h2a.1 hc
      refine ev_seg (σ1 := ((d + 1), 206, 96, [some (.inl x0), some (.inr (.inl (w64 (x1 * x6)))), none, some (.inl x3), some (.inl x4), some (.inl x5), some (.inr (.inl x6)), none, some (.inl x8)], [.inl x3], (am_sh, am_mm U))) 5 (fun _ => rfl) ?_
      obtain ⟨r2, U2, h2a1c, h2a1a⟩ := h2a1
      refine ev_cal (σc := (d, 118, 0, [some (.inl x3), none, none, none, none, none, none, none], [], (am_sh, am_mm U))) (fun _ => rfl) h2a1c ?_
      show Ev (am_kz N X) ((d + 1), 206, 99, [some (.inl x0), some (.inr (.inl (w64 (x1 * x6)))), none, some (.inl x3), some (.inl x4), some (.inl x5), some (.inr (.inl x6)), none, some (.inl x8)], [.inl r2], (am_sh, am_mm U2)) R
      refine ev_br (P := ¬ x5 = 2) (σ1 := ((d + 1), 206, 113, [some (.inl x0), some (.inr (.inl (w64 (x1 * x6)))), none, some (.inl x3), some (.inl r2), some (.inl x5), some (.inr (.inl x6)), none, some (.inl x8)], [.inl x5], (am_sh, am_mm U2))) (σ2 := ((d + 1), 206, 109, [some (.inl x0), some (.inr (.inl (w64 (x1 * x6)))), none, some (.inl x3), some (.inl r2), some (.inl x5), some (.inr (.inl x6)), none, some (.inl x8)], [.inl x5], (am_sh, am_mm U2))) 5 (fun _ => rfl) (fun hc => ?_) (fun hc => ?_)
      · have h2a1a1 := h2a1a.1 hc
        refine ev_seg (σ1 := ((d + 1), 206, 20, [some (.inl x0), some (.inr (.inl (w64 (x1 * x6)))), none, some (.inl x3), some (.inl r2), some (.inl (w32 (x5 + 2))), some (.inr (.inl x6)), none, some (.inl x8)], [], (am_sh, am_mm U2))) 4 (fun _ => rfl) ?_
        exact h2a1a1
      · have h2a1a2 := h2a1a.2 hc
        refine ev_seg (σ1 := ((d + 1), 206, 20, [some (.inl x0), some (.inr (.inl (w64 (x1 * x6)))), none, some (.inl x3), some (.inl r2), some (.inl (w32 (x5 + 1))), some (.inr (.inl x6)), none, some (.inl x8)], [], (am_sh, am_mm U2))) 5 (fun _ => rfl) ?_
        exact h2a1a2
    · have h2a2 := h2a.2 hc
      refine ev_seg (σ1 := ((d + 1), 206, 72, [some (.inl x0), some (.inr (.inl x1)), none, some (.inl x3), some (.inl x4), some (.inl x5), some (.inr (.inl x6)), none, some (.inl x8)], [.inl x5, .inl x3], (am_sh, am_mm U))) 2 (fun _ => rfl) ?_
      refine ev_idiv rfl h2a2.1 ?_
      have h2a2a := h2a2.2
      refine ev_seg (σ1 := ((d + 1), 206, 55, [some (.inl x0), some (.inr (.inl x1)), none, some (.inl (w32 (Int.tdiv x3 x5))), some (.inl x4), some (.inl x5), some (.inr (.inl (w64 ((w64 (x6 * x5)) + 1)))), none, some (.inl (w32 (x8 + 1)))], [], (am_sh, am_mm U))) 10 (fun _ => rfl) ?_
      exact h2a2a
set_option maxRecDepth 8000 in
theorem st207_86_0 (N : Nat) (X : Nat → Int) (d : Nat) (x1 x2 : Int) (U : Nat → Nat → Int) (R : Option am_V × am_M) (h : ∃ (r1 : Int) (U1 : Nat → Nat → Int), Ev (am_kz N X) (d, 202, 0, [some (.inr (.inr 86)), some (.inl 0), some (.inl 2), some (.inl x1), some (.inl x2), none, none], [], (am_sh, am_mm U)) (some (.inl r1), (am_sh, am_mm U1)) ∧ (((¬ r1 = 0 : Prop)) → R = (some (.inl 1), (am_sh, am_mm U1))) ∧ (¬ (¬ r1 = 0) → ∃ (r2 : Int) (U2 : Nat → Nat → Int), Ev (am_kz N X) (d, 202, 0, [some (.inr (.inr 86)), some (.inl 0), some (.inl 1), some (.inl x1), some (.inl x2), none, none], [], (am_sh, am_mm U1)) (some (.inl r2), (am_sh, am_mm U2)) ∧ (((r2 = 0 : Prop)) → R = (some (.inl 0), (am_sh, am_mm U2))) ∧ (¬ (r2 = 0) → R = (some (.inl 1), (am_sh, am_mm U2))))) : Ev (am_kz N X) ((d + 1), 207, 0, [some (.inr (.inr 86)), some (.inl x1), some (.inl x2)], [], (am_sh, am_mm U)) R := by
  refine ev_seg (σ1 := ((d + 1), 207, 5, [some (.inr (.inr 86)), some (.inl x1), some (.inl x2)], [.inl x2, .inl x1, .inl 2, .inl 0, .inr (.inr 86)], (am_sh, am_mm U))) 5 (fun _ => rfl) ?_
  obtain ⟨r1, U1, hc, ha⟩ := h
  refine ev_cal (σc := (d, 202, 0, [some (.inr (.inr 86)), some (.inl 0), some (.inl 2), some (.inl x1), some (.inl x2), none, none], [], (am_sh, am_mm U))) (fun _ => rfl) hc ?_
  show Ev (am_kz N X) ((d + 1), 207, 8, [some (.inr (.inr 86)), some (.inl x1), some (.inl x2)], [.inl r1], (am_sh, am_mm U1)) R
  refine ev_br (P := ¬ r1 = 0) (σ1 := ((d + 1), 207, 22, [some (.inr (.inr 86)), some (.inl x1), some (.inl x2)], [], (am_sh, am_mm U1))) (σ2 := ((d + 1), 207, 11, [some (.inr (.inr 86)), some (.inl x1), some (.inl x2)], [], (am_sh, am_mm U1))) 1 (fun _ => rfl) (fun hc => ?_) (fun hc => ?_)
  · have ha1 := ha.1 hc
    subst ha1
    exact ev_end 3 (fun _ => rfl)
  · have ha2 := ha.2 hc
    refine ev_seg (σ1 := ((d + 1), 207, 16, [some (.inr (.inr 86)), some (.inl x1), some (.inl x2)], [.inl x2, .inl x1, .inl 1, .inl 0, .inr (.inr 86)], (am_sh, am_mm U1))) 5 (fun _ => rfl) ?_
    obtain ⟨r2, U2, ha2c, ha2a⟩ := ha2
    refine ev_cal (σc := (d, 202, 0, [some (.inr (.inr 86)), some (.inl 0), some (.inl 1), some (.inl x1), some (.inl x2), none, none], [], (am_sh, am_mm U1))) (fun _ => rfl) ha2c ?_
    show Ev (am_kz N X) ((d + 1), 207, 19, [some (.inr (.inr 86)), some (.inl x1), some (.inl x2)], [.inl r2], (am_sh, am_mm U2)) R
    refine ev_br (P := r2 = 0) (σ1 := ((d + 1), 207, 26, [some (.inr (.inr 86)), some (.inl x1), some (.inl x2)], [], (am_sh, am_mm U2))) (σ2 := ((d + 1), 207, 22, [some (.inr (.inr 86)), some (.inl x1), some (.inl x2)], [], (am_sh, am_mm U2))) 1 (fun _ => rfl) (fun hc => ?_) (fun hc => ?_)
    · have ha2a1 := ha2a.1 hc
      subst ha2a1
      exact ev_end 2 (fun _ => rfl)
    · have ha2a2 := ha2a.2 hc
      subst ha2a2
      exact ev_end 3 (fun _ => rfl)
set_option maxRecDepth 8000 in
theorem st209_0 (N : Nat) (X : Nat → Int) (d : Nat) (x0 x2 : Int) (U : Nat → Nat → Int) (R : Option am_V × am_M) (h : x2 ≠ 0 ∧ (((¬ (am_lcmp (Int.tmod x0 x2) 0) = 0 : Prop)) → Ev (am_kz N X) ((d + 1), 209, 28, [some (.inr (.inl x0)), none, some (.inr (.inl x2)), none, some (.inr (.inl (w64 (x0 - 1)))), none, some (.inl 0), none, none, none], [], (am_sh, am_mm U)) R) ∧ (¬ (¬ (am_lcmp (Int.tmod x0 x2) 0) = 0) → (((¬ (am_lcmp x0 x2) = 0 : Prop)) → R = (some (.inl 0), (am_sh, am_mm U))) ∧ (¬ (¬ (am_lcmp x0 x2) = 0) → R = (some (.inl 1), (am_sh, am_mm U))))) : Ev (am_kz N X) ((d + 1), 209, 0, [some (.inr (.inl x0)), none, some (.inr (.inl x2)), none, none, none, none, none, none, none], [], (am_sh, am_mm U)) R := by
  refine ev_seg (σ1 := ((d + 1), 209, 2, [some (.inr (.inl x0)), none, some (.inr (.inl x2)), none, none, none, none, none, none, none], [.inr (.inl x2), .inr (.inl x0)], (am_sh, am_mm U))) 2 (fun _ => rfl) ?_
  refine ev_lrem rfl h.1 ?_
  have ha := h.2
  refine ev_br (P := ¬ (am_lcmp (Int.tmod x0 x2) 0) = 0) (σ1 := ((d + 1), 209, 20, [some (.inr (.inl x0)), none, some (.inr (.inl x2)), none, none, none, none, none, none, none], [], (am_sh, am_mm U))) (σ2 := ((d + 1), 209, 8, [some (.inr (.inl x0)), none, some (.inr (.inl x2)), none, none, none, none, none, none, none], [], (am_sh, am_mm U))) 3 (fun _ => rfl) (fun hc => ?_) (fun hc => ?_)
  · have ha1 := ha.1 hc
    refine ev_seg (σ1 := ((d + 1), 209, 28, [some (.inr (.inl x0)), none, some (.inr (.inl x2)), none, some (.inr (.inl (w64 (x0 - 1)))), none, some (.inl 0), none, none, none], [], (am_sh, am_mm U))) 6 (fun _ => rfl) ?_
    exact ha1
  · have ha2 := ha.2 hc
    refine ev_br (P := ¬ (am_lcmp x0 x2) = 0) (σ1 := ((d + 1), 209, 18, [some (.inr (.inl x0)), none, some (.inr (.inl x2)), none, none, none, none, none, none, none], [], (am_sh, am_mm U))) (σ2 := ((d + 1), 209, 14, [some (.inr (.inl x0)), none, some (.inr (.inl x2)), none, none, none, none, none, none, none], [], (am_sh, am_mm U))) 4 (fun _ => rfl) (fun hc => ?_) (fun hc => ?_)
    · have ha21 := ha2.1 hc
      subst ha21
      exact ev_end 2 (fun _ => rfl)
    · have ha22 := ha2.2 hc
      subst ha22
      exact ev_end 3 (fun _ => rfl)
set_option maxRecDepth 8000 in
theorem st209_28 (N : Nat) (X : Nat → Int) (d : Nat) (x0 x2 x4 x6 : Int) (U : Nat → Nat → Int) (R : Option am_V × am_M) (h : (((¬ (am_lcmp (Int.tmod x4 2) 0) = 0 : Prop)) → ∃ (r1 : Int) (U1 : Nat → Nat → Int), Ev (am_kz N X) (d, 273, 0, [some (.inr (.inl x2)), none, some (.inr (.inl x4)), none, some (.inr (.inl x0)), none, none, none, none, none, none, none], [], (am_sh, am_mm U)) (some (.inr (.inl r1)), (am_sh, am_mm U1)) ∧ ((((am_lcmp r1 1) = 0 : Prop)) → R = (some (.inl 1), (am_sh, am_mm U1))) ∧ (¬ ((am_lcmp r1 1) = 0) → (((¬ (am_lcmp r1 (w64 (x0 - 1))) = 0 : Prop)) → Ev (am_kz N X) ((d + 1), 209, 83, [some (.inr (.inl x0)), none, some (.inr (.inl x2)), none, some (.inr (.inl x4)), none, some (.inl x6), some (.inr (.inl r1)), none, some (.inl 1)], [], (am_sh, am_mm U1)) R) ∧ (¬ (¬ (am_lcmp r1 (w64 (x0 - 1))) = 0) → R = (some (.inl 1), (am_sh, am_mm U1))))) ∧ (¬ (¬ (am_lcmp (Int.tmod x4 2) 0) = 0) → Ev (am_kz N X) ((d + 1), 209, 28, [some (.inr (.inl x0)), none, some (.inr (.inl x2)), none, some (.inr (.inl (w64 (Int.tdiv x4 2)))), none, some (.inl (w32 (x6 + 1))), none, none, none], [], (am_sh, am_mm U)) R)) : Ev (am_kz N X) ((d + 1), 209, 28, [some (.inr (.inl x0)), none, some (.inr (.inl x2)), none, some (.inr (.inl x4)), none, some (.inl x6), none, none, none], [], (am_sh, am_mm U)) R := by
  refine ev_seg (σ1 := ((d + 1), 209, 33, [some (.inr (.inl x0)), none, some (.inr (.inl x2)), none, some (.inr (.inl x4)), none, some (.inl x6), none, none, none], [.inr (.inl 2), .inr (.inl x4)], (am_sh, am_mm U))) 2 (fun _ => rfl) ?_
  refine ev_lrem rfl (by decide) ?_
  refine ev_br (P := ¬ (am_lcmp (Int.tmod x4 2) 0) = 0) (σ1 := ((d + 1), 209, 53, [some (.inr (.inl x0)), none, some (.inr (.inl x2)), none, some (.inr (.inl x4)), none, some (.inl x6), none, none, none], [], (am_sh, am_mm U))) (σ2 := ((d + 1), 209, 39, [some (.inr (.inl x0)), none, some (.inr (.inl x2)), none, some (.inr (.inl x4)), none, some (.inl x6), none, none, none], [], (am_sh, am_mm U))) 3 (fun _ => rfl) (fun hc => ?_) (fun hc => ?_)
  · have h1 := h.1 hc
    refine ev_seg (σ1 := ((d + 1), 209, 57, [some (.inr (.inl x0)), none, some (.inr (.inl x2)), none, some (.inr (.inl x4)), none, some (.inl x6), none, none, none], [.inr (.inl x0), .inr (.inl x4), .inr (.inl x2)], (am_sh, am_mm U))) 3 (fun _ => rfl) ?_
    obtain ⟨r1, U1, h1c, h1a⟩ := h1
    refine ev_cal (σc := (d, 273, 0, [some (.inr (.inl x2)), none, some (.inr (.inl x4)), none, some (.inr (.inl x0)), none, none, none, none, none, none, none], [], (am_sh, am_mm U))) (fun _ => rfl) h1c ?_
    show Ev (am_kz N X) ((d + 1), 209, 60, [some (.inr (.inl x0)), none, some (.inr (.inl x2)), none, some (.inr (.inl x4)), none, some (.inl x6), none, none, none], [.inr (.inl r1)], (am_sh, am_mm U1)) R
    refine ev_br (P := (am_lcmp r1 1) = 0) (σ1 := ((d + 1), 209, 78, [some (.inr (.inl x0)), none, some (.inr (.inl x2)), none, some (.inr (.inl x4)), none, some (.inl x6), some (.inr (.inl r1)), none, none], [], (am_sh, am_mm U1))) (σ2 := ((d + 1), 209, 69, [some (.inr (.inl x0)), none, some (.inr (.inl x2)), none, some (.inr (.inl x4)), none, some (.inl x6), some (.inr (.inl r1)), none, none], [], (am_sh, am_mm U1))) 5 (fun _ => rfl) (fun hc => ?_) (fun hc => ?_)
    · have h1a1 := h1a.1 hc
      subst h1a1
      exact ev_end 2 (fun _ => rfl)
    · have h1a2 := h1a.2 hc
      refine ev_br (P := ¬ (am_lcmp r1 (w64 (x0 - 1))) = 0) (σ1 := ((d + 1), 209, 80, [some (.inr (.inl x0)), none, some (.inr (.inl x2)), none, some (.inr (.inl x4)), none, some (.inl x6), some (.inr (.inl r1)), none, none], [], (am_sh, am_mm U1))) (σ2 := ((d + 1), 209, 78, [some (.inr (.inl x0)), none, some (.inr (.inl x2)), none, some (.inr (.inl x4)), none, some (.inl x6), some (.inr (.inl r1)), none, none], [], (am_sh, am_mm U1))) 6 (fun _ => rfl) (fun hc => ?_) (fun hc => ?_)
      · have h1a21 := h1a2.1 hc
        refine ev_seg (σ1 := ((d + 1), 209, 83, [some (.inr (.inl x0)), none, some (.inr (.inl x2)), none, some (.inr (.inl x4)), none, some (.inl x6), some (.inr (.inl r1)), none, some (.inl 1)], [], (am_sh, am_mm U1))) 2 (fun _ => rfl) ?_
        exact h1a21
      · have h1a22 := h1a2.2 hc
        subst h1a22
        exact ev_end 2 (fun _ => rfl)
  · have h2 := h.2 hc
    refine ev_seg (σ1 := ((d + 1), 209, 44, [some (.inr (.inl x0)), none, some (.inr (.inl x2)), none, some (.inr (.inl x4)), none, some (.inl x6), none, none, none], [.inr (.inl 2), .inr (.inl x4)], (am_sh, am_mm U))) 2 (fun _ => rfl) ?_
    refine ev_ldiv rfl (by decide) ?_
    refine ev_seg (σ1 := ((d + 1), 209, 28, [some (.inr (.inl x0)), none, some (.inr (.inl x2)), none, some (.inr (.inl (w64 (Int.tdiv x4 2)))), none, some (.inl (w32 (x6 + 1))), none, none, none], [], (am_sh, am_mm U))) 3 (fun _ => rfl) ?_
    exact h2
set_option maxRecDepth 8000 in
theorem st209_83 (N : Nat) (X : Nat → Int) (d : Nat) (x0 x2 x4 x6 x7 x9 : Int) (U : Nat → Nat → Int) (R : Option am_V × am_M) (h : (((x6 ≤ x9 : Prop)) → R = (some (.inl 0), (am_sh, am_mm U))) ∧ (¬ (x6 ≤ x9) → x0 ≠ 0 ∧ (((¬ (am_lcmp (Int.tmod (w64 (x7 * x7)) x0) (w64 (x0 - 1))) = 0 : Prop)) → Ev (am_kz N X) ((d + 1), 209, 83, [some (.inr (.inl x0)), none, some (.inr (.inl x2)), none, some (.inr (.inl x4)), none, some (.inl x6), some (.inr (.inl (Int.tmod (w64 (x7 * x7)) x0))), none, some (.inl (w32 (x9 + 1)))], [], (am_sh, am_mm U)) R) ∧ (¬ (¬ (am_lcmp (Int.tmod (w64 (x7 * x7)) x0) (w64 (x0 - 1))) = 0) → R = (some (.inl 1), (am_sh, am_mm U))))) : Ev (am_kz N X) ((d + 1), 209, 83, [some (.inr (.inl x0)), none, some (.inr (.inl x2)), none, some (.inr (.inl x4)), none, some (.inl x6), some (.inr (.inl x7)), none, some (.inl x9)], [], (am_sh, am_mm U)) R := by
  refine ev_br (P := x6 ≤ x9) (σ1 := ((d + 1), 209, 116, [some (.inr (.inl x0)), none, some (.inr (.inl x2)), none, some (.inr (.inl x4)), none, some (.inl x6), some (.inr (.inl x7)), none, some (.inl x9)], [], (am_sh, am_mm U))) (σ2 := ((d + 1), 209, 90, [some (.inr (.inl x0)), none, some (.inr (.inl x2)), none, some (.inr (.inl x4)), none, some (.inl x6), some (.inr (.inl x7)), none, some (.inl x9)], [], (am_sh, am_mm U))) 3 (fun _ => rfl) (fun hc => ?_) (fun hc => ?_)
  · have h1 := h.1 hc
    subst h1
    exact ev_end 2 (fun _ => rfl)
  · have h2 := h.2 hc
    refine ev_seg (σ1 := ((d + 1), 209, 96, [some (.inr (.inl x0)), none, some (.inr (.inl x2)), none, some (.inr (.inl x4)), none, some (.inl x6), some (.inr (.inl x7)), none, some (.inl x9)], [.inr (.inl x0), .inr (.inl (w64 (x7 * x7)))], (am_sh, am_mm U))) 4 (fun _ => rfl) ?_
    refine ev_lrem rfl h2.1 ?_
    have h2a := h2.2
    refine ev_br (P := ¬ (am_lcmp (Int.tmod (w64 (x7 * x7)) x0) (w64 (x0 - 1))) = 0) (σ1 := ((d + 1), 209, 110, [some (.inr (.inl x0)), none, some (.inr (.inl x2)), none, some (.inr (.inl x4)), none, some (.inl x6), some (.inr (.inl (Int.tmod (w64 (x7 * x7)) x0))), none, some (.inl x9)], [], (am_sh, am_mm U))) (σ2 := ((d + 1), 209, 108, [some (.inr (.inl x0)), none, some (.inr (.inl x2)), none, some (.inr (.inl x4)), none, some (.inl x6), some (.inr (.inl (Int.tmod (w64 (x7 * x7)) x0))), none, some (.inl x9)], [], (am_sh, am_mm U))) 7 (fun _ => rfl) (fun hc => ?_) (fun hc => ?_)
    · have h2a1 := h2a.1 hc
      refine ev_seg (σ1 := ((d + 1), 209, 83, [some (.inr (.inl x0)), none, some (.inr (.inl x2)), none, some (.inr (.inl x4)), none, some (.inl x6), some (.inr (.inl (Int.tmod (w64 (x7 * x7)) x0))), none, some (.inl (w32 (x9 + 1)))], [], (am_sh, am_mm U))) 2 (fun _ => rfl) ?_
      exact h2a1
    · have h2a2 := h2a.2 hc
      subst h2a2
      exact ev_end 2 (fun _ => rfl)
set_option maxRecDepth 8000 in
theorem st208_0 (N : Nat) (X : Nat → Int) (d : Nat) (x0 : Int) (U : Nat → Nat → Int) (R : Option am_V × am_M) (h : (((0 ≤ (am_lcmp x0 0) : Prop)) → R = (some (.inr (.inl x0)), (am_sh, am_mm U))) ∧ (¬ (0 ≤ (am_lcmp x0 0)) → R = (some (.inr (.inl (w64 (-x0)))), (am_sh, am_mm U)))) : Ev (am_kz N X) (d, 208, 0, [some (.inr (.inl x0)), none], [], (am_sh, am_mm U)) R := by
  refine ev_br (P := 0 ≤ (am_lcmp x0 0)) (σ1 := (d, 208, 11, [some (.inr (.inl x0)), none], [], (am_sh, am_mm U))) (σ2 := (d, 208, 6, [some (.inr (.inl x0)), none], [], (am_sh, am_mm U))) 4 (fun _ => rfl) (fun hc => ?_) (fun hc => ?_)
  · have h1 := h.1 hc
    subst h1
    exact ev_end 2 (fun _ => rfl)
  · have h2 := h.2 hc
    subst h2
    exact ev_end 4 (fun _ => rfl)
set_option maxRecDepth 8000 in
theorem st210_45_0 (N : Nat) (X : Nat → Int) (d : Nat) (x1 : Int) (U : Nat → Nat → Int) (R : Option am_V × am_M) (h : ∃ (r1 : Int) (U1 : Nat → Nat → Int), Ev (am_kz N X) (d, 204, 0, [some (.inr (.inr 45)), some (.inl x1), none], [], (am_sh, am_mm U)) (some (.inl r1), (am_sh, am_mm U1)) ∧ ∃ (r2 : Int) (U2 : Nat → Nat → Int), Ev (am_kz N X) (d, 205, 0, [some (.inr (.inr 45)), some (.inl x1), none, none, none], [], (am_sh, am_mm U1)) (some (.inl r2), (am_sh, am_mm U2)) ∧ Ev (am_kz N X) ((d + 1), 210, 14, [some (.inr (.inr 45)), some (.inl x1), some (.inl (am_or r1 r2)), some (.inl 0), none], [], (am_sh, am_mm U2)) R) : Ev (am_kz N X) ((d + 1), 210, 0, [some (.inr (.inr 45)), some (.inl x1), none, none, none], [], (am_sh, am_mm U)) R := by
  refine ev_seg (σ1 := ((d + 1), 210, 2, [some (.inr (.inr 45)), some (.inl x1), none, none, none], [.inl x1, .inr (.inr 45)], (am_sh, am_mm U))) 2 (fun _ => rfl) ?_
  obtain ⟨r1, U1, hc, ha⟩ := h
  refine ev_cal (σc := (d, 204, 0, [some (.inr (.inr 45)), some (.inl x1), none], [], (am_sh, am_mm U))) (fun _ => rfl) hc ?_
  show Ev (am_kz N X) ((d + 1), 210, 5, [some (.inr (.inr 45)), some (.inl x1), none, none, none], [.inl r1], (am_sh, am_mm U1)) R
  refine ev_seg (σ1 := ((d + 1), 210, 7, [some (.inr (.inr 45)), some (.inl x1), none, none, none], [.inl x1, .inr (.inr 45), .inl r1], (am_sh, am_mm U1))) 2 (fun _ => rfl) ?_
  obtain ⟨r2, U2, hac, haa⟩ := ha
  refine ev_cal (σc := (d, 205, 0, [some (.inr (.inr 45)), some (.inl x1), none, none, none], [], (am_sh, am_mm U1))) (fun _ => rfl) hac ?_
  show Ev (am_kz N X) ((d + 1), 210, 10, [some (.inr (.inr 45)), some (.inl x1), none, none, none], [.inl r2, .inl r1], (am_sh, am_mm U2)) R
  refine ev_seg (σ1 := ((d + 1), 210, 14, [some (.inr (.inr 45)), some (.inl x1), some (.inl (am_or r1 r2)), some (.inl 0), none], [], (am_sh, am_mm U2))) 4 (fun _ => rfl) ?_
  exact haa
set_option maxRecDepth 8000 in
theorem st210_45_14 (N : Nat) (X : Nat → Int) (d : Nat) (x1 x2 x3 : Int) (U : Nat → Nat → Int) (R : Option am_V × am_M) (h : ((((U 3 4) ≤ x3 : Prop)) → R = (some (.inl 0), (am_sh, am_mm U))) ∧ (¬ ((U 3 4) ≤ x3) → ∃ (r1 : Int) (U1 : Nat → Nat → Int), Ev (am_kz N X) (d, 272, 0, [some (.inr (.inr 45)), some (.inl x3), some (.inl x1), some (.inl (-1)), none, none, none, none], [], (am_sh, am_mm U)) (some (.inl r1), (am_sh, am_mm U1)) ∧ (((r1 = 0 : Prop)) → Ev (am_kz N X) ((d + 1), 210, 40, [some (.inr (.inr 45)), some (.inl x1), some (.inl x2), some (.inl x3), some (.inl 0)], [], (am_sh, am_mm U1)) R) ∧ (¬ (r1 = 0) → R = (some (.inl 1), (am_sh, am_mm U1))))) : Ev (am_kz N X) ((d + 1), 210, 14, [some (.inr (.inr 45)), some (.inl x1), some (.inl x2), some (.inl x3), none], [], (am_sh, am_mm U)) R := by
  refine ev_br (P := (U 3 4) ≤ x3) (σ1 := ((d + 1), 210, 89, [some (.inr (.inr 45)), some (.inl x1), some (.inl x2), some (.inl x3), none], [], (am_sh, am_mm U))) (σ2 := ((d + 1), 210, 25, [some (.inr (.inr 45)), some (.inl x1), some (.inl x2), some (.inl x3), none], [], (am_sh, am_mm U))) 5 (fun _ => rfl) (fun hc => ?_) (fun hc => ?_)
  · have h1 := h.1 hc
    subst h1
    exact ev_end 2 (fun _ => rfl)
  · have h2 := h.2 hc
    refine ev_seg (σ1 := ((d + 1), 210, 29, [some (.inr (.inr 45)), some (.inl x1), some (.inl x2), some (.inl x3), none], [.inl (-1), .inl x1, .inl x3, .inr (.inr 45)], (am_sh, am_mm U))) 4 (fun _ => rfl) ?_
    obtain ⟨r1, U1, h2c, h2a⟩ := h2
    refine ev_cal (σc := (d, 272, 0, [some (.inr (.inr 45)), some (.inl x3), some (.inl x1), some (.inl (-1)), none, none, none, none], [], (am_sh, am_mm U))) (fun _ => rfl) h2c ?_
    show Ev (am_kz N X) ((d + 1), 210, 32, [some (.inr (.inr 45)), some (.inl x1), some (.inl x2), some (.inl x3), none], [.inl r1], (am_sh, am_mm U1)) R
    refine ev_br (P := r1 = 0) (σ1 := ((d + 1), 210, 37, [some (.inr (.inr 45)), some (.inl x1), some (.inl x2), some (.inl x3), none], [], (am_sh, am_mm U1))) (σ2 := ((d + 1), 210, 35, [some (.inr (.inr 45)), some (.inl x1), some (.inl x2), some (.inl x3), none], [], (am_sh, am_mm U1))) 1 (fun _ => rfl) (fun hc => ?_) (fun hc => ?_)
    · have h2a1 := h2a.1 hc
      refine ev_seg (σ1 := ((d + 1), 210, 40, [some (.inr (.inr 45)), some (.inl x1), some (.inl x2), some (.inl x3), some (.inl 0)], [], (am_sh, am_mm U1))) 2 (fun _ => rfl) ?_
      exact h2a1
    · have h2a2 := h2a.2 hc
      subst h2a2
      exact ev_end 2 (fun _ => rfl)
set_option maxRecDepth 8000 in
theorem st210_45_40 (N : Nat) (X : Nat → Int) (d : Nat) (x1 x2 x3 x4 : Int) (U : Nat → Nat → Int) (R : Option am_V × am_M) (h : ((((U 16 0) ≤ x4 : Prop)) → Ev (am_kz N X) ((d + 1), 210, 14, [some (.inr (.inr 45)), some (.inl x1), some (.inl x2), some (.inl (w32 (x3 + 1))), some (.inl x4)], [], (am_sh, am_mm U)) R) ∧ (¬ ((U 16 0) ≤ x4) → (((¬ (am_and (am_shr x2 x4) 1) = 1 : Prop)) → Ev (am_kz N X) ((d + 1), 210, 40, [some (.inr (.inr 45)), some (.inl x1), some (.inl x2), some (.inl x3), some (.inl (w32 (x4 + 1)))], [], (am_sh, am_mm U)) R) ∧ (¬ (¬ (am_and (am_shr x2 x4) 1) = 1) → ∃ (r1 : Int) (U1 : Nat → Nat → Int), Ev (am_kz N X) (d, 272, 0, [some (.inr (.inr 45)), some (.inl x3), some (.inl x4), some (.inl (am_shl 1 x1)), none, none, none, none], [], (am_sh, am_mm U)) (some (.inl r1), (am_sh, am_mm U1)) ∧ (((r1 = 0 : Prop)) → Ev (am_kz N X) ((d + 1), 210, 40, [some (.inr (.inr 45)), some (.inl x1), some (.inl x2), some (.inl x3), some (.inl (w32 (x4 + 1)))], [], (am_sh, am_mm U1)) R) ∧ (¬ (r1 = 0) → R = (some (.inl 1), (am_sh, am_mm U1)))))) : Ev (am_kz N X) ((d + 1), 210, 40, [some (.inr (.inr 45)), some (.inl x1), some (.inl x2), some (.inl x3), some (.inl x4)], [], (am_sh, am_mm U)) R := by
  refine ev_br (P := (U 16 0) ≤ x4) (σ1 := ((d + 1), 210, 83, [some (.inr (.inr 45)), some (.inl x1), some (.inl x2), some (.inl x3), some (.inl x4)], [], (am_sh, am_mm U))) (σ2 := ((d + 1), 210, 52, [some (.inr (.inr 45)), some (.inl x1), some (.inl x2), some (.inl x3), some (.inl x4)], [], (am_sh, am_mm U))) 5 (fun _ => rfl) (fun hc => ?_) (fun hc => ?_)
  · have h1 := h.1 hc
    refine ev_seg (σ1 := ((d + 1), 210, 14, [some (.inr (.inr 45)), some (.inl x1), some (.inl x2), some (.inl (w32 (x3 + 1))), some (.inl x4)], [], (am_sh, am_mm U))) 2 (fun _ => rfl) ?_
    exact h1
  · have h2 := h.2 hc
    refine ev_br (P := ¬ (am_and (am_shr x2 x4) 1) = 1) (σ1 := ((d + 1), 210, 77, [some (.inr (.inr 45)), some (.inl x1), some (.inl x2), some (.inl x3), some (.inl x4)], [], (am_sh, am_mm U))) (σ2 := ((d + 1), 210, 62, [some (.inr (.inr 45)), some (.inl x1), some (.inl x2), some (.inl x3), some (.inl x4)], [], (am_sh, am_mm U))) 7 (fun _ => rfl) (fun hc => ?_) (fun hc => ?_)
    · have h21 := h2.1 hc
      refine ev_seg (σ1 := ((d + 1), 210, 40, [some (.inr (.inr 45)), some (.inl x1), some (.inl x2), some (.inl x3), some (.inl (w32 (x4 + 1)))], [], (am_sh, am_mm U))) 2 (fun _ => rfl) ?_
      exact h21
    · have h22 := h2.2 hc
      refine ev_seg (σ1 := ((d + 1), 210, 69, [some (.inr (.inr 45)), some (.inl x1), some (.inl x2), some (.inl x3), some (.inl x4)], [.inl (am_shl 1 x1), .inl x4, .inl x3, .inr (.inr 45)], (am_sh, am_mm U))) 6 (fun _ => rfl) ?_
      obtain ⟨r1, U1, h22c, h22a⟩ := h22
      refine ev_cal (σc := (d, 272, 0, [some (.inr (.inr 45)), some (.inl x3), some (.inl x4), some (.inl (am_shl 1 x1)), none, none, none, none], [], (am_sh, am_mm U))) (fun _ => rfl) h22c ?_
      show Ev (am_kz N X) ((d + 1), 210, 72, [some (.inr (.inr 45)), some (.inl x1), some (.inl x2), some (.inl x3), some (.inl x4)], [.inl r1], (am_sh, am_mm U1)) R
      refine ev_br (P := r1 = 0) (σ1 := ((d + 1), 210, 77, [some (.inr (.inr 45)), some (.inl x1), some (.inl x2), some (.inl x3), some (.inl x4)], [], (am_sh, am_mm U1))) (σ2 := ((d + 1), 210, 75, [some (.inr (.inr 45)), some (.inl x1), some (.inl x2), some (.inl x3), some (.inl x4)], [], (am_sh, am_mm U1))) 1 (fun _ => rfl) (fun hc => ?_) (fun hc => ?_)
      · have h22a1 := h22a.1 hc
        refine ev_seg (σ1 := ((d + 1), 210, 40, [some (.inr (.inr 45)), some (.inl x1), some (.inl x2), some (.inl x3), some (.inl (w32 (x4 + 1)))], [], (am_sh, am_mm U1))) 2 (fun _ => rfl) ?_
        exact h22a1
      · have h22a2 := h22a.2 hc
        subst h22a2
        exact ev_end 2 (fun _ => rfl)
set_option maxRecDepth 8000 in
theorem st215_48_0 (N : Nat) (X : Nat → Int) (d : Nat) (U : Nat → Nat → Int) (R : Option am_V × am_M) (h : Ev (am_kz N X) ((d + 1), 215, 2, [some (.inr (.inr 48)), some (.inl 0)], [], (am_sh, am_mm U)) R) : Ev (am_kz N X) ((d + 1), 215, 0, [some (.inr (.inr 48)), none], [], (am_sh, am_mm U)) R := by
  refine ev_seg (σ1 := ((d + 1), 215, 2, [some (.inr (.inr 48)), some (.inl 0)], [], (am_sh, am_mm U))) 2 (fun _ => rfl) ?_
  exact h
set_option maxRecDepth 8000 in
theorem st215_48_2 (N : Nat) (X : Nat → Int) (d : Nat) (x1 : Int) (U : Nat → Nat → Int) (R : Option am_V × am_M) (h : ((((U 48 6) ≤ x1 : Prop)) → R = (none, (am_sh, am_mm U))) ∧ (¬ ((U 48 6) ≤ x1) → (0 ≤ x1 ∧ x1 < 3) ∧ ∃ U1 : Nat → Nat → Int, Ev (am_kz N X) (d, 138, 0, [some (.inr (.inr 16)), some (.inl (U 49 x1.toNat)), some (.inl (-1)), none], [], (am_sh, am_mm U)) (none, (am_sh, am_mm U1)) ∧ Ev (am_kz N X) ((d + 1), 215, 2, [some (.inr (.inr 48)), some (.inl (w32 (x1 + 1)))], [], (am_sh, am_mm U1)) R)) : Ev (am_kz N X) ((d + 1), 215, 2, [some (.inr (.inr 48)), some (.inl x1)], [], (am_sh, am_mm U)) R := by
  refine ev_br (P := (U 48 6) ≤ x1) (σ1 := ((d + 1), 215, 30, [some (.inr (.inr 48)), some (.inl x1)], [], (am_sh, am_mm U))) (σ2 := ((d + 1), 215, 10, [some (.inr (.inr 48)), some (.inl x1)], [], (am_sh, am_mm U))) 4 (fun _ => rfl) (fun hc => ?_) (fun hc => ?_)
  · have h1 := h.1 hc
    subst h1
    exact ev_end 1 (fun _ => rfl)
  · have h2 := h.2 hc
    refine ev_seg (σ1 := ((d + 1), 215, 19, [some (.inr (.inr 48)), some (.inl x1)], [.inl x1, .inr (.inr 49), .inr (.inr 16)], (am_sh, am_mm U))) 5 (fun _ => rfl) ?_
    refine eu_iald 49 (n := 3) rfl (by decide) rfl (fun _ => rfl) h2.1 ?_
    have h2a := h2.2
    refine ev_seg (σ1 := ((d + 1), 215, 21, [some (.inr (.inr 48)), some (.inl x1)], [.inl (-1), .inl (U 49 x1.toNat), .inr (.inr 16)], (am_sh, am_mm U))) 1 (fun _ => rfl) ?_
    obtain ⟨U1, h2ac, h2aa⟩ := h2a
    refine ev_cal (σc := (d, 138, 0, [some (.inr (.inr 16)), some (.inl (U 49 x1.toNat)), some (.inl (-1)), none], [], (am_sh, am_mm U))) (fun _ => rfl) h2ac ?_
    show Ev (am_kz N X) ((d + 1), 215, 24, [some (.inr (.inr 48)), some (.inl x1)], [], (am_sh, am_mm U1)) R
    refine ev_seg (σ1 := ((d + 1), 215, 2, [some (.inr (.inr 48)), some (.inl (w32 (x1 + 1)))], [], (am_sh, am_mm U1))) 2 (fun _ => rfl) ?_
    exact h2aa
set_option maxRecDepth 8000 in
theorem st213_48_0 (N : Nat) (X : Nat → Int) (d : Nat) (U : Nat → Nat → Int) (R : Option am_V × am_M) (h : Ev (am_kz N X) ((d + 1), 213, 2, [some (.inr (.inr 48)), some (.inl 0)], [], (am_sh, am_mm U)) R) : Ev (am_kz N X) ((d + 1), 213, 0, [some (.inr (.inr 48)), none], [], (am_sh, am_mm U)) R := by
  refine ev_seg (σ1 := ((d + 1), 213, 2, [some (.inr (.inr 48)), some (.inl 0)], [], (am_sh, am_mm U))) 2 (fun _ => rfl) ?_
  exact h
set_option maxRecDepth 8000 in
theorem st213_48_2 (N : Nat) (X : Nat → Int) (d : Nat) (x1 : Int) (U : Nat → Nat → Int) (R : Option am_V × am_M) (h : ((((U 3 1) ≤ x1 : Prop)) → Ev (am_kz N X) ((d + 1), 213, 31, [some (.inr (.inr 48)), some (.inl 0)], [], (am_sh, am_mm U)) R) ∧ (¬ ((U 3 1) ≤ x1) → ∃ (r1 : Int) (U1 : Nat → Nat → Int), Ev (am_kz N X) (d, 274, 0, [some (.inr (.inr 48)), some (.inl x1), none, none, none, none], [], (am_sh, am_mm U)) (some (.inl r1), (am_sh, am_mm U1)) ∧ (((r1 = 0 : Prop)) → Ev (am_kz N X) ((d + 1), 213, 2, [some (.inr (.inr 48)), some (.inl (w32 (x1 + 1)))], [], (am_sh, am_mm U1)) R) ∧ (¬ (r1 = 0) → R = (some (.inl 0), (am_sh, am_mm U1))))) : Ev (am_kz N X) ((d + 1), 213, 2, [some (.inr (.inr 48)), some (.inl x1)], [], (am_sh, am_mm U)) R := by
  refine ev_br (P := (U 3 1) ≤ x1) (σ1 := ((d + 1), 213, 29, [some (.inr (.inr 48)), some (.inl x1)], [], (am_sh, am_mm U))) (σ2 := ((d + 1), 213, 13, [some (.inr (.inr 48)), some (.inl x1)], [], (am_sh, am_mm U))) 5 (fun _ => rfl) (fun hc => ?_) (fun hc => ?_)
  · have h1 := h.1 hc
    refine ev_seg (σ1 := ((d + 1), 213, 31, [some (.inr (.inr 48)), some (.inl 0)], [], (am_sh, am_mm U))) 2 (fun _ => rfl) ?_
    exact h1
  · have h2 := h.2 hc
    refine ev_seg (σ1 := ((d + 1), 213, 15, [some (.inr (.inr 48)), some (.inl x1)], [.inl x1, .inr (.inr 48)], (am_sh, am_mm U))) 2 (fun _ => rfl) ?_
    obtain ⟨r1, U1, h2c, h2a⟩ := h2
    refine ev_cal (σc := (d, 274, 0, [some (.inr (.inr 48)), some (.inl x1), none, none, none, none], [], (am_sh, am_mm U))) (fun _ => rfl) h2c ?_
    show Ev (am_kz N X) ((d + 1), 213, 18, [some (.inr (.inr 48)), some (.inl x1)], [.inl r1], (am_sh, am_mm U1)) R
    refine ev_br (P := r1 = 0) (σ1 := ((d + 1), 213, 23, [some (.inr (.inr 48)), some (.inl x1)], [], (am_sh, am_mm U1))) (σ2 := ((d + 1), 213, 21, [some (.inr (.inr 48)), some (.inl x1)], [], (am_sh, am_mm U1))) 1 (fun _ => rfl) (fun hc => ?_) (fun hc => ?_)
    · have h2a1 := h2a.1 hc
      refine ev_seg (σ1 := ((d + 1), 213, 2, [some (.inr (.inr 48)), some (.inl (w32 (x1 + 1)))], [], (am_sh, am_mm U1))) 2 (fun _ => rfl) ?_
      exact h2a1
    · have h2a2 := h2a.2 hc
      subst h2a2
      exact ev_end 2 (fun _ => rfl)
set_option maxRecDepth 8000 in
theorem st213_48_31 (N : Nat) (X : Nat → Int) (d : Nat) (x1 : Int) (U : Nat → Nat → Int) (R : Option am_V × am_M) (h : ((((U 48 6) ≤ x1 : Prop)) → R = (some (.inl 1), (am_sh, am_mm U))) ∧ (¬ ((U 48 6) ≤ x1) → (0 ≤ x1 ∧ x1 < 3) ∧ ∃ (r1 : Int) (U1 : Nat → Nat → Int), Ev (am_kz N X) (d, 210, 0, [some (.inr (.inr 45)), some (.inl (U 49 x1.toNat)), none, none, none], [], (am_sh, am_mm U)) (some (.inl r1), (am_sh, am_mm U1)) ∧ (((r1 = 0 : Prop)) → Ev (am_kz N X) ((d + 1), 213, 31, [some (.inr (.inr 48)), some (.inl (w32 (x1 + 1)))], [], (am_sh, am_mm U1)) R) ∧ (¬ (r1 = 0) → R = (some (.inl 0), (am_sh, am_mm U1))))) : Ev (am_kz N X) ((d + 1), 213, 31, [some (.inr (.inr 48)), some (.inl x1)], [], (am_sh, am_mm U)) R := by
  refine ev_br (P := (U 48 6) ≤ x1) (σ1 := ((d + 1), 213, 63, [some (.inr (.inr 48)), some (.inl x1)], [], (am_sh, am_mm U))) (σ2 := ((d + 1), 213, 39, [some (.inr (.inr 48)), some (.inl x1)], [], (am_sh, am_mm U))) 4 (fun _ => rfl) (fun hc => ?_) (fun hc => ?_)
  · have h1 := h.1 hc
    subst h1
    exact ev_end 2 (fun _ => rfl)
  · have h2 := h.2 hc
    refine ev_seg (σ1 := ((d + 1), 213, 48, [some (.inr (.inr 48)), some (.inl x1)], [.inl x1, .inr (.inr 49), .inr (.inr 45)], (am_sh, am_mm U))) 5 (fun _ => rfl) ?_
    refine eu_iald 49 (n := 3) rfl (by decide) rfl (fun _ => rfl) h2.1 ?_
    have h2a := h2.2
    obtain ⟨r1, U1, h2ac, h2aa⟩ := h2a
    refine ev_cal (σc := (d, 210, 0, [some (.inr (.inr 45)), some (.inl (U 49 x1.toNat)), none, none, none], [], (am_sh, am_mm U))) (fun _ => rfl) h2ac ?_
    show Ev (am_kz N X) ((d + 1), 213, 52, [some (.inr (.inr 48)), some (.inl x1)], [.inl r1], (am_sh, am_mm U1)) R
    refine ev_br (P := r1 = 0) (σ1 := ((d + 1), 213, 57, [some (.inr (.inr 48)), some (.inl x1)], [], (am_sh, am_mm U1))) (σ2 := ((d + 1), 213, 55, [some (.inr (.inr 48)), some (.inl x1)], [], (am_sh, am_mm U1))) 1 (fun _ => rfl) (fun hc => ?_) (fun hc => ?_)
    · have h2aa1 := h2aa.1 hc
      refine ev_seg (σ1 := ((d + 1), 213, 31, [some (.inr (.inr 48)), some (.inl (w32 (x1 + 1)))], [], (am_sh, am_mm U1))) 2 (fun _ => rfl) ?_
      exact h2aa1
    · have h2aa2 := h2aa.2 hc
      subst h2aa2
      exact ev_end 2 (fun _ => rfl)
set_option maxRecDepth 8000 in
theorem st214_48_0 (N : Nat) (X : Nat → Int) (d : Nat) (x1 : Int) (U : Nat → Nat → Int) (R : Option am_V × am_M) (h : Ev (am_kz N X) (d, 214, 7, [some (.inr (.inr 48)), some (.inl x1), some (.inl 0)], [], (am_sh, am_mm (am_upd U 48 8 x1))) R) : Ev (am_kz N X) (d, 214, 0, [some (.inr (.inr 48)), some (.inl x1), none], [], (am_sh, am_mm U)) R := by
  refine ev_seg (σ1 := (d, 214, 2, [some (.inr (.inr 48)), some (.inl x1), none], [.inl x1, .inr (.inr 48)], (am_sh, am_mm U))) 2 (fun _ => rfl) ?_
  refine eu_puti 48 (n := 10) rfl (by decide) rfl rfl ?_
  refine ev_seg (σ1 := (d, 214, 7, [some (.inr (.inr 48)), some (.inl x1), some (.inl 0)], [], (am_sh, am_mm (am_upd U 48 8 x1)))) 2 (fun _ => rfl) ?_
  exact h
set_option maxRecDepth 8000 in
theorem st214_48_7 (N : Nat) (X : Nat → Int) (d : Nat) (x1 x2 : Int) (U : Nat → Nat → Int) (R : Option am_V × am_M) (h : ((((U 48 6) ≤ x2 : Prop)) → R = (none, (am_sh, am_mm U))) ∧ (¬ ((U 48 6) ≤ x2) → (0 ≤ x2 ∧ x2 < 3) ∧ (((0 ≤ (U 49 x2.toNat) : Prop)) → (0 ≤ x2 ∧ x2 < 3) ∧ (0 ≤ (U 49 x2.toNat) ∧ (U 49 x2.toNat) < 16) ∧ (0 ≤ x2 ∧ x2 < 3) ∧ Ev (am_kz N X) (d, 214, 7, [some (.inr (.inr 48)), some (.inl x1), some (.inl (w32 (x2 + 1)))], [], (am_sh, am_mm (am_upd U 50 x2.toNat (U 18 (U 49 x2.toNat).toNat)))) R) ∧ (¬ (0 ≤ (U 49 x2.toNat)) → (0 ≤ x2 ∧ x2 < 3) ∧ Ev (am_kz N X) (d, 214, 7, [some (.inr (.inr 48)), some (.inl x1), some (.inl (w32 (x2 + 1)))], [], (am_sh, am_mm (am_upd U 50 x2.toNat (-1)))) R))) : Ev (am_kz N X) (d, 214, 7, [some (.inr (.inr 48)), some (.inl x1), some (.inl x2)], [], (am_sh, am_mm U)) R := by
  refine ev_br (P := (U 48 6) ≤ x2) (σ1 := (d, 214, 54, [some (.inr (.inr 48)), some (.inl x1), some (.inl x2)], [], (am_sh, am_mm U))) (σ2 := (d, 214, 15, [some (.inr (.inr 48)), some (.inl x1), some (.inl x2)], [], (am_sh, am_mm U))) 4 (fun _ => rfl) (fun hc => ?_) (fun hc => ?_)
  · have h1 := h.1 hc
    subst h1
    exact ev_end 1 (fun _ => rfl)
  · have h2 := h.2 hc
    refine ev_seg (σ1 := (d, 214, 25, [some (.inr (.inr 48)), some (.inl x1), some (.inl x2)], [.inl x2, .inr (.inr 49), .inl x2, .inr (.inr 50)], (am_sh, am_mm U))) 6 (fun _ => rfl) ?_
    refine eu_iald 49 (n := 3) rfl (by decide) rfl (fun _ => rfl) h2.1 ?_
    have h2a := h2.2
    refine ev_br (P := 0 ≤ (U 49 x2.toNat)) (σ1 := (d, 214, 33, [some (.inr (.inr 48)), some (.inl x1), some (.inl x2)], [.inl x2, .inr (.inr 50)], (am_sh, am_mm U))) (σ2 := (d, 214, 29, [some (.inr (.inr 48)), some (.inl x1), some (.inl x2)], [.inl x2, .inr (.inr 50)], (am_sh, am_mm U))) 1 (fun _ => rfl) (fun hc => ?_) (fun hc => ?_)
    · have h2a1 := h2a.1 hc
      refine ev_seg (σ1 := (d, 214, 45, [some (.inr (.inr 48)), some (.inl x1), some (.inl x2)], [.inl x2, .inr (.inr 49), .inr (.inr 18), .inl x2, .inr (.inr 50)], (am_sh, am_mm U))) 6 (fun _ => rfl) ?_
      refine eu_iald 49 (n := 3) rfl (by decide) rfl (fun _ => rfl) h2a1.1 ?_
      have h2a1a := h2a1.2
      refine eu_iald 18 (n := 16) rfl (by decide) rfl (fun _ => rfl) h2a1a.1 ?_
      have h2a1aa := h2a1a.2
      refine eu_iast 50 (n := 3) rfl (by decide) rfl (fun _ => rfl) h2a1aa.1 ?_
      have h2a1aaa := h2a1aa.2
      refine ev_seg (σ1 := (d, 214, 7, [some (.inr (.inr 48)), some (.inl x1), some (.inl (w32 (x2 + 1)))], [], (am_sh, am_mm (am_upd U 50 x2.toNat (U 18 (U 49 x2.toNat).toNat))))) 2 (fun _ => rfl) ?_
      exact h2a1aaa
    · have h2a2 := h2a.2 hc
      refine ev_seg (σ1 := (d, 214, 47, [some (.inr (.inr 48)), some (.inl x1), some (.inl x2)], [.inl (-1), .inl x2, .inr (.inr 50)], (am_sh, am_mm U))) 2 (fun _ => rfl) ?_
      refine eu_iast 50 (n := 3) rfl (by decide) rfl (fun _ => rfl) h2a2.1 ?_
      have h2a2a := h2a2.2
      refine ev_seg (σ1 := (d, 214, 7, [some (.inr (.inr 48)), some (.inl x1), some (.inl (w32 (x2 + 1)))], [], (am_sh, am_mm (am_upd U 50 x2.toNat (-1))))) 2 (fun _ => rfl) ?_
      exact h2a2a
