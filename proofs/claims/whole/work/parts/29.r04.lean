set_option maxRecDepth 8000 in
theorem M_housing_r0 {N : Nat} {X : Nat → Int} {d : Nat} {U : am_U} {R : Option am_V × am_M} (h : (0 ≤ (U 86 40) ∧ (U 86 40) < 2) ∧ (((U 90 ((U 86 40).toNat)) ≠ 12) → ∃ (r1 : Int) (U1 : am_U), EvK N X (M_counts_s0 d 0 U) (rI r1 U1) ∧ ((r1 ≠ 0) → (0 ≤ (U1 86 40) ∧ (U1 86 40) < 2) ∧ ∃ (r2 : Int) (U2 : am_U), EvK N X (M_fresh_s0 d U1) (rJ r2 U2) ∧ (0 ≤ (w32 ((w32 (12 * (U1 86 40))) + (U1 90 ((U1 86 40).toNat)))) ∧ (w32 ((w32 (12 * (U1 86 40))) + (U1 90 ((U1 86 40).toNat)))) < 24) ∧ ∃ U3 : am_U, EvK N X (M_must_J_s0 d 28518 (am_upd U2 91 ((w32 ((w32 (12 * (U1 86 40))) + (U1 90 ((U1 86 40).toNat)))).toNat) r2)) (rV U3) ∧ ∃ (r4 : Int) (U4 : am_U), EvK N X (M_asked_s0 d 0 U3) (rI r4 U4) ∧ ∃ U5 : am_U, EvK N X (M_must_J_s0 d 491495845235 (am_upd U4 92 ((w32 ((w32 (12 * (U1 86 40))) + (U1 90 ((U1 86 40).toNat)))).toNat) r4)) (rV U5) ∧ ∃ (r6 : Int) (U6 : am_U), EvK N X (M_numeral_s0 d 1 6 U5) (rI r6 U6) ∧ (((U6 86 8) ≠ 0) → R = rV (am_upd U6 93 ((w32 ((w32 (12 * (U1 86 40))) + (U1 90 ((U1 86 40).toNat)))).toNat) r6)) ∧ (((U6 86 8) = 0) → (0 ≤ (U6 86 40) ∧ (U6 86 40) < 2) ∧ R = rV (am_upd (am_upd U6 93 ((w32 ((w32 (12 * (U1 86 40))) + (U1 90 ((U1 86 40).toNat)))).toNat) r6) 90 ((U6 86 40).toNat) (w32 ((U6 90 ((U6 86 40).toNat)) + 1))))) ∧ ((r1 = 0) → R = rV U1)) ∧ (((U 90 ((U 86 40).toNat)) = 12) → ∃ (r7 : Int) (U7 : am_U), EvK N X (M_counts_s0 d 1 U) (rI r7 U7) ∧ ((r7 ≠ 0) → (0 ≤ (U7 86 40) ∧ (U7 86 40) < 2) ∧ ∃ (r8 : Int) (U8 : am_U), EvK N X (M_fresh_s0 d U7) (rJ r8 U8) ∧ (0 ≤ (w32 ((w32 (12 * (U7 86 40))) + (U7 90 ((U7 86 40).toNat)))) ∧ (w32 ((w32 (12 * (U7 86 40))) + (U7 90 ((U7 86 40).toNat)))) < 24) ∧ ∃ U9 : am_U, EvK N X (M_must_J_s0 d 28518 (am_upd U8 91 ((w32 ((w32 (12 * (U7 86 40))) + (U7 90 ((U7 86 40).toNat)))).toNat) r8)) (rV U9) ∧ ∃ (r10 : Int) (U10 : am_U), EvK N X (M_asked_s0 d 0 U9) (rI r10 U10) ∧ ∃ U11 : am_U, EvK N X (M_must_J_s0 d 491495845235 (am_upd U10 92 ((w32 ((w32 (12 * (U7 86 40))) + (U7 90 ((U7 86 40).toNat)))).toNat) r10)) (rV U11) ∧ ∃ (r12 : Int) (U12 : am_U), EvK N X (M_numeral_s0 d 1 6 U11) (rI r12 U12) ∧ (((U12 86 8) ≠ 0) → R = rV (am_upd U12 93 ((w32 ((w32 (12 * (U7 86 40))) + (U7 90 ((U7 86 40).toNat)))).toNat) r12)) ∧ (((U12 86 8) = 0) → (0 ≤ (U12 86 40) ∧ (U12 86 40) < 2) ∧ R = rV (am_upd (am_upd U12 93 ((w32 ((w32 (12 * (U7 86 40))) + (U7 90 ((U7 86 40).toNat)))).toNat) r12) 90 ((U12 86 40).toNat) (w32 ((U12 90 ((U12 86 40).toNat)) + 1))))) ∧ ((r7 = 0) → R = rV U7))) : EvK N X (M_housing_s0 (d + 1) U) R := by
  show Ev (am_kz N X) ((d + 1), 189, 0, [some (.inr (.inr 86)), none], [], (am_sh, am_mm U)) R
  refine ev_seg (σ1 := ((d + 1), 189, 9, [some (.inr (.inr 86)), none], [.inl (U 86 40), .inr (.inr 90), .inr (.inr 86)], (am_sh, am_mm U))) 5 (fun _ => rfl) ?_
  refine eu_iald 90 (n := 2) rfl (by decide) rfl (fun _ => rfl) h.1 ?_
  show Ev (am_kz N X) ((d + 1), 189, 10, [some (.inr (.inr 86)), none], [.inl (U 90 ((U 86 40).toNat)), .inr (.inr 86)], (am_sh, am_mm U)) R
  have ha := h.2
  refine ev_br (P := ¬ (U 90 ((U 86 40).toNat)) = 12) (σ1 := ((d + 1), 189, 19, [some (.inr (.inr 86)), none], [.inr (.inr 86)], (am_sh, am_mm U))) (σ2 := ((d + 1), 189, 15, [some (.inr (.inr 86)), none], [.inr (.inr 86)], (am_sh, am_mm U))) 2 (fun _ => rfl) (fun hc => ?_) (fun hc => ?_)
  · have ha1 := ha.1 hc
    refine ev_seg (σ1 := ((d + 1), 189, 20, [some (.inr (.inr 86)), none], [.inl 0, .inr (.inr 86)], (am_sh, am_mm U))) 1 (fun _ => rfl) ?_
    obtain ⟨r1, U1, ha1c, ha1a⟩ := ha1
    refine ev_cal (σc := (M_counts_s0 d 0 U)) (fun _ => rfl) ha1c ?_
    show Ev (am_kz N X) ((d + 1), 189, 23, [some (.inr (.inr 86)), none], [.inl r1], (am_sh, am_mm U1)) R
    refine ev_br (P := ¬ r1 = 0) (σ1 := ((d + 1), 189, 27, [some (.inr (.inr 86)), none], [], (am_sh, am_mm U1))) (σ2 := ((d + 1), 189, 26, [some (.inr (.inr 86)), none], [], (am_sh, am_mm U1))) 1 (fun _ => rfl) (fun hc => ?_) (fun hc => ?_)
    · have ha1a1 := ha1a.1 hc
      refine ev_seg (σ1 := ((d + 1), 189, 42, [some (.inr (.inr 86)), none], [.inl (U1 86 40), .inr (.inr 90), .inl (w32 (12 * (U1 86 40)))], (am_sh, am_mm U1))) 8 (fun _ => rfl) ?_
      refine eu_iald 90 (n := 2) rfl (by decide) rfl (fun _ => rfl) ha1a1.1 ?_
      show Ev (am_kz N X) ((d + 1), 189, 43, [some (.inr (.inr 86)), none], [.inl (U1 90 ((U1 86 40).toNat)), .inl (w32 (12 * (U1 86 40)))], (am_sh, am_mm U1)) R
      have ha1a1a := ha1a1.2
      refine ev_seg (σ1 := ((d + 1), 189, 51, [some (.inr (.inr 86)), some (.inl (w32 ((w32 (12 * (U1 86 40))) + (U1 90 ((U1 86 40).toNat)))))], [.inr (.inr 86), .inl (w32 ((w32 (12 * (U1 86 40))) + (U1 90 ((U1 86 40).toNat)))), .inr (.inr 91)], (am_sh, am_mm U1))) 6 (fun _ => rfl) ?_
      obtain ⟨r2, U2, ha1a1ac, ha1a1aa⟩ := ha1a1a
      refine ev_cal (σc := (M_fresh_s0 d U1)) (fun _ => rfl) ha1a1ac ?_
      show Ev (am_kz N X) ((d + 1), 189, 54, [some (.inr (.inr 86)), some (.inl (w32 ((w32 (12 * (U1 86 40))) + (U1 90 ((U1 86 40).toNat)))))], [.inr (.inl r2), .inl (w32 ((w32 (12 * (U1 86 40))) + (U1 90 ((U1 86 40).toNat)))), .inr (.inr 91)], (am_sh, am_mm U2)) R
      refine eu_last 91 (n := 24) rfl (by decide) rfl (fun _ => rfl) ha1a1aa.1 ?_
      show Ev (am_kz N X) ((d + 1), 189, 55, [some (.inr (.inr 86)), some (.inl (w32 ((w32 (12 * (U1 86 40))) + (U1 90 ((U1 86 40).toNat)))))], [], (am_sh, am_mm (am_upd U2 91 ((w32 ((w32 (12 * (U1 86 40))) + (U1 90 ((U1 86 40).toNat)))).toNat) r2))) R
      have ha1a1aaa := ha1a1aa.2
      refine ev_seg (σ1 := ((d + 1), 189, 59, [some (.inr (.inr 86)), some (.inl (w32 ((w32 (12 * (U1 86 40))) + (U1 90 ((U1 86 40).toNat)))))], [.inr (.inl 28518), .inr (.inr 86)], (am_sh, am_mm (am_upd U2 91 ((w32 ((w32 (12 * (U1 86 40))) + (U1 90 ((U1 86 40).toNat)))).toNat) r2)))) 2 (fun _ => rfl) ?_
      obtain ⟨U3, ha1a1aaac, ha1a1aaaa⟩ := ha1a1aaa
      refine ev_cal (σc := (M_must_J_s0 d 28518 (am_upd U2 91 ((w32 ((w32 (12 * (U1 86 40))) + (U1 90 ((U1 86 40).toNat)))).toNat) r2))) (fun _ => rfl) ha1a1aaac ?_
      show Ev (am_kz N X) ((d + 1), 189, 62, [some (.inr (.inr 86)), some (.inl (w32 ((w32 (12 * (U1 86 40))) + (U1 90 ((U1 86 40).toNat)))))], [], (am_sh, am_mm U3)) R
      refine ev_seg (σ1 := ((d + 1), 189, 69, [some (.inr (.inr 86)), some (.inl (w32 ((w32 (12 * (U1 86 40))) + (U1 90 ((U1 86 40).toNat)))))], [.inl 0, .inr (.inr 86), .inl (w32 ((w32 (12 * (U1 86 40))) + (U1 90 ((U1 86 40).toNat)))), .inr (.inr 92)], (am_sh, am_mm U3))) 5 (fun _ => rfl) ?_
      obtain ⟨r4, U4, ha1a1aaaac, ha1a1aaaaa⟩ := ha1a1aaaa
      refine ev_cal (σc := (M_asked_s0 d 0 U3)) (fun _ => rfl) ha1a1aaaac ?_
      show Ev (am_kz N X) ((d + 1), 189, 72, [some (.inr (.inr 86)), some (.inl (w32 ((w32 (12 * (U1 86 40))) + (U1 90 ((U1 86 40).toNat)))))], [.inl r4, .inl (w32 ((w32 (12 * (U1 86 40))) + (U1 90 ((U1 86 40).toNat)))), .inr (.inr 92)], (am_sh, am_mm U4)) R
      refine eu_iast 92 (n := 24) rfl (by decide) rfl (fun _ => rfl) ha1a1aa.1 ?_
      show Ev (am_kz N X) ((d + 1), 189, 73, [some (.inr (.inr 86)), some (.inl (w32 ((w32 (12 * (U1 86 40))) + (U1 90 ((U1 86 40).toNat)))))], [], (am_sh, am_mm (am_upd U4 92 ((w32 ((w32 (12 * (U1 86 40))) + (U1 90 ((U1 86 40).toNat)))).toNat) r4))) R
      refine ev_seg (σ1 := ((d + 1), 189, 77, [some (.inr (.inr 86)), some (.inl (w32 ((w32 (12 * (U1 86 40))) + (U1 90 ((U1 86 40).toNat)))))], [.inr (.inl 491495845235), .inr (.inr 86)], (am_sh, am_mm (am_upd U4 92 ((w32 ((w32 (12 * (U1 86 40))) + (U1 90 ((U1 86 40).toNat)))).toNat) r4)))) 2 (fun _ => rfl) ?_
      obtain ⟨U5, ha1a1aaaaac, ha1a1aaaaaa⟩ := ha1a1aaaaa
      refine ev_cal (σc := (M_must_J_s0 d 491495845235 (am_upd U4 92 ((w32 ((w32 (12 * (U1 86 40))) + (U1 90 ((U1 86 40).toNat)))).toNat) r4))) (fun _ => rfl) ha1a1aaaaac ?_
      show Ev (am_kz N X) ((d + 1), 189, 80, [some (.inr (.inr 86)), some (.inl (w32 ((w32 (12 * (U1 86 40))) + (U1 90 ((U1 86 40).toNat)))))], [], (am_sh, am_mm U5)) R
      refine ev_seg (σ1 := ((d + 1), 189, 89, [some (.inr (.inr 86)), some (.inl (w32 ((w32 (12 * (U1 86 40))) + (U1 90 ((U1 86 40).toNat)))))], [.inl 6, .inl 1, .inr (.inr 86), .inl (w32 ((w32 (12 * (U1 86 40))) + (U1 90 ((U1 86 40).toNat)))), .inr (.inr 93)], (am_sh, am_mm U5))) 6 (fun _ => rfl) ?_
      obtain ⟨r6, U6, ha1a1aaaaaac, ha1a1aaaaaaa⟩ := ha1a1aaaaaa
      refine ev_cal (σc := (M_numeral_s0 d 1 6 U5)) (fun _ => rfl) ha1a1aaaaaac ?_
      show Ev (am_kz N X) ((d + 1), 189, 92, [some (.inr (.inr 86)), some (.inl (w32 ((w32 (12 * (U1 86 40))) + (U1 90 ((U1 86 40).toNat)))))], [.inl r6, .inl (w32 ((w32 (12 * (U1 86 40))) + (U1 90 ((U1 86 40).toNat)))), .inr (.inr 93)], (am_sh, am_mm U6)) R
      refine eu_iast 93 (n := 24) rfl (by decide) rfl (fun _ => rfl) ha1a1aa.1 ?_
      show Ev (am_kz N X) ((d + 1), 189, 93, [some (.inr (.inr 86)), some (.inl (w32 ((w32 (12 * (U1 86 40))) + (U1 90 ((U1 86 40).toNat)))))], [], (am_sh, am_mm (am_upd U6 93 ((w32 ((w32 (12 * (U1 86 40))) + (U1 90 ((U1 86 40).toNat)))).toNat) r6))) R
      refine ev_br (P := ¬ (U6 86 8) = 0) (σ1 := ((d + 1), 189, 113, [some (.inr (.inr 86)), some (.inl (w32 ((w32 (12 * (U1 86 40))) + (U1 90 ((U1 86 40).toNat)))))], [], (am_sh, am_mm (am_upd U6 93 ((w32 ((w32 (12 * (U1 86 40))) + (U1 90 ((U1 86 40).toNat)))).toNat) r6)))) (σ2 := ((d + 1), 189, 100, [some (.inr (.inr 86)), some (.inl (w32 ((w32 (12 * (U1 86 40))) + (U1 90 ((U1 86 40).toNat)))))], [], (am_sh, am_mm (am_upd U6 93 ((w32 ((w32 (12 * (U1 86 40))) + (U1 90 ((U1 86 40).toNat)))).toNat) r6)))) 3 (fun _ => rfl) (fun hc => ?_) (fun hc => ?_)
      · have ha1a1aaaaaaa1 := ha1a1aaaaaaa.1 hc
        subst ha1a1aaaaaaa1
        exact ev_end 1 (fun _ => rfl)
      · have ha1a1aaaaaaa2 := ha1a1aaaaaaa.2 (Decidable.not_not.mp hc)
        refine ev_seg (σ1 := ((d + 1), 189, 109, [some (.inr (.inr 86)), some (.inl (w32 ((w32 (12 * (U1 86 40))) + (U1 90 ((U1 86 40).toNat)))))], [.inl (U6 86 40), .inr (.inr 90), .inl (U6 86 40), .inr (.inr 90)], (am_sh, am_mm (am_upd U6 93 ((w32 ((w32 (12 * (U1 86 40))) + (U1 90 ((U1 86 40).toNat)))).toNat) r6)))) 5 (fun _ => rfl) ?_
        refine eu_iald 90 (n := 2) rfl (by decide) rfl (fun _ => rfl) ha1a1aaaaaaa2.1 ?_
        show Ev (am_kz N X) ((d + 1), 189, 110, [some (.inr (.inr 86)), some (.inl (w32 ((w32 (12 * (U1 86 40))) + (U1 90 ((U1 86 40).toNat)))))], [.inl (U6 90 ((U6 86 40).toNat)), .inl (U6 86 40), .inr (.inr 90)], (am_sh, am_mm (am_upd U6 93 ((w32 ((w32 (12 * (U1 86 40))) + (U1 90 ((U1 86 40).toNat)))).toNat) r6))) R
        have ha1a1aaaaaaa2a := ha1a1aaaaaaa2.2
        refine ev_seg (σ1 := ((d + 1), 189, 112, [some (.inr (.inr 86)), some (.inl (w32 ((w32 (12 * (U1 86 40))) + (U1 90 ((U1 86 40).toNat)))))], [.inl (w32 ((U6 90 ((U6 86 40).toNat)) + 1)), .inl (U6 86 40), .inr (.inr 90)], (am_sh, am_mm (am_upd U6 93 ((w32 ((w32 (12 * (U1 86 40))) + (U1 90 ((U1 86 40).toNat)))).toNat) r6)))) 2 (fun _ => rfl) ?_
        refine eu_iast 90 (n := 2) rfl (by decide) rfl (fun _ => rfl) ha1a1aaaaaaa2.1 ?_
        show Ev (am_kz N X) ((d + 1), 189, 113, [some (.inr (.inr 86)), some (.inl (w32 ((w32 (12 * (U1 86 40))) + (U1 90 ((U1 86 40).toNat)))))], [], (am_sh, am_mm (am_upd (am_upd U6 93 ((w32 ((w32 (12 * (U1 86 40))) + (U1 90 ((U1 86 40).toNat)))).toNat) r6) 90 ((U6 86 40).toNat) (w32 ((U6 90 ((U6 86 40).toNat)) + 1))))) R
        subst ha1a1aaaaaaa2a
        exact ev_end 1 (fun _ => rfl)
    · have ha1a2 := ha1a.2 (Decidable.not_not.mp hc)
      subst ha1a2
      exact ev_end 1 (fun _ => rfl)
  · have ha2 := ha.2 (Decidable.not_not.mp hc)
    refine ev_seg (σ1 := ((d + 1), 189, 20, [some (.inr (.inr 86)), none], [.inl 1, .inr (.inr 86)], (am_sh, am_mm U))) 2 (fun _ => rfl) ?_
    obtain ⟨r7, U7, ha2c, ha2a⟩ := ha2
    refine ev_cal (σc := (M_counts_s0 d 1 U)) (fun _ => rfl) ha2c ?_
    show Ev (am_kz N X) ((d + 1), 189, 23, [some (.inr (.inr 86)), none], [.inl r7], (am_sh, am_mm U7)) R
    refine ev_br (P := ¬ r7 = 0) (σ1 := ((d + 1), 189, 27, [some (.inr (.inr 86)), none], [], (am_sh, am_mm U7))) (σ2 := ((d + 1), 189, 26, [some (.inr (.inr 86)), none], [], (am_sh, am_mm U7))) 1 (fun _ => rfl) (fun hc => ?_) (fun hc => ?_)
    · have ha2a1 := ha2a.1 hc
      refine ev_seg (σ1 := ((d + 1), 189, 42, [some (.inr (.inr 86)), none], [.inl (U7 86 40), .inr (.inr 90), .inl (w32 (12 * (U7 86 40)))], (am_sh, am_mm U7))) 8 (fun _ => rfl) ?_
      refine eu_iald 90 (n := 2) rfl (by decide) rfl (fun _ => rfl) ha2a1.1 ?_
      show Ev (am_kz N X) ((d + 1), 189, 43, [some (.inr (.inr 86)), none], [.inl (U7 90 ((U7 86 40).toNat)), .inl (w32 (12 * (U7 86 40)))], (am_sh, am_mm U7)) R
      have ha2a1a := ha2a1.2
      refine ev_seg (σ1 := ((d + 1), 189, 51, [some (.inr (.inr 86)), some (.inl (w32 ((w32 (12 * (U7 86 40))) + (U7 90 ((U7 86 40).toNat)))))], [.inr (.inr 86), .inl (w32 ((w32 (12 * (U7 86 40))) + (U7 90 ((U7 86 40).toNat)))), .inr (.inr 91)], (am_sh, am_mm U7))) 6 (fun _ => rfl) ?_
      obtain ⟨r8, U8, ha2a1ac, ha2a1aa⟩ := ha2a1a
      refine ev_cal (σc := (M_fresh_s0 d U7)) (fun _ => rfl) ha2a1ac ?_
      show Ev (am_kz N X) ((d + 1), 189, 54, [some (.inr (.inr 86)), some (.inl (w32 ((w32 (12 * (U7 86 40))) + (U7 90 ((U7 86 40).toNat)))))], [.inr (.inl r8), .inl (w32 ((w32 (12 * (U7 86 40))) + (U7 90 ((U7 86 40).toNat)))), .inr (.inr 91)], (am_sh, am_mm U8)) R
      refine eu_last 91 (n := 24) rfl (by decide) rfl (fun _ => rfl) ha2a1aa.1 ?_
      show Ev (am_kz N X) ((d + 1), 189, 55, [some (.inr (.inr 86)), some (.inl (w32 ((w32 (12 * (U7 86 40))) + (U7 90 ((U7 86 40).toNat)))))], [], (am_sh, am_mm (am_upd U8 91 ((w32 ((w32 (12 * (U7 86 40))) + (U7 90 ((U7 86 40).toNat)))).toNat) r8))) R
      have ha2a1aaa := ha2a1aa.2
      refine ev_seg (σ1 := ((d + 1), 189, 59, [some (.inr (.inr 86)), some (.inl (w32 ((w32 (12 * (U7 86 40))) + (U7 90 ((U7 86 40).toNat)))))], [.inr (.inl 28518), .inr (.inr 86)], (am_sh, am_mm (am_upd U8 91 ((w32 ((w32 (12 * (U7 86 40))) + (U7 90 ((U7 86 40).toNat)))).toNat) r8)))) 2 (fun _ => rfl) ?_
      obtain ⟨U9, ha2a1aaac, ha2a1aaaa⟩ := ha2a1aaa
      refine ev_cal (σc := (M_must_J_s0 d 28518 (am_upd U8 91 ((w32 ((w32 (12 * (U7 86 40))) + (U7 90 ((U7 86 40).toNat)))).toNat) r8))) (fun _ => rfl) ha2a1aaac ?_
      show Ev (am_kz N X) ((d + 1), 189, 62, [some (.inr (.inr 86)), some (.inl (w32 ((w32 (12 * (U7 86 40))) + (U7 90 ((U7 86 40).toNat)))))], [], (am_sh, am_mm U9)) R
      refine ev_seg (σ1 := ((d + 1), 189, 69, [some (.inr (.inr 86)), some (.inl (w32 ((w32 (12 * (U7 86 40))) + (U7 90 ((U7 86 40).toNat)))))], [.inl 0, .inr (.inr 86), .inl (w32 ((w32 (12 * (U7 86 40))) + (U7 90 ((U7 86 40).toNat)))), .inr (.inr 92)], (am_sh, am_mm U9))) 5 (fun _ => rfl) ?_
      obtain ⟨r10, U10, ha2a1aaaac, ha2a1aaaaa⟩ := ha2a1aaaa
      refine ev_cal (σc := (M_asked_s0 d 0 U9)) (fun _ => rfl) ha2a1aaaac ?_
      show Ev (am_kz N X) ((d + 1), 189, 72, [some (.inr (.inr 86)), some (.inl (w32 ((w32 (12 * (U7 86 40))) + (U7 90 ((U7 86 40).toNat)))))], [.inl r10, .inl (w32 ((w32 (12 * (U7 86 40))) + (U7 90 ((U7 86 40).toNat)))), .inr (.inr 92)], (am_sh, am_mm U10)) R
      refine eu_iast 92 (n := 24) rfl (by decide) rfl (fun _ => rfl) ha2a1aa.1 ?_
      show Ev (am_kz N X) ((d + 1), 189, 73, [some (.inr (.inr 86)), some (.inl (w32 ((w32 (12 * (U7 86 40))) + (U7 90 ((U7 86 40).toNat)))))], [], (am_sh, am_mm (am_upd U10 92 ((w32 ((w32 (12 * (U7 86 40))) + (U7 90 ((U7 86 40).toNat)))).toNat) r10))) R
      refine ev_seg (σ1 := ((d + 1), 189, 77, [some (.inr (.inr 86)), some (.inl (w32 ((w32 (12 * (U7 86 40))) + (U7 90 ((U7 86 40).toNat)))))], [.inr (.inl 491495845235), .inr (.inr 86)], (am_sh, am_mm (am_upd U10 92 ((w32 ((w32 (12 * (U7 86 40))) + (U7 90 ((U7 86 40).toNat)))).toNat) r10)))) 2 (fun _ => rfl) ?_
      obtain ⟨U11, ha2a1aaaaac, ha2a1aaaaaa⟩ := ha2a1aaaaa
      refine ev_cal (σc := (M_must_J_s0 d 491495845235 (am_upd U10 92 ((w32 ((w32 (12 * (U7 86 40))) + (U7 90 ((U7 86 40).toNat)))).toNat) r10))) (fun _ => rfl) ha2a1aaaaac ?_
      show Ev (am_kz N X) ((d + 1), 189, 80, [some (.inr (.inr 86)), some (.inl (w32 ((w32 (12 * (U7 86 40))) + (U7 90 ((U7 86 40).toNat)))))], [], (am_sh, am_mm U11)) R
      refine ev_seg (σ1 := ((d + 1), 189, 89, [some (.inr (.inr 86)), some (.inl (w32 ((w32 (12 * (U7 86 40))) + (U7 90 ((U7 86 40).toNat)))))], [.inl 6, .inl 1, .inr (.inr 86), .inl (w32 ((w32 (12 * (U7 86 40))) + (U7 90 ((U7 86 40).toNat)))), .inr (.inr 93)], (am_sh, am_mm U11))) 6 (fun _ => rfl) ?_
      obtain ⟨r12, U12, ha2a1aaaaaac, ha2a1aaaaaaa⟩ := ha2a1aaaaaa
      refine ev_cal (σc := (M_numeral_s0 d 1 6 U11)) (fun _ => rfl) ha2a1aaaaaac ?_
      show Ev (am_kz N X) ((d + 1), 189, 92, [some (.inr (.inr 86)), some (.inl (w32 ((w32 (12 * (U7 86 40))) + (U7 90 ((U7 86 40).toNat)))))], [.inl r12, .inl (w32 ((w32 (12 * (U7 86 40))) + (U7 90 ((U7 86 40).toNat)))), .inr (.inr 93)], (am_sh, am_mm U12)) R
      refine eu_iast 93 (n := 24) rfl (by decide) rfl (fun _ => rfl) ha2a1aa.1 ?_
      show Ev (am_kz N X) ((d + 1), 189, 93, [some (.inr (.inr 86)), some (.inl (w32 ((w32 (12 * (U7 86 40))) + (U7 90 ((U7 86 40).toNat)))))], [], (am_sh, am_mm (am_upd U12 93 ((w32 ((w32 (12 * (U7 86 40))) + (U7 90 ((U7 86 40).toNat)))).toNat) r12))) R
      refine ev_br (P := ¬ (U12 86 8) = 0) (σ1 := ((d + 1), 189, 113, [some (.inr (.inr 86)), some (.inl (w32 ((w32 (12 * (U7 86 40))) + (U7 90 ((U7 86 40).toNat)))))], [], (am_sh, am_mm (am_upd U12 93 ((w32 ((w32 (12 * (U7 86 40))) + (U7 90 ((U7 86 40).toNat)))).toNat) r12)))) (σ2 := ((d + 1), 189, 100, [some (.inr (.inr 86)), some (.inl (w32 ((w32 (12 * (U7 86 40))) + (U7 90 ((U7 86 40).toNat)))))], [], (am_sh, am_mm (am_upd U12 93 ((w32 ((w32 (12 * (U7 86 40))) + (U7 90 ((U7 86 40).toNat)))).toNat) r12)))) 3 (fun _ => rfl) (fun hc => ?_) (fun hc => ?_)
      · have ha2a1aaaaaaa1 := ha2a1aaaaaaa.1 hc
        subst ha2a1aaaaaaa1
        exact ev_end 1 (fun _ => rfl)
      · have ha2a1aaaaaaa2 := ha2a1aaaaaaa.2 (Decidable.not_not.mp hc)
        refine ev_seg (σ1 := ((d + 1), 189, 109, [some (.inr (.inr 86)), some (.inl (w32 ((w32 (12 * (U7 86 40))) + (U7 90 ((U7 86 40).toNat)))))], [.inl (U12 86 40), .inr (.inr 90), .inl (U12 86 40), .inr (.inr 90)], (am_sh, am_mm (am_upd U12 93 ((w32 ((w32 (12 * (U7 86 40))) + (U7 90 ((U7 86 40).toNat)))).toNat) r12)))) 5 (fun _ => rfl) ?_
        refine eu_iald 90 (n := 2) rfl (by decide) rfl (fun _ => rfl) ha2a1aaaaaaa2.1 ?_
        show Ev (am_kz N X) ((d + 1), 189, 110, [some (.inr (.inr 86)), some (.inl (w32 ((w32 (12 * (U7 86 40))) + (U7 90 ((U7 86 40).toNat)))))], [.inl (U12 90 ((U12 86 40).toNat)), .inl (U12 86 40), .inr (.inr 90)], (am_sh, am_mm (am_upd U12 93 ((w32 ((w32 (12 * (U7 86 40))) + (U7 90 ((U7 86 40).toNat)))).toNat) r12))) R
        have ha2a1aaaaaaa2a := ha2a1aaaaaaa2.2
        refine ev_seg (σ1 := ((d + 1), 189, 112, [some (.inr (.inr 86)), some (.inl (w32 ((w32 (12 * (U7 86 40))) + (U7 90 ((U7 86 40).toNat)))))], [.inl (w32 ((U12 90 ((U12 86 40).toNat)) + 1)), .inl (U12 86 40), .inr (.inr 90)], (am_sh, am_mm (am_upd U12 93 ((w32 ((w32 (12 * (U7 86 40))) + (U7 90 ((U7 86 40).toNat)))).toNat) r12)))) 2 (fun _ => rfl) ?_
        refine eu_iast 90 (n := 2) rfl (by decide) rfl (fun _ => rfl) ha2a1aaaaaaa2.1 ?_
        show Ev (am_kz N X) ((d + 1), 189, 113, [some (.inr (.inr 86)), some (.inl (w32 ((w32 (12 * (U7 86 40))) + (U7 90 ((U7 86 40).toNat)))))], [], (am_sh, am_mm (am_upd (am_upd U12 93 ((w32 ((w32 (12 * (U7 86 40))) + (U7 90 ((U7 86 40).toNat)))).toNat) r12) 90 ((U12 86 40).toNat) (w32 ((U12 90 ((U12 86 40).toNat)) + 1))))) R
        subst ha2a1aaaaaaa2a
        exact ev_end 1 (fun _ => rfl)
    · have ha2a2 := ha2a.2 (Decidable.not_not.mp hc)
      subst ha2a2
      exact ev_end 1 (fun _ => rfl)
set_option maxRecDepth 8000 in
theorem M_streeting_r0 {N : Nat} {X : Nat → Int} {d : Nat} {U : am_U} {R : Option am_V × am_M} (h : (0 ≤ (U 86 40) ∧ (U 86 40) < 2) ∧ (((U 88 ((U 86 40).toNat)) ≠ 4) → ∃ (r1 : Int) (U1 : am_U), EvK N X (M_counts_s0 d 0 U) (rI r1 U1) ∧ ((r1 ≠ 0) → (0 ≤ (U1 86 40) ∧ (U1 86 40) < 2) ∧ ∃ (r2 : Int) (U2 : am_U), EvK N X (M_fresh_s0 d U1) (rJ r2 U2) ∧ (0 ≤ (w32 ((w32 (4 * (U1 86 40))) + (U1 88 ((U1 86 40).toNat)))) ∧ (w32 ((w32 (4 * (U1 86 40))) + (U1 88 ((U1 86 40).toNat)))) < 8) ∧ (((U2 86 8) ≠ 0) → R = rV (am_upd U2 89 ((w32 ((w32 (4 * (U1 86 40))) + (U1 88 ((U1 86 40).toNat)))).toNat) r2)) ∧ (((U2 86 8) = 0) → (0 ≤ (U2 86 40) ∧ (U2 86 40) < 2) ∧ R = rV (am_upd (am_upd U2 89 ((w32 ((w32 (4 * (U1 86 40))) + (U1 88 ((U1 86 40).toNat)))).toNat) r2) 88 ((U2 86 40).toNat) (w32 ((U2 88 ((U2 86 40).toNat)) + 1))))) ∧ ((r1 = 0) → R = rV U1)) ∧ (((U 88 ((U 86 40).toNat)) = 4) → ∃ (r3 : Int) (U3 : am_U), EvK N X (M_counts_s0 d 1 U) (rI r3 U3) ∧ ((r3 ≠ 0) → (0 ≤ (U3 86 40) ∧ (U3 86 40) < 2) ∧ ∃ (r4 : Int) (U4 : am_U), EvK N X (M_fresh_s0 d U3) (rJ r4 U4) ∧ (0 ≤ (w32 ((w32 (4 * (U3 86 40))) + (U3 88 ((U3 86 40).toNat)))) ∧ (w32 ((w32 (4 * (U3 86 40))) + (U3 88 ((U3 86 40).toNat)))) < 8) ∧ (((U4 86 8) ≠ 0) → R = rV (am_upd U4 89 ((w32 ((w32 (4 * (U3 86 40))) + (U3 88 ((U3 86 40).toNat)))).toNat) r4)) ∧ (((U4 86 8) = 0) → (0 ≤ (U4 86 40) ∧ (U4 86 40) < 2) ∧ R = rV (am_upd (am_upd U4 89 ((w32 ((w32 (4 * (U3 86 40))) + (U3 88 ((U3 86 40).toNat)))).toNat) r4) 88 ((U4 86 40).toNat) (w32 ((U4 88 ((U4 86 40).toNat)) + 1))))) ∧ ((r3 = 0) → R = rV U3))) : EvK N X (M_streeting_s0 (d + 1) U) R := by
  show Ev (am_kz N X) ((d + 1), 188, 0, [some (.inr (.inr 86))], [], (am_sh, am_mm U)) R
  refine ev_seg (σ1 := ((d + 1), 188, 9, [some (.inr (.inr 86))], [.inl (U 86 40), .inr (.inr 88), .inr (.inr 86)], (am_sh, am_mm U))) 5 (fun _ => rfl) ?_
  refine eu_iald 88 (n := 2) rfl (by decide) rfl (fun _ => rfl) h.1 ?_
  show Ev (am_kz N X) ((d + 1), 188, 10, [some (.inr (.inr 86))], [.inl (U 88 ((U 86 40).toNat)), .inr (.inr 86)], (am_sh, am_mm U)) R
  have ha := h.2
  refine ev_br (P := ¬ (U 88 ((U 86 40).toNat)) = 4) (σ1 := ((d + 1), 188, 18, [some (.inr (.inr 86))], [.inr (.inr 86)], (am_sh, am_mm U))) (σ2 := ((d + 1), 188, 14, [some (.inr (.inr 86))], [.inr (.inr 86)], (am_sh, am_mm U))) 2 (fun _ => rfl) (fun hc => ?_) (fun hc => ?_)
  · have ha1 := ha.1 hc
    refine ev_seg (σ1 := ((d + 1), 188, 19, [some (.inr (.inr 86))], [.inl 0, .inr (.inr 86)], (am_sh, am_mm U))) 1 (fun _ => rfl) ?_
    obtain ⟨r1, U1, ha1c, ha1a⟩ := ha1
    refine ev_cal (σc := (M_counts_s0 d 0 U)) (fun _ => rfl) ha1c ?_
    show Ev (am_kz N X) ((d + 1), 188, 22, [some (.inr (.inr 86))], [.inl r1], (am_sh, am_mm U1)) R
    refine ev_br (P := ¬ r1 = 0) (σ1 := ((d + 1), 188, 26, [some (.inr (.inr 86))], [], (am_sh, am_mm U1))) (σ2 := ((d + 1), 188, 25, [some (.inr (.inr 86))], [], (am_sh, am_mm U1))) 1 (fun _ => rfl) (fun hc => ?_) (fun hc => ?_)
    · have ha1a1 := ha1a.1 hc
      refine ev_seg (σ1 := ((d + 1), 188, 44, [some (.inr (.inr 86))], [.inl (U1 86 40), .inr (.inr 88), .inl (w32 (4 * (U1 86 40))), .inr (.inr 89)], (am_sh, am_mm U1))) 10 (fun _ => rfl) ?_
      refine eu_iald 88 (n := 2) rfl (by decide) rfl (fun _ => rfl) ha1a1.1 ?_
      show Ev (am_kz N X) ((d + 1), 188, 45, [some (.inr (.inr 86))], [.inl (U1 88 ((U1 86 40).toNat)), .inl (w32 (4 * (U1 86 40))), .inr (.inr 89)], (am_sh, am_mm U1)) R
      have ha1a1a := ha1a1.2
      refine ev_seg (σ1 := ((d + 1), 188, 47, [some (.inr (.inr 86))], [.inr (.inr 86), .inl (w32 ((w32 (4 * (U1 86 40))) + (U1 88 ((U1 86 40).toNat)))), .inr (.inr 89)], (am_sh, am_mm U1))) 2 (fun _ => rfl) ?_
      obtain ⟨r2, U2, ha1a1ac, ha1a1aa⟩ := ha1a1a
      refine ev_cal (σc := (M_fresh_s0 d U1)) (fun _ => rfl) ha1a1ac ?_
      show Ev (am_kz N X) ((d + 1), 188, 50, [some (.inr (.inr 86))], [.inr (.inl r2), .inl (w32 ((w32 (4 * (U1 86 40))) + (U1 88 ((U1 86 40).toNat)))), .inr (.inr 89)], (am_sh, am_mm U2)) R
      refine eu_last 89 (n := 8) rfl (by decide) rfl (fun _ => rfl) ha1a1aa.1 ?_
      show Ev (am_kz N X) ((d + 1), 188, 51, [some (.inr (.inr 86))], [], (am_sh, am_mm (am_upd U2 89 ((w32 ((w32 (4 * (U1 86 40))) + (U1 88 ((U1 86 40).toNat)))).toNat) r2))) R
      have ha1a1aaa := ha1a1aa.2
      refine ev_br (P := ¬ (U2 86 8) = 0) (σ1 := ((d + 1), 188, 71, [some (.inr (.inr 86))], [], (am_sh, am_mm (am_upd U2 89 ((w32 ((w32 (4 * (U1 86 40))) + (U1 88 ((U1 86 40).toNat)))).toNat) r2)))) (σ2 := ((d + 1), 188, 58, [some (.inr (.inr 86))], [], (am_sh, am_mm (am_upd U2 89 ((w32 ((w32 (4 * (U1 86 40))) + (U1 88 ((U1 86 40).toNat)))).toNat) r2)))) 3 (fun _ => rfl) (fun hc => ?_) (fun hc => ?_)
      · have ha1a1aaa1 := ha1a1aaa.1 hc
        subst ha1a1aaa1
        exact ev_end 1 (fun _ => rfl)
      · have ha1a1aaa2 := ha1a1aaa.2 (Decidable.not_not.mp hc)
        refine ev_seg (σ1 := ((d + 1), 188, 67, [some (.inr (.inr 86))], [.inl (U2 86 40), .inr (.inr 88), .inl (U2 86 40), .inr (.inr 88)], (am_sh, am_mm (am_upd U2 89 ((w32 ((w32 (4 * (U1 86 40))) + (U1 88 ((U1 86 40).toNat)))).toNat) r2)))) 5 (fun _ => rfl) ?_
        refine eu_iald 88 (n := 2) rfl (by decide) rfl (fun _ => rfl) ha1a1aaa2.1 ?_
        show Ev (am_kz N X) ((d + 1), 188, 68, [some (.inr (.inr 86))], [.inl (U2 88 ((U2 86 40).toNat)), .inl (U2 86 40), .inr (.inr 88)], (am_sh, am_mm (am_upd U2 89 ((w32 ((w32 (4 * (U1 86 40))) + (U1 88 ((U1 86 40).toNat)))).toNat) r2))) R
        have ha1a1aaa2a := ha1a1aaa2.2
        refine ev_seg (σ1 := ((d + 1), 188, 70, [some (.inr (.inr 86))], [.inl (w32 ((U2 88 ((U2 86 40).toNat)) + 1)), .inl (U2 86 40), .inr (.inr 88)], (am_sh, am_mm (am_upd U2 89 ((w32 ((w32 (4 * (U1 86 40))) + (U1 88 ((U1 86 40).toNat)))).toNat) r2)))) 2 (fun _ => rfl) ?_
        refine eu_iast 88 (n := 2) rfl (by decide) rfl (fun _ => rfl) ha1a1aaa2.1 ?_
        show Ev (am_kz N X) ((d + 1), 188, 71, [some (.inr (.inr 86))], [], (am_sh, am_mm (am_upd (am_upd U2 89 ((w32 ((w32 (4 * (U1 86 40))) + (U1 88 ((U1 86 40).toNat)))).toNat) r2) 88 ((U2 86 40).toNat) (w32 ((U2 88 ((U2 86 40).toNat)) + 1))))) R
        subst ha1a1aaa2a
        exact ev_end 1 (fun _ => rfl)
    · have ha1a2 := ha1a.2 (Decidable.not_not.mp hc)
      subst ha1a2
      exact ev_end 1 (fun _ => rfl)
  · have ha2 := ha.2 (Decidable.not_not.mp hc)
    refine ev_seg (σ1 := ((d + 1), 188, 19, [some (.inr (.inr 86))], [.inl 1, .inr (.inr 86)], (am_sh, am_mm U))) 2 (fun _ => rfl) ?_
    obtain ⟨r3, U3, ha2c, ha2a⟩ := ha2
    refine ev_cal (σc := (M_counts_s0 d 1 U)) (fun _ => rfl) ha2c ?_
    show Ev (am_kz N X) ((d + 1), 188, 22, [some (.inr (.inr 86))], [.inl r3], (am_sh, am_mm U3)) R
    refine ev_br (P := ¬ r3 = 0) (σ1 := ((d + 1), 188, 26, [some (.inr (.inr 86))], [], (am_sh, am_mm U3))) (σ2 := ((d + 1), 188, 25, [some (.inr (.inr 86))], [], (am_sh, am_mm U3))) 1 (fun _ => rfl) (fun hc => ?_) (fun hc => ?_)
    · have ha2a1 := ha2a.1 hc
      refine ev_seg (σ1 := ((d + 1), 188, 44, [some (.inr (.inr 86))], [.inl (U3 86 40), .inr (.inr 88), .inl (w32 (4 * (U3 86 40))), .inr (.inr 89)], (am_sh, am_mm U3))) 10 (fun _ => rfl) ?_
      refine eu_iald 88 (n := 2) rfl (by decide) rfl (fun _ => rfl) ha2a1.1 ?_
      show Ev (am_kz N X) ((d + 1), 188, 45, [some (.inr (.inr 86))], [.inl (U3 88 ((U3 86 40).toNat)), .inl (w32 (4 * (U3 86 40))), .inr (.inr 89)], (am_sh, am_mm U3)) R
      have ha2a1a := ha2a1.2
      refine ev_seg (σ1 := ((d + 1), 188, 47, [some (.inr (.inr 86))], [.inr (.inr 86), .inl (w32 ((w32 (4 * (U3 86 40))) + (U3 88 ((U3 86 40).toNat)))), .inr (.inr 89)], (am_sh, am_mm U3))) 2 (fun _ => rfl) ?_
      obtain ⟨r4, U4, ha2a1ac, ha2a1aa⟩ := ha2a1a
      refine ev_cal (σc := (M_fresh_s0 d U3)) (fun _ => rfl) ha2a1ac ?_
      show Ev (am_kz N X) ((d + 1), 188, 50, [some (.inr (.inr 86))], [.inr (.inl r4), .inl (w32 ((w32 (4 * (U3 86 40))) + (U3 88 ((U3 86 40).toNat)))), .inr (.inr 89)], (am_sh, am_mm U4)) R
      refine eu_last 89 (n := 8) rfl (by decide) rfl (fun _ => rfl) ha2a1aa.1 ?_
      show Ev (am_kz N X) ((d + 1), 188, 51, [some (.inr (.inr 86))], [], (am_sh, am_mm (am_upd U4 89 ((w32 ((w32 (4 * (U3 86 40))) + (U3 88 ((U3 86 40).toNat)))).toNat) r4))) R
      have ha2a1aaa := ha2a1aa.2
      refine ev_br (P := ¬ (U4 86 8) = 0) (σ1 := ((d + 1), 188, 71, [some (.inr (.inr 86))], [], (am_sh, am_mm (am_upd U4 89 ((w32 ((w32 (4 * (U3 86 40))) + (U3 88 ((U3 86 40).toNat)))).toNat) r4)))) (σ2 := ((d + 1), 188, 58, [some (.inr (.inr 86))], [], (am_sh, am_mm (am_upd U4 89 ((w32 ((w32 (4 * (U3 86 40))) + (U3 88 ((U3 86 40).toNat)))).toNat) r4)))) 3 (fun _ => rfl) (fun hc => ?_) (fun hc => ?_)
      · have ha2a1aaa1 := ha2a1aaa.1 hc
        subst ha2a1aaa1
        exact ev_end 1 (fun _ => rfl)
      · have ha2a1aaa2 := ha2a1aaa.2 (Decidable.not_not.mp hc)
        refine ev_seg (σ1 := ((d + 1), 188, 67, [some (.inr (.inr 86))], [.inl (U4 86 40), .inr (.inr 88), .inl (U4 86 40), .inr (.inr 88)], (am_sh, am_mm (am_upd U4 89 ((w32 ((w32 (4 * (U3 86 40))) + (U3 88 ((U3 86 40).toNat)))).toNat) r4)))) 5 (fun _ => rfl) ?_
        refine eu_iald 88 (n := 2) rfl (by decide) rfl (fun _ => rfl) ha2a1aaa2.1 ?_
        show Ev (am_kz N X) ((d + 1), 188, 68, [some (.inr (.inr 86))], [.inl (U4 88 ((U4 86 40).toNat)), .inl (U4 86 40), .inr (.inr 88)], (am_sh, am_mm (am_upd U4 89 ((w32 ((w32 (4 * (U3 86 40))) + (U3 88 ((U3 86 40).toNat)))).toNat) r4))) R
        have ha2a1aaa2a := ha2a1aaa2.2
        refine ev_seg (σ1 := ((d + 1), 188, 70, [some (.inr (.inr 86))], [.inl (w32 ((U4 88 ((U4 86 40).toNat)) + 1)), .inl (U4 86 40), .inr (.inr 88)], (am_sh, am_mm (am_upd U4 89 ((w32 ((w32 (4 * (U3 86 40))) + (U3 88 ((U3 86 40).toNat)))).toNat) r4)))) 2 (fun _ => rfl) ?_
        refine eu_iast 88 (n := 2) rfl (by decide) rfl (fun _ => rfl) ha2a1aaa2.1 ?_
        show Ev (am_kz N X) ((d + 1), 188, 71, [some (.inr (.inr 86))], [], (am_sh, am_mm (am_upd (am_upd U4 89 ((w32 ((w32 (4 * (U3 86 40))) + (U3 88 ((U3 86 40).toNat)))).toNat) r4) 88 ((U4 86 40).toNat) (w32 ((U4 88 ((U4 86 40).toNat)) + 1))))) R
        subst ha2a1aaa2a
        exact ev_end 1 (fun _ => rfl)
    · have ha2a2 := ha2a.2 (Decidable.not_not.mp hc)
      subst ha2a2
      exact ev_end 1 (fun _ => rfl)
set_option maxRecDepth 8000 in
theorem M_isSign_r0 {N : Nat} {X : Nat → Int} {d : Nat} {x1 : Int} {U : am_U} {R : Option am_V × am_M} (h : (((U 86 3) ≠ 3) → R = rI 0 U) ∧ (((U 86 3) = 3) → (((U 86 6) ≠ x1) → R = rI 0 U) ∧ (((U 86 6) = x1) → R = rI 1 U))) : EvK N X (M_isSign_s0 d x1 U) R := by
  show Ev (am_kz N X) (d, 197, 0, [some (.inr (.inr 86)), some (.inl x1)], [], (am_sh, am_mm U)) R
  refine ev_br (P := ¬ (U 86 3) = 3) (σ1 := (d, 197, 20, [some (.inr (.inr 86)), some (.inl x1)], [], (am_sh, am_mm U))) (σ2 := (d, 197, 8, [some (.inr (.inr 86)), some (.inl x1)], [], (am_sh, am_mm U))) 4 (fun _ => rfl) (fun hc => ?_) (fun hc => ?_)
  · have h1 := h.1 hc
    subst h1
    exact ev_end 2 (fun _ => rfl)
  · have h2 := h.2 (Decidable.not_not.mp hc)
    refine ev_br (P := ¬ (U 86 6) = x1) (σ1 := (d, 197, 20, [some (.inr (.inr 86)), some (.inl x1)], [], (am_sh, am_mm U))) (σ2 := (d, 197, 16, [some (.inr (.inr 86)), some (.inl x1)], [], (am_sh, am_mm U))) 4 (fun _ => rfl) (fun hc => ?_) (fun hc => ?_)
    · have h21 := h2.1 hc
      subst h21
      exact ev_end 2 (fun _ => rfl)
    · have h22 := h2.2 (Decidable.not_not.mp hc)
      subst h22
      exact ev_end 3 (fun _ => rfl)
set_option maxRecDepth 8000 in
theorem M_must_I_r0 {N : Nat} {X : Nat → Int} {d : Nat} {x1 : Int} {U : am_U} {R : Option am_V × am_M} (h : ∃ U1 : am_U, EvK N X (M_lex_s0 d U) (rV U1) ∧ ∃ (r2 : Int) (U2 : am_U), EvK N X (M_isSign_s0 d x1 U1) (rI r2 U2) ∧ ((r2 ≠ 0) → (((U2 86 8) ≠ 0) → R = rV U2) ∧ (((U2 86 8) = 0) → ∃ U3 : am_U, EvK N X (M_ahead_s0 d U2) (rV U3) ∧ R = rV U3)) ∧ ((r2 = 0) → ∃ U4 : am_U, EvK N X (M_blame_s0 d 1 (U2 86 4) U2) (rV U4) ∧ (((U4 86 8) ≠ 0) → R = rV U4) ∧ (((U4 86 8) = 0) → ∃ U5 : am_U, EvK N X (M_ahead_s0 d U4) (rV U5) ∧ R = rV U5))) : EvK N X (M_must_I_s0 (d + 1) x1 U) R := by
  show Ev (am_kz N X) ((d + 1), 198, 0, [some (.inr (.inr 86)), some (.inl x1)], [], (am_sh, am_mm U)) R
  refine ev_seg (σ1 := ((d + 1), 198, 1, [some (.inr (.inr 86)), some (.inl x1)], [.inr (.inr 86)], (am_sh, am_mm U))) 1 (fun _ => rfl) ?_
  obtain ⟨U1, hc, ha⟩ := h
  refine ev_cal (σc := (M_lex_s0 d U)) (fun _ => rfl) hc ?_
  show Ev (am_kz N X) ((d + 1), 198, 4, [some (.inr (.inr 86)), some (.inl x1)], [], (am_sh, am_mm U1)) R
  refine ev_seg (σ1 := ((d + 1), 198, 6, [some (.inr (.inr 86)), some (.inl x1)], [.inl x1, .inr (.inr 86)], (am_sh, am_mm U1))) 2 (fun _ => rfl) ?_
  obtain ⟨r2, U2, hac, haa⟩ := ha
  refine ev_cal (σc := (M_isSign_s0 d x1 U1)) (fun _ => rfl) hac ?_
  show Ev (am_kz N X) ((d + 1), 198, 9, [some (.inr (.inr 86)), some (.inl x1)], [.inl r2], (am_sh, am_mm U2)) R
  refine ev_br (P := ¬ r2 = 0) (σ1 := ((d + 1), 198, 21, [some (.inr (.inr 86)), some (.inl x1)], [], (am_sh, am_mm U2))) (σ2 := ((d + 1), 198, 12, [some (.inr (.inr 86)), some (.inl x1)], [], (am_sh, am_mm U2))) 1 (fun _ => rfl) (fun hc => ?_) (fun hc => ?_)
  · have haa1 := haa.1 hc
    refine ev_br (P := ¬ (U2 86 8) = 0) (σ1 := ((d + 1), 198, 32, [some (.inr (.inr 86)), some (.inl x1)], [], (am_sh, am_mm U2))) (σ2 := ((d + 1), 198, 28, [some (.inr (.inr 86)), some (.inl x1)], [], (am_sh, am_mm U2))) 3 (fun _ => rfl) (fun hc => ?_) (fun hc => ?_)
    · have haa11 := haa1.1 hc
      subst haa11
      exact ev_end 1 (fun _ => rfl)
    · have haa12 := haa1.2 (Decidable.not_not.mp hc)
      refine ev_seg (σ1 := ((d + 1), 198, 29, [some (.inr (.inr 86)), some (.inl x1)], [.inr (.inr 86)], (am_sh, am_mm U2))) 1 (fun _ => rfl) ?_
      obtain ⟨U3, haa12c, haa12a⟩ := haa12
      refine ev_cal (σc := (M_ahead_s0 d U2)) (fun _ => rfl) haa12c ?_
      show Ev (am_kz N X) ((d + 1), 198, 32, [some (.inr (.inr 86)), some (.inl x1)], [], (am_sh, am_mm U3)) R
      subst haa12a
      exact ev_end 1 (fun _ => rfl)
  · have haa2 := haa.2 (Decidable.not_not.mp hc)
    refine ev_seg (σ1 := ((d + 1), 198, 18, [some (.inr (.inr 86)), some (.inl x1)], [.inl (U2 86 4), .inl 1, .inr (.inr 86)], (am_sh, am_mm U2))) 4 (fun _ => rfl) ?_
    obtain ⟨U4, haa2c, haa2a⟩ := haa2
    refine ev_cal (σc := (M_blame_s0 d 1 (U2 86 4) U2)) (fun _ => rfl) haa2c ?_
    show Ev (am_kz N X) ((d + 1), 198, 21, [some (.inr (.inr 86)), some (.inl x1)], [], (am_sh, am_mm U4)) R
    refine ev_br (P := ¬ (U4 86 8) = 0) (σ1 := ((d + 1), 198, 32, [some (.inr (.inr 86)), some (.inl x1)], [], (am_sh, am_mm U4))) (σ2 := ((d + 1), 198, 28, [some (.inr (.inr 86)), some (.inl x1)], [], (am_sh, am_mm U4))) 3 (fun _ => rfl) (fun hc => ?_) (fun hc => ?_)
    · have haa2a1 := haa2a.1 hc
      subst haa2a1
      exact ev_end 1 (fun _ => rfl)
    · have haa2a2 := haa2a.2 (Decidable.not_not.mp hc)
      refine ev_seg (σ1 := ((d + 1), 198, 29, [some (.inr (.inr 86)), some (.inl x1)], [.inr (.inr 86)], (am_sh, am_mm U4))) 1 (fun _ => rfl) ?_
      obtain ⟨U5, haa2a2c, haa2a2a⟩ := haa2a2
      refine ev_cal (σc := (M_ahead_s0 d U4)) (fun _ => rfl) haa2a2c ?_
      show Ev (am_kz N X) ((d + 1), 198, 32, [some (.inr (.inr 86)), some (.inl x1)], [], (am_sh, am_mm U5)) R
      subst haa2a2a
      exact ev_end 1 (fun _ => rfl)
set_option maxRecDepth 8000 in
theorem Jg_look_r0 {N : Nat} {X : Nat → Int} {d : Nat} {U : am_U} {R : Option am_V × am_M} (h : (((U 45 5) = 0) → ∃ U1 : am_U, EvK N X (Ar_fill_II_47_s0 d 0 U) (rV U1) ∧ EvK N X (Jg_look_s18 (d + 1) 0 U1) R) ∧ (((U 45 5) ≠ 0) → R = rV U)) : EvK N X (Jg_look_s0 (d + 1) U) R := by
  show Ev (am_kz N X) ((d + 1), 199, 0, [some (.inr (.inr 45)), none, none], [], (am_sh, am_mm U)) R
  refine ev_br (P := (U 45 5) = 0) (σ1 := ((d + 1), 199, 8, [some (.inr (.inr 45)), none, none], [], (am_sh, am_mm U))) (σ2 := ((d + 1), 199, 7, [some (.inr (.inr 45)), none, none], [], (am_sh, am_mm U))) 3 (fun _ => rfl) (fun hc => ?_) (fun hc => ?_)
  · have h1 := h.1 hc
    refine ev_seg (σ1 := ((d + 1), 199, 13, [some (.inr (.inr 45)), none, none], [.inl 0, .inr (.inr 47)], (am_sh, am_mm U))) 3 (fun _ => rfl) ?_
    obtain ⟨U1, h1c, h1a⟩ := h1
    refine ev_cal (σc := (Ar_fill_II_47_s0 d 0 U)) (fun _ => rfl) h1c ?_
    show Ev (am_kz N X) ((d + 1), 199, 16, [some (.inr (.inr 45)), none, none], [], (am_sh, am_mm U1)) R
    refine ev_seg (σ1 := ((d + 1), 199, 18, [some (.inr (.inr 45)), some (.inl 0), none], [], (am_sh, am_mm U1))) 2 (fun _ => rfl) ?_
    exact h1a
  · have h2 := h.2 hc
    subst h2
    exact ev_end 1 (fun _ => rfl)
set_option maxRecDepth 8000 in
theorem Jg_look_r18 {N : Nat} {X : Nat → Int} {d : Nat} {x1 : Int} {U : am_U} {R : Option am_V × am_M} (h : (((U 3 4) ≤ x1) → R = rV (am_upd U 45 5 1)) ∧ ((x1 < (U 3 4)) → EvK N X (Jg_look_s31 (d + 1) x1 0 U) R)) : EvK N X (Jg_look_s18 (d + 1) x1 U) R := by
  show Ev (am_kz N X) ((d + 1), 199, 18, [some (.inr (.inr 45)), some (.inl x1), none], [], (am_sh, am_mm U)) R
  refine ev_br (P := (U 3 4) ≤ x1) (σ1 := ((d + 1), 199, 72, [some (.inr (.inr 45)), some (.inl x1), none], [], (am_sh, am_mm U))) (σ2 := ((d + 1), 199, 29, [some (.inr (.inr 45)), some (.inl x1), none], [], (am_sh, am_mm U))) 5 (fun _ => rfl) (fun hc => ?_) (fun hc => ?_)
  · have h1 := h.1 hc
    refine ev_seg (σ1 := ((d + 1), 199, 74, [some (.inr (.inr 45)), some (.inl x1), none], [.inl 1, .inr (.inr 45)], (am_sh, am_mm U))) 2 (fun _ => rfl) ?_
    refine eu_putz 45 (n := 6) rfl (by decide) rfl rfl (by decide) ?_
    show Ev (am_kz N X) ((d + 1), 199, 77, [some (.inr (.inr 45)), some (.inl x1), none], [], (am_sh, am_mm (am_upd U 45 5 1))) R
    subst h1
    exact ev_end 1 (fun _ => rfl)
  · have h2 := h.2 (Int.not_le.mp hc)
    refine ev_seg (σ1 := ((d + 1), 199, 31, [some (.inr (.inr 45)), some (.inl x1), some (.inl 0)], [], (am_sh, am_mm U))) 2 (fun _ => rfl) ?_
    exact h2
set_option maxRecDepth 8000 in
theorem Jg_look_r31 {N : Nat} {X : Nat → Int} {d : Nat} {x1 x2 : Int} {U : am_U} {R : Option am_V × am_M} (h : (((U 16 0) ≤ x2) → EvK N X (Jg_look_s18 (d + 1) (w32 (x1 + 1)) U) R) ∧ ((x2 < (U 16 0)) → ∃ (r1 : Int) (U1 : am_U), EvK N X (Jg_breaks_s0 d x1 x2 (-1) U) (rI r1 U1) ∧ (0 ≤ (w32 ((w32 (16 * x1)) + x2)) ∧ (w32 ((w32 (16 * x1)) + x2)) < 128) ∧ EvK N X (Jg_look_s31 (d + 1) x1 (w32 (x2 + 1)) (am_upd U1 47 ((w32 ((w32 (16 * x1)) + x2)).toNat) r1)) R)) : EvK N X (Jg_look_s31 (d + 1) x1 x2 U) R := by
  show Ev (am_kz N X) ((d + 1), 199, 31, [some (.inr (.inr 45)), some (.inl x1), some (.inl x2)], [], (am_sh, am_mm U)) R
  refine ev_br (P := (U 16 0) ≤ x2) (σ1 := ((d + 1), 199, 66, [some (.inr (.inr 45)), some (.inl x1), some (.inl x2)], [], (am_sh, am_mm U))) (σ2 := ((d + 1), 199, 42, [some (.inr (.inr 45)), some (.inl x1), some (.inl x2)], [], (am_sh, am_mm U))) 5 (fun _ => rfl) (fun hc => ?_) (fun hc => ?_)
  · have h1 := h.1 hc
    refine ev_seg (σ1 := ((d + 1), 199, 18, [some (.inr (.inr 45)), some (.inl (w32 (x1 + 1))), some (.inl x2)], [], (am_sh, am_mm U))) 2 (fun _ => rfl) ?_
    exact ev_le (L := [some (.inr (.inr 45)), some (.inl (w32 (x1 + 1))), none]) ⟨rfl, ⟨rfl, trivial⟩⟩ h1
  · have h2 := h.2 (Int.not_le.mp hc)
    refine ev_seg (σ1 := ((d + 1), 199, 56, [some (.inr (.inr 45)), some (.inl x1), some (.inl x2)], [.inl (-1), .inl x2, .inl x1, .inr (.inr 45), .inl (w32 ((w32 (16 * x1)) + x2)), .inr (.inr 47)], (am_sh, am_mm U))) 11 (fun _ => rfl) ?_
    obtain ⟨r1, U1, h2c, h2a⟩ := h2
    refine ev_cal (σc := (Jg_breaks_s0 d x1 x2 (-1) U)) (fun _ => rfl) h2c ?_
    show Ev (am_kz N X) ((d + 1), 199, 59, [some (.inr (.inr 45)), some (.inl x1), some (.inl x2)], [.inl r1, .inl (w32 ((w32 (16 * x1)) + x2)), .inr (.inr 47)], (am_sh, am_mm U1)) R
    refine eu_iast 47 (n := 128) rfl (by decide) rfl (fun _ => rfl) h2a.1 ?_
    show Ev (am_kz N X) ((d + 1), 199, 60, [some (.inr (.inr 45)), some (.inl x1), some (.inl x2)], [], (am_sh, am_mm (am_upd U1 47 ((w32 ((w32 (16 * x1)) + x2)).toNat) r1))) R
    have h2aa := h2a.2
    refine ev_seg (σ1 := ((d + 1), 199, 31, [some (.inr (.inr 45)), some (.inl x1), some (.inl (w32 (x2 + 1)))], [], (am_sh, am_mm (am_upd U1 47 ((w32 ((w32 (16 * x1)) + x2)).toNat) r1)))) 2 (fun _ => rfl) ?_
    exact h2aa
set_option maxRecDepth 8000 in
theorem M_homeOf_r0 {N : Nat} {X : Nat → Int} {d : Nat} {x1 x2 : Int} {U : am_U} {R : Option am_V × am_M} (h : (0 ≤ (w32 ((w32 (16 * x1)) + x2)) ∧ (w32 ((w32 (16 * x1)) + x2)) < 352) ∧ R = rI (U 124 ((w32 ((w32 (16 * x1)) + x2)).toNat)) U) : EvK N X (M_homeOf_s0 d x1 x2 U) R := by
  show Ev (am_kz N X) (d, 200, 0, [some (.inr (.inr 86)), some (.inl x1), some (.inl x2)], [], (am_sh, am_mm U)) R
  refine ev_seg (σ1 := (d, 200, 10, [some (.inr (.inr 86)), some (.inl x1), some (.inl x2)], [.inl (w32 ((w32 (16 * x1)) + x2)), .inr (.inr 124)], (am_sh, am_mm U))) 7 (fun _ => rfl) ?_
  refine eu_iald 124 (n := 352) rfl (by decide) rfl (fun _ => rfl) h.1 ?_
  show Ev (am_kz N X) (d, 200, 11, [some (.inr (.inr 86)), some (.inl x1), some (.inl x2)], [.inl (U 124 ((w32 ((w32 (16 * x1)) + x2)).toNat))], (am_sh, am_mm U)) R
  have ha := h.2
  subst ha
  exact ev_end 1 (fun _ => rfl)
set_option maxRecDepth 8000 in
theorem M_counted_r0 {N : Nat} {X : Nat → Int} {d : Nat} {x1 x2 x3 x4 : Int} {U : am_U} {R : Option am_V × am_M} (h : (((U 86 67) ≠ x4) → R = rV (am_upd U 86 67 (w32 ((U 86 67) + 1)))) ∧ (((U 86 67) = x4) → R = rV (am_upd (am_upd (am_upd (am_upd U 86 64 x1) 86 65 x2) 86 66 x3) 86 67 (w32 ((U 86 67) + 1))))) : EvK N X (M_counted_s0 d x1 x2 x3 x4 U) R := by
  show Ev (am_kz N X) (d, 201, 0, [some (.inr (.inr 86)), some (.inl x1), some (.inl x2), some (.inl x3), some (.inl x4)], [], (am_sh, am_mm U)) R
  refine ev_br (P := ¬ (U 86 67) = x4) (σ1 := (d, 201, 24, [some (.inr (.inr 86)), some (.inl x1), some (.inl x2), some (.inl x3), some (.inl x4)], [], (am_sh, am_mm U))) (σ2 := (d, 201, 9, [some (.inr (.inr 86)), some (.inl x1), some (.inl x2), some (.inl x3), some (.inl x4)], [], (am_sh, am_mm U))) 4 (fun _ => rfl) (fun hc => ?_) (fun hc => ?_)
  · have h1 := h.1 hc
    refine ev_seg (σ1 := (d, 201, 31, [some (.inr (.inr 86)), some (.inl x1), some (.inl x2), some (.inl x3), some (.inl x4)], [.inl (w32 ((U 86 67) + 1)), .inr (.inr 86)], (am_sh, am_mm U))) 5 (fun _ => rfl) ?_
    refine eu_puti 86 (n := 90) rfl (by decide) rfl rfl ?_
    show Ev (am_kz N X) (d, 201, 34, [some (.inr (.inr 86)), some (.inl x1), some (.inl x2), some (.inl x3), some (.inl x4)], [], (am_sh, am_mm (am_upd U 86 67 (w32 ((U 86 67) + 1))))) R
    subst h1
    exact ev_end 1 (fun _ => rfl)
  · have h2 := h.2 (Decidable.not_not.mp hc)
    refine ev_seg (σ1 := (d, 201, 11, [some (.inr (.inr 86)), some (.inl x1), some (.inl x2), some (.inl x3), some (.inl x4)], [.inl x1, .inr (.inr 86)], (am_sh, am_mm U))) 2 (fun _ => rfl) ?_
    refine eu_puti 86 (n := 90) rfl (by decide) rfl rfl ?_
    show Ev (am_kz N X) (d, 201, 14, [some (.inr (.inr 86)), some (.inl x1), some (.inl x2), some (.inl x3), some (.inl x4)], [], (am_sh, am_mm (am_upd U 86 64 x1))) R
    refine ev_seg (σ1 := (d, 201, 16, [some (.inr (.inr 86)), some (.inl x1), some (.inl x2), some (.inl x3), some (.inl x4)], [.inl x2, .inr (.inr 86)], (am_sh, am_mm (am_upd U 86 64 x1)))) 2 (fun _ => rfl) ?_
    refine eu_puti 86 (n := 90) rfl (by decide) rfl rfl ?_
    show Ev (am_kz N X) (d, 201, 19, [some (.inr (.inr 86)), some (.inl x1), some (.inl x2), some (.inl x3), some (.inl x4)], [], (am_sh, am_mm (am_upd (am_upd U 86 64 x1) 86 65 x2))) R
    refine ev_seg (σ1 := (d, 201, 21, [some (.inr (.inr 86)), some (.inl x1), some (.inl x2), some (.inl x3), some (.inl x4)], [.inl x3, .inr (.inr 86)], (am_sh, am_mm (am_upd (am_upd U 86 64 x1) 86 65 x2)))) 2 (fun _ => rfl) ?_
    refine eu_puti 86 (n := 90) rfl (by decide) rfl rfl ?_
    show Ev (am_kz N X) (d, 201, 24, [some (.inr (.inr 86)), some (.inl x1), some (.inl x2), some (.inl x3), some (.inl x4)], [], (am_sh, am_mm (am_upd (am_upd (am_upd U 86 64 x1) 86 65 x2) 86 66 x3))) R
    refine ev_seg (σ1 := (d, 201, 31, [some (.inr (.inr 86)), some (.inl x1), some (.inl x2), some (.inl x3), some (.inl x4)], [.inl (w32 ((U 86 67) + 1)), .inr (.inr 86)], (am_sh, am_mm (am_upd (am_upd (am_upd U 86 64 x1) 86 65 x2) 86 66 x3)))) 5 (fun _ => rfl) ?_
    refine eu_puti 86 (n := 90) rfl (by decide) rfl rfl ?_
    show Ev (am_kz N X) (d, 201, 34, [some (.inr (.inr 86)), some (.inl x1), some (.inl x2), some (.inl x3), some (.inl x4)], [], (am_sh, am_mm (am_upd (am_upd (am_upd (am_upd U 86 64 x1) 86 65 x2) 86 66 x3) 86 67 (w32 ((U 86 67) + 1))))) R
    subst h2
    exact ev_end 1 (fun _ => rfl)
set_option maxRecDepth 8000 in
theorem M_isPair_r0 {N : Nat} {X : Nat → Int} {d : Nat} {x1 x2 x3 x4 : Int} {U : am_U} {R : Option am_V × am_M} (h : ∃ (r1 : Int) (U1 : am_U), EvK N X (M_homeOf_s0 d x1 x3 U) (rI r1 U1) ∧ ∃ (r2 : Int) (U2 : am_U), EvK N X (M_homeOf_s0 d x1 x4 U1) (rI r2 U2) ∧ ((x3 = x4) → R = rI 0 U2) ∧ ((x3 ≠ x4) → ((r1 = (-1)) → R = rI 0 U2) ∧ ((r1 ≠ (-1)) → ((r2 ≠ (-1)) → ((x2 ≠ 2) → ∃ (r3 : Int) (U3 : am_U), EvK N X (M_areNeighbours_s0 d (U2 86 13) r1 r2 U2) (rI r3 U3) ∧ (r3 = 0 ∨ r3 = 1) ∧ R = rI r3 U3) ∧ ((x2 = 2) → ((r1 ≠ r2) → R = rI 0 U2) ∧ ((r1 = r2) → R = rI 1 U2))) ∧ ((r2 = (-1)) → R = rI 0 U2)))) : EvK N X (M_isPair_s0 (d + 1) x1 x2 x3 x4 U) R := by
  show Ev (am_kz N X) ((d + 1), 202, 0, [some (.inr (.inr 86)), some (.inl x1), some (.inl x2), some (.inl x3), some (.inl x4), none, none], [], (am_sh, am_mm U)) R
  refine ev_seg (σ1 := ((d + 1), 202, 3, [some (.inr (.inr 86)), some (.inl x1), some (.inl x2), some (.inl x3), some (.inl x4), none, none], [.inl x3, .inl x1, .inr (.inr 86)], (am_sh, am_mm U))) 3 (fun _ => rfl) ?_
  obtain ⟨r1, U1, hc, ha⟩ := h
  refine ev_cal (σc := (M_homeOf_s0 d x1 x3 U)) (fun _ => rfl) hc ?_
  show Ev (am_kz N X) ((d + 1), 202, 6, [some (.inr (.inr 86)), some (.inl x1), some (.inl x2), some (.inl x3), some (.inl x4), none, none], [.inl r1], (am_sh, am_mm U1)) R
  refine ev_seg (σ1 := ((d + 1), 202, 12, [some (.inr (.inr 86)), some (.inl x1), some (.inl x2), some (.inl x3), some (.inl x4), some (.inl r1), none], [.inl x4, .inl x1, .inr (.inr 86)], (am_sh, am_mm U1))) 4 (fun _ => rfl) ?_
  obtain ⟨r2, U2, hac, haa⟩ := ha
  refine ev_cal (σc := (M_homeOf_s0 d x1 x4 U1)) (fun _ => rfl) hac ?_
  show Ev (am_kz N X) ((d + 1), 202, 15, [some (.inr (.inr 86)), some (.inl x1), some (.inl x2), some (.inl x3), some (.inl x4), some (.inl r1), none], [.inl r2], (am_sh, am_mm U2)) R
  refine ev_br (P := x3 = x4) (σ1 := ((d + 1), 202, 35, [some (.inr (.inr 86)), some (.inl x1), some (.inl x2), some (.inl x3), some (.inl x4), some (.inl r1), some (.inl r2)], [], (am_sh, am_mm U2))) (σ2 := ((d + 1), 202, 23, [some (.inr (.inr 86)), some (.inl x1), some (.inl x2), some (.inl x3), some (.inl x4), some (.inl r1), some (.inl r2)], [], (am_sh, am_mm U2))) 4 (fun _ => rfl) (fun hc => ?_) (fun hc => ?_)
  · have haa1 := haa.1 hc
    subst haa1
    exact ev_end 2 (fun _ => rfl)
  · have haa2 := haa.2 hc
    refine ev_br (P := r1 = (-1)) (σ1 := ((d + 1), 202, 35, [some (.inr (.inr 86)), some (.inl x1), some (.inl x2), some (.inl x3), some (.inl x4), some (.inl r1), some (.inl r2)], [], (am_sh, am_mm U2))) (σ2 := ((d + 1), 202, 29, [some (.inr (.inr 86)), some (.inl x1), some (.inl x2), some (.inl x3), some (.inl x4), some (.inl r1), some (.inl r2)], [], (am_sh, am_mm U2))) 3 (fun _ => rfl) (fun hc => ?_) (fun hc => ?_)
    · have haa21 := haa2.1 hc
      subst haa21
      exact ev_end 2 (fun _ => rfl)
    · have haa22 := haa2.2 hc
      refine ev_br (P := ¬ r2 = (-1)) (σ1 := ((d + 1), 202, 37, [some (.inr (.inr 86)), some (.inl x1), some (.inl x2), some (.inl x3), some (.inl x4), some (.inl r1), some (.inl r2)], [], (am_sh, am_mm U2))) (σ2 := ((d + 1), 202, 35, [some (.inr (.inr 86)), some (.inl x1), some (.inl x2), some (.inl x3), some (.inl x4), some (.inl r1), some (.inl r2)], [], (am_sh, am_mm U2))) 3 (fun _ => rfl) (fun hc => ?_) (fun hc => ?_)
      · have haa221 := haa22.1 hc
        refine ev_br (P := ¬ x2 = 2) (σ1 := ((d + 1), 202, 57, [some (.inr (.inr 86)), some (.inl x1), some (.inl x2), some (.inl x3), some (.inl x4), some (.inl r1), some (.inl r2)], [], (am_sh, am_mm U2))) (σ2 := ((d + 1), 202, 42, [some (.inr (.inr 86)), some (.inl x1), some (.inl x2), some (.inl x3), some (.inl x4), some (.inl r1), some (.inl r2)], [], (am_sh, am_mm U2))) 3 (fun _ => rfl) (fun hc => ?_) (fun hc => ?_)
        · have haa2211 := haa221.1 hc
          refine ev_seg (σ1 := ((d + 1), 202, 66, [some (.inr (.inr 86)), some (.inl x1), some (.inl x2), some (.inl x3), some (.inl x4), some (.inl r1), some (.inl r2)], [.inl r2, .inl r1, .inl (U2 86 13), .inr (.inr 86)], (am_sh, am_mm U2))) 5 (fun _ => rfl) ?_
          obtain ⟨r3, U3, haa2211c, haa2211a⟩ := haa2211
          refine ev_cal (σc := (M_areNeighbours_s0 d (U2 86 13) r1 r2 U2)) (fun _ => rfl) haa2211c ?_
          show Ev (am_kz N X) ((d + 1), 202, 69, [some (.inr (.inr 86)), some (.inl x1), some (.inl x2), some (.inl x3), some (.inl x4), some (.inl r1), some (.inl r2)], [.inl r3], (am_sh, am_mm U3)) R
          rw [haa2211a.2]
          exact ev_retz rfl rfl haa2211a.1
        · have haa2212 := haa221.2 (Decidable.not_not.mp hc)
          refine ev_br (P := ¬ r1 = r2) (σ1 := ((d + 1), 202, 53, [some (.inr (.inr 86)), some (.inl x1), some (.inl x2), some (.inl x3), some (.inl x4), some (.inl r1), some (.inl r2)], [], (am_sh, am_mm U2))) (σ2 := ((d + 1), 202, 49, [some (.inr (.inr 86)), some (.inl x1), some (.inl x2), some (.inl x3), some (.inl x4), some (.inl r1), some (.inl r2)], [], (am_sh, am_mm U2))) 3 (fun _ => rfl) (fun hc => ?_) (fun hc => ?_)
          · have haa22121 := haa2212.1 hc
            subst haa22121
            exact ev_end 3 (fun _ => rfl)
          · have haa22122 := haa2212.2 (Decidable.not_not.mp hc)
            subst haa22122
            exact ev_end 3 (fun _ => rfl)
      · have haa222 := haa22.2 (Decidable.not_not.mp hc)
        subst haa222
        exact ev_end 2 (fun _ => rfl)
set_option maxRecDepth 8000 in
theorem M_numberOf_r0 {N : Nat} {X : Nat → Int} {d : Nat} {x1 x2 : Int} {U : am_U} {R : Option am_V × am_M} (h : (0 ≤ (w32 ((w32 (16 * x1)) + x2)) ∧ (w32 ((w32 (16 * x1)) + x2)) < 352) ∧ R = rI (U 123 ((w32 ((w32 (16 * x1)) + x2)).toNat)) U) : EvK N X (M_numberOf_s0 d x1 x2 U) R := by
  show Ev (am_kz N X) (d, 203, 0, [some (.inr (.inr 86)), some (.inl x1), some (.inl x2)], [], (am_sh, am_mm U)) R
  refine ev_seg (σ1 := (d, 203, 10, [some (.inr (.inr 86)), some (.inl x1), some (.inl x2)], [.inl (w32 ((w32 (16 * x1)) + x2)), .inr (.inr 123)], (am_sh, am_mm U))) 7 (fun _ => rfl) ?_
  refine eu_iald 123 (n := 352) rfl (by decide) rfl (fun _ => rfl) h.1 ?_
  show Ev (am_kz N X) (d, 203, 11, [some (.inr (.inr 86)), some (.inl x1), some (.inl x2)], [.inl (U 123 ((w32 ((w32 (16 * x1)) + x2)).toNat))], (am_sh, am_mm U)) R
  have ha := h.2
  subst ha
  exact ev_end 1 (fun _ => rfl)
set_option maxRecDepth 8000 in
theorem Jg_within_r0 {N : Nat} {X : Nat → Int} {d : Nat} {x1 : Int} {U : am_U} {R : Option am_V × am_M} (h : (0 ≤ x1 ∧ x1 < 16) ∧ (((U 18 x1.toNat) < 0) → R = rI 0 U) ∧ ((0 ≤ (U 18 x1.toNat)) → (((U 3 1) ≤ (U 18 x1.toNat)) → R = rI 0 U) ∧ (((U 18 x1.toNat) < (U 3 1)) → (0 ≤ (U 18 x1.toNat) ∧ (U 18 x1.toNat) < 12) ∧ R = rI (am_and (U 19 ((U 18 x1.toNat).toNat)) (am_xor (am_shl 1 x1) (-1))) U))) : EvK N X (Jg_within_s0 d x1 U) R := by
  show Ev (am_kz N X) (d, 204, 0, [some (.inr (.inr 45)), some (.inl x1), none], [], (am_sh, am_mm U)) R
  refine ev_seg (σ1 := (d, 204, 8, [some (.inr (.inr 45)), some (.inl x1), none], [.inl x1, .inr (.inr 18)], (am_sh, am_mm U))) 4 (fun _ => rfl) ?_
  refine eu_iald 18 (n := 16) rfl (by decide) rfl (fun _ => rfl) h.1 ?_
  show Ev (am_kz N X) (d, 204, 9, [some (.inr (.inr 45)), some (.inl x1), none], [.inl (U 18 x1.toNat)], (am_sh, am_mm U)) R
  have ha := h.2
  refine ev_br (P := (U 18 x1.toNat) < 0) (σ1 := (d, 204, 43, [some (.inr (.inr 45)), some (.inl x1), some (.inl (U 18 x1.toNat))], [], (am_sh, am_mm U))) (σ2 := (d, 204, 14, [some (.inr (.inr 45)), some (.inl x1), some (.inl (U 18 x1.toNat))], [], (am_sh, am_mm U))) 3 (fun _ => rfl) (fun hc => ?_) (fun hc => ?_)
  · have ha1 := ha.1 hc
    subst ha1
    exact ev_end 2 (fun _ => rfl)
  · have ha2 := ha.2 (Int.not_lt.mp hc)
    refine ev_br (P := (U 3 1) ≤ (U 18 x1.toNat)) (σ1 := (d, 204, 43, [some (.inr (.inr 45)), some (.inl x1), some (.inl (U 18 x1.toNat))], [], (am_sh, am_mm U))) (σ2 := (d, 204, 25, [some (.inr (.inr 45)), some (.inl x1), some (.inl (U 18 x1.toNat))], [], (am_sh, am_mm U))) 5 (fun _ => rfl) (fun hc => ?_) (fun hc => ?_)
    · have ha21 := ha2.1 hc
      subst ha21
      exact ev_end 2 (fun _ => rfl)
    · have ha22 := ha2.2 (Int.not_le.mp hc)
      refine ev_seg (σ1 := (d, 204, 33, [some (.inr (.inr 45)), some (.inl x1), some (.inl (U 18 x1.toNat))], [.inl (U 18 x1.toNat), .inr (.inr 19)], (am_sh, am_mm U))) 4 (fun _ => rfl) ?_
      refine eu_iald 19 (n := 12) rfl (by decide) rfl (fun _ => rfl) ha22.1 ?_
      show Ev (am_kz N X) (d, 204, 34, [some (.inr (.inr 45)), some (.inl x1), some (.inl (U 18 x1.toNat))], [.inl (U 19 ((U 18 x1.toNat).toNat))], (am_sh, am_mm U)) R
      have ha22a := ha22.2
      subst ha22a
      exact ev_end 8 (fun _ => rfl)
set_option maxRecDepth 8000 in
theorem Jg_besides_r0 {N : Nat} {X : Nat → Int} {d : Nat} {x1 : Int} {U : am_U} {R : Option am_V × am_M} (h : (0 ≤ x1 ∧ x1 < 16) ∧ (((U 18 x1.toNat) < 0) → R = rI 0 U) ∧ ((0 ≤ (U 18 x1.toNat)) → (((U 18 x1.toNat) < (U 3 1)) → EvK N X (Jg_besides_s32 d x1 (U 18 x1.toNat) 0 0 U) R) ∧ (((U 3 1) ≤ (U 18 x1.toNat)) → R = rI 0 U))) : EvK N X (Jg_besides_s0 d x1 U) R := by
  show Ev (am_kz N X) (d, 205, 0, [some (.inr (.inr 45)), some (.inl x1), none, none, none], [], (am_sh, am_mm U)) R
  refine ev_seg (σ1 := (d, 205, 8, [some (.inr (.inr 45)), some (.inl x1), none, none, none], [.inl x1, .inr (.inr 18)], (am_sh, am_mm U))) 4 (fun _ => rfl) ?_
  refine eu_iald 18 (n := 16) rfl (by decide) rfl (fun _ => rfl) h.1 ?_
  show Ev (am_kz N X) (d, 205, 9, [some (.inr (.inr 45)), some (.inl x1), none, none, none], [.inl (U 18 x1.toNat)], (am_sh, am_mm U)) R
  have ha := h.2
  refine ev_br (P := (U 18 x1.toNat) < 0) (σ1 := (d, 205, 25, [some (.inr (.inr 45)), some (.inl x1), some (.inl (U 18 x1.toNat)), none, none], [], (am_sh, am_mm U))) (σ2 := (d, 205, 14, [some (.inr (.inr 45)), some (.inl x1), some (.inl (U 18 x1.toNat)), none, none], [], (am_sh, am_mm U))) 3 (fun _ => rfl) (fun hc => ?_) (fun hc => ?_)
  · have ha1 := ha.1 hc
    subst ha1
    exact ev_end 2 (fun _ => rfl)
  · have ha2 := ha.2 (Int.not_lt.mp hc)
    refine ev_br (P := (U 18 x1.toNat) < (U 3 1)) (σ1 := (d, 205, 27, [some (.inr (.inr 45)), some (.inl x1), some (.inl (U 18 x1.toNat)), none, none], [], (am_sh, am_mm U))) (σ2 := (d, 205, 25, [some (.inr (.inr 45)), some (.inl x1), some (.inl (U 18 x1.toNat)), none, none], [], (am_sh, am_mm U))) 5 (fun _ => rfl) (fun hc => ?_) (fun hc => ?_)
    · have ha21 := ha2.1 hc
      refine ev_seg (σ1 := (d, 205, 32, [some (.inr (.inr 45)), some (.inl x1), some (.inl (U 18 x1.toNat)), some (.inl 0), some (.inl 0)], [], (am_sh, am_mm U))) 4 (fun _ => rfl) ?_
      exact ha21
    · have ha22 := ha2.2 (Int.not_lt.mp hc)
      subst ha22
      exact ev_end 2 (fun _ => rfl)
set_option maxRecDepth 8000 in
theorem Jg_besides_r32 {N : Nat} {X : Nat → Int} {d : Nat} {x1 x2 x3 x4 : Int} {U : am_U} {R : Option am_V × am_M} (h : (((U 3 1) ≤ x4) → R = rI x3 U) ∧ ((x4 < (U 3 1)) → (0 ≤ x2 ∧ x2 < 12) ∧ (((am_and (am_shr (U 9 x2.toNat) x4) 1) ≠ 1) → EvK N X (Jg_besides_s32 d x1 x2 x3 (w32 (x4 + 1)) U) R) ∧ (((am_and (am_shr (U 9 x2.toNat) x4) 1) = 1) → (0 ≤ x4 ∧ x4 < 12) ∧ EvK N X (Jg_besides_s32 d x1 x2 (am_or x3 (U 19 x4.toNat)) (w32 (x4 + 1)) U) R))) : EvK N X (Jg_besides_s32 d x1 x2 x3 x4 U) R := by
  show Ev (am_kz N X) (d, 205, 32, [some (.inr (.inr 45)), some (.inl x1), some (.inl x2), some (.inl x3), some (.inl x4)], [], (am_sh, am_mm U)) R
  refine ev_br (P := (U 3 1) ≤ x4) (σ1 := (d, 205, 81, [some (.inr (.inr 45)), some (.inl x1), some (.inl x2), some (.inl x3), some (.inl x4)], [], (am_sh, am_mm U))) (σ2 := (d, 205, 44, [some (.inr (.inr 45)), some (.inl x1), some (.inl x2), some (.inl x3), some (.inl x4)], [], (am_sh, am_mm U))) 5 (fun _ => rfl) (fun hc => ?_) (fun hc => ?_)
  · have h1 := h.1 hc
    subst h1
    exact ev_end 2 (fun _ => rfl)
  · have h2 := h.2 (Int.not_le.mp hc)
    refine ev_seg (σ1 := (d, 205, 52, [some (.inr (.inr 45)), some (.inl x1), some (.inl x2), some (.inl x3), some (.inl x4)], [.inl x2, .inr (.inr 9)], (am_sh, am_mm U))) 4 (fun _ => rfl) ?_
    refine eu_iald 9 (n := 12) rfl (by decide) rfl (fun _ => rfl) h2.1 ?_
    show Ev (am_kz N X) (d, 205, 53, [some (.inr (.inr 45)), some (.inl x1), some (.inl x2), some (.inl x3), some (.inl x4)], [.inl (U 9 x2.toNat)], (am_sh, am_mm U)) R
    have h2a := h2.2
    refine ev_br (P := ¬ (am_and (am_shr (U 9 x2.toNat) x4) 1) = 1) (σ1 := (d, 205, 75, [some (.inr (.inr 45)), some (.inl x1), some (.inl x2), some (.inl x3), some (.inl x4)], [], (am_sh, am_mm U))) (σ2 := (d, 205, 62, [some (.inr (.inr 45)), some (.inl x1), some (.inl x2), some (.inl x3), some (.inl x4)], [], (am_sh, am_mm U))) 6 (fun _ => rfl) (fun hc => ?_) (fun hc => ?_)
    · have h2a1 := h2a.1 hc
      refine ev_seg (σ1 := (d, 205, 32, [some (.inr (.inr 45)), some (.inl x1), some (.inl x2), some (.inl x3), some (.inl (w32 (x4 + 1)))], [], (am_sh, am_mm U))) 2 (fun _ => rfl) ?_
      exact h2a1
    · have h2a2 := h2a.2 (Decidable.not_not.mp hc)
      refine ev_seg (σ1 := (d, 205, 72, [some (.inr (.inr 45)), some (.inl x1), some (.inl x2), some (.inl x3), some (.inl x4)], [.inl x4, .inr (.inr 19), .inl x3], (am_sh, am_mm U))) 5 (fun _ => rfl) ?_
      refine eu_iald 19 (n := 12) rfl (by decide) rfl (fun _ => rfl) h2a2.1 ?_
      show Ev (am_kz N X) (d, 205, 73, [some (.inr (.inr 45)), some (.inl x1), some (.inl x2), some (.inl x3), some (.inl x4)], [.inl (U 19 x4.toNat), .inl x3], (am_sh, am_mm U)) R
      have h2a2a := h2a2.2
      refine ev_seg (σ1 := (d, 205, 32, [some (.inr (.inr 45)), some (.inl x1), some (.inl x2), some (.inl (am_or x3 (U 19 x4.toNat))), some (.inl (w32 (x4 + 1)))], [], (am_sh, am_mm U))) 4 (fun _ => rfl) ?_
      exact h2a2a
set_option maxRecDepth 8000 in
theorem Nm_partsOf_r0 {N : Nat} {X : Nat → Int} {d : Nat} {x0 : Int} {U : am_U} {R : Option am_V × am_M} (h : ((2 ≤ x0) → ∃ (r1 : Int) (U1 : am_U), EvK N X (Nm_isPrime_s0 d x0 U) (rI r1 U1) ∧ EvK N X (Nm_partsOf_s20 (d + 1) x0 1 x0 r1 2 U1) R) ∧ ((x0 < 2) → R = rJ 0 U)) : EvK N X (Nm_partsOf_s0 (d + 1) x0 U) R := by
  show Ev (am_kz N X) ((d + 1), 206, 0, [some (.inl x0), none, none, none, none, none, none, none, none], [], (am_sh, am_mm U)) R
  refine ev_br (P := 2 ≤ x0) (σ1 := ((d + 1), 206, 7, [some (.inl x0), none, none, none, none, none, none, none, none], [], (am_sh, am_mm U))) (σ2 := ((d + 1), 206, 5, [some (.inl x0), none, none, none, none, none, none, none, none], [], (am_sh, am_mm U))) 3 (fun _ => rfl) (fun hc => ?_) (fun hc => ?_)
  · have h1 := h.1 hc
    refine ev_seg (σ1 := ((d + 1), 206, 12, [some (.inl x0), some (.inr (.inl 1)), none, some (.inl x0), none, none, none, none, none], [.inl x0], (am_sh, am_mm U))) 5 (fun _ => rfl) ?_
    obtain ⟨r1, U1, h1c, h1a⟩ := h1
    refine ev_cal (σc := (Nm_isPrime_s0 d x0 U)) (fun _ => rfl) h1c ?_
    show Ev (am_kz N X) ((d + 1), 206, 15, [some (.inl x0), some (.inr (.inl 1)), none, some (.inl x0), none, none, none, none, none], [.inl r1], (am_sh, am_mm U1)) R
    refine ev_seg (σ1 := ((d + 1), 206, 20, [some (.inl x0), some (.inr (.inl 1)), none, some (.inl x0), some (.inl r1), some (.inl 2), none, none, none], [], (am_sh, am_mm U1))) 3 (fun _ => rfl) ?_
    exact h1a
  · have h2 := h.2 (Int.not_le.mp hc)
    subst h2
    exact ev_end 2 (fun _ => rfl)
set_option maxRecDepth 8000 in
theorem Nm_partsOf_r20 {N : Nat} {X : Nat → Int} {d : Nat} {x0 x1 x3 x4 x5 : Int} {U : am_U} {R : Option am_V × am_M} (h : ((31623 < x5) → ((x3 ≤ 1) → R = rJ (w64 (x1 - x0)) U) ∧ ((1 < x3) → R = rJ (w64 ((w64 (x1 * (w32 (x3 + 1)))) - x0)) U)) ∧ ((x5 ≤ 31623) → ((x4 ≠ 0) → ((x3 ≤ 1) → R = rJ (w64 (x1 - x0)) U) ∧ ((1 < x3) → R = rJ (w64 ((w64 (x1 * (w32 (x3 + 1)))) - x0)) U)) ∧ ((x4 = 0) → ((x3 < (w32 (x5 * x5))) → ((x3 ≤ 1) → R = rJ (w64 (x1 - x0)) U) ∧ ((1 < x3) → R = rJ (w64 ((w64 (x1 * (w32 (x3 + 1)))) - x0)) U)) ∧ (((w32 (x5 * x5)) ≤ x3) → x5 ≠ 0 ∧ (((Int.tmod x3 x5) ≠ 0) → ((x5 ≠ 2) → EvK N X (Nm_partsOf_s20 (d + 1) x0 x1 x3 x4 (w32 (x5 + 2)) U) R) ∧ ((x5 = 2) → EvK N X (Nm_partsOf_s20 (d + 1) x0 x1 x3 x4 (w32 (x5 + 1)) U) R)) ∧ (((Int.tmod x3 x5) = 0) → EvK N X (Nm_partsOf_s55 (d + 1) x0 x1 x3 x4 x5 1 0 U) R))))) : EvK N X (Nm_partsOf_s20 (d + 1) x0 x1 x3 x4 x5 U) R := by
  show Ev (am_kz N X) ((d + 1), 206, 20, [some (.inl x0), some (.inr (.inl x1)), none, some (.inl x3), some (.inl x4), some (.inl x5), none, none, none], [], (am_sh, am_mm U)) R
  refine ev_br (P := 31623 < x5) (σ1 := ((d + 1), 206, 120, [some (.inl x0), some (.inr (.inl x1)), none, some (.inl x3), some (.inl x4), some (.inl x5), none, none, none], [], (am_sh, am_mm U))) (σ2 := ((d + 1), 206, 28, [some (.inl x0), some (.inr (.inl x1)), none, some (.inl x3), some (.inl x4), some (.inl x5), none, none, none], [], (am_sh, am_mm U))) 3 (fun _ => rfl) (fun hc => ?_) (fun hc => ?_)
  · have h1 := h.1 hc
    refine ev_br (P := x3 ≤ 1) (σ1 := ((d + 1), 206, 134, [some (.inl x0), some (.inr (.inl x1)), none, some (.inl x3), some (.inl x4), some (.inl x5), none, none, none], [], (am_sh, am_mm U))) (σ2 := ((d + 1), 206, 125, [some (.inl x0), some (.inr (.inl x1)), none, some (.inl x3), some (.inl x4), some (.inl x5), none, none, none], [], (am_sh, am_mm U))) 3 (fun _ => rfl) (fun hc => ?_) (fun hc => ?_)
    · have h11 := h1.1 hc
      subst h11
      exact ev_end 5 (fun _ => rfl)
    · have h12 := h1.2 (Int.not_le.mp hc)
      subst h12
      exact ev_end 11 (fun _ => rfl)
  · have h2 := h.2 (Int.not_lt.mp hc)
    refine ev_br (P := ¬ x4 = 0) (σ1 := ((d + 1), 206, 120, [some (.inl x0), some (.inr (.inl x1)), none, some (.inl x3), some (.inl x4), some (.inl x5), none, none, none], [], (am_sh, am_mm U))) (σ2 := ((d + 1), 206, 33, [some (.inl x0), some (.inr (.inl x1)), none, some (.inl x3), some (.inl x4), some (.inl x5), none, none, none], [], (am_sh, am_mm U))) 2 (fun _ => rfl) (fun hc => ?_) (fun hc => ?_)
    · have h21 := h2.1 hc
      refine ev_br (P := x3 ≤ 1) (σ1 := ((d + 1), 206, 134, [some (.inl x0), some (.inr (.inl x1)), none, some (.inl x3), some (.inl x4), some (.inl x5), none, none, none], [], (am_sh, am_mm U))) (σ2 := ((d + 1), 206, 125, [some (.inl x0), some (.inr (.inl x1)), none, some (.inl x3), some (.inl x4), some (.inl x5), none, none, none], [], (am_sh, am_mm U))) 3 (fun _ => rfl) (fun hc => ?_) (fun hc => ?_)
      · have h211 := h21.1 hc
        subst h211
        exact ev_end 5 (fun _ => rfl)
      · have h212 := h21.2 (Int.not_le.mp hc)
        subst h212
        exact ev_end 11 (fun _ => rfl)
    · have h22 := h2.2 (Decidable.not_not.mp hc)
      refine ev_br (P := x3 < (w32 (x5 * x5))) (σ1 := ((d + 1), 206, 120, [some (.inl x0), some (.inr (.inl x1)), none, some (.inl x3), some (.inl x4), some (.inl x5), none, none, none], [], (am_sh, am_mm U))) (σ2 := ((d + 1), 206, 42, [some (.inl x0), some (.inr (.inl x1)), none, some (.inl x3), some (.inl x4), some (.inl x5), none, none, none], [], (am_sh, am_mm U))) 5 (fun _ => rfl) (fun hc => ?_) (fun hc => ?_)
      · have h221 := h22.1 hc
        refine ev_br (P := x3 ≤ 1) (σ1 := ((d + 1), 206, 134, [some (.inl x0), some (.inr (.inl x1)), none, some (.inl x3), some (.inl x4), some (.inl x5), none, none, none], [], (am_sh, am_mm U))) (σ2 := ((d + 1), 206, 125, [some (.inl x0), some (.inr (.inl x1)), none, some (.inl x3), some (.inl x4), some (.inl x5), none, none, none], [], (am_sh, am_mm U))) 3 (fun _ => rfl) (fun hc => ?_) (fun hc => ?_)
        · have h2211 := h221.1 hc
          subst h2211
          exact ev_end 5 (fun _ => rfl)
        · have h2212 := h221.2 (Int.not_le.mp hc)
          subst h2212
          exact ev_end 11 (fun _ => rfl)
      · have h222 := h22.2 (Int.not_lt.mp hc)
        refine ev_seg (σ1 := ((d + 1), 206, 45, [some (.inl x0), some (.inr (.inl x1)), none, some (.inl x3), some (.inl x4), some (.inl x5), none, none, none], [.inl x5, .inl x3], (am_sh, am_mm U))) 2 (fun _ => rfl) ?_
        refine ev_irem rfl h222.1 ?_
        show Ev (am_kz N X) ((d + 1), 206, 46, [some (.inl x0), some (.inr (.inl x1)), none, some (.inl x3), some (.inl x4), some (.inl x5), none, none, none], [.inl (Int.tmod x3 x5)], (am_sh, am_mm U)) R
        have h222a := h222.2
        refine ev_br (P := ¬ (Int.tmod x3 x5) = 0) (σ1 := ((d + 1), 206, 101, [some (.inl x0), some (.inr (.inl x1)), none, some (.inl x3), some (.inl x4), some (.inl x5), none, none, none], [], (am_sh, am_mm U))) (σ2 := ((d + 1), 206, 49, [some (.inl x0), some (.inr (.inl x1)), none, some (.inl x3), some (.inl x4), some (.inl x5), none, none, none], [], (am_sh, am_mm U))) 1 (fun _ => rfl) (fun hc => ?_) (fun hc => ?_)
        · have h222a1 := h222a.1 hc
          refine ev_br (P := ¬ x5 = 2) (σ1 := ((d + 1), 206, 113, [some (.inl x0), some (.inr (.inl x1)), none, some (.inl x3), some (.inl x4), some (.inl x5), none, none, none], [.inl x5], (am_sh, am_mm U))) (σ2 := ((d + 1), 206, 109, [some (.inl x0), some (.inr (.inl x1)), none, some (.inl x3), some (.inl x4), some (.inl x5), none, none, none], [.inl x5], (am_sh, am_mm U))) 4 (fun _ => rfl) (fun hc => ?_) (fun hc => ?_)
          · have h222a11 := h222a1.1 hc
            refine ev_seg (σ1 := ((d + 1), 206, 20, [some (.inl x0), some (.inr (.inl x1)), none, some (.inl x3), some (.inl x4), some (.inl (w32 (x5 + 2))), none, none, none], [], (am_sh, am_mm U))) 4 (fun _ => rfl) ?_
            exact h222a11
          · have h222a12 := h222a1.2 (Decidable.not_not.mp hc)
            refine ev_seg (σ1 := ((d + 1), 206, 20, [some (.inl x0), some (.inr (.inl x1)), none, some (.inl x3), some (.inl x4), some (.inl (w32 (x5 + 1))), none, none, none], [], (am_sh, am_mm U))) 5 (fun _ => rfl) ?_
            exact h222a12
        · have h222a2 := h222a.2 (Decidable.not_not.mp hc)
          refine ev_seg (σ1 := ((d + 1), 206, 55, [some (.inl x0), some (.inr (.inl x1)), none, some (.inl x3), some (.inl x4), some (.inl x5), some (.inr (.inl 1)), none, some (.inl 0)], [], (am_sh, am_mm U))) 4 (fun _ => rfl) ?_
          exact h222a2
set_option maxRecDepth 8000 in
theorem Nm_partsOf_r55 {N : Nat} {X : Nat → Int} {d : Nat} {x0 x1 x3 x4 x5 x6 x8 : Int} {U : am_U} {R : Option am_V × am_M} (h : ((31 ≤ x8) → ∃ (r1 : Int) (U1 : am_U), EvK N X (Nm_isPrime_s0 d x3 U) (rI r1 U1) ∧ ((x5 ≠ 2) → EvK N X (Nm_partsOf_s20 (d + 1) x0 (w64 (x1 * x6)) x3 r1 (w32 (x5 + 2)) U1) R) ∧ ((x5 = 2) → EvK N X (Nm_partsOf_s20 (d + 1) x0 (w64 (x1 * x6)) x3 r1 (w32 (x5 + 1)) U1) R)) ∧ ((x8 < 31) → x5 ≠ 0 ∧ (((Int.tmod x3 x5) ≠ 0) → ∃ (r2 : Int) (U2 : am_U), EvK N X (Nm_isPrime_s0 d x3 U) (rI r2 U2) ∧ ((x5 ≠ 2) → EvK N X (Nm_partsOf_s20 (d + 1) x0 (w64 (x1 * x6)) x3 r2 (w32 (x5 + 2)) U2) R) ∧ ((x5 = 2) → EvK N X (Nm_partsOf_s20 (d + 1) x0 (w64 (x1 * x6)) x3 r2 (w32 (x5 + 1)) U2) R)) ∧ (((Int.tmod x3 x5) = 0) → x5 ≠ 0 ∧ EvK N X (Nm_partsOf_s55 (d + 1) x0 x1 (w32 (Int.tdiv x3 x5)) x4 x5 (w64 ((w64 (x6 * x5)) + 1)) (w32 (x8 + 1)) U) R))) : EvK N X (Nm_partsOf_s55 (d + 1) x0 x1 x3 x4 x5 x6 x8 U) R := by
  show Ev (am_kz N X) ((d + 1), 206, 55, [some (.inl x0), some (.inr (.inl x1)), none, some (.inl x3), some (.inl x4), some (.inl x5), some (.inr (.inl x6)), none, some (.inl x8)], [], (am_sh, am_mm U)) R
  refine ev_br (P := 31 ≤ x8) (σ1 := ((d + 1), 206, 90, [some (.inl x0), some (.inr (.inl x1)), none, some (.inl x3), some (.inl x4), some (.inl x5), some (.inr (.inl x6)), none, some (.inl x8)], [], (am_sh, am_mm U))) (σ2 := ((d + 1), 206, 62, [some (.inl x0), some (.inr (.inl x1)), none, some (.inl x3), some (.inl x4), some (.inl x5), some (.inr (.inl x6)), none, some (.inl x8)], [], (am_sh, am_mm U))) 3 (fun _ => rfl) (fun hc => ?_) (fun hc => ?_)
  · have h1 := h.1 hc
    refine ev_seg (σ1 := ((d + 1), 206, 96, [some (.inl x0), some (.inr (.inl (w64 (x1 * x6)))), none, some (.inl x3), some (.inl x4), some (.inl x5), some (.inr (.inl x6)), none, some (.inl x8)], [.inl x3], (am_sh, am_mm U))) 5 (fun _ => rfl) ?_
    obtain ⟨r1, U1, h1c, h1a⟩ := h1
    refine ev_cal (σc := (Nm_isPrime_s0 d x3 U)) (fun _ => rfl) h1c ?_
    show Ev (am_kz N X) ((d + 1), 206, 99, [some (.inl x0), some (.inr (.inl (w64 (x1 * x6)))), none, some (.inl x3), some (.inl x4), some (.inl x5), some (.inr (.inl x6)), none, some (.inl x8)], [.inl r1], (am_sh, am_mm U1)) R
    refine ev_br (P := ¬ x5 = 2) (σ1 := ((d + 1), 206, 113, [some (.inl x0), some (.inr (.inl (w64 (x1 * x6)))), none, some (.inl x3), some (.inl r1), some (.inl x5), some (.inr (.inl x6)), none, some (.inl x8)], [.inl x5], (am_sh, am_mm U1))) (σ2 := ((d + 1), 206, 109, [some (.inl x0), some (.inr (.inl (w64 (x1 * x6)))), none, some (.inl x3), some (.inl r1), some (.inl x5), some (.inr (.inl x6)), none, some (.inl x8)], [.inl x5], (am_sh, am_mm U1))) 5 (fun _ => rfl) (fun hc => ?_) (fun hc => ?_)
    · have h1a1 := h1a.1 hc
      refine ev_seg (σ1 := ((d + 1), 206, 20, [some (.inl x0), some (.inr (.inl (w64 (x1 * x6)))), none, some (.inl x3), some (.inl r1), some (.inl (w32 (x5 + 2))), some (.inr (.inl x6)), none, some (.inl x8)], [], (am_sh, am_mm U1))) 4 (fun _ => rfl) ?_
      exact ev_le (L := [some (.inl x0), some (.inr (.inl (w64 (x1 * x6)))), none, some (.inl x3), some (.inl r1), some (.inl (w32 (x5 + 2))), none, none, none]) ⟨rfl, ⟨rfl, ⟨rfl, ⟨rfl, ⟨rfl, trivial⟩⟩⟩⟩⟩ h1a1
    · have h1a2 := h1a.2 (Decidable.not_not.mp hc)
      refine ev_seg (σ1 := ((d + 1), 206, 20, [some (.inl x0), some (.inr (.inl (w64 (x1 * x6)))), none, some (.inl x3), some (.inl r1), some (.inl (w32 (x5 + 1))), some (.inr (.inl x6)), none, some (.inl x8)], [], (am_sh, am_mm U1))) 5 (fun _ => rfl) ?_
      exact ev_le (L := [some (.inl x0), some (.inr (.inl (w64 (x1 * x6)))), none, some (.inl x3), some (.inl r1), some (.inl (w32 (x5 + 1))), none, none, none]) ⟨rfl, ⟨rfl, ⟨rfl, ⟨rfl, ⟨rfl, trivial⟩⟩⟩⟩⟩ h1a2
  · have h2 := h.2 (Int.not_le.mp hc)
    refine ev_seg (σ1 := ((d + 1), 206, 65, [some (.inl x0), some (.inr (.inl x1)), none, some (.inl x3), some (.inl x4), some (.inl x5), some (.inr (.inl x6)), none, some (.inl x8)], [.inl x5, .inl x3], (am_sh, am_mm U))) 2 (fun _ => rfl) ?_
    refine ev_irem rfl h2.1 ?_
    show Ev (am_kz N X) ((d + 1), 206, 66, [some (.inl x0), some (.inr (.inl x1)), none, some (.inl x3), some (.inl x4), some (.inl x5), some (.inr (.inl x6)), none, some (.inl x8)], [.inl (Int.tmod x3 x5)], (am_sh, am_mm U)) R
    have h2a := h2.2
    refine ev_br (P := ¬ (Int.tmod x3 x5) = 0) (σ1 := ((d + 1), 206, 90, [some (.inl x0), some (.inr (.inl x1)), none, some (.inl x3), some (.inl x4), some (.inl x5), some (.inr (.inl x6)), none, some (.inl x8)], [], (am_sh, am_mm U))) (σ2 := ((d + 1), 206, 69, [some (.inl x0), some (.inr (.inl x1)), none, some (.inl x3), some (.inl x4), some (.inl x5), some (.inr (.inl x6)), none, some (.inl x8)], [], (am_sh, am_mm U))) 1 (fun _ => rfl) (fun hc => ?_) (fun hc => ?_)
    · have h2a1 := h2a.1 hc
      refine ev_seg (σ1 := ((d + 1), 206, 96, [some (.inl x0), some (.inr (.inl (w64 (x1 * x6)))), none, some (.inl x3), some (.inl x4), some (.inl x5), some (.inr (.inl x6)), none, some (.inl x8)], [.inl x3], (am_sh, am_mm U))) 5 (fun _ => rfl) ?_
      obtain ⟨r2, U2, h2a1c, h2a1a⟩ := h2a1
      refine ev_cal (σc := (Nm_isPrime_s0 d x3 U)) (fun _ => rfl) h2a1c ?_
      show Ev (am_kz N X) ((d + 1), 206, 99, [some (.inl x0), some (.inr (.inl (w64 (x1 * x6)))), none, some (.inl x3), some (.inl x4), some (.inl x5), some (.inr (.inl x6)), none, some (.inl x8)], [.inl r2], (am_sh, am_mm U2)) R
      refine ev_br (P := ¬ x5 = 2) (σ1 := ((d + 1), 206, 113, [some (.inl x0), some (.inr (.inl (w64 (x1 * x6)))), none, some (.inl x3), some (.inl r2), some (.inl x5), some (.inr (.inl x6)), none, some (.inl x8)], [.inl x5], (am_sh, am_mm U2))) (σ2 := ((d + 1), 206, 109, [some (.inl x0), some (.inr (.inl (w64 (x1 * x6)))), none, some (.inl x3), some (.inl r2), some (.inl x5), some (.inr (.inl x6)), none, some (.inl x8)], [.inl x5], (am_sh, am_mm U2))) 5 (fun _ => rfl) (fun hc => ?_) (fun hc => ?_)
      · have h2a1a1 := h2a1a.1 hc
        refine ev_seg (σ1 := ((d + 1), 206, 20, [some (.inl x0), some (.inr (.inl (w64 (x1 * x6)))), none, some (.inl x3), some (.inl r2), some (.inl (w32 (x5 + 2))), some (.inr (.inl x6)), none, some (.inl x8)], [], (am_sh, am_mm U2))) 4 (fun _ => rfl) ?_
        exact ev_le (L := [some (.inl x0), some (.inr (.inl (w64 (x1 * x6)))), none, some (.inl x3), some (.inl r2), some (.inl (w32 (x5 + 2))), none, none, none]) ⟨rfl, ⟨rfl, ⟨rfl, ⟨rfl, ⟨rfl, trivial⟩⟩⟩⟩⟩ h2a1a1
      · have h2a1a2 := h2a1a.2 (Decidable.not_not.mp hc)
        refine ev_seg (σ1 := ((d + 1), 206, 20, [some (.inl x0), some (.inr (.inl (w64 (x1 * x6)))), none, some (.inl x3), some (.inl r2), some (.inl (w32 (x5 + 1))), some (.inr (.inl x6)), none, some (.inl x8)], [], (am_sh, am_mm U2))) 5 (fun _ => rfl) ?_
        exact ev_le (L := [some (.inl x0), some (.inr (.inl (w64 (x1 * x6)))), none, some (.inl x3), some (.inl r2), some (.inl (w32 (x5 + 1))), none, none, none]) ⟨rfl, ⟨rfl, ⟨rfl, ⟨rfl, ⟨rfl, trivial⟩⟩⟩⟩⟩ h2a1a2
    · have h2a2 := h2a.2 (Decidable.not_not.mp hc)
      refine ev_seg (σ1 := ((d + 1), 206, 72, [some (.inl x0), some (.inr (.inl x1)), none, some (.inl x3), some (.inl x4), some (.inl x5), some (.inr (.inl x6)), none, some (.inl x8)], [.inl x5, .inl x3], (am_sh, am_mm U))) 2 (fun _ => rfl) ?_
      refine ev_idiv rfl h2a2.1 ?_
      show Ev (am_kz N X) ((d + 1), 206, 73, [some (.inl x0), some (.inr (.inl x1)), none, some (.inl x3), some (.inl x4), some (.inl x5), some (.inr (.inl x6)), none, some (.inl x8)], [.inl (w32 (Int.tdiv x3 x5))], (am_sh, am_mm U)) R
      have h2a2a := h2a2.2
      refine ev_seg (σ1 := ((d + 1), 206, 55, [some (.inl x0), some (.inr (.inl x1)), none, some (.inl (w32 (Int.tdiv x3 x5))), some (.inl x4), some (.inl x5), some (.inr (.inl (w64 ((w64 (x6 * x5)) + 1)))), none, some (.inl (w32 (x8 + 1)))], [], (am_sh, am_mm U))) 10 (fun _ => rfl) ?_
      exact h2a2a
set_option maxRecDepth 8000 in
theorem M_size_r0 {N : Nat} {X : Nat → Int} {d : Nat} {x0 : Int} {U : am_U} {R : Option am_V × am_M} (h : ((0 ≤ x0) → R = rJ x0 U) ∧ ((x0 < 0) → R = rJ (w64 (-x0)) U)) : EvK N X (M_size_s0 d x0 U) R := by
  show Ev (am_kz N X) (d, 208, 0, [some (.inr (.inl x0)), none], [], (am_sh, am_mm U)) R
  refine ev_br (P := 0 ≤ (am_lcmp x0 0)) (σ1 := (d, 208, 11, [some (.inr (.inl x0)), none], [], (am_sh, am_mm U))) (σ2 := (d, 208, 6, [some (.inr (.inl x0)), none], [], (am_sh, am_mm U))) 4 (fun _ => rfl) (fun hc => ?_) (fun hc => ?_)
  · have h1 := h.1 ((am_lc_ge x0 0).mp hc)
    subst h1
    exact ev_end 2 (fun _ => rfl)
  · have h2 := h.2 ((am_lcn_ge x0 0).mp hc)
    subst h2
    exact ev_end 4 (fun _ => rfl)
set_option maxRecDepth 8000 in
theorem M_passes_r0 {N : Nat} {X : Nat → Int} {d : Nat} {x0 x2 : Int} {U : am_U} {R : Option am_V × am_M} (h : x2 ≠ 0 ∧ (((Int.tmod x0 x2) ≠ 0) → EvK N X (M_passes_s28 (d + 1) x0 x2 (w64 (x0 - 1)) 0 U) R) ∧ (((Int.tmod x0 x2) = 0) → ((x0 ≠ x2) → R = rI 0 U) ∧ ((x0 = x2) → R = rI 1 U))) : EvK N X (M_passes_s0 (d + 1) x0 x2 U) R := by
  show Ev (am_kz N X) ((d + 1), 209, 0, [some (.inr (.inl x0)), none, some (.inr (.inl x2)), none, none, none, none, none, none, none], [], (am_sh, am_mm U)) R
  refine ev_seg (σ1 := ((d + 1), 209, 2, [some (.inr (.inl x0)), none, some (.inr (.inl x2)), none, none, none, none, none, none, none], [.inr (.inl x2), .inr (.inl x0)], (am_sh, am_mm U))) 2 (fun _ => rfl) ?_
  refine ev_lrem rfl h.1 ?_
  show Ev (am_kz N X) ((d + 1), 209, 3, [some (.inr (.inl x0)), none, some (.inr (.inl x2)), none, none, none, none, none, none, none], [.inr (.inl (Int.tmod x0 x2))], (am_sh, am_mm U)) R
  have ha := h.2
  refine ev_br (P := ¬ (am_lcmp (Int.tmod x0 x2) 0) = 0) (σ1 := ((d + 1), 209, 20, [some (.inr (.inl x0)), none, some (.inr (.inl x2)), none, none, none, none, none, none, none], [], (am_sh, am_mm U))) (σ2 := ((d + 1), 209, 8, [some (.inr (.inl x0)), none, some (.inr (.inl x2)), none, none, none, none, none, none, none], [], (am_sh, am_mm U))) 3 (fun _ => rfl) (fun hc => ?_) (fun hc => ?_)
  · have ha1 := ha.1 ((am_lc_ne (Int.tmod x0 x2) 0).mp hc)
    refine ev_seg (σ1 := ((d + 1), 209, 28, [some (.inr (.inl x0)), none, some (.inr (.inl x2)), none, some (.inr (.inl (w64 (x0 - 1)))), none, some (.inl 0), none, none, none], [], (am_sh, am_mm U))) 6 (fun _ => rfl) ?_
    exact ha1
  · have ha2 := ha.2 ((am_lcn_ne (Int.tmod x0 x2) 0).mp hc)
    refine ev_br (P := ¬ (am_lcmp x0 x2) = 0) (σ1 := ((d + 1), 209, 18, [some (.inr (.inl x0)), none, some (.inr (.inl x2)), none, none, none, none, none, none, none], [], (am_sh, am_mm U))) (σ2 := ((d + 1), 209, 14, [some (.inr (.inl x0)), none, some (.inr (.inl x2)), none, none, none, none, none, none, none], [], (am_sh, am_mm U))) 4 (fun _ => rfl) (fun hc => ?_) (fun hc => ?_)
    · have ha21 := ha2.1 ((am_lc_ne x0 x2).mp hc)
      subst ha21
      exact ev_end 2 (fun _ => rfl)
    · have ha22 := ha2.2 ((am_lcn_ne x0 x2).mp hc)
      subst ha22
      exact ev_end 3 (fun _ => rfl)
set_option maxRecDepth 8000 in
theorem M_passes_r28 {N : Nat} {X : Nat → Int} {d : Nat} {x0 x2 x4 x6 : Int} {U : am_U} {R : Option am_V × am_M} (h : (((Int.tmod x4 2) ≠ 0) → ∃ (r1 : Int) (U1 : am_U), EvK N X (M_powered_s0 d x2 x4 x0 U) (rJ r1 U1) ∧ ((r1 = 1) → R = rI 1 U1) ∧ ((r1 ≠ 1) → ((r1 ≠ (w64 (x0 - 1))) → EvK N X (M_passes_s83 (d + 1) x0 x2 x4 x6 r1 1 U1) R) ∧ ((r1 = (w64 (x0 - 1))) → R = rI 1 U1))) ∧ (((Int.tmod x4 2) = 0) → EvK N X (M_passes_s28 (d + 1) x0 x2 (w64 (Int.tdiv x4 2)) (w32 (x6 + 1)) U) R)) : EvK N X (M_passes_s28 (d + 1) x0 x2 x4 x6 U) R := by
  show Ev (am_kz N X) ((d + 1), 209, 28, [some (.inr (.inl x0)), none, some (.inr (.inl x2)), none, some (.inr (.inl x4)), none, some (.inl x6), none, none, none], [], (am_sh, am_mm U)) R
  refine ev_seg (σ1 := ((d + 1), 209, 33, [some (.inr (.inl x0)), none, some (.inr (.inl x2)), none, some (.inr (.inl x4)), none, some (.inl x6), none, none, none], [.inr (.inl 2), .inr (.inl x4)], (am_sh, am_mm U))) 2 (fun _ => rfl) ?_
  refine ev_lrem rfl (by decide) ?_
  show Ev (am_kz N X) ((d + 1), 209, 34, [some (.inr (.inl x0)), none, some (.inr (.inl x2)), none, some (.inr (.inl x4)), none, some (.inl x6), none, none, none], [.inr (.inl (Int.tmod x4 2))], (am_sh, am_mm U)) R
  refine ev_br (P := ¬ (am_lcmp (Int.tmod x4 2) 0) = 0) (σ1 := ((d + 1), 209, 53, [some (.inr (.inl x0)), none, some (.inr (.inl x2)), none, some (.inr (.inl x4)), none, some (.inl x6), none, none, none], [], (am_sh, am_mm U))) (σ2 := ((d + 1), 209, 39, [some (.inr (.inl x0)), none, some (.inr (.inl x2)), none, some (.inr (.inl x4)), none, some (.inl x6), none, none, none], [], (am_sh, am_mm U))) 3 (fun _ => rfl) (fun hc => ?_) (fun hc => ?_)
  · have h1 := h.1 ((am_lc_ne (Int.tmod x4 2) 0).mp hc)
    refine ev_seg (σ1 := ((d + 1), 209, 57, [some (.inr (.inl x0)), none, some (.inr (.inl x2)), none, some (.inr (.inl x4)), none, some (.inl x6), none, none, none], [.inr (.inl x0), .inr (.inl x4), .inr (.inl x2)], (am_sh, am_mm U))) 3 (fun _ => rfl) ?_
    obtain ⟨r1, U1, h1c, h1a⟩ := h1
    refine ev_cal (σc := (M_powered_s0 d x2 x4 x0 U)) (fun _ => rfl) h1c ?_
    show Ev (am_kz N X) ((d + 1), 209, 60, [some (.inr (.inl x0)), none, some (.inr (.inl x2)), none, some (.inr (.inl x4)), none, some (.inl x6), none, none, none], [.inr (.inl r1)], (am_sh, am_mm U1)) R
    refine ev_br (P := (am_lcmp r1 1) = 0) (σ1 := ((d + 1), 209, 78, [some (.inr (.inl x0)), none, some (.inr (.inl x2)), none, some (.inr (.inl x4)), none, some (.inl x6), some (.inr (.inl r1)), none, none], [], (am_sh, am_mm U1))) (σ2 := ((d + 1), 209, 69, [some (.inr (.inl x0)), none, some (.inr (.inl x2)), none, some (.inr (.inl x4)), none, some (.inl x6), some (.inr (.inl r1)), none, none], [], (am_sh, am_mm U1))) 5 (fun _ => rfl) (fun hc => ?_) (fun hc => ?_)
    · have h1a1 := h1a.1 ((am_lc_eq r1 1).mp hc)
      subst h1a1
      exact ev_end 2 (fun _ => rfl)
    · have h1a2 := h1a.2 ((am_lcn_eq r1 1).mp hc)
      refine ev_br (P := ¬ (am_lcmp r1 (w64 (x0 - 1))) = 0) (σ1 := ((d + 1), 209, 80, [some (.inr (.inl x0)), none, some (.inr (.inl x2)), none, some (.inr (.inl x4)), none, some (.inl x6), some (.inr (.inl r1)), none, none], [], (am_sh, am_mm U1))) (σ2 := ((d + 1), 209, 78, [some (.inr (.inl x0)), none, some (.inr (.inl x2)), none, some (.inr (.inl x4)), none, some (.inl x6), some (.inr (.inl r1)), none, none], [], (am_sh, am_mm U1))) 6 (fun _ => rfl) (fun hc => ?_) (fun hc => ?_)
      · have h1a21 := h1a2.1 ((am_lc_ne r1 (w64 (x0 - 1))).mp hc)
        refine ev_seg (σ1 := ((d + 1), 209, 83, [some (.inr (.inl x0)), none, some (.inr (.inl x2)), none, some (.inr (.inl x4)), none, some (.inl x6), some (.inr (.inl r1)), none, some (.inl 1)], [], (am_sh, am_mm U1))) 2 (fun _ => rfl) ?_
        exact h1a21
      · have h1a22 := h1a2.2 ((am_lcn_ne r1 (w64 (x0 - 1))).mp hc)
        subst h1a22
        exact ev_end 2 (fun _ => rfl)
  · have h2 := h.2 ((am_lcn_ne (Int.tmod x4 2) 0).mp hc)
    refine ev_seg (σ1 := ((d + 1), 209, 44, [some (.inr (.inl x0)), none, some (.inr (.inl x2)), none, some (.inr (.inl x4)), none, some (.inl x6), none, none, none], [.inr (.inl 2), .inr (.inl x4)], (am_sh, am_mm U))) 2 (fun _ => rfl) ?_
    refine ev_ldiv rfl (by decide) ?_
    show Ev (am_kz N X) ((d + 1), 209, 45, [some (.inr (.inl x0)), none, some (.inr (.inl x2)), none, some (.inr (.inl x4)), none, some (.inl x6), none, none, none], [.inr (.inl (w64 (Int.tdiv x4 2)))], (am_sh, am_mm U)) R
    refine ev_seg (σ1 := ((d + 1), 209, 28, [some (.inr (.inl x0)), none, some (.inr (.inl x2)), none, some (.inr (.inl (w64 (Int.tdiv x4 2)))), none, some (.inl (w32 (x6 + 1))), none, none, none], [], (am_sh, am_mm U))) 3 (fun _ => rfl) ?_
    exact h2
set_option maxRecDepth 8000 in
theorem M_passes_r83 {N : Nat} {X : Nat → Int} {d : Nat} {x0 x2 x4 x6 x7 x9 : Int} {U : am_U} {R : Option am_V × am_M} (h : ((x6 ≤ x9) → R = rI 0 U) ∧ ((x9 < x6) → x0 ≠ 0 ∧ (((Int.tmod (w64 (x7 * x7)) x0) ≠ (w64 (x0 - 1))) → EvK N X (M_passes_s83 (d + 1) x0 x2 x4 x6 (Int.tmod (w64 (x7 * x7)) x0) (w32 (x9 + 1)) U) R) ∧ (((Int.tmod (w64 (x7 * x7)) x0) = (w64 (x0 - 1))) → R = rI 1 U))) : EvK N X (M_passes_s83 (d + 1) x0 x2 x4 x6 x7 x9 U) R := by
  show Ev (am_kz N X) ((d + 1), 209, 83, [some (.inr (.inl x0)), none, some (.inr (.inl x2)), none, some (.inr (.inl x4)), none, some (.inl x6), some (.inr (.inl x7)), none, some (.inl x9)], [], (am_sh, am_mm U)) R
  refine ev_br (P := x6 ≤ x9) (σ1 := ((d + 1), 209, 116, [some (.inr (.inl x0)), none, some (.inr (.inl x2)), none, some (.inr (.inl x4)), none, some (.inl x6), some (.inr (.inl x7)), none, some (.inl x9)], [], (am_sh, am_mm U))) (σ2 := ((d + 1), 209, 90, [some (.inr (.inl x0)), none, some (.inr (.inl x2)), none, some (.inr (.inl x4)), none, some (.inl x6), some (.inr (.inl x7)), none, some (.inl x9)], [], (am_sh, am_mm U))) 3 (fun _ => rfl) (fun hc => ?_) (fun hc => ?_)
  · have h1 := h.1 hc
    subst h1
    exact ev_end 2 (fun _ => rfl)
  · have h2 := h.2 (Int.not_le.mp hc)
    refine ev_seg (σ1 := ((d + 1), 209, 96, [some (.inr (.inl x0)), none, some (.inr (.inl x2)), none, some (.inr (.inl x4)), none, some (.inl x6), some (.inr (.inl x7)), none, some (.inl x9)], [.inr (.inl x0), .inr (.inl (w64 (x7 * x7)))], (am_sh, am_mm U))) 4 (fun _ => rfl) ?_
    refine ev_lrem rfl h2.1 ?_
    show Ev (am_kz N X) ((d + 1), 209, 97, [some (.inr (.inl x0)), none, some (.inr (.inl x2)), none, some (.inr (.inl x4)), none, some (.inl x6), some (.inr (.inl x7)), none, some (.inl x9)], [.inr (.inl (Int.tmod (w64 (x7 * x7)) x0))], (am_sh, am_mm U)) R
    have h2a := h2.2
    refine ev_br (P := ¬ (am_lcmp (Int.tmod (w64 (x7 * x7)) x0) (w64 (x0 - 1))) = 0) (σ1 := ((d + 1), 209, 110, [some (.inr (.inl x0)), none, some (.inr (.inl x2)), none, some (.inr (.inl x4)), none, some (.inl x6), some (.inr (.inl (Int.tmod (w64 (x7 * x7)) x0))), none, some (.inl x9)], [], (am_sh, am_mm U))) (σ2 := ((d + 1), 209, 108, [some (.inr (.inl x0)), none, some (.inr (.inl x2)), none, some (.inr (.inl x4)), none, some (.inl x6), some (.inr (.inl (Int.tmod (w64 (x7 * x7)) x0))), none, some (.inl x9)], [], (am_sh, am_mm U))) 7 (fun _ => rfl) (fun hc => ?_) (fun hc => ?_)
    · have h2a1 := h2a.1 ((am_lc_ne (Int.tmod (w64 (x7 * x7)) x0) (w64 (x0 - 1))).mp hc)
      refine ev_seg (σ1 := ((d + 1), 209, 83, [some (.inr (.inl x0)), none, some (.inr (.inl x2)), none, some (.inr (.inl x4)), none, some (.inl x6), some (.inr (.inl (Int.tmod (w64 (x7 * x7)) x0))), none, some (.inl (w32 (x9 + 1)))], [], (am_sh, am_mm U))) 2 (fun _ => rfl) ?_
      exact h2a1
    · have h2a2 := h2a.2 ((am_lcn_ne (Int.tmod (w64 (x7 * x7)) x0) (w64 (x0 - 1))).mp hc)
      subst h2a2
      exact ev_end 2 (fun _ => rfl)
set_option maxRecDepth 8000 in
theorem M_isNear_r0 {N : Nat} {X : Nat → Int} {d : Nat} {x1 x2 : Int} {U : am_U} {R : Option am_V × am_M} (h : ∃ (r1 : Int) (U1 : am_U), EvK N X (M_isPair_s0 d 0 2 x1 x2 U) (rI r1 U1) ∧ ((r1 ≠ 0) → R = rI 1 U1) ∧ ((r1 = 0) → ∃ (r2 : Int) (U2 : am_U), EvK N X (M_isPair_s0 d 0 1 x1 x2 U1) (rI r2 U2) ∧ ((r2 = 0) → R = rI 0 U2) ∧ ((r2 ≠ 0) → R = rI 1 U2))) : EvK N X (M_isNear_s0 (d + 1) x1 x2 U) R := by
  show Ev (am_kz N X) ((d + 1), 207, 0, [some (.inr (.inr 86)), some (.inl x1), some (.inl x2)], [], (am_sh, am_mm U)) R
  refine ev_seg (σ1 := ((d + 1), 207, 5, [some (.inr (.inr 86)), some (.inl x1), some (.inl x2)], [.inl x2, .inl x1, .inl 2, .inl 0, .inr (.inr 86)], (am_sh, am_mm U))) 5 (fun _ => rfl) ?_
  obtain ⟨r1, U1, hc, ha⟩ := h
  refine ev_cal (σc := (M_isPair_s0 d 0 2 x1 x2 U)) (fun _ => rfl) hc ?_
  show Ev (am_kz N X) ((d + 1), 207, 8, [some (.inr (.inr 86)), some (.inl x1), some (.inl x2)], [.inl r1], (am_sh, am_mm U1)) R
  refine ev_br (P := ¬ r1 = 0) (σ1 := ((d + 1), 207, 22, [some (.inr (.inr 86)), some (.inl x1), some (.inl x2)], [], (am_sh, am_mm U1))) (σ2 := ((d + 1), 207, 11, [some (.inr (.inr 86)), some (.inl x1), some (.inl x2)], [], (am_sh, am_mm U1))) 1 (fun _ => rfl) (fun hc => ?_) (fun hc => ?_)
  · have ha1 := ha.1 hc
    subst ha1
    exact ev_end 3 (fun _ => rfl)
  · have ha2 := ha.2 (Decidable.not_not.mp hc)
    refine ev_seg (σ1 := ((d + 1), 207, 16, [some (.inr (.inr 86)), some (.inl x1), some (.inl x2)], [.inl x2, .inl x1, .inl 1, .inl 0, .inr (.inr 86)], (am_sh, am_mm U1))) 5 (fun _ => rfl) ?_
    obtain ⟨r2, U2, ha2c, ha2a⟩ := ha2
    refine ev_cal (σc := (M_isPair_s0 d 0 1 x1 x2 U1)) (fun _ => rfl) ha2c ?_
    show Ev (am_kz N X) ((d + 1), 207, 19, [some (.inr (.inr 86)), some (.inl x1), some (.inl x2)], [.inl r2], (am_sh, am_mm U2)) R
    refine ev_br (P := r2 = 0) (σ1 := ((d + 1), 207, 26, [some (.inr (.inr 86)), some (.inl x1), some (.inl x2)], [], (am_sh, am_mm U2))) (σ2 := ((d + 1), 207, 22, [some (.inr (.inr 86)), some (.inl x1), some (.inl x2)], [], (am_sh, am_mm U2))) 1 (fun _ => rfl) (fun hc => ?_) (fun hc => ?_)
    · have ha2a1 := ha2a.1 hc
      subst ha2a1
      exact ev_end 2 (fun _ => rfl)
    · have ha2a2 := ha2a.2 hc
      subst ha2a2
      exact ev_end 3 (fun _ => rfl)
set_option maxRecDepth 8000 in
theorem Jg_isInBreach_r0 {N : Nat} {X : Nat → Int} {d : Nat} {x1 : Int} {U : am_U} {R : Option am_V × am_M} (h : ∃ (r1 : Int) (U1 : am_U), EvK N X (Jg_within_s0 d x1 U) (rI r1 U1) ∧ ∃ (r2 : Int) (U2 : am_U), EvK N X (Jg_besides_s0 d x1 U1) (rI r2 U2) ∧ EvK N X (Jg_isInBreach_s14 (d + 1) x1 (am_or r1 r2) 0 U2) R) : EvK N X (Jg_isInBreach_s0 (d + 1) x1 U) R := by
  show Ev (am_kz N X) ((d + 1), 210, 0, [some (.inr (.inr 45)), some (.inl x1), none, none, none], [], (am_sh, am_mm U)) R
  refine ev_seg (σ1 := ((d + 1), 210, 2, [some (.inr (.inr 45)), some (.inl x1), none, none, none], [.inl x1, .inr (.inr 45)], (am_sh, am_mm U))) 2 (fun _ => rfl) ?_
  obtain ⟨r1, U1, hc, ha⟩ := h
  refine ev_cal (σc := (Jg_within_s0 d x1 U)) (fun _ => rfl) hc ?_
  show Ev (am_kz N X) ((d + 1), 210, 5, [some (.inr (.inr 45)), some (.inl x1), none, none, none], [.inl r1], (am_sh, am_mm U1)) R
  refine ev_seg (σ1 := ((d + 1), 210, 7, [some (.inr (.inr 45)), some (.inl x1), none, none, none], [.inl x1, .inr (.inr 45), .inl r1], (am_sh, am_mm U1))) 2 (fun _ => rfl) ?_
  obtain ⟨r2, U2, hac, haa⟩ := ha
  refine ev_cal (σc := (Jg_besides_s0 d x1 U1)) (fun _ => rfl) hac ?_
  show Ev (am_kz N X) ((d + 1), 210, 10, [some (.inr (.inr 45)), some (.inl x1), none, none, none], [.inl r2, .inl r1], (am_sh, am_mm U2)) R
  refine ev_seg (σ1 := ((d + 1), 210, 14, [some (.inr (.inr 45)), some (.inl x1), some (.inl (am_or r1 r2)), some (.inl 0), none], [], (am_sh, am_mm U2))) 4 (fun _ => rfl) ?_
  exact haa
set_option maxRecDepth 8000 in
theorem Jg_isInBreach_r14 {N : Nat} {X : Nat → Int} {d : Nat} {x1 x2 x3 : Int} {U : am_U} {R : Option am_V × am_M} (h : (((U 3 4) ≤ x3) → R = rI 0 U) ∧ ((x3 < (U 3 4)) → ∃ (r1 : Int) (U1 : am_U), EvK N X (Jg_breaks_s0 d x3 x1 (-1) U) (rI r1 U1) ∧ ((r1 = 0) → EvK N X (Jg_isInBreach_s40 (d + 1) x1 x2 x3 0 U1) R) ∧ ((r1 ≠ 0) → R = rI 1 U1))) : EvK N X (Jg_isInBreach_s14 (d + 1) x1 x2 x3 U) R := by
  show Ev (am_kz N X) ((d + 1), 210, 14, [some (.inr (.inr 45)), some (.inl x1), some (.inl x2), some (.inl x3), none], [], (am_sh, am_mm U)) R
  refine ev_br (P := (U 3 4) ≤ x3) (σ1 := ((d + 1), 210, 89, [some (.inr (.inr 45)), some (.inl x1), some (.inl x2), some (.inl x3), none], [], (am_sh, am_mm U))) (σ2 := ((d + 1), 210, 25, [some (.inr (.inr 45)), some (.inl x1), some (.inl x2), some (.inl x3), none], [], (am_sh, am_mm U))) 5 (fun _ => rfl) (fun hc => ?_) (fun hc => ?_)
  · have h1 := h.1 hc
    subst h1
    exact ev_end 2 (fun _ => rfl)
  · have h2 := h.2 (Int.not_le.mp hc)
    refine ev_seg (σ1 := ((d + 1), 210, 29, [some (.inr (.inr 45)), some (.inl x1), some (.inl x2), some (.inl x3), none], [.inl (-1), .inl x1, .inl x3, .inr (.inr 45)], (am_sh, am_mm U))) 4 (fun _ => rfl) ?_
    obtain ⟨r1, U1, h2c, h2a⟩ := h2
    refine ev_cal (σc := (Jg_breaks_s0 d x3 x1 (-1) U)) (fun _ => rfl) h2c ?_
    show Ev (am_kz N X) ((d + 1), 210, 32, [some (.inr (.inr 45)), some (.inl x1), some (.inl x2), some (.inl x3), none], [.inl r1], (am_sh, am_mm U1)) R
    refine ev_br (P := r1 = 0) (σ1 := ((d + 1), 210, 37, [some (.inr (.inr 45)), some (.inl x1), some (.inl x2), some (.inl x3), none], [], (am_sh, am_mm U1))) (σ2 := ((d + 1), 210, 35, [some (.inr (.inr 45)), some (.inl x1), some (.inl x2), some (.inl x3), none], [], (am_sh, am_mm U1))) 1 (fun _ => rfl) (fun hc => ?_) (fun hc => ?_)
    · have h2a1 := h2a.1 hc
      refine ev_seg (σ1 := ((d + 1), 210, 40, [some (.inr (.inr 45)), some (.inl x1), some (.inl x2), some (.inl x3), some (.inl 0)], [], (am_sh, am_mm U1))) 2 (fun _ => rfl) ?_
      exact h2a1
    · have h2a2 := h2a.2 hc
      subst h2a2
      exact ev_end 2 (fun _ => rfl)
set_option maxRecDepth 8000 in
theorem Jg_isInBreach_r40 {N : Nat} {X : Nat → Int} {d : Nat} {x1 x2 x3 x4 : Int} {U : am_U} {R : Option am_V × am_M} (h : (((U 16 0) ≤ x4) → EvK N X (Jg_isInBreach_s14 (d + 1) x1 x2 (w32 (x3 + 1)) U) R) ∧ ((x4 < (U 16 0)) → (((am_and (am_shr x2 x4) 1) ≠ 1) → EvK N X (Jg_isInBreach_s40 (d + 1) x1 x2 x3 (w32 (x4 + 1)) U) R) ∧ (((am_and (am_shr x2 x4) 1) = 1) → ∃ (r1 : Int) (U1 : am_U), EvK N X (Jg_breaks_s0 d x3 x4 (am_shl 1 x1) U) (rI r1 U1) ∧ ((r1 = 0) → EvK N X (Jg_isInBreach_s40 (d + 1) x1 x2 x3 (w32 (x4 + 1)) U1) R) ∧ ((r1 ≠ 0) → R = rI 1 U1)))) : EvK N X (Jg_isInBreach_s40 (d + 1) x1 x2 x3 x4 U) R := by
  show Ev (am_kz N X) ((d + 1), 210, 40, [some (.inr (.inr 45)), some (.inl x1), some (.inl x2), some (.inl x3), some (.inl x4)], [], (am_sh, am_mm U)) R
  refine ev_br (P := (U 16 0) ≤ x4) (σ1 := ((d + 1), 210, 83, [some (.inr (.inr 45)), some (.inl x1), some (.inl x2), some (.inl x3), some (.inl x4)], [], (am_sh, am_mm U))) (σ2 := ((d + 1), 210, 52, [some (.inr (.inr 45)), some (.inl x1), some (.inl x2), some (.inl x3), some (.inl x4)], [], (am_sh, am_mm U))) 5 (fun _ => rfl) (fun hc => ?_) (fun hc => ?_)
  · have h1 := h.1 hc
    refine ev_seg (σ1 := ((d + 1), 210, 14, [some (.inr (.inr 45)), some (.inl x1), some (.inl x2), some (.inl (w32 (x3 + 1))), some (.inl x4)], [], (am_sh, am_mm U))) 2 (fun _ => rfl) ?_
    exact ev_le (L := [some (.inr (.inr 45)), some (.inl x1), some (.inl x2), some (.inl (w32 (x3 + 1))), none]) ⟨rfl, ⟨rfl, ⟨rfl, ⟨rfl, trivial⟩⟩⟩⟩ h1
  · have h2 := h.2 (Int.not_le.mp hc)
    refine ev_br (P := ¬ (am_and (am_shr x2 x4) 1) = 1) (σ1 := ((d + 1), 210, 77, [some (.inr (.inr 45)), some (.inl x1), some (.inl x2), some (.inl x3), some (.inl x4)], [], (am_sh, am_mm U))) (σ2 := ((d + 1), 210, 62, [some (.inr (.inr 45)), some (.inl x1), some (.inl x2), some (.inl x3), some (.inl x4)], [], (am_sh, am_mm U))) 7 (fun _ => rfl) (fun hc => ?_) (fun hc => ?_)
    · have h21 := h2.1 hc
      refine ev_seg (σ1 := ((d + 1), 210, 40, [some (.inr (.inr 45)), some (.inl x1), some (.inl x2), some (.inl x3), some (.inl (w32 (x4 + 1)))], [], (am_sh, am_mm U))) 2 (fun _ => rfl) ?_
      exact h21
    · have h22 := h2.2 (Decidable.not_not.mp hc)
      refine ev_seg (σ1 := ((d + 1), 210, 69, [some (.inr (.inr 45)), some (.inl x1), some (.inl x2), some (.inl x3), some (.inl x4)], [.inl (am_shl 1 x1), .inl x4, .inl x3, .inr (.inr 45)], (am_sh, am_mm U))) 6 (fun _ => rfl) ?_
      obtain ⟨r1, U1, h22c, h22a⟩ := h22
      refine ev_cal (σc := (Jg_breaks_s0 d x3 x4 (am_shl 1 x1) U)) (fun _ => rfl) h22c ?_
      show Ev (am_kz N X) ((d + 1), 210, 72, [some (.inr (.inr 45)), some (.inl x1), some (.inl x2), some (.inl x3), some (.inl x4)], [.inl r1], (am_sh, am_mm U1)) R
      refine ev_br (P := r1 = 0) (σ1 := ((d + 1), 210, 77, [some (.inr (.inr 45)), some (.inl x1), some (.inl x2), some (.inl x3), some (.inl x4)], [], (am_sh, am_mm U1))) (σ2 := ((d + 1), 210, 75, [some (.inr (.inr 45)), some (.inl x1), some (.inl x2), some (.inl x3), some (.inl x4)], [], (am_sh, am_mm U1))) 1 (fun _ => rfl) (fun hc => ?_) (fun hc => ?_)
      · have h22a1 := h22a.1 hc
        refine ev_seg (σ1 := ((d + 1), 210, 40, [some (.inr (.inr 45)), some (.inl x1), some (.inl x2), some (.inl x3), some (.inl (w32 (x4 + 1)))], [], (am_sh, am_mm U1))) 2 (fun _ => rfl) ?_
        exact h22a1
      · have h22a2 := h22a.2 hc
        subst h22a2
        exact ev_end 2 (fun _ => rfl)
set_option maxRecDepth 8000 in
theorem Ar_fill_II_51_r0 {N : Nat} {X : Nat → Int} {d : Nat} {x1 : Int} {U : am_U} {R : Option am_V × am_M} (h : EvK N X (Ar_fill_II_51_s5 d x1 0 48 U) R) : EvK N X (Ar_fill_II_51_s0 d x1 U) R := by
  show Ev (am_kz N X) (d, 211, 0, [some (.inr (.inr 51)), some (.inl x1), none, none], [], (am_sh, am_mm U)) R
  refine ev_seg (σ1 := (d, 211, 5, [some (.inr (.inr 51)), some (.inl x1), some (.inl 0), some (.inl 48)], [], (am_sh, am_mm U))) 5 (fun _ => rfl) ?_
  exact h
set_option maxRecDepth 8000 in
theorem Ar_fill_II_51_r5 {N : Nat} {X : Nat → Int} {d : Nat} {x1 x2 x3 : Int} {U : am_U} {R : Option am_V × am_M} (h : ((x3 ≤ x2) → R = rV U) ∧ ((x2 < x3) → (0 ≤ x2 ∧ x2 < 48) ∧ EvK N X (Ar_fill_II_51_s5 d x1 (w32 (x2 + 1)) x3 (am_upd U 51 x2.toNat x1)) R)) : EvK N X (Ar_fill_II_51_s5 d x1 x2 x3 U) R := by
  show Ev (am_kz N X) (d, 211, 5, [some (.inr (.inr 51)), some (.inl x1), some (.inl x2), some (.inl x3)], [], (am_sh, am_mm U)) R
  refine ev_br (P := x3 ≤ x2) (σ1 := (d, 211, 20, [some (.inr (.inr 51)), some (.inl x1), some (.inl x2), some (.inl x3)], [], (am_sh, am_mm U))) (σ2 := (d, 211, 10, [some (.inr (.inr 51)), some (.inl x1), some (.inl x2), some (.inl x3)], [], (am_sh, am_mm U))) 3 (fun _ => rfl) (fun hc => ?_) (fun hc => ?_)
  · have h1 := h.1 hc
    subst h1
    exact ev_end 1 (fun _ => rfl)
  · have h2 := h.2 (Int.not_le.mp hc)
    refine ev_seg (σ1 := (d, 211, 13, [some (.inr (.inr 51)), some (.inl x1), some (.inl x2), some (.inl x3)], [.inl x1, .inl x2, .inr (.inr 51)], (am_sh, am_mm U))) 3 (fun _ => rfl) ?_
    refine eu_iast 51 (n := 48) rfl (by decide) rfl (fun _ => rfl) h2.1 ?_
    show Ev (am_kz N X) (d, 211, 14, [some (.inr (.inr 51)), some (.inl x1), some (.inl x2), some (.inl x3)], [], (am_sh, am_mm (am_upd U 51 x2.toNat x1))) R
    have h2a := h2.2
    refine ev_seg (σ1 := (d, 211, 5, [some (.inr (.inr 51)), some (.inl x1), some (.inl (w32 (x2 + 1))), some (.inl x3)], [], (am_sh, am_mm (am_upd U 51 x2.toNat x1)))) 2 (fun _ => rfl) ?_
    exact h2a
set_option maxRecDepth 8000 in
theorem Pl_settleAll_r0 {N : Nat} {X : Nat → Int} {d : Nat} {x1 : Int} {U : am_U} {R : Option am_V × am_M} (h : EvK N X (Pl_settleAll_s27 (d + 1) x1 (w32 ((if 0 < (U 3 1) then (U 3 1) else 0) + 1)) x1 0 (w32 ((U 48 6) - 1)) U) R) : EvK N X (Pl_settleAll_s0 (d + 1) x1 U) R := by
  show Ev (am_kz N X) ((d + 1), 212, 0, [some (.inr (.inr 48)), some (.inl x1), none, none, none, none, none], [], (am_sh, am_mm U)) R
  refine ev_seg (σ1 := ((d + 1), 212, 27, [some (.inr (.inr 48)), some (.inl x1), some (.inl (w32 ((if 0 < (U 3 1) then (U 3 1) else 0) + 1))), some (.inl x1), some (.inl 0), some (.inl (w32 ((U 48 6) - 1))), none], [], (am_sh, am_mm U))) 17 (fun _ => rfl) ?_
  exact h
set_option maxRecDepth 8000 in
theorem Pl_settleAll_r27 {N : Nat} {X : Nat → Int} {d : Nat} {x1 x2 x3 x4 x5 : Int} {U : am_U} {R : Option am_V × am_M} (h : ((x5 < 0) → R = rI x4 U) ∧ ((0 ≤ x5) → x2 ≠ 0 ∧ x2 ≠ 0 ∧ (((U 3 1) ≤ (Int.tmod x3 x2)) → EvK N X (Pl_settleAll_s27 (d + 1) x1 x2 (w32 (Int.tdiv x3 x2)) x4 (w32 (x5 + (-1))) U) R) ∧ (((Int.tmod x3 x2) < (U 3 1)) → ∃ (r1 : Int) (U1 : am_U), EvK N X (Fk_living_16_s0 d (Int.tmod x3 x2) U) (rI r1 U1) ∧ (0 ≤ (Int.tmod x3 x2) ∧ (Int.tmod x3 x2) < 12) ∧ ((r1 < (U1 8 ((Int.tmod x3 x2).toNat))) → (0 ≤ x5 ∧ x5 < 3) ∧ ∃ U2 : am_U, EvK N X (Fk_settle_16_s0 d (U1 49 x5.toNat) (Int.tmod x3 x2) U1) (rV U2) ∧ EvK N X (Pl_settleAll_s27 (d + 1) x1 x2 (w32 (Int.tdiv x3 x2)) (w32 (x4 + 1)) (w32 (x5 + (-1))) U2) R) ∧ (((U1 8 ((Int.tmod x3 x2).toNat)) ≤ r1) → R = rI (-1) U1)))) : EvK N X (Pl_settleAll_s27 (d + 1) x1 x2 x3 x4 x5 U) R := by
  show Ev (am_kz N X) ((d + 1), 212, 27, [some (.inr (.inr 48)), some (.inl x1), some (.inl x2), some (.inl x3), some (.inl x4), some (.inl x5), none], [], (am_sh, am_mm U)) R
  refine ev_br (P := x5 < 0) (σ1 := ((d + 1), 212, 102, [some (.inr (.inr 48)), some (.inl x1), some (.inl x2), some (.inl x3), some (.inl x4), some (.inl x5), none], [], (am_sh, am_mm U))) (σ2 := ((d + 1), 212, 32, [some (.inr (.inr 48)), some (.inl x1), some (.inl x2), some (.inl x3), some (.inl x4), some (.inl x5), none], [], (am_sh, am_mm U))) 2 (fun _ => rfl) (fun hc => ?_) (fun hc => ?_)
  · have h1 := h.1 hc
    subst h1
    exact ev_end 2 (fun _ => rfl)
  · have h2 := h.2 (Int.not_lt.mp hc)
    refine ev_seg (σ1 := ((d + 1), 212, 34, [some (.inr (.inr 48)), some (.inl x1), some (.inl x2), some (.inl x3), some (.inl x4), some (.inl x5), none], [.inl x2, .inl x3], (am_sh, am_mm U))) 2 (fun _ => rfl) ?_
    refine ev_irem rfl h2.1 ?_
    show Ev (am_kz N X) ((d + 1), 212, 35, [some (.inr (.inr 48)), some (.inl x1), some (.inl x2), some (.inl x3), some (.inl x4), some (.inl x5), none], [.inl (Int.tmod x3 x2)], (am_sh, am_mm U)) R
    have h2a := h2.2
    refine ev_seg (σ1 := ((d + 1), 212, 39, [some (.inr (.inr 48)), some (.inl x1), some (.inl x2), some (.inl x3), some (.inl x4), some (.inl x5), some (.inl (Int.tmod x3 x2))], [.inl x2, .inl x3], (am_sh, am_mm U))) 3 (fun _ => rfl) ?_
    refine ev_idiv rfl h2a.1 ?_
    show Ev (am_kz N X) ((d + 1), 212, 40, [some (.inr (.inr 48)), some (.inl x1), some (.inl x2), some (.inl x3), some (.inl x4), some (.inl x5), some (.inl (Int.tmod x3 x2))], [.inl (w32 (Int.tdiv x3 x2))], (am_sh, am_mm U)) R
    have h2aa := h2a.2
    refine ev_br (P := (U 3 1) ≤ (Int.tmod x3 x2)) (σ1 := ((d + 1), 212, 96, [some (.inr (.inr 48)), some (.inl x1), some (.inl x2), some (.inl (w32 (Int.tdiv x3 x2))), some (.inl x4), some (.inl x5), some (.inl (Int.tmod x3 x2))], [], (am_sh, am_mm U))) (σ2 := ((d + 1), 212, 53, [some (.inr (.inr 48)), some (.inl x1), some (.inl x2), some (.inl (w32 (Int.tdiv x3 x2))), some (.inl x4), some (.inl x5), some (.inl (Int.tmod x3 x2))], [], (am_sh, am_mm U))) 6 (fun _ => rfl) (fun hc => ?_) (fun hc => ?_)
    · have h2aa1 := h2aa.1 hc
      refine ev_seg (σ1 := ((d + 1), 212, 27, [some (.inr (.inr 48)), some (.inl x1), some (.inl x2), some (.inl (w32 (Int.tdiv x3 x2))), some (.inl x4), some (.inl (w32 (x5 + (-1)))), some (.inl (Int.tmod x3 x2))], [], (am_sh, am_mm U))) 2 (fun _ => rfl) ?_
      exact ev_le (L := [some (.inr (.inr 48)), some (.inl x1), some (.inl x2), some (.inl (w32 (Int.tdiv x3 x2))), some (.inl x4), some (.inl (w32 (x5 + (-1)))), none]) ⟨rfl, ⟨rfl, ⟨rfl, ⟨rfl, ⟨rfl, ⟨rfl, trivial⟩⟩⟩⟩⟩⟩ h2aa1
    · have h2aa2 := h2aa.2 (Int.not_le.mp hc)
      refine ev_seg (σ1 := ((d + 1), 212, 59, [some (.inr (.inr 48)), some (.inl x1), some (.inl x2), some (.inl (w32 (Int.tdiv x3 x2))), some (.inl x4), some (.inl x5), some (.inl (Int.tmod x3 x2))], [.inl (Int.tmod x3 x2), .inr (.inr 16)], (am_sh, am_mm U))) 3 (fun _ => rfl) ?_
      obtain ⟨r1, U1, h2aa2c, h2aa2a⟩ := h2aa2
      refine ev_cal (σc := (Fk_living_16_s0 d (Int.tmod x3 x2) U)) (fun _ => rfl) h2aa2c ?_
      show Ev (am_kz N X) ((d + 1), 212, 62, [some (.inr (.inr 48)), some (.inl x1), some (.inl x2), some (.inl (w32 (Int.tdiv x3 x2))), some (.inl x4), some (.inl x5), some (.inl (Int.tmod x3 x2))], [.inl r1], (am_sh, am_mm U1)) R
      refine ev_seg (σ1 := ((d + 1), 212, 71, [some (.inr (.inr 48)), some (.inl x1), some (.inl x2), some (.inl (w32 (Int.tdiv x3 x2))), some (.inl x4), some (.inl x5), some (.inl (Int.tmod x3 x2))], [.inl (Int.tmod x3 x2), .inr (.inr 8), .inl r1], (am_sh, am_mm U1))) 4 (fun _ => rfl) ?_
      refine eu_iald 8 (n := 12) rfl (by decide) rfl (fun _ => rfl) h2aa2a.1 ?_
      show Ev (am_kz N X) ((d + 1), 212, 72, [some (.inr (.inr 48)), some (.inl x1), some (.inl x2), some (.inl (w32 (Int.tdiv x3 x2))), some (.inl x4), some (.inl x5), some (.inl (Int.tmod x3 x2))], [.inl (U1 8 ((Int.tmod x3 x2).toNat)), .inl r1], (am_sh, am_mm U1)) R
      have h2aa2aa := h2aa2a.2
      refine ev_br (P := r1 < (U1 8 ((Int.tmod x3 x2).toNat))) (σ1 := ((d + 1), 212, 77, [some (.inr (.inr 48)), some (.inl x1), some (.inl x2), some (.inl (w32 (Int.tdiv x3 x2))), some (.inl x4), some (.inl x5), some (.inl (Int.tmod x3 x2))], [], (am_sh, am_mm U1))) (σ2 := ((d + 1), 212, 75, [some (.inr (.inr 48)), some (.inl x1), some (.inl x2), some (.inl (w32 (Int.tdiv x3 x2))), some (.inl x4), some (.inl x5), some (.inl (Int.tmod x3 x2))], [], (am_sh, am_mm U1))) 1 (fun _ => rfl) (fun hc => ?_) (fun hc => ?_)
      · have h2aa2aa1 := h2aa2aa.1 hc
        refine ev_seg (σ1 := ((d + 1), 212, 87, [some (.inr (.inr 48)), some (.inl x1), some (.inl x2), some (.inl (w32 (Int.tdiv x3 x2))), some (.inl x4), some (.inl x5), some (.inl (Int.tmod x3 x2))], [.inl x5, .inr (.inr 49), .inr (.inr 16)], (am_sh, am_mm U1))) 5 (fun _ => rfl) ?_
        refine eu_iald 49 (n := 3) rfl (by decide) rfl (fun _ => rfl) h2aa2aa1.1 ?_
        show Ev (am_kz N X) ((d + 1), 212, 88, [some (.inr (.inr 48)), some (.inl x1), some (.inl x2), some (.inl (w32 (Int.tdiv x3 x2))), some (.inl x4), some (.inl x5), some (.inl (Int.tmod x3 x2))], [.inl (U1 49 x5.toNat), .inr (.inr 16)], (am_sh, am_mm U1)) R
        have h2aa2aa1a := h2aa2aa1.2
        refine ev_seg (σ1 := ((d + 1), 212, 90, [some (.inr (.inr 48)), some (.inl x1), some (.inl x2), some (.inl (w32 (Int.tdiv x3 x2))), some (.inl x4), some (.inl x5), some (.inl (Int.tmod x3 x2))], [.inl (Int.tmod x3 x2), .inl (U1 49 x5.toNat), .inr (.inr 16)], (am_sh, am_mm U1))) 1 (fun _ => rfl) ?_
        obtain ⟨U2, h2aa2aa1ac, h2aa2aa1aa⟩ := h2aa2aa1a
        refine ev_cal (σc := (Fk_settle_16_s0 d (U1 49 x5.toNat) (Int.tmod x3 x2) U1)) (fun _ => rfl) h2aa2aa1ac ?_
        show Ev (am_kz N X) ((d + 1), 212, 93, [some (.inr (.inr 48)), some (.inl x1), some (.inl x2), some (.inl (w32 (Int.tdiv x3 x2))), some (.inl x4), some (.inl x5), some (.inl (Int.tmod x3 x2))], [], (am_sh, am_mm U2)) R
        refine ev_seg (σ1 := ((d + 1), 212, 27, [some (.inr (.inr 48)), some (.inl x1), some (.inl x2), some (.inl (w32 (Int.tdiv x3 x2))), some (.inl (w32 (x4 + 1))), some (.inl (w32 (x5 + (-1)))), some (.inl (Int.tmod x3 x2))], [], (am_sh, am_mm U2))) 3 (fun _ => rfl) ?_
        exact ev_le (L := [some (.inr (.inr 48)), some (.inl x1), some (.inl x2), some (.inl (w32 (Int.tdiv x3 x2))), some (.inl (w32 (x4 + 1))), some (.inl (w32 (x5 + (-1)))), none]) ⟨rfl, ⟨rfl, ⟨rfl, ⟨rfl, ⟨rfl, ⟨rfl, trivial⟩⟩⟩⟩⟩⟩ h2aa2aa1aa
      · have h2aa2aa2 := h2aa2aa.2 (Int.not_lt.mp hc)
        subst h2aa2aa2
        exact ev_end 2 (fun _ => rfl)
set_option maxRecDepth 8000 in
theorem Pl_sendBack_r0 {N : Nat} {X : Nat → Int} {d : Nat} {U : am_U} {R : Option am_V × am_M} (h : EvK N X (Pl_sendBack_s2 (d + 1) 0 U) R) : EvK N X (Pl_sendBack_s0 (d + 1) U) R := by
  show Ev (am_kz N X) ((d + 1), 215, 0, [some (.inr (.inr 48)), none], [], (am_sh, am_mm U)) R
  refine ev_seg (σ1 := ((d + 1), 215, 2, [some (.inr (.inr 48)), some (.inl 0)], [], (am_sh, am_mm U))) 2 (fun _ => rfl) ?_
  exact h
set_option maxRecDepth 8000 in
theorem Pl_sendBack_r2 {N : Nat} {X : Nat → Int} {d : Nat} {x1 : Int} {U : am_U} {R : Option am_V × am_M} (h : (((U 48 6) ≤ x1) → R = rV U) ∧ ((x1 < (U 48 6)) → (0 ≤ x1 ∧ x1 < 3) ∧ ∃ U1 : am_U, EvK N X (Fk_settle_16_s0 d (U 49 x1.toNat) (-1) U) (rV U1) ∧ EvK N X (Pl_sendBack_s2 (d + 1) (w32 (x1 + 1)) U1) R)) : EvK N X (Pl_sendBack_s2 (d + 1) x1 U) R := by
  show Ev (am_kz N X) ((d + 1), 215, 2, [some (.inr (.inr 48)), some (.inl x1)], [], (am_sh, am_mm U)) R
  refine ev_br (P := (U 48 6) ≤ x1) (σ1 := ((d + 1), 215, 30, [some (.inr (.inr 48)), some (.inl x1)], [], (am_sh, am_mm U))) (σ2 := ((d + 1), 215, 10, [some (.inr (.inr 48)), some (.inl x1)], [], (am_sh, am_mm U))) 4 (fun _ => rfl) (fun hc => ?_) (fun hc => ?_)
  · have h1 := h.1 hc
    subst h1
    exact ev_end 1 (fun _ => rfl)
  · have h2 := h.2 (Int.not_le.mp hc)
    refine ev_seg (σ1 := ((d + 1), 215, 19, [some (.inr (.inr 48)), some (.inl x1)], [.inl x1, .inr (.inr 49), .inr (.inr 16)], (am_sh, am_mm U))) 5 (fun _ => rfl) ?_
    refine eu_iald 49 (n := 3) rfl (by decide) rfl (fun _ => rfl) h2.1 ?_
    show Ev (am_kz N X) ((d + 1), 215, 20, [some (.inr (.inr 48)), some (.inl x1)], [.inl (U 49 x1.toNat), .inr (.inr 16)], (am_sh, am_mm U)) R
    have h2a := h2.2
    refine ev_seg (σ1 := ((d + 1), 215, 21, [some (.inr (.inr 48)), some (.inl x1)], [.inl (-1), .inl (U 49 x1.toNat), .inr (.inr 16)], (am_sh, am_mm U))) 1 (fun _ => rfl) ?_
    obtain ⟨U1, h2ac, h2aa⟩ := h2a
    refine ev_cal (σc := (Fk_settle_16_s0 d (U 49 x1.toNat) (-1) U)) (fun _ => rfl) h2ac ?_
    show Ev (am_kz N X) ((d + 1), 215, 24, [some (.inr (.inr 48)), some (.inl x1)], [], (am_sh, am_mm U1)) R
    refine ev_seg (σ1 := ((d + 1), 215, 2, [some (.inr (.inr 48)), some (.inl (w32 (x1 + 1)))], [], (am_sh, am_mm U1))) 2 (fun _ => rfl) ?_
    exact h2aa
set_option maxRecDepth 8000 in
theorem Pl_isLawful_r0 {N : Nat} {X : Nat → Int} {d : Nat} {U : am_U} {R : Option am_V × am_M} (h : EvK N X (Pl_isLawful_s2 (d + 1) 0 U) R) : EvK N X (Pl_isLawful_s0 (d + 1) U) R := by
  show Ev (am_kz N X) ((d + 1), 213, 0, [some (.inr (.inr 48)), none], [], (am_sh, am_mm U)) R
  refine ev_seg (σ1 := ((d + 1), 213, 2, [some (.inr (.inr 48)), some (.inl 0)], [], (am_sh, am_mm U))) 2 (fun _ => rfl) ?_
  exact h
set_option maxRecDepth 8000 in
theorem Pl_isLawful_r2 {N : Nat} {X : Nat → Int} {d : Nat} {x1 : Int} {U : am_U} {R : Option am_V × am_M} (h : (((U 3 1) ≤ x1) → EvK N X (Pl_isLawful_s31 (d + 1) 0 U) R) ∧ ((x1 < (U 3 1)) → ∃ (r1 : Int) (U1 : am_U), EvK N X (Pl_isTorn_s0 d x1 U) (rI r1 U1) ∧ ((r1 = 0) → EvK N X (Pl_isLawful_s2 (d + 1) (w32 (x1 + 1)) U1) R) ∧ ((r1 ≠ 0) → R = rI 0 U1))) : EvK N X (Pl_isLawful_s2 (d + 1) x1 U) R := by
  show Ev (am_kz N X) ((d + 1), 213, 2, [some (.inr (.inr 48)), some (.inl x1)], [], (am_sh, am_mm U)) R
  refine ev_br (P := (U 3 1) ≤ x1) (σ1 := ((d + 1), 213, 29, [some (.inr (.inr 48)), some (.inl x1)], [], (am_sh, am_mm U))) (σ2 := ((d + 1), 213, 13, [some (.inr (.inr 48)), some (.inl x1)], [], (am_sh, am_mm U))) 5 (fun _ => rfl) (fun hc => ?_) (fun hc => ?_)
  · have h1 := h.1 hc
    refine ev_seg (σ1 := ((d + 1), 213, 31, [some (.inr (.inr 48)), some (.inl 0)], [], (am_sh, am_mm U))) 2 (fun _ => rfl) ?_
    exact h1
  · have h2 := h.2 (Int.not_le.mp hc)
    refine ev_seg (σ1 := ((d + 1), 213, 15, [some (.inr (.inr 48)), some (.inl x1)], [.inl x1, .inr (.inr 48)], (am_sh, am_mm U))) 2 (fun _ => rfl) ?_
    obtain ⟨r1, U1, h2c, h2a⟩ := h2
    refine ev_cal (σc := (Pl_isTorn_s0 d x1 U)) (fun _ => rfl) h2c ?_
    show Ev (am_kz N X) ((d + 1), 213, 18, [some (.inr (.inr 48)), some (.inl x1)], [.inl r1], (am_sh, am_mm U1)) R
    refine ev_br (P := r1 = 0) (σ1 := ((d + 1), 213, 23, [some (.inr (.inr 48)), some (.inl x1)], [], (am_sh, am_mm U1))) (σ2 := ((d + 1), 213, 21, [some (.inr (.inr 48)), some (.inl x1)], [], (am_sh, am_mm U1))) 1 (fun _ => rfl) (fun hc => ?_) (fun hc => ?_)
    · have h2a1 := h2a.1 hc
      refine ev_seg (σ1 := ((d + 1), 213, 2, [some (.inr (.inr 48)), some (.inl (w32 (x1 + 1)))], [], (am_sh, am_mm U1))) 2 (fun _ => rfl) ?_
      exact h2a1
    · have h2a2 := h2a.2 hc
      subst h2a2
      exact ev_end 2 (fun _ => rfl)
set_option maxRecDepth 8000 in
theorem Pl_isLawful_r31 {N : Nat} {X : Nat → Int} {d : Nat} {x1 : Int} {U : am_U} {R : Option am_V × am_M} (h : (((U 48 6) ≤ x1) → R = rI 1 U) ∧ ((x1 < (U 48 6)) → (0 ≤ x1 ∧ x1 < 3) ∧ ∃ (r1 : Int) (U1 : am_U), EvK N X (Jg_isInBreach_s0 d (U 49 x1.toNat) U) (rI r1 U1) ∧ ((r1 = 0) → EvK N X (Pl_isLawful_s31 (d + 1) (w32 (x1 + 1)) U1) R) ∧ ((r1 ≠ 0) → R = rI 0 U1))) : EvK N X (Pl_isLawful_s31 (d + 1) x1 U) R := by
  show Ev (am_kz N X) ((d + 1), 213, 31, [some (.inr (.inr 48)), some (.inl x1)], [], (am_sh, am_mm U)) R
  refine ev_br (P := (U 48 6) ≤ x1) (σ1 := ((d + 1), 213, 63, [some (.inr (.inr 48)), some (.inl x1)], [], (am_sh, am_mm U))) (σ2 := ((d + 1), 213, 39, [some (.inr (.inr 48)), some (.inl x1)], [], (am_sh, am_mm U))) 4 (fun _ => rfl) (fun hc => ?_) (fun hc => ?_)
  · have h1 := h.1 hc
    subst h1
    exact ev_end 2 (fun _ => rfl)
  · have h2 := h.2 (Int.not_le.mp hc)
    refine ev_seg (σ1 := ((d + 1), 213, 48, [some (.inr (.inr 48)), some (.inl x1)], [.inl x1, .inr (.inr 49), .inr (.inr 45)], (am_sh, am_mm U))) 5 (fun _ => rfl) ?_
    refine eu_iald 49 (n := 3) rfl (by decide) rfl (fun _ => rfl) h2.1 ?_
    show Ev (am_kz N X) ((d + 1), 213, 49, [some (.inr (.inr 48)), some (.inl x1)], [.inl (U 49 x1.toNat), .inr (.inr 45)], (am_sh, am_mm U)) R
    have h2a := h2.2
    obtain ⟨r1, U1, h2ac, h2aa⟩ := h2a
    refine ev_cal (σc := (Jg_isInBreach_s0 d (U 49 x1.toNat) U)) (fun _ => rfl) h2ac ?_
    show Ev (am_kz N X) ((d + 1), 213, 52, [some (.inr (.inr 48)), some (.inl x1)], [.inl r1], (am_sh, am_mm U1)) R
    refine ev_br (P := r1 = 0) (σ1 := ((d + 1), 213, 57, [some (.inr (.inr 48)), some (.inl x1)], [], (am_sh, am_mm U1))) (σ2 := ((d + 1), 213, 55, [some (.inr (.inr 48)), some (.inl x1)], [], (am_sh, am_mm U1))) 1 (fun _ => rfl) (fun hc => ?_) (fun hc => ?_)
    · have h2aa1 := h2aa.1 hc
      refine ev_seg (σ1 := ((d + 1), 213, 31, [some (.inr (.inr 48)), some (.inl (w32 (x1 + 1)))], [], (am_sh, am_mm U1))) 2 (fun _ => rfl) ?_
      exact h2aa1
    · have h2aa2 := h2aa.2 hc
      subst h2aa2
      exact ev_end 2 (fun _ => rfl)
set_option maxRecDepth 8000 in
theorem Pl_keep_r0 {N : Nat} {X : Nat → Int} {d : Nat} {x1 : Int} {U : am_U} {R : Option am_V × am_M} (h : EvK N X (Pl_keep_s7 d x1 0 (am_upd U 48 8 x1)) R) : EvK N X (Pl_keep_s0 d x1 U) R := by
  show Ev (am_kz N X) (d, 214, 0, [some (.inr (.inr 48)), some (.inl x1), none], [], (am_sh, am_mm U)) R
  refine ev_seg (σ1 := (d, 214, 2, [some (.inr (.inr 48)), some (.inl x1), none], [.inl x1, .inr (.inr 48)], (am_sh, am_mm U))) 2 (fun _ => rfl) ?_
  refine eu_puti 48 (n := 10) rfl (by decide) rfl rfl ?_
  show Ev (am_kz N X) (d, 214, 5, [some (.inr (.inr 48)), some (.inl x1), none], [], (am_sh, am_mm (am_upd U 48 8 x1))) R
  refine ev_seg (σ1 := (d, 214, 7, [some (.inr (.inr 48)), some (.inl x1), some (.inl 0)], [], (am_sh, am_mm (am_upd U 48 8 x1)))) 2 (fun _ => rfl) ?_
  exact h
set_option maxRecDepth 8000 in
theorem Pl_keep_r7 {N : Nat} {X : Nat → Int} {d : Nat} {x1 x2 : Int} {U : am_U} {R : Option am_V × am_M} (h : (((U 48 6) ≤ x2) → R = rV U) ∧ ((x2 < (U 48 6)) → (0 ≤ x2 ∧ x2 < 3) ∧ ((0 ≤ (U 49 x2.toNat)) → (0 ≤ (U 49 x2.toNat) ∧ (U 49 x2.toNat) < 16) ∧ EvK N X (Pl_keep_s7 d x1 (w32 (x2 + 1)) (am_upd U 50 x2.toNat (U 18 ((U 49 x2.toNat).toNat)))) R) ∧ (((U 49 x2.toNat) < 0) → EvK N X (Pl_keep_s7 d x1 (w32 (x2 + 1)) (am_upd U 50 x2.toNat (-1))) R))) : EvK N X (Pl_keep_s7 d x1 x2 U) R := by
  show Ev (am_kz N X) (d, 214, 7, [some (.inr (.inr 48)), some (.inl x1), some (.inl x2)], [], (am_sh, am_mm U)) R
  refine ev_br (P := (U 48 6) ≤ x2) (σ1 := (d, 214, 54, [some (.inr (.inr 48)), some (.inl x1), some (.inl x2)], [], (am_sh, am_mm U))) (σ2 := (d, 214, 15, [some (.inr (.inr 48)), some (.inl x1), some (.inl x2)], [], (am_sh, am_mm U))) 4 (fun _ => rfl) (fun hc => ?_) (fun hc => ?_)
  · have h1 := h.1 hc
    subst h1
    exact ev_end 1 (fun _ => rfl)
  · have h2 := h.2 (Int.not_le.mp hc)
    refine ev_seg (σ1 := (d, 214, 25, [some (.inr (.inr 48)), some (.inl x1), some (.inl x2)], [.inl x2, .inr (.inr 49), .inl x2, .inr (.inr 50)], (am_sh, am_mm U))) 6 (fun _ => rfl) ?_
    refine eu_iald 49 (n := 3) rfl (by decide) rfl (fun _ => rfl) h2.1 ?_
    show Ev (am_kz N X) (d, 214, 26, [some (.inr (.inr 48)), some (.inl x1), some (.inl x2)], [.inl (U 49 x2.toNat), .inl x2, .inr (.inr 50)], (am_sh, am_mm U)) R
    have h2a := h2.2
    refine ev_br (P := 0 ≤ (U 49 x2.toNat)) (σ1 := (d, 214, 33, [some (.inr (.inr 48)), some (.inl x1), some (.inl x2)], [.inl x2, .inr (.inr 50)], (am_sh, am_mm U))) (σ2 := (d, 214, 29, [some (.inr (.inr 48)), some (.inl x1), some (.inl x2)], [.inl x2, .inr (.inr 50)], (am_sh, am_mm U))) 1 (fun _ => rfl) (fun hc => ?_) (fun hc => ?_)
    · have h2a1 := h2a.1 hc
      refine ev_seg (σ1 := (d, 214, 45, [some (.inr (.inr 48)), some (.inl x1), some (.inl x2)], [.inl x2, .inr (.inr 49), .inr (.inr 18), .inl x2, .inr (.inr 50)], (am_sh, am_mm U))) 6 (fun _ => rfl) ?_
      refine eu_iald 49 (n := 3) rfl (by decide) rfl (fun _ => rfl) h2.1 ?_
      show Ev (am_kz N X) (d, 214, 46, [some (.inr (.inr 48)), some (.inl x1), some (.inl x2)], [.inl (U 49 x2.toNat), .inr (.inr 18), .inl x2, .inr (.inr 50)], (am_sh, am_mm U)) R
      refine eu_iald 18 (n := 16) rfl (by decide) rfl (fun _ => rfl) h2a1.1 ?_
      show Ev (am_kz N X) (d, 214, 47, [some (.inr (.inr 48)), some (.inl x1), some (.inl x2)], [.inl (U 18 ((U 49 x2.toNat).toNat)), .inl x2, .inr (.inr 50)], (am_sh, am_mm U)) R
      have h2a1a := h2a1.2
      refine eu_iast 50 (n := 3) rfl (by decide) rfl (fun _ => rfl) h2.1 ?_
      show Ev (am_kz N X) (d, 214, 48, [some (.inr (.inr 48)), some (.inl x1), some (.inl x2)], [], (am_sh, am_mm (am_upd U 50 x2.toNat (U 18 ((U 49 x2.toNat).toNat))))) R
      refine ev_seg (σ1 := (d, 214, 7, [some (.inr (.inr 48)), some (.inl x1), some (.inl (w32 (x2 + 1)))], [], (am_sh, am_mm (am_upd U 50 x2.toNat (U 18 ((U 49 x2.toNat).toNat)))))) 2 (fun _ => rfl) ?_
      exact h2a1a
    · have h2a2 := h2a.2 (Int.not_le.mp hc)
      refine ev_seg (σ1 := (d, 214, 47, [some (.inr (.inr 48)), some (.inl x1), some (.inl x2)], [.inl (-1), .inl x2, .inr (.inr 50)], (am_sh, am_mm U))) 2 (fun _ => rfl) ?_
      refine eu_iast 50 (n := 3) rfl (by decide) rfl (fun _ => rfl) h2.1 ?_
      show Ev (am_kz N X) (d, 214, 48, [some (.inr (.inr 48)), some (.inl x1), some (.inl x2)], [], (am_sh, am_mm (am_upd U 50 x2.toNat (-1)))) R
      refine ev_seg (σ1 := (d, 214, 7, [some (.inr (.inr 48)), some (.inl x1), some (.inl (w32 (x2 + 1)))], [], (am_sh, am_mm (am_upd U 50 x2.toNat (-1))))) 2 (fun _ => rfl) ?_
      exact h2a2
set_option maxRecDepth 8000 in
theorem M_forgetsAnswers_r0 {N : Nat} {X : Nat → Int} {d : Nat} {U : am_U} {R : Option am_V × am_M} (h : EvK N X (M_forgetsAnswers_s2 (d + 1) 0 U) R) : EvK N X (M_forgetsAnswers_s0 (d + 1) U) R := by
  show Ev (am_kz N X) ((d + 1), 216, 0, [some (.inr (.inr 86)), none, none], [], (am_sh, am_mm U)) R
  refine ev_seg (σ1 := ((d + 1), 216, 2, [some (.inr (.inr 86)), some (.inl 0), none], [], (am_sh, am_mm U))) 2 (fun _ => rfl) ?_
  exact h
set_option maxRecDepth 8000 in
theorem M_forgetsAnswers_r2 {N : Nat} {X : Nat → Int} {d : Nat} {x1 : Int} {U : am_U} {R : Option am_V × am_M} (h : ((182784 ≤ x1) → EvK N X (M_forgetsAnswers_s23 (d + 1) 0 U) R) ∧ ((x1 < 182784) → (0 ≤ x1 ∧ x1 < 182784) ∧ EvK N X (M_forgetsAnswers_s2 (d + 1) (w32 (x1 + 1)) (am_upd U 128 x1.toNat 0)) R)) : EvK N X (M_forgetsAnswers_s2 (d + 1) x1 U) R := by
  show Ev (am_kz N X) ((d + 1), 216, 2, [some (.inr (.inr 86)), some (.inl x1), none], [], (am_sh, am_mm U)) R
  refine ev_br (P := 182784 ≤ x1) (σ1 := ((d + 1), 216, 21, [some (.inr (.inr 86)), some (.inl x1), none], [], (am_sh, am_mm U))) (σ2 := ((d + 1), 216, 8, [some (.inr (.inr 86)), some (.inl x1), none], [], (am_sh, am_mm U))) 3 (fun _ => rfl) (fun hc => ?_) (fun hc => ?_)
  · have h1 := h.1 hc
    refine ev_seg (σ1 := ((d + 1), 216, 23, [some (.inr (.inr 86)), some (.inl 0), none], [], (am_sh, am_mm U))) 2 (fun _ => rfl) ?_
    exact h1
  · have h2 := h.2 (Int.not_le.mp hc)
    refine ev_seg (σ1 := ((d + 1), 216, 14, [some (.inr (.inr 86)), some (.inl x1), none], [.inl 0, .inl x1, .inr (.inr 128)], (am_sh, am_mm U))) 4 (fun _ => rfl) ?_
    refine eu_bast 128 (by decide) (n := 182784) rfl (by decide) rfl (fun _ => rfl) h2.1 ?_
    show Ev (am_kz N X) ((d + 1), 216, 15, [some (.inr (.inr 86)), some (.inl x1), none], [], (am_sh, am_mm (am_upd U 128 x1.toNat 0))) R
    have h2a := h2.2
    refine ev_seg (σ1 := ((d + 1), 216, 2, [some (.inr (.inr 86)), some (.inl (w32 (x1 + 1))), none], [], (am_sh, am_mm (am_upd U 128 x1.toNat 0)))) 2 (fun _ => rfl) ?_
    exact h2a
set_option maxRecDepth 8000 in
theorem M_forgetsAnswers_r23 {N : Nat} {X : Nat → Int} {d : Nat} {x1 : Int} {U : am_U} {R : Option am_V × am_M} (h : (0 ≤ (U 86 13) ∧ (U 86 13) < 2) ∧ (((U 90 ((U 86 13).toNat)) ≤ x1) → R = rV U) ∧ ((x1 < (U 90 ((U 86 13).toNat))) → EvK N X (M_forgetsAnswers_s38 (d + 1) x1 0 U) R)) : EvK N X (M_forgetsAnswers_s23 (d + 1) x1 U) R := by
  show Ev (am_kz N X) ((d + 1), 216, 23, [some (.inr (.inr 86)), some (.inl x1), none], [], (am_sh, am_mm U)) R
  refine ev_seg (σ1 := ((d + 1), 216, 32, [some (.inr (.inr 86)), some (.inl x1), none], [.inl (U 86 13), .inr (.inr 90), .inl x1], (am_sh, am_mm U))) 5 (fun _ => rfl) ?_
  refine eu_iald 90 (n := 2) rfl (by decide) rfl (fun _ => rfl) h.1 ?_
  show Ev (am_kz N X) ((d + 1), 216, 33, [some (.inr (.inr 86)), some (.inl x1), none], [.inl (U 90 ((U 86 13).toNat)), .inl x1], (am_sh, am_mm U)) R
  have ha := h.2
  refine ev_br (P := (U 90 ((U 86 13).toNat)) ≤ x1) (σ1 := ((d + 1), 216, 84, [some (.inr (.inr 86)), some (.inl x1), none], [], (am_sh, am_mm U))) (σ2 := ((d + 1), 216, 36, [some (.inr (.inr 86)), some (.inl x1), none], [], (am_sh, am_mm U))) 1 (fun _ => rfl) (fun hc => ?_) (fun hc => ?_)
  · have ha1 := ha.1 hc
    subst ha1
    exact ev_end 1 (fun _ => rfl)
  · have ha2 := ha.2 (Int.not_le.mp hc)
    refine ev_seg (σ1 := ((d + 1), 216, 38, [some (.inr (.inr 86)), some (.inl x1), some (.inl 0)], [], (am_sh, am_mm U))) 2 (fun _ => rfl) ?_
    exact ha2
set_option maxRecDepth 8000 in
theorem M_forgetsAnswers_r38 {N : Nat} {X : Nat → Int} {d : Nat} {x1 x2 : Int} {U : am_U} {R : Option am_V × am_M} (h : (0 ≤ (U 86 13) ∧ (U 86 13) < 2) ∧ (((U 90 ((U 86 13).toNat)) ≤ x2) → EvK N X (M_forgetsAnswers_s23 (d + 1) (w32 (x1 + 1)) U) R) ∧ ((x2 < (U 90 ((U 86 13).toNat))) → ∃ (r1 : Int) (U1 : am_U), EvK N X (M_areNeighbours_s0 d (U 86 13) x1 x2 U) (rI r1 U1) ∧ (r1 = 0 ∨ r1 = 1) ∧ (0 ≤ (w32 ((w32 (12 * x1)) + x2)) ∧ (w32 ((w32 (12 * x1)) + x2)) < 144) ∧ EvK N X (M_forgetsAnswers_s38 (d + 1) x1 (w32 (x2 + 1)) (am_upd U1 129 ((w32 ((w32 (12 * x1)) + x2)).toNat) r1)) R)) : EvK N X (M_forgetsAnswers_s38 (d + 1) x1 x2 U) R := by
  show Ev (am_kz N X) ((d + 1), 216, 38, [some (.inr (.inr 86)), some (.inl x1), some (.inl x2)], [], (am_sh, am_mm U)) R
  refine ev_seg (σ1 := ((d + 1), 216, 47, [some (.inr (.inr 86)), some (.inl x1), some (.inl x2)], [.inl (U 86 13), .inr (.inr 90), .inl x2], (am_sh, am_mm U))) 5 (fun _ => rfl) ?_
  refine eu_iald 90 (n := 2) rfl (by decide) rfl (fun _ => rfl) h.1 ?_
  show Ev (am_kz N X) ((d + 1), 216, 48, [some (.inr (.inr 86)), some (.inl x1), some (.inl x2)], [.inl (U 90 ((U 86 13).toNat)), .inl x2], (am_sh, am_mm U)) R
  have ha := h.2
  refine ev_br (P := (U 90 ((U 86 13).toNat)) ≤ x2) (σ1 := ((d + 1), 216, 78, [some (.inr (.inr 86)), some (.inl x1), some (.inl x2)], [], (am_sh, am_mm U))) (σ2 := ((d + 1), 216, 51, [some (.inr (.inr 86)), some (.inl x1), some (.inl x2)], [], (am_sh, am_mm U))) 1 (fun _ => rfl) (fun hc => ?_) (fun hc => ?_)
  · have ha1 := ha.1 hc
    refine ev_seg (σ1 := ((d + 1), 216, 23, [some (.inr (.inr 86)), some (.inl (w32 (x1 + 1))), some (.inl x2)], [], (am_sh, am_mm U))) 2 (fun _ => rfl) ?_
    exact ev_le (L := [some (.inr (.inr 86)), some (.inl (w32 (x1 + 1))), none]) ⟨rfl, ⟨rfl, trivial⟩⟩ ha1
  · have ha2 := ha.2 (Int.not_le.mp hc)
    refine ev_seg (σ1 := ((d + 1), 216, 68, [some (.inr (.inr 86)), some (.inl x1), some (.inl x2)], [.inl x2, .inl x1, .inl (U 86 13), .inr (.inr 86), .inl (w32 ((w32 (12 * x1)) + x2)), .inr (.inr 129)], (am_sh, am_mm U))) 12 (fun _ => rfl) ?_
    obtain ⟨r1, U1, ha2c, ha2a⟩ := ha2
    refine ev_cal (σc := (M_areNeighbours_s0 d (U 86 13) x1 x2 U)) (fun _ => rfl) ha2c ?_
    show Ev (am_kz N X) ((d + 1), 216, 71, [some (.inr (.inr 86)), some (.inl x1), some (.inl x2)], [.inl r1, .inl (w32 ((w32 (12 * x1)) + x2)), .inr (.inr 129)], (am_sh, am_mm U1)) R
    refine eu_zast 129 ha2a.1 (n := 144) rfl (by decide) rfl (fun _ => rfl) ha2a.2.1 ?_
    show Ev (am_kz N X) ((d + 1), 216, 72, [some (.inr (.inr 86)), some (.inl x1), some (.inl x2)], [], (am_sh, am_mm (am_upd U1 129 ((w32 ((w32 (12 * x1)) + x2)).toNat) r1))) R
    have ha2aa := ha2a.2.2
    refine ev_seg (σ1 := ((d + 1), 216, 38, [some (.inr (.inr 86)), some (.inl x1), some (.inl (w32 (x2 + 1)))], [], (am_sh, am_mm (am_upd U1 129 ((w32 ((w32 (12 * x1)) + x2)).toNat) r1)))) 2 (fun _ => rfl) ?_
    exact ha2aa
set_option maxRecDepth 8000 in
theorem M_areRooms_r0 {N : Nat} {X : Nat → Int} {d : Nat} {x1 : Int} {U : am_U} {R : Option am_V × am_M} (h : EvK N X (M_areRooms_s2 (d + 1) x1 0 U) R) : EvK N X (M_areRooms_s0 (d + 1) x1 U) R := by
  show Ev (am_kz N X) ((d + 1), 217, 0, [some (.inr (.inr 86)), some (.inl x1), none], [], (am_sh, am_mm U)) R
  refine ev_seg (σ1 := ((d + 1), 217, 2, [some (.inr (.inr 86)), some (.inl x1), some (.inl 0)], [], (am_sh, am_mm U))) 2 (fun _ => rfl) ?_
  exact h
set_option maxRecDepth 8000 in
theorem M_areRooms_r2 {N : Nat} {X : Nat → Int} {d : Nat} {x1 x2 : Int} {U : am_U} {R : Option am_V × am_M} (h : (0 ≤ (U 86 13) ∧ (U 86 13) < 2) ∧ (((U 90 ((U 86 13).toNat)) ≤ x2) → R = rI 1 U) ∧ ((x2 < (U 90 ((U 86 13).toNat))) → ∃ (r1 : Int) (U1 : am_U), EvK N X (M_living_s0 d x1 x2 U) (rI r1 U1) ∧ ∃ (r2 : Int) (U2 : am_U), EvK N X (M_roomsOf_s0 d x2 U1) (rI r2 U2) ∧ ((r1 ≤ r2) → EvK N X (M_areRooms_s2 (d + 1) x1 (w32 (x2 + 1)) U2) R) ∧ ((r2 < r1) → R = rI 0 U2))) : EvK N X (M_areRooms_s2 (d + 1) x1 x2 U) R := by
  show Ev (am_kz N X) ((d + 1), 217, 2, [some (.inr (.inr 86)), some (.inl x1), some (.inl x2)], [], (am_sh, am_mm U)) R
  refine ev_seg (σ1 := ((d + 1), 217, 11, [some (.inr (.inr 86)), some (.inl x1), some (.inl x2)], [.inl (U 86 13), .inr (.inr 90), .inl x2], (am_sh, am_mm U))) 5 (fun _ => rfl) ?_
  refine eu_iald 90 (n := 2) rfl (by decide) rfl (fun _ => rfl) h.1 ?_
  show Ev (am_kz N X) ((d + 1), 217, 12, [some (.inr (.inr 86)), some (.inl x1), some (.inl x2)], [.inl (U 90 ((U 86 13).toNat)), .inl x2], (am_sh, am_mm U)) R
  have ha := h.2
  refine ev_br (P := (U 90 ((U 86 13).toNat)) ≤ x2) (σ1 := ((d + 1), 217, 37, [some (.inr (.inr 86)), some (.inl x1), some (.inl x2)], [], (am_sh, am_mm U))) (σ2 := ((d + 1), 217, 15, [some (.inr (.inr 86)), some (.inl x1), some (.inl x2)], [], (am_sh, am_mm U))) 1 (fun _ => rfl) (fun hc => ?_) (fun hc => ?_)
  · have ha1 := ha.1 hc
    subst ha1
    exact ev_end 2 (fun _ => rfl)
  · have ha2 := ha.2 (Int.not_le.mp hc)
    refine ev_seg (σ1 := ((d + 1), 217, 18, [some (.inr (.inr 86)), some (.inl x1), some (.inl x2)], [.inl x2, .inl x1, .inr (.inr 86)], (am_sh, am_mm U))) 3 (fun _ => rfl) ?_
    obtain ⟨r1, U1, ha2c, ha2a⟩ := ha2
    refine ev_cal (σc := (M_living_s0 d x1 x2 U)) (fun _ => rfl) ha2c ?_
    show Ev (am_kz N X) ((d + 1), 217, 21, [some (.inr (.inr 86)), some (.inl x1), some (.inl x2)], [.inl r1], (am_sh, am_mm U1)) R
    refine ev_seg (σ1 := ((d + 1), 217, 23, [some (.inr (.inr 86)), some (.inl x1), some (.inl x2)], [.inl x2, .inr (.inr 86), .inl r1], (am_sh, am_mm U1))) 2 (fun _ => rfl) ?_
    obtain ⟨r2, U2, ha2ac, ha2aa⟩ := ha2a
    refine ev_cal (σc := (M_roomsOf_s0 d x2 U1)) (fun _ => rfl) ha2ac ?_
    show Ev (am_kz N X) ((d + 1), 217, 26, [some (.inr (.inr 86)), some (.inl x1), some (.inl x2)], [.inl r2, .inl r1], (am_sh, am_mm U2)) R
    refine ev_br (P := r1 ≤ r2) (σ1 := ((d + 1), 217, 31, [some (.inr (.inr 86)), some (.inl x1), some (.inl x2)], [], (am_sh, am_mm U2))) (σ2 := ((d + 1), 217, 29, [some (.inr (.inr 86)), some (.inl x1), some (.inl x2)], [], (am_sh, am_mm U2))) 1 (fun _ => rfl) (fun hc => ?_) (fun hc => ?_)
    · have ha2aa1 := ha2aa.1 hc
      refine ev_seg (σ1 := ((d + 1), 217, 2, [some (.inr (.inr 86)), some (.inl x1), some (.inl (w32 (x2 + 1)))], [], (am_sh, am_mm U2))) 2 (fun _ => rfl) ?_
      exact ha2aa1
    · have ha2aa2 := ha2aa.2 (Int.not_le.mp hc)
      subst ha2aa2
      exact ev_end 2 (fun _ => rfl)
set_option maxRecDepth 8000 in
theorem M_isTryLawful_r0 {N : Nat} {X : Nat → Int} {d : Nat} {U : am_U} {R : Option am_V × am_M} (h : EvK N X (M_isTryLawful_s2 (d + 1) 0 U) R) : EvK N X (M_isTryLawful_s0 (d + 1) U) R := by
  show Ev (am_kz N X) ((d + 1), 218, 0, [some (.inr (.inr 86)), none, none], [], (am_sh, am_mm U)) R
  refine ev_seg (σ1 := ((d + 1), 218, 2, [some (.inr (.inr 86)), some (.inl 0), none], [], (am_sh, am_mm U))) 2 (fun _ => rfl) ?_
  exact h
set_option maxRecDepth 8000 in
theorem M_isTryLawful_r2 {N : Nat} {X : Nat → Int} {d : Nat} {x1 : Int} {U : am_U} {R : Option am_V × am_M} (h : (0 ≤ (U 86 13) ∧ (U 86 13) < 2) ∧ (((U 100 ((U 86 13).toNat)) ≤ x1) → R = rI 1 U) ∧ ((x1 < (U 100 ((U 86 13).toNat))) → EvK N X (M_isTryLawful_s17 (d + 1) x1 0 U) R)) : EvK N X (M_isTryLawful_s2 (d + 1) x1 U) R := by
  show Ev (am_kz N X) ((d + 1), 218, 2, [some (.inr (.inr 86)), some (.inl x1), none], [], (am_sh, am_mm U)) R
  refine ev_seg (σ1 := ((d + 1), 218, 11, [some (.inr (.inr 86)), some (.inl x1), none], [.inl (U 86 13), .inr (.inr 100), .inl x1], (am_sh, am_mm U))) 5 (fun _ => rfl) ?_
  refine eu_iald 100 (n := 2) rfl (by decide) rfl (fun _ => rfl) h.1 ?_
  show Ev (am_kz N X) ((d + 1), 218, 12, [some (.inr (.inr 86)), some (.inl x1), none], [.inl (U 100 ((U 86 13).toNat)), .inl x1], (am_sh, am_mm U)) R
  have ha := h.2
  refine ev_br (P := (U 100 ((U 86 13).toNat)) ≤ x1) (σ1 := ((d + 1), 218, 50, [some (.inr (.inr 86)), some (.inl x1), none], [], (am_sh, am_mm U))) (σ2 := ((d + 1), 218, 15, [some (.inr (.inr 86)), some (.inl x1), none], [], (am_sh, am_mm U))) 1 (fun _ => rfl) (fun hc => ?_) (fun hc => ?_)
  · have ha1 := ha.1 hc
    subst ha1
    exact ev_end 2 (fun _ => rfl)
  · have ha2 := ha.2 (Int.not_le.mp hc)
    refine ev_seg (σ1 := ((d + 1), 218, 17, [some (.inr (.inr 86)), some (.inl x1), some (.inl 0)], [], (am_sh, am_mm U))) 2 (fun _ => rfl) ?_
    exact ha2
set_option maxRecDepth 8000 in
theorem M_isTryLawful_r17 {N : Nat} {X : Nat → Int} {d : Nat} {x1 x2 : Int} {U : am_U} {R : Option am_V × am_M} (h : (((U 122 1) ≤ x2) → EvK N X (M_isTryLawful_s2 (d + 1) (w32 (x1 + 1)) U) R) ∧ ((x2 < (U 122 1)) → ∃ (r1 : Int) (U1 : am_U), EvK N X (M_isBrokenBy_s0 d x1 x2 U) (rI r1 U1) ∧ ((r1 = 0) → EvK N X (M_isTryLawful_s17 (d + 1) x1 (w32 (x2 + 1)) U1) R) ∧ ((r1 ≠ 0) → R = rI 0 U1))) : EvK N X (M_isTryLawful_s17 (d + 1) x1 x2 U) R := by
  show Ev (am_kz N X) ((d + 1), 218, 17, [some (.inr (.inr 86)), some (.inl x1), some (.inl x2)], [], (am_sh, am_mm U)) R
  refine ev_seg (σ1 := ((d + 1), 218, 23, [some (.inr (.inr 86)), some (.inl x1), some (.inl x2)], [.inl 1, .inr (.inr 122), .inl x2], (am_sh, am_mm U))) 4 (fun _ => rfl) ?_
  refine eu_iald 122 (n := 22) rfl (by decide) rfl (fun _ => rfl) (by decide) ?_
  show Ev (am_kz N X) ((d + 1), 218, 24, [some (.inr (.inr 86)), some (.inl x1), some (.inl x2)], [.inl (U 122 1), .inl x2], (am_sh, am_mm U)) R
  refine ev_br (P := (U 122 1) ≤ x2) (σ1 := ((d + 1), 218, 44, [some (.inr (.inr 86)), some (.inl x1), some (.inl x2)], [], (am_sh, am_mm U))) (σ2 := ((d + 1), 218, 27, [some (.inr (.inr 86)), some (.inl x1), some (.inl x2)], [], (am_sh, am_mm U))) 1 (fun _ => rfl) (fun hc => ?_) (fun hc => ?_)
  · have h1 := h.1 hc
    refine ev_seg (σ1 := ((d + 1), 218, 2, [some (.inr (.inr 86)), some (.inl (w32 (x1 + 1))), some (.inl x2)], [], (am_sh, am_mm U))) 2 (fun _ => rfl) ?_
    exact ev_le (L := [some (.inr (.inr 86)), some (.inl (w32 (x1 + 1))), none]) ⟨rfl, ⟨rfl, trivial⟩⟩ h1
  · have h2 := h.2 (Int.not_le.mp hc)
    refine ev_seg (σ1 := ((d + 1), 218, 30, [some (.inr (.inr 86)), some (.inl x1), some (.inl x2)], [.inl x2, .inl x1, .inr (.inr 86)], (am_sh, am_mm U))) 3 (fun _ => rfl) ?_
    obtain ⟨r1, U1, h2c, h2a⟩ := h2
    refine ev_cal (σc := (M_isBrokenBy_s0 d x1 x2 U)) (fun _ => rfl) h2c ?_
    show Ev (am_kz N X) ((d + 1), 218, 33, [some (.inr (.inr 86)), some (.inl x1), some (.inl x2)], [.inl r1], (am_sh, am_mm U1)) R
    refine ev_br (P := r1 = 0) (σ1 := ((d + 1), 218, 38, [some (.inr (.inr 86)), some (.inl x1), some (.inl x2)], [], (am_sh, am_mm U1))) (σ2 := ((d + 1), 218, 36, [some (.inr (.inr 86)), some (.inl x1), some (.inl x2)], [], (am_sh, am_mm U1))) 1 (fun _ => rfl) (fun hc => ?_) (fun hc => ?_)
    · have h2a1 := h2a.1 hc
      refine ev_seg (σ1 := ((d + 1), 218, 17, [some (.inr (.inr 86)), some (.inl x1), some (.inl (w32 (x2 + 1)))], [], (am_sh, am_mm U1))) 2 (fun _ => rfl) ?_
      exact h2a1
    · have h2a2 := h2a.2 hc
      subst h2a2
      exact ev_end 2 (fun _ => rfl)
set_option maxRecDepth 8000 in
theorem Jg_pop_r0 {N : Nat} {X : Nat → Int} {d : Nat} {U : am_U} {R : Option am_V × am_M} (h : ((0 < (U 45 3)) → (0 ≤ (w32 ((U 45 3) - 1)) ∧ (w32 ((U 45 3) - 1)) < 64) ∧ R = rI (U 46 ((w32 ((U 45 3) - 1)).toNat)) (am_upd U 45 3 (w32 ((U 45 3) - 1)))) ∧ (((U 45 3) ≤ 0) → R = rI 0 U)) : EvK N X (Jg_pop_s0 d U) R := by
  show Ev (am_kz N X) (d, 220, 0, [some (.inr (.inr 45))], [], (am_sh, am_mm U)) R
  refine ev_br (P := 0 < (U 45 3)) (σ1 := (d, 220, 9, [some (.inr (.inr 45))], [], (am_sh, am_mm U))) (σ2 := (d, 220, 7, [some (.inr (.inr 45))], [], (am_sh, am_mm U))) 3 (fun _ => rfl) (fun hc => ?_) (fun hc => ?_)
  · have h1 := h.1 hc
    refine ev_seg (σ1 := (d, 220, 16, [some (.inr (.inr 45))], [.inl (w32 ((U 45 3) - 1)), .inr (.inr 45)], (am_sh, am_mm U))) 5 (fun _ => rfl) ?_
    refine eu_puti 45 (n := 6) rfl (by decide) rfl rfl ?_
    show Ev (am_kz N X) (d, 220, 19, [some (.inr (.inr 45))], [], (am_sh, am_mm (am_upd U 45 3 (w32 ((U 45 3) - 1))))) R
    refine ev_seg (σ1 := (d, 220, 27, [some (.inr (.inr 45))], [.inl (w32 ((U 45 3) - 1)), .inr (.inr 46)], (am_sh, am_mm (am_upd U 45 3 (w32 ((U 45 3) - 1)))))) 4 (fun _ => rfl) ?_
    refine eu_iald 46 (n := 64) rfl (by decide) rfl (fun _ => rfl) h1.1 ?_
    show Ev (am_kz N X) (d, 220, 28, [some (.inr (.inr 45))], [.inl (U 46 ((w32 ((U 45 3) - 1)).toNat))], (am_sh, am_mm (am_upd U 45 3 (w32 ((U 45 3) - 1))))) R
    have h1a := h1.2
    subst h1a
    exact ev_end 1 (fun _ => rfl)
  · have h2 := h.2 (Int.not_lt.mp hc)
    subst h2
    exact ev_end 2 (fun _ => rfl)
set_option maxRecDepth 8000 in
theorem Jg_doWord_r0 {N : Nat} {X : Nat → Int} {d : Nat} {x1 : Int} {U : am_U} {R : Option am_V × am_M} (h : (x1 = 17 → ∃ (r1 : Int) (U1 : am_U), EvK N X (Jg_pop_s0 d U) (rI r1 U1) ∧ ∃ (r2 : Int) (U2 : am_U), EvK N X (Nm_isSquare_s0 d r1 U1) (rI r2 U2) ∧ ((r2 = 0) → ∃ U3 : am_U, EvK N X (Jg_push_s0 d 0 U2) (rV U3) ∧ R = rV U3) ∧ ((r2 ≠ 0) → ∃ U4 : am_U, EvK N X (Jg_push_s0 d 1 U2) (rV U4) ∧ R = rV U4)) ∧ (x1 = 18 → ∃ (r5 : Int) (U5 : am_U), EvK N X (Jg_pop_s0 d U) (rI r5 U5) ∧ ∃ (r6 : Int) (U6 : am_U), EvK N X (Nm_isPrime_s0 d r5 U5) (rI r6 U6) ∧ ((r6 = 0) → ∃ U7 : am_U, EvK N X (Jg_push_s0 d 0 U6) (rV U7) ∧ R = rV U7) ∧ ((r6 ≠ 0) → ∃ U8 : am_U, EvK N X (Jg_push_s0 d 1 U6) (rV U8) ∧ R = rV U8)) ∧ (x1 = 19 → ∃ (r9 : Int) (U9 : am_U), EvK N X (Jg_pop_s0 d U) (rI r9 U9) ∧ ∃ (r10 : Int) (U10 : am_U), EvK N X (Jg_pop_s0 d U9) (rI r10 U10) ∧ ∃ U11 : am_U, EvK N X (Jg_push_s0 d (if r9 < r10 then r10 else r9) U10) (rV U11) ∧ R = rV U11) ∧ (x1 = 20 → ∃ (r12 : Int) (U12 : am_U), EvK N X (Jg_pop_s0 d U) (rI r12 U12) ∧ ∃ (r13 : Int) (U13 : am_U), EvK N X (Jg_pop_s0 d U12) (rI r13 U13) ∧ ∃ U14 : am_U, EvK N X (Jg_push_s0 d (if r13 < r12 then r13 else r12) U13) (rV U14) ∧ R = rV U14) ∧ (x1 = 21 → ∃ (r15 : Int) (U15 : am_U), EvK N X (Jg_pop_s0 d U) (rI r15 U15) ∧ ∃ U16 : am_U, EvK N X (Jg_push_s0 d (w32 (1 - r15)) U15) (rV U16) ∧ R = rV U16) ∧ (x1 = 22 → ∃ U17 : am_U, EvK N X (Jg_push_s0 d 1 U) (rV U17) ∧ R = rV U17) ∧ (x1 = 23 → ∃ (r18 : Int) (U18 : am_U), EvK N X (Jg_pop_s0 d U) (rI r18 U18) ∧ ∃ (r19 : Int) (U19 : am_U), EvK N X (Jg_pop_s0 d U18) (rI r19 U19) ∧ ∃ U20 : am_U, EvK N X (Jg_push_s0 d (if r19 < r18 then r19 else r18) U19) (rV U20) ∧ R = rV U20) ∧ (x1 = 24 → ∃ (r21 : Int) (U21 : am_U), EvK N X (Jg_pop_s0 d U) (rI r21 U21) ∧ ∃ (r22 : Int) (U22 : am_U), EvK N X (Jg_pop_s0 d U21) (rI r22 U22) ∧ ∃ U23 : am_U, EvK N X (Jg_push_s0 d (if r21 < r22 then r22 else r21) U22) (rV U23) ∧ R = rV U23) ∧ (x1 = 25 → ∃ (r24 : Int) (U24 : am_U), EvK N X (Jg_pop_s0 d U) (rI r24 U24) ∧ ∃ (r25 : Int) (U25 : am_U), EvK N X (Jg_pop_s0 d U24) (rI r25 U25) ∧ ∃ (r26 : Int) (U26 : am_U), EvK N X (Nm_commonFactor_s0 d r24 r25 U25) (rI r26 U26) ∧ ∃ U27 : am_U, EvK N X (Jg_push_s0 d r26 U26) (rV U27) ∧ R = rV U27) ∧ (¬ x1 = 17 ∧ ¬ x1 = 18 ∧ ¬ x1 = 19 ∧ ¬ x1 = 20 ∧ ¬ x1 = 21 ∧ ¬ x1 = 22 ∧ ¬ x1 = 23 ∧ ¬ x1 = 24 ∧ ¬ x1 = 25 → R = rV U)) : EvK N X (Jg_doWord_s0 (d + 1) x1 U) R := by
  show Ev (am_kz N X) ((d + 1), 223, 0, [some (.inr (.inr 45)), some (.inl x1)], [], (am_sh, am_mm U)) R
  refine ev_seg (σ1 := ((d + 1), 223, 1, [some (.inr (.inr 45)), some (.inl x1)], [.inl x1], (am_sh, am_mm U))) 1 (fun _ => rfl) ?_
  by_cases hc : x1 = 17
  · have hk0 := h.1 hc
    refine ev_sw (off := 72) rfl (by rw [hc]; rfl) (pt := 73) rfl ?_
    refine ev_seg (σ1 := ((d + 1), 223, 75, [some (.inr (.inr 45)), some (.inl x1)], [.inr (.inr 45), .inr (.inr 45)], (am_sh, am_mm U))) 2 (fun _ => rfl) ?_
    obtain ⟨r1, U1, hk0c, hk0a⟩ := hk0
    refine ev_cal (σc := (Jg_pop_s0 d U)) (fun _ => rfl) hk0c ?_
    show Ev (am_kz N X) ((d + 1), 223, 78, [some (.inr (.inr 45)), some (.inl x1)], [.inl r1, .inr (.inr 45)], (am_sh, am_mm U1)) R
    obtain ⟨r2, U2, hk0ac, hk0aa⟩ := hk0a
    refine ev_cal (σc := (Nm_isSquare_s0 d r1 U1)) (fun _ => rfl) hk0ac ?_
    show Ev (am_kz N X) ((d + 1), 223, 81, [some (.inr (.inr 45)), some (.inl x1)], [.inl r2, .inr (.inr 45)], (am_sh, am_mm U2)) R
    refine ev_br (P := r2 = 0) (σ1 := ((d + 1), 223, 88, [some (.inr (.inr 45)), some (.inl x1)], [.inr (.inr 45)], (am_sh, am_mm U2))) (σ2 := ((d + 1), 223, 84, [some (.inr (.inr 45)), some (.inl x1)], [.inr (.inr 45)], (am_sh, am_mm U2))) 1 (fun _ => rfl) (fun hc => ?_) (fun hc => ?_)
    · have hk0aa1 := hk0aa.1 hc
      refine ev_seg (σ1 := ((d + 1), 223, 89, [some (.inr (.inr 45)), some (.inl x1)], [.inl 0, .inr (.inr 45)], (am_sh, am_mm U2))) 1 (fun _ => rfl) ?_
      obtain ⟨U3, hk0aa1c, hk0aa1a⟩ := hk0aa1
      refine ev_cal (σc := (Jg_push_s0 d 0 U2)) (fun _ => rfl) hk0aa1c ?_
      show Ev (am_kz N X) ((d + 1), 223, 92, [some (.inr (.inr 45)), some (.inl x1)], [], (am_sh, am_mm U3)) R
      subst hk0aa1a
      exact ev_end 2 (fun _ => rfl)
    · have hk0aa2 := hk0aa.2 hc
      refine ev_seg (σ1 := ((d + 1), 223, 89, [some (.inr (.inr 45)), some (.inl x1)], [.inl 1, .inr (.inr 45)], (am_sh, am_mm U2))) 2 (fun _ => rfl) ?_
      obtain ⟨U4, hk0aa2c, hk0aa2a⟩ := hk0aa2
      refine ev_cal (σc := (Jg_push_s0 d 1 U2)) (fun _ => rfl) hk0aa2c ?_
      show Ev (am_kz N X) ((d + 1), 223, 92, [some (.inr (.inr 45)), some (.inl x1)], [], (am_sh, am_mm U4)) R
      subst hk0aa2a
      exact ev_end 2 (fun _ => rfl)
  have nh0 := hc
  clear hc
  by_cases hc : x1 = 18
  · have hk1 := h.2.1 hc
    refine ev_sw (off := 94) rfl (by rw [hc]; rfl) (pt := 95) rfl ?_
    refine ev_seg (σ1 := ((d + 1), 223, 97, [some (.inr (.inr 45)), some (.inl x1)], [.inr (.inr 45), .inr (.inr 45)], (am_sh, am_mm U))) 2 (fun _ => rfl) ?_
    obtain ⟨r5, U5, hk1c, hk1a⟩ := hk1
    refine ev_cal (σc := (Jg_pop_s0 d U)) (fun _ => rfl) hk1c ?_
    show Ev (am_kz N X) ((d + 1), 223, 100, [some (.inr (.inr 45)), some (.inl x1)], [.inl r5, .inr (.inr 45)], (am_sh, am_mm U5)) R
    obtain ⟨r6, U6, hk1ac, hk1aa⟩ := hk1a
    refine ev_cal (σc := (Nm_isPrime_s0 d r5 U5)) (fun _ => rfl) hk1ac ?_
    show Ev (am_kz N X) ((d + 1), 223, 103, [some (.inr (.inr 45)), some (.inl x1)], [.inl r6, .inr (.inr 45)], (am_sh, am_mm U6)) R
    refine ev_br (P := r6 = 0) (σ1 := ((d + 1), 223, 110, [some (.inr (.inr 45)), some (.inl x1)], [.inr (.inr 45)], (am_sh, am_mm U6))) (σ2 := ((d + 1), 223, 106, [some (.inr (.inr 45)), some (.inl x1)], [.inr (.inr 45)], (am_sh, am_mm U6))) 1 (fun _ => rfl) (fun hc => ?_) (fun hc => ?_)
    · have hk1aa1 := hk1aa.1 hc
      refine ev_seg (σ1 := ((d + 1), 223, 111, [some (.inr (.inr 45)), some (.inl x1)], [.inl 0, .inr (.inr 45)], (am_sh, am_mm U6))) 1 (fun _ => rfl) ?_
      obtain ⟨U7, hk1aa1c, hk1aa1a⟩ := hk1aa1
      refine ev_cal (σc := (Jg_push_s0 d 0 U6)) (fun _ => rfl) hk1aa1c ?_
      show Ev (am_kz N X) ((d + 1), 223, 114, [some (.inr (.inr 45)), some (.inl x1)], [], (am_sh, am_mm U7)) R
      subst hk1aa1a
      exact ev_end 2 (fun _ => rfl)
    · have hk1aa2 := hk1aa.2 hc
      refine ev_seg (σ1 := ((d + 1), 223, 111, [some (.inr (.inr 45)), some (.inl x1)], [.inl 1, .inr (.inr 45)], (am_sh, am_mm U6))) 2 (fun _ => rfl) ?_
      obtain ⟨U8, hk1aa2c, hk1aa2a⟩ := hk1aa2
      refine ev_cal (σc := (Jg_push_s0 d 1 U6)) (fun _ => rfl) hk1aa2c ?_
      show Ev (am_kz N X) ((d + 1), 223, 114, [some (.inr (.inr 45)), some (.inl x1)], [], (am_sh, am_mm U8)) R
      subst hk1aa2a
      exact ev_end 2 (fun _ => rfl)
  have nh1 := hc
  clear hc
  by_cases hc : x1 = 19
  · have hk2 := h.2.2.1 hc
    refine ev_sw (off := 116) rfl (by rw [hc]; rfl) (pt := 117) rfl ?_
    refine ev_seg (σ1 := ((d + 1), 223, 119, [some (.inr (.inr 45)), some (.inl x1)], [.inr (.inr 45), .inr (.inr 45)], (am_sh, am_mm U))) 2 (fun _ => rfl) ?_
    obtain ⟨r9, U9, hk2c, hk2a⟩ := hk2
    refine ev_cal (σc := (Jg_pop_s0 d U)) (fun _ => rfl) hk2c ?_
    show Ev (am_kz N X) ((d + 1), 223, 122, [some (.inr (.inr 45)), some (.inl x1)], [.inl r9, .inr (.inr 45)], (am_sh, am_mm U9)) R
    refine ev_seg (σ1 := ((d + 1), 223, 123, [some (.inr (.inr 45)), some (.inl x1)], [.inr (.inr 45), .inl r9, .inr (.inr 45)], (am_sh, am_mm U9))) 1 (fun _ => rfl) ?_
    obtain ⟨r10, U10, hk2ac, hk2aa⟩ := hk2a
    refine ev_cal (σc := (Jg_pop_s0 d U9)) (fun _ => rfl) hk2ac ?_
    show Ev (am_kz N X) ((d + 1), 223, 126, [some (.inr (.inr 45)), some (.inl x1)], [.inl r10, .inl r9, .inr (.inr 45)], (am_sh, am_mm U10)) R
    refine ev_seg (σ1 := ((d + 1), 223, 129, [some (.inr (.inr 45)), some (.inl x1)], [.inl (if r9 < r10 then r10 else r9), .inr (.inr 45)], (am_sh, am_mm U10))) 1 (fun _ => rfl) ?_
    obtain ⟨U11, hk2aac, hk2aaa⟩ := hk2aa
    refine ev_cal (σc := (Jg_push_s0 d (if r9 < r10 then r10 else r9) U10)) (fun _ => rfl) hk2aac ?_
    show Ev (am_kz N X) ((d + 1), 223, 132, [some (.inr (.inr 45)), some (.inl x1)], [], (am_sh, am_mm U11)) R
    subst hk2aaa
    exact ev_end 2 (fun _ => rfl)
  have nh2 := hc
  clear hc
  by_cases hc : x1 = 20
  · have hk3 := h.2.2.2.1 hc
    refine ev_sw (off := 134) rfl (by rw [hc]; rfl) (pt := 135) rfl ?_
    refine ev_seg (σ1 := ((d + 1), 223, 137, [some (.inr (.inr 45)), some (.inl x1)], [.inr (.inr 45), .inr (.inr 45)], (am_sh, am_mm U))) 2 (fun _ => rfl) ?_
    obtain ⟨r12, U12, hk3c, hk3a⟩ := hk3
    refine ev_cal (σc := (Jg_pop_s0 d U)) (fun _ => rfl) hk3c ?_
    show Ev (am_kz N X) ((d + 1), 223, 140, [some (.inr (.inr 45)), some (.inl x1)], [.inl r12, .inr (.inr 45)], (am_sh, am_mm U12)) R
    refine ev_seg (σ1 := ((d + 1), 223, 141, [some (.inr (.inr 45)), some (.inl x1)], [.inr (.inr 45), .inl r12, .inr (.inr 45)], (am_sh, am_mm U12))) 1 (fun _ => rfl) ?_
    obtain ⟨r13, U13, hk3ac, hk3aa⟩ := hk3a
    refine ev_cal (σc := (Jg_pop_s0 d U12)) (fun _ => rfl) hk3ac ?_
    show Ev (am_kz N X) ((d + 1), 223, 144, [some (.inr (.inr 45)), some (.inl x1)], [.inl r13, .inl r12, .inr (.inr 45)], (am_sh, am_mm U13)) R
    refine ev_seg (σ1 := ((d + 1), 223, 147, [some (.inr (.inr 45)), some (.inl x1)], [.inl (if r13 < r12 then r13 else r12), .inr (.inr 45)], (am_sh, am_mm U13))) 1 (fun _ => rfl) ?_
    obtain ⟨U14, hk3aac, hk3aaa⟩ := hk3aa
    refine ev_cal (σc := (Jg_push_s0 d (if r13 < r12 then r13 else r12) U13)) (fun _ => rfl) hk3aac ?_
    show Ev (am_kz N X) ((d + 1), 223, 150, [some (.inr (.inr 45)), some (.inl x1)], [], (am_sh, am_mm U14)) R
    subst hk3aaa
    exact ev_end 2 (fun _ => rfl)
  have nh3 := hc
  clear hc
  by_cases hc : x1 = 21
  · have hk4 := h.2.2.2.2.1 hc
    refine ev_sw (off := 59) rfl (by rw [hc]; rfl) (pt := 60) rfl ?_
    refine ev_seg (σ1 := ((d + 1), 223, 63, [some (.inr (.inr 45)), some (.inl x1)], [.inr (.inr 45), .inl 1, .inr (.inr 45)], (am_sh, am_mm U))) 3 (fun _ => rfl) ?_
    obtain ⟨r15, U15, hk4c, hk4a⟩ := hk4
    refine ev_cal (σc := (Jg_pop_s0 d U)) (fun _ => rfl) hk4c ?_
    show Ev (am_kz N X) ((d + 1), 223, 66, [some (.inr (.inr 45)), some (.inl x1)], [.inl r15, .inl 1, .inr (.inr 45)], (am_sh, am_mm U15)) R
    refine ev_seg (σ1 := ((d + 1), 223, 67, [some (.inr (.inr 45)), some (.inl x1)], [.inl (w32 (1 - r15)), .inr (.inr 45)], (am_sh, am_mm U15))) 1 (fun _ => rfl) ?_
    obtain ⟨U16, hk4ac, hk4aa⟩ := hk4a
    refine ev_cal (σc := (Jg_push_s0 d (w32 (1 - r15)) U15)) (fun _ => rfl) hk4ac ?_
    show Ev (am_kz N X) ((d + 1), 223, 70, [some (.inr (.inr 45)), some (.inl x1)], [], (am_sh, am_mm U16)) R
    subst hk4aa
    exact ev_end 2 (fun _ => rfl)
  have nh4 := hc
  clear hc
  by_cases hc : x1 = 22
  · have hk5 := h.2.2.2.2.2.1 hc
    refine ev_sw (off := 51) rfl (by rw [hc]; rfl) (pt := 52) rfl ?_
    refine ev_seg (σ1 := ((d + 1), 223, 54, [some (.inr (.inr 45)), some (.inl x1)], [.inl 1, .inr (.inr 45)], (am_sh, am_mm U))) 2 (fun _ => rfl) ?_
    obtain ⟨U17, hk5c, hk5a⟩ := hk5
    refine ev_cal (σc := (Jg_push_s0 d 1 U)) (fun _ => rfl) hk5c ?_
    show Ev (am_kz N X) ((d + 1), 223, 57, [some (.inr (.inr 45)), some (.inl x1)], [], (am_sh, am_mm U17)) R
    subst hk5a
    exact ev_end 2 (fun _ => rfl)
  have nh5 := hc
  clear hc
  by_cases hc : x1 = 23
  · have hk6 := h.2.2.2.2.2.2.1 hc
    refine ev_sw (off := 134) rfl (by rw [hc]; rfl) (pt := 135) rfl ?_
    refine ev_seg (σ1 := ((d + 1), 223, 137, [some (.inr (.inr 45)), some (.inl x1)], [.inr (.inr 45), .inr (.inr 45)], (am_sh, am_mm U))) 2 (fun _ => rfl) ?_
    obtain ⟨r18, U18, hk6c, hk6a⟩ := hk6
    refine ev_cal (σc := (Jg_pop_s0 d U)) (fun _ => rfl) hk6c ?_
    show Ev (am_kz N X) ((d + 1), 223, 140, [some (.inr (.inr 45)), some (.inl x1)], [.inl r18, .inr (.inr 45)], (am_sh, am_mm U18)) R
    refine ev_seg (σ1 := ((d + 1), 223, 141, [some (.inr (.inr 45)), some (.inl x1)], [.inr (.inr 45), .inl r18, .inr (.inr 45)], (am_sh, am_mm U18))) 1 (fun _ => rfl) ?_
    obtain ⟨r19, U19, hk6ac, hk6aa⟩ := hk6a
    refine ev_cal (σc := (Jg_pop_s0 d U18)) (fun _ => rfl) hk6ac ?_
    show Ev (am_kz N X) ((d + 1), 223, 144, [some (.inr (.inr 45)), some (.inl x1)], [.inl r19, .inl r18, .inr (.inr 45)], (am_sh, am_mm U19)) R
    refine ev_seg (σ1 := ((d + 1), 223, 147, [some (.inr (.inr 45)), some (.inl x1)], [.inl (if r19 < r18 then r19 else r18), .inr (.inr 45)], (am_sh, am_mm U19))) 1 (fun _ => rfl) ?_
    obtain ⟨U20, hk6aac, hk6aaa⟩ := hk6aa
    refine ev_cal (σc := (Jg_push_s0 d (if r19 < r18 then r19 else r18) U19)) (fun _ => rfl) hk6aac ?_
    show Ev (am_kz N X) ((d + 1), 223, 150, [some (.inr (.inr 45)), some (.inl x1)], [], (am_sh, am_mm U20)) R
    subst hk6aaa
    exact ev_end 2 (fun _ => rfl)
  have nh6 := hc
  clear hc
  by_cases hc : x1 = 24
  · have hk7 := h.2.2.2.2.2.2.2.1 hc
    refine ev_sw (off := 116) rfl (by rw [hc]; rfl) (pt := 117) rfl ?_
    refine ev_seg (σ1 := ((d + 1), 223, 119, [some (.inr (.inr 45)), some (.inl x1)], [.inr (.inr 45), .inr (.inr 45)], (am_sh, am_mm U))) 2 (fun _ => rfl) ?_
    obtain ⟨r21, U21, hk7c, hk7a⟩ := hk7
    refine ev_cal (σc := (Jg_pop_s0 d U)) (fun _ => rfl) hk7c ?_
    show Ev (am_kz N X) ((d + 1), 223, 122, [some (.inr (.inr 45)), some (.inl x1)], [.inl r21, .inr (.inr 45)], (am_sh, am_mm U21)) R
    refine ev_seg (σ1 := ((d + 1), 223, 123, [some (.inr (.inr 45)), some (.inl x1)], [.inr (.inr 45), .inl r21, .inr (.inr 45)], (am_sh, am_mm U21))) 1 (fun _ => rfl) ?_
    obtain ⟨r22, U22, hk7ac, hk7aa⟩ := hk7a
    refine ev_cal (σc := (Jg_pop_s0 d U21)) (fun _ => rfl) hk7ac ?_
    show Ev (am_kz N X) ((d + 1), 223, 126, [some (.inr (.inr 45)), some (.inl x1)], [.inl r22, .inl r21, .inr (.inr 45)], (am_sh, am_mm U22)) R
    refine ev_seg (σ1 := ((d + 1), 223, 129, [some (.inr (.inr 45)), some (.inl x1)], [.inl (if r21 < r22 then r22 else r21), .inr (.inr 45)], (am_sh, am_mm U22))) 1 (fun _ => rfl) ?_
    obtain ⟨U23, hk7aac, hk7aaa⟩ := hk7aa
    refine ev_cal (σc := (Jg_push_s0 d (if r21 < r22 then r22 else r21) U22)) (fun _ => rfl) hk7aac ?_
    show Ev (am_kz N X) ((d + 1), 223, 132, [some (.inr (.inr 45)), some (.inl x1)], [], (am_sh, am_mm U23)) R
    subst hk7aaa
    exact ev_end 2 (fun _ => rfl)
  have nh7 := hc
  clear hc
  by_cases hc : x1 = 25
  · have hk8 := h.2.2.2.2.2.2.2.2.1 hc
    refine ev_sw (off := 152) rfl (by rw [hc]; rfl) (pt := 153) rfl ?_
    refine ev_seg (σ1 := ((d + 1), 223, 155, [some (.inr (.inr 45)), some (.inl x1)], [.inr (.inr 45), .inr (.inr 45)], (am_sh, am_mm U))) 2 (fun _ => rfl) ?_
    obtain ⟨r24, U24, hk8c, hk8a⟩ := hk8
    refine ev_cal (σc := (Jg_pop_s0 d U)) (fun _ => rfl) hk8c ?_
    show Ev (am_kz N X) ((d + 1), 223, 158, [some (.inr (.inr 45)), some (.inl x1)], [.inl r24, .inr (.inr 45)], (am_sh, am_mm U24)) R
    refine ev_seg (σ1 := ((d + 1), 223, 159, [some (.inr (.inr 45)), some (.inl x1)], [.inr (.inr 45), .inl r24, .inr (.inr 45)], (am_sh, am_mm U24))) 1 (fun _ => rfl) ?_
    obtain ⟨r25, U25, hk8ac, hk8aa⟩ := hk8a
    refine ev_cal (σc := (Jg_pop_s0 d U24)) (fun _ => rfl) hk8ac ?_
    show Ev (am_kz N X) ((d + 1), 223, 162, [some (.inr (.inr 45)), some (.inl x1)], [.inl r25, .inl r24, .inr (.inr 45)], (am_sh, am_mm U25)) R
    obtain ⟨r26, U26, hk8aac, hk8aaa⟩ := hk8aa
    refine ev_cal (σc := (Nm_commonFactor_s0 d r24 r25 U25)) (fun _ => rfl) hk8aac ?_
    show Ev (am_kz N X) ((d + 1), 223, 165, [some (.inr (.inr 45)), some (.inl x1)], [.inl r26, .inr (.inr 45)], (am_sh, am_mm U26)) R
    obtain ⟨U27, hk8aaac, hk8aaaa⟩ := hk8aaa
    refine ev_cal (σc := (Jg_push_s0 d r26 U26)) (fun _ => rfl) hk8aaac ?_
    show Ev (am_kz N X) ((d + 1), 223, 168, [some (.inr (.inr 45)), some (.inl x1)], [], (am_sh, am_mm U27)) R
    subst hk8aaaa
    exact ev_end 2 (fun _ => rfl)
  have nh8 := hc
  clear hc
  have hkd := h.2.2.2.2.2.2.2.2.2 ⟨nh0, nh1, nh2, nh3, nh4, nh5, nh6, nh7, nh8⟩
  refine ev_sw (off := 170) rfl (if_pos (by omega)) (pt := 171) rfl ?_
  subst hkd
  exact ev_end 1 (fun _ => rfl)
set_option maxRecDepth 8000 in
theorem Jg_ask_r0 {N : Nat} {X : Nat → Int} {d : Nat} {x1 x2 x3 : Int} {U : am_U} {R : Option am_V × am_M} (h : (0 ≤ x2 ∧ x2 < 16) ∧ (((U 18 x2.toNat) < 0) → EvK N X (Jg_ask_s28 (d + 1) x1 x2 x3 (U 18 x2.toNat) U) R) ∧ ((0 ≤ (U 18 x2.toNat)) → (((U 18 x2.toNat) < (U 3 1)) → (x1 = 0 → (0 ≤ (U 18 x2.toNat) ∧ (U 18 x2.toNat) < 12) ∧ R = rI (U 6 ((U 18 x2.toNat).toNat)) U) ∧ (x1 = 3 → (0 ≤ (U 18 x2.toNat) ∧ (U 18 x2.toNat) < 12) ∧ R = rI (U 8 ((U 18 x2.toNat).toNat)) U) ∧ (x1 = 14 → R = rI (U 17 x2.toNat) U) ∧ (x1 = 15 → R = rI x3 U) ∧ (x1 = 16 → (0 ≤ (U 18 x2.toNat) ∧ (U 18 x2.toNat) < 12) ∧ ∃ (r1 : Int) (U1 : am_U), EvK N X (In_bitCount_s0 d (U 19 ((U 18 x2.toNat).toNat)) U) (rI r1 U1) ∧ R = rI r1 U1) ∧ (¬ x1 = 0 ∧ ¬ x1 = 3 ∧ ¬ x1 = 14 ∧ ¬ x1 = 15 ∧ ¬ x1 = 16 → R = rI (U 18 x2.toNat) U)) ∧ (((U 3 1) ≤ (U 18 x2.toNat)) → EvK N X (Jg_ask_s28 (d + 1) x1 x2 x3 (U 18 x2.toNat) U) R))) : EvK N X (Jg_ask_s0 (d + 1) x1 x2 x3 U) R := by
  show Ev (am_kz N X) ((d + 1), 222, 0, [some (.inr (.inr 45)), some (.inl x1), some (.inl x2), some (.inl x3), none, none], [], (am_sh, am_mm U)) R
  refine ev_seg (σ1 := ((d + 1), 222, 8, [some (.inr (.inr 45)), some (.inl x1), some (.inl x2), some (.inl x3), none, none], [.inl x2, .inr (.inr 18)], (am_sh, am_mm U))) 4 (fun _ => rfl) ?_
  refine eu_iald 18 (n := 16) rfl (by decide) rfl (fun _ => rfl) h.1 ?_
  show Ev (am_kz N X) ((d + 1), 222, 9, [some (.inr (.inr 45)), some (.inl x1), some (.inl x2), some (.inl x3), none, none], [.inl (U 18 x2.toNat)], (am_sh, am_mm U)) R
  have ha := h.2
  refine ev_br (P := (U 18 x2.toNat) < 0) (σ1 := ((d + 1), 222, 28, [some (.inr (.inr 45)), some (.inl x1), some (.inl x2), some (.inl x3), some (.inl (U 18 x2.toNat)), none], [], (am_sh, am_mm U))) (σ2 := ((d + 1), 222, 16, [some (.inr (.inr 45)), some (.inl x1), some (.inl x2), some (.inl x3), some (.inl (U 18 x2.toNat)), none], [], (am_sh, am_mm U))) 3 (fun _ => rfl) (fun hc => ?_) (fun hc => ?_)
  · have ha1 := ha.1 hc
    exact ha1
  · have ha2 := ha.2 (Int.not_lt.mp hc)
    refine ev_br (P := (U 18 x2.toNat) < (U 3 1)) (σ1 := ((d + 1), 222, 32, [some (.inr (.inr 45)), some (.inl x1), some (.inl x2), some (.inl x3), some (.inl (U 18 x2.toNat)), none], [], (am_sh, am_mm U))) (σ2 := ((d + 1), 222, 28, [some (.inr (.inr 45)), some (.inl x1), some (.inl x2), some (.inl x3), some (.inl (U 18 x2.toNat)), none], [], (am_sh, am_mm U))) 5 (fun _ => rfl) (fun hc => ?_) (fun hc => ?_)
    · have ha21 := ha2.1 hc
      refine ev_seg (σ1 := ((d + 1), 222, 36, [some (.inr (.inr 45)), some (.inl x1), some (.inl x2), some (.inl x3), some (.inl (U 18 x2.toNat)), some (.inl 0)], [.inl x1], (am_sh, am_mm U))) 3 (fun _ => rfl) ?_
      by_cases hc : x1 = 0
      · have ha21k0 := ha21.1 hc
        refine ev_lsw rfl (pt := 143) (by rw [hc]; rfl) ?_
        refine ev_seg (σ1 := ((d + 1), 222, 161, [some (.inr (.inr 45)), some (.inl x1), some (.inl x2), some (.inl x3), some (.inl (U 18 x2.toNat)), some (.inl 0)], [.inl (U 18 x2.toNat), .inr (.inr 6)], (am_sh, am_mm U))) 6 (fun _ => rfl) ?_
        refine eu_iald 6 (n := 12) rfl (by decide) rfl (fun _ => rfl) ha21k0.1 ?_
        show Ev (am_kz N X) ((d + 1), 222, 162, [some (.inr (.inr 45)), some (.inl x1), some (.inl x2), some (.inl x3), some (.inl (U 18 x2.toNat)), some (.inl 0)], [.inl (U 6 ((U 18 x2.toNat).toNat))], (am_sh, am_mm U)) R
        have ha21k0a := ha21k0.2
        subst ha21k0a
        exact ev_end 1 (fun _ => rfl)
      have nha210 := hc
      clear hc
      by_cases hc : x1 = 3
      · have ha21k1 := ha21.2.1 hc
        refine ev_lsw rfl (pt := 100) (by rw [hc]; rfl) ?_
        refine ev_seg (σ1 := ((d + 1), 222, 118, [some (.inr (.inr 45)), some (.inl x1), some (.inl x2), some (.inl x3), some (.inl (U 18 x2.toNat)), some (.inl 0)], [.inl (U 18 x2.toNat), .inr (.inr 8)], (am_sh, am_mm U))) 6 (fun _ => rfl) ?_
        refine eu_iald 8 (n := 12) rfl (by decide) rfl (fun _ => rfl) ha21k1.1 ?_
        show Ev (am_kz N X) ((d + 1), 222, 119, [some (.inr (.inr 45)), some (.inl x1), some (.inl x2), some (.inl x3), some (.inl (U 18 x2.toNat)), some (.inl 0)], [.inl (U 8 ((U 18 x2.toNat).toNat))], (am_sh, am_mm U)) R
        have ha21k1a := ha21k1.2
        subst ha21k1a
        exact ev_end 1 (fun _ => rfl)
      have nha211 := hc
      clear hc
      by_cases hc : x1 = 14
      · have ha21k2 := ha21.2.2.1 hc
        refine ev_lsw rfl (pt := 88) (by rw [hc]; rfl) ?_
        refine ev_seg (σ1 := ((d + 1), 222, 96, [some (.inr (.inr 45)), some (.inl x1), some (.inl x2), some (.inl x3), some (.inl (U 18 x2.toNat)), some (.inl 0)], [.inl x2, .inr (.inr 17)], (am_sh, am_mm U))) 4 (fun _ => rfl) ?_
        refine eu_iald 17 (n := 16) rfl (by decide) rfl (fun _ => rfl) h.1 ?_
        show Ev (am_kz N X) ((d + 1), 222, 97, [some (.inr (.inr 45)), some (.inl x1), some (.inl x2), some (.inl x3), some (.inl (U 18 x2.toNat)), some (.inl 0)], [.inl (U 17 x2.toNat)], (am_sh, am_mm U)) R
        subst ha21k2
        exact ev_end 1 (fun _ => rfl)
      have nha212 := hc
      clear hc
      by_cases hc : x1 = 15
      · have ha21k3 := ha21.2.2.2.1 hc
        refine ev_lsw rfl (pt := 98) (by rw [hc]; rfl) ?_
        subst ha21k3
        exact ev_end 2 (fun _ => rfl)
      have nha213 := hc
      clear hc
      by_cases hc : x1 = 16
      · have ha21k4 := ha21.2.2.2.2.1 hc
        refine ev_lsw rfl (pt := 120) (by rw [hc]; rfl) ?_
        refine ev_seg (σ1 := ((d + 1), 222, 138, [some (.inr (.inr 45)), some (.inl x1), some (.inl x2), some (.inl x3), some (.inl (U 18 x2.toNat)), some (.inl 0)], [.inl (U 18 x2.toNat), .inr (.inr 19)], (am_sh, am_mm U))) 6 (fun _ => rfl) ?_
        refine eu_iald 19 (n := 12) rfl (by decide) rfl (fun _ => rfl) ha21k4.1 ?_
        show Ev (am_kz N X) ((d + 1), 222, 139, [some (.inr (.inr 45)), some (.inl x1), some (.inl x2), some (.inl x3), some (.inl (U 18 x2.toNat)), some (.inl 0)], [.inl (U 19 ((U 18 x2.toNat).toNat))], (am_sh, am_mm U)) R
        have ha21k4a := ha21k4.2
        obtain ⟨r1, U1, ha21k4ac, ha21k4aa⟩ := ha21k4a
        refine ev_cal (σc := (In_bitCount_s0 d (U 19 ((U 18 x2.toNat).toNat)) U)) (fun _ => rfl) ha21k4ac ?_
        show Ev (am_kz N X) ((d + 1), 222, 142, [some (.inr (.inr 45)), some (.inl x1), some (.inl x2), some (.inl x3), some (.inl (U 18 x2.toNat)), some (.inl 0)], [.inl r1], (am_sh, am_mm U1)) R
        subst ha21k4aa
        exact ev_end 1 (fun _ => rfl)
      have nha214 := hc
      clear hc
      have ha21kd := ha21.2.2.2.2.2 ⟨nha210, nha211, nha212, nha213, nha214⟩
      refine ev_lsw rfl (pt := 163) (by simp only [Op.lookupswitch.offset]; rw [if_neg (fun e => nha210 e.symm)]; rw [if_neg (fun e => nha211 e.symm)]; rw [if_neg (fun e => nha212 e.symm)]; rw [if_neg (fun e => nha213 e.symm)]; rw [if_neg (fun e => nha214 e.symm)]; rfl) ?_
      subst ha21kd
      exact ev_end 4 (fun _ => rfl)
    · have ha22 := ha2.2 (Int.not_lt.mp hc)
      exact ha22
set_option maxRecDepth 8000 in
theorem Jg_ask_r28 {N : Nat} {X : Nat → Int} {d : Nat} {x1 x2 x3 x4 : Int} {U : am_U} {R : Option am_V × am_M} (h : (x1 = 0 → R = rI (-1) U) ∧ (x1 = 3 → R = rI 0 U) ∧ (x1 = 14 → (0 ≤ x2 ∧ x2 < 16) ∧ R = rI (U 17 x2.toNat) U) ∧ (x1 = 15 → R = rI x3 U) ∧ (x1 = 16 → R = rI 0 U) ∧ (¬ x1 = 0 ∧ ¬ x1 = 3 ∧ ¬ x1 = 14 ∧ ¬ x1 = 15 ∧ ¬ x1 = 16 → R = rI (-1) U)) : EvK N X (Jg_ask_s28 (d + 1) x1 x2 x3 x4 U) R := by
  show Ev (am_kz N X) ((d + 1), 222, 28, [some (.inr (.inr 45)), some (.inl x1), some (.inl x2), some (.inl x3), some (.inl x4), none], [], (am_sh, am_mm U)) R
  refine ev_seg (σ1 := ((d + 1), 222, 36, [some (.inr (.inr 45)), some (.inl x1), some (.inl x2), some (.inl x3), some (.inl x4), some (.inl 1)], [.inl x1], (am_sh, am_mm U))) 4 (fun _ => rfl) ?_
  by_cases hc : x1 = 0
  · have hk0 := h.1 hc
    refine ev_lsw rfl (pt := 143) (by rw [hc]; rfl) ?_
    subst hk0
    exact ev_end 5 (fun _ => rfl)
  have nh0 := hc
  clear hc
  by_cases hc : x1 = 3
  · have hk1 := h.2.1 hc
    refine ev_lsw rfl (pt := 100) (by rw [hc]; rfl) ?_
    subst hk1
    exact ev_end 5 (fun _ => rfl)
  have nh1 := hc
  clear hc
  by_cases hc : x1 = 14
  · have hk2 := h.2.2.1 hc
    refine ev_lsw rfl (pt := 88) (by rw [hc]; rfl) ?_
    refine ev_seg (σ1 := ((d + 1), 222, 96, [some (.inr (.inr 45)), some (.inl x1), some (.inl x2), some (.inl x3), some (.inl x4), some (.inl 1)], [.inl x2, .inr (.inr 17)], (am_sh, am_mm U))) 4 (fun _ => rfl) ?_
    refine eu_iald 17 (n := 16) rfl (by decide) rfl (fun _ => rfl) hk2.1 ?_
    show Ev (am_kz N X) ((d + 1), 222, 97, [some (.inr (.inr 45)), some (.inl x1), some (.inl x2), some (.inl x3), some (.inl x4), some (.inl 1)], [.inl (U 17 x2.toNat)], (am_sh, am_mm U)) R
    have hk2a := hk2.2
    subst hk2a
    exact ev_end 1 (fun _ => rfl)
  have nh2 := hc
  clear hc
  by_cases hc : x1 = 15
  · have hk3 := h.2.2.2.1 hc
    refine ev_lsw rfl (pt := 98) (by rw [hc]; rfl) ?_
    subst hk3
    exact ev_end 2 (fun _ => rfl)
  have nh3 := hc
  clear hc
  by_cases hc : x1 = 16
  · have hk4 := h.2.2.2.2.1 hc
    refine ev_lsw rfl (pt := 120) (by rw [hc]; rfl) ?_
    subst hk4
    exact ev_end 5 (fun _ => rfl)
  have nh4 := hc
  clear hc
  have hkd := h.2.2.2.2.2 ⟨nh0, nh1, nh2, nh3, nh4⟩
  refine ev_lsw rfl (pt := 163) (by simp only [Op.lookupswitch.offset]; rw [if_neg (fun e => nh0 e.symm)]; rw [if_neg (fun e => nh1 e.symm)]; rw [if_neg (fun e => nh2 e.symm)]; rw [if_neg (fun e => nh3 e.symm)]; rw [if_neg (fun e => nh4 e.symm)]; rfl) ?_
  subst hkd
  exact ev_end 5 (fun _ => rfl)
set_option maxRecDepth 8000 in
theorem Jg_push_r0 {N : Nat} {X : Nat → Int} {d : Nat} {x1 : Int} {U : am_U} {R : Option am_V × am_M} (h : ((64 ≤ (U 45 3)) → R = rV U) ∧ (((U 45 3) < 64) → (0 ≤ (U 45 3) ∧ (U 45 3) < 64) ∧ R = rV (am_upd (am_upd U 46 ((U 45 3).toNat) x1) 45 3 (w32 ((U 45 3) + 1))))) : EvK N X (Jg_push_s0 d x1 U) R := by
  show Ev (am_kz N X) (d, 219, 0, [some (.inr (.inr 45)), some (.inl x1)], [], (am_sh, am_mm U)) R
  refine ev_br (P := 64 ≤ (U 45 3)) (σ1 := (d, 219, 32, [some (.inr (.inr 45)), some (.inl x1)], [], (am_sh, am_mm U))) (σ2 := (d, 219, 12, [some (.inr (.inr 45)), some (.inl x1)], [], (am_sh, am_mm U))) 6 (fun _ => rfl) (fun hc => ?_) (fun hc => ?_)
  · have h1 := h.1 hc
    subst h1
    exact ev_end 1 (fun _ => rfl)
  · have h2 := h.2 (Int.not_le.mp hc)
    refine ev_seg (σ1 := (d, 219, 21, [some (.inr (.inr 45)), some (.inl x1)], [.inl x1, .inl (U 45 3), .inr (.inr 46)], (am_sh, am_mm U))) 5 (fun _ => rfl) ?_
    refine eu_iast 46 (n := 64) rfl (by decide) rfl (fun _ => rfl) h2.1 ?_
    show Ev (am_kz N X) (d, 219, 22, [some (.inr (.inr 45)), some (.inl x1)], [], (am_sh, am_mm (am_upd U 46 ((U 45 3).toNat) x1))) R
    have h2a := h2.2
    refine ev_seg (σ1 := (d, 219, 29, [some (.inr (.inr 45)), some (.inl x1)], [.inl (w32 ((U 45 3) + 1)), .inr (.inr 45)], (am_sh, am_mm (am_upd U 46 ((U 45 3).toNat) x1)))) 5 (fun _ => rfl) ?_
    refine eu_puti 45 (n := 6) rfl (by decide) rfl rfl ?_
    show Ev (am_kz N X) (d, 219, 32, [some (.inr (.inr 45)), some (.inl x1)], [], (am_sh, am_mm (am_upd (am_upd U 46 ((U 45 3).toNat) x1) 45 3 (w32 ((U 45 3) + 1))))) R
    subst h2a
    exact ev_end 1 (fun _ => rfl)
set_option maxRecDepth 8000 in
theorem Jg_combine_r0 {N : Nat} {X : Nat → Int} {d : Nat} {x0 x1 x2 : Int} {U : am_U} {R : Option am_V × am_M} (h : (x0 = 42 → R = rI (w32 (if (if (w64 (x1 * x2)) < 1000000000 then (w64 (x1 * x2)) else 1000000000) < (-1000000000) then (-1000000000) else (if (w64 (x1 * x2)) < 1000000000 then (w64 (x1 * x2)) else 1000000000))) U) ∧ (x0 = 43 → R = rI (w32 (if (if (w64 (x1 + x2)) < 1000000000 then (w64 (x1 + x2)) else 1000000000) < (-1000000000) then (-1000000000) else (if (w64 (x1 + x2)) < 1000000000 then (w64 (x1 + x2)) else 1000000000))) U) ∧ (x0 = 44 → ((x2 ≠ 0) → x2 ≠ 0 ∧ R = rI (w32 (if (if (Int.fmod x1 x2) < 1000000000 then (Int.fmod x1 x2) else 1000000000) < (-1000000000) then (-1000000000) else (if (Int.fmod x1 x2) < 1000000000 then (Int.fmod x1 x2) else 1000000000))) U) ∧ ((x2 = 0) → R = rI (w32 (if (if 0 < 1000000000 then 0 else 1000000000) < (-1000000000) then (-1000000000) else (if 0 < 1000000000 then 0 else 1000000000))) U)) ∧ (x0 = 45 → R = rI (w32 (if (if (w64 (x1 - x2)) < 1000000000 then (w64 (x1 - x2)) else 1000000000) < (-1000000000) then (-1000000000) else (if (w64 (x1 - x2)) < 1000000000 then (w64 (x1 - x2)) else 1000000000))) U) ∧ (x0 = 46 → ((x2 ≠ 0) → x2 ≠ 0 ∧ R = rI (w32 (if (if (Int.fmod x1 x2) < 1000000000 then (Int.fmod x1 x2) else 1000000000) < (-1000000000) then (-1000000000) else (if (Int.fmod x1 x2) < 1000000000 then (Int.fmod x1 x2) else 1000000000))) U) ∧ ((x2 = 0) → R = rI (w32 (if (if 0 < 1000000000 then 0 else 1000000000) < (-1000000000) then (-1000000000) else (if 0 < 1000000000 then 0 else 1000000000))) U)) ∧ (x0 = 47 → ((x2 ≠ 0) → x2 ≠ 0 ∧ R = rI (w32 (if (if (w32 (Int.fdiv x1 x2)) < 1000000000 then (w32 (Int.fdiv x1 x2)) else 1000000000) < (-1000000000) then (-1000000000) else (if (w32 (Int.fdiv x1 x2)) < 1000000000 then (w32 (Int.fdiv x1 x2)) else 1000000000))) U) ∧ ((x2 = 0) → R = rI (w32 (if (if 0 < 1000000000 then 0 else 1000000000) < (-1000000000) then (-1000000000) else (if 0 < 1000000000 then 0 else 1000000000))) U)) ∧ (x0 = 48 → ((x2 ≠ 0) → x2 ≠ 0 ∧ R = rI (w32 (if (if (Int.fmod x1 x2) < 1000000000 then (Int.fmod x1 x2) else 1000000000) < (-1000000000) then (-1000000000) else (if (Int.fmod x1 x2) < 1000000000 then (Int.fmod x1 x2) else 1000000000))) U) ∧ ((x2 = 0) → R = rI (w32 (if (if 0 < 1000000000 then 0 else 1000000000) < (-1000000000) then (-1000000000) else (if 0 < 1000000000 then 0 else 1000000000))) U)) ∧ (x0 = 49 → ((x2 ≠ 0) → x2 ≠ 0 ∧ R = rI (w32 (if (if (Int.fmod x1 x2) < 1000000000 then (Int.fmod x1 x2) else 1000000000) < (-1000000000) then (-1000000000) else (if (Int.fmod x1 x2) < 1000000000 then (Int.fmod x1 x2) else 1000000000))) U) ∧ ((x2 = 0) → R = rI (w32 (if (if 0 < 1000000000 then 0 else 1000000000) < (-1000000000) then (-1000000000) else (if 0 < 1000000000 then 0 else 1000000000))) U)) ∧ (x0 = 50 → ((x2 ≠ 0) → x2 ≠ 0 ∧ R = rI (w32 (if (if (Int.fmod x1 x2) < 1000000000 then (Int.fmod x1 x2) else 1000000000) < (-1000000000) then (-1000000000) else (if (Int.fmod x1 x2) < 1000000000 then (Int.fmod x1 x2) else 1000000000))) U) ∧ ((x2 = 0) → R = rI (w32 (if (if 0 < 1000000000 then 0 else 1000000000) < (-1000000000) then (-1000000000) else (if 0 < 1000000000 then 0 else 1000000000))) U)) ∧ (x0 = 51 → ((x2 ≠ 0) → x2 ≠ 0 ∧ R = rI (w32 (if (if (Int.fmod x1 x2) < 1000000000 then (Int.fmod x1 x2) else 1000000000) < (-1000000000) then (-1000000000) else (if (Int.fmod x1 x2) < 1000000000 then (Int.fmod x1 x2) else 1000000000))) U) ∧ ((x2 = 0) → R = rI (w32 (if (if 0 < 1000000000 then 0 else 1000000000) < (-1000000000) then (-1000000000) else (if 0 < 1000000000 then 0 else 1000000000))) U)) ∧ (x0 = 52 → ((x2 ≠ 0) → x2 ≠ 0 ∧ R = rI (w32 (if (if (Int.fmod x1 x2) < 1000000000 then (Int.fmod x1 x2) else 1000000000) < (-1000000000) then (-1000000000) else (if (Int.fmod x1 x2) < 1000000000 then (Int.fmod x1 x2) else 1000000000))) U) ∧ ((x2 = 0) → R = rI (w32 (if (if 0 < 1000000000 then 0 else 1000000000) < (-1000000000) then (-1000000000) else (if 0 < 1000000000 then 0 else 1000000000))) U)) ∧ (x0 = 53 → ((x2 ≠ 0) → x2 ≠ 0 ∧ R = rI (w32 (if (if (Int.fmod x1 x2) < 1000000000 then (Int.fmod x1 x2) else 1000000000) < (-1000000000) then (-1000000000) else (if (Int.fmod x1 x2) < 1000000000 then (Int.fmod x1 x2) else 1000000000))) U) ∧ ((x2 = 0) → R = rI (w32 (if (if 0 < 1000000000 then 0 else 1000000000) < (-1000000000) then (-1000000000) else (if 0 < 1000000000 then 0 else 1000000000))) U)) ∧ (x0 = 54 → ((x2 ≠ 0) → x2 ≠ 0 ∧ R = rI (w32 (if (if (Int.fmod x1 x2) < 1000000000 then (Int.fmod x1 x2) else 1000000000) < (-1000000000) then (-1000000000) else (if (Int.fmod x1 x2) < 1000000000 then (Int.fmod x1 x2) else 1000000000))) U) ∧ ((x2 = 0) → R = rI (w32 (if (if 0 < 1000000000 then 0 else 1000000000) < (-1000000000) then (-1000000000) else (if 0 < 1000000000 then 0 else 1000000000))) U)) ∧ (x0 = 55 → ((x2 ≠ 0) → x2 ≠ 0 ∧ R = rI (w32 (if (if (Int.fmod x1 x2) < 1000000000 then (Int.fmod x1 x2) else 1000000000) < (-1000000000) then (-1000000000) else (if (Int.fmod x1 x2) < 1000000000 then (Int.fmod x1 x2) else 1000000000))) U) ∧ ((x2 = 0) → R = rI (w32 (if (if 0 < 1000000000 then 0 else 1000000000) < (-1000000000) then (-1000000000) else (if 0 < 1000000000 then 0 else 1000000000))) U)) ∧ (x0 = 56 → ((x2 ≠ 0) → x2 ≠ 0 ∧ R = rI (w32 (if (if (Int.fmod x1 x2) < 1000000000 then (Int.fmod x1 x2) else 1000000000) < (-1000000000) then (-1000000000) else (if (Int.fmod x1 x2) < 1000000000 then (Int.fmod x1 x2) else 1000000000))) U) ∧ ((x2 = 0) → R = rI (w32 (if (if 0 < 1000000000 then 0 else 1000000000) < (-1000000000) then (-1000000000) else (if 0 < 1000000000 then 0 else 1000000000))) U)) ∧ (x0 = 57 → ((x2 ≠ 0) → x2 ≠ 0 ∧ R = rI (w32 (if (if (Int.fmod x1 x2) < 1000000000 then (Int.fmod x1 x2) else 1000000000) < (-1000000000) then (-1000000000) else (if (Int.fmod x1 x2) < 1000000000 then (Int.fmod x1 x2) else 1000000000))) U) ∧ ((x2 = 0) → R = rI (w32 (if (if 0 < 1000000000 then 0 else 1000000000) < (-1000000000) then (-1000000000) else (if 0 < 1000000000 then 0 else 1000000000))) U)) ∧ (x0 = 58 → ((x2 ≠ 0) → x2 ≠ 0 ∧ R = rI (w32 (if (if (Int.fmod x1 x2) < 1000000000 then (Int.fmod x1 x2) else 1000000000) < (-1000000000) then (-1000000000) else (if (Int.fmod x1 x2) < 1000000000 then (Int.fmod x1 x2) else 1000000000))) U) ∧ ((x2 = 0) → R = rI (w32 (if (if 0 < 1000000000 then 0 else 1000000000) < (-1000000000) then (-1000000000) else (if 0 < 1000000000 then 0 else 1000000000))) U)) ∧ (x0 = 59 → ((x2 ≠ 0) → x2 ≠ 0 ∧ R = rI (w32 (if (if (Int.fmod x1 x2) < 1000000000 then (Int.fmod x1 x2) else 1000000000) < (-1000000000) then (-1000000000) else (if (Int.fmod x1 x2) < 1000000000 then (Int.fmod x1 x2) else 1000000000))) U) ∧ ((x2 = 0) → R = rI (w32 (if (if 0 < 1000000000 then 0 else 1000000000) < (-1000000000) then (-1000000000) else (if 0 < 1000000000 then 0 else 1000000000))) U)) ∧ (x0 = 60 → ((x2 ≤ x1) → R = rI 0 U) ∧ ((x1 < x2) → R = rI 1 U)) ∧ (x0 = 61 → ((x1 ≠ x2) → R = rI 0 U) ∧ ((x1 = x2) → R = rI 1 U)) ∧ (x0 = 62 → ((x1 ≤ x2) → R = rI 0 U) ∧ ((x2 < x1) → R = rI 1 U)) ∧ (¬ x0 = 42 ∧ ¬ x0 = 43 ∧ ¬ x0 = 44 ∧ ¬ x0 = 45 ∧ ¬ x0 = 46 ∧ ¬ x0 = 47 ∧ ¬ x0 = 48 ∧ ¬ x0 = 49 ∧ ¬ x0 = 50 ∧ ¬ x0 = 51 ∧ ¬ x0 = 52 ∧ ¬ x0 = 53 ∧ ¬ x0 = 54 ∧ ¬ x0 = 55 ∧ ¬ x0 = 56 ∧ ¬ x0 = 57 ∧ ¬ x0 = 58 ∧ ¬ x0 = 59 ∧ ¬ x0 = 60 ∧ ¬ x0 = 61 ∧ ¬ x0 = 62 → ((x2 ≠ 0) → x2 ≠ 0 ∧ R = rI (w32 (if (if (Int.fmod x1 x2) < 1000000000 then (Int.fmod x1 x2) else 1000000000) < (-1000000000) then (-1000000000) else (if (Int.fmod x1 x2) < 1000000000 then (Int.fmod x1 x2) else 1000000000))) U) ∧ ((x2 = 0) → R = rI (w32 (if (if 0 < 1000000000 then 0 else 1000000000) < (-1000000000) then (-1000000000) else (if 0 < 1000000000 then 0 else 1000000000))) U))) : EvK N X (Jg_combine_s0 (d + 1) x0 x1 x2 U) R := by
  show Ev (am_kz N X) ((d + 1), 221, 0, [some (.inl x0), some (.inl x1), some (.inl x2), none, none], [], (am_sh, am_mm U)) R
  refine ev_seg (σ1 := ((d + 1), 221, 1, [some (.inl x0), some (.inl x1), some (.inl x2), none, none], [.inl x0], (am_sh, am_mm U))) 1 (fun _ => rfl) ?_
  by_cases hc : x0 = 42
  · have hk0 := h.1 hc
    refine ev_sw (off := 150) rfl (by rw [hc]; rfl) (pt := 151) rfl ?_
    subst hk0
    exact ev_end 14 (fun _ => rfl)
  have nh0 := hc
  clear hc
  by_cases hc : x0 = 43
  · have hk1 := h.2.1 hc
    refine ev_sw (off := 132) rfl (by rw [hc]; rfl) (pt := 133) rfl ?_
    subst hk1
    exact ev_end 14 (fun _ => rfl)
  have nh1 := hc
  clear hc
  by_cases hc : x0 = 44
  · have hk2 := h.2.2.1 hc
    refine ev_sw (off := 177) rfl (by rw [hc]; rfl) (pt := 178) rfl ?_
    refine ev_br (P := ¬ x2 = 0) (σ1 := ((d + 1), 221, 186, [some (.inl x0), some (.inl x1), some (.inl x2), none, none], [], (am_sh, am_mm U))) (σ2 := ((d + 1), 221, 182, [some (.inl x0), some (.inl x1), some (.inl x2), none, none], [], (am_sh, am_mm U))) 2 (fun _ => rfl) (fun hc => ?_) (fun hc => ?_)
    · have hk21 := hk2.1 hc
      refine ev_seg (σ1 := ((d + 1), 221, 188, [some (.inl x0), some (.inl x1), some (.inl x2), none, none], [.inl x2, .inl x1], (am_sh, am_mm U))) 2 (fun _ => rfl) ?_
      refine ev_flm rfl (by omega) (by simp [am_cat]) hk21.1 ?_
      show Ev (am_kz N X) ((d + 1), 221, 191, [some (.inl x0), some (.inl x1), some (.inl x2), none, none], [.inl (Int.fmod x1 x2)], (am_sh, am_mm U)) R
      have hk21a := hk21.2
      subst hk21a
      exact ev_end 9 (fun _ => rfl)
    · have hk22 := hk2.2 (Decidable.not_not.mp hc)
      subst hk22
      exact ev_end 10 (fun _ => rfl)
  have nh2 := hc
  clear hc
  by_cases hc : x0 = 45
  · have hk3 := h.2.2.2.1 hc
    refine ev_sw (off := 141) rfl (by rw [hc]; rfl) (pt := 142) rfl ?_
    subst hk3
    exact ev_end 14 (fun _ => rfl)
  have nh3 := hc
  clear hc
  by_cases hc : x0 = 46
  · have hk4 := h.2.2.2.2.1 hc
    refine ev_sw (off := 177) rfl (by rw [hc]; rfl) (pt := 178) rfl ?_
    refine ev_br (P := ¬ x2 = 0) (σ1 := ((d + 1), 221, 186, [some (.inl x0), some (.inl x1), some (.inl x2), none, none], [], (am_sh, am_mm U))) (σ2 := ((d + 1), 221, 182, [some (.inl x0), some (.inl x1), some (.inl x2), none, none], [], (am_sh, am_mm U))) 2 (fun _ => rfl) (fun hc => ?_) (fun hc => ?_)
    · have hk41 := hk4.1 hc
      refine ev_seg (σ1 := ((d + 1), 221, 188, [some (.inl x0), some (.inl x1), some (.inl x2), none, none], [.inl x2, .inl x1], (am_sh, am_mm U))) 2 (fun _ => rfl) ?_
      refine ev_flm rfl (by omega) (by simp [am_cat]) hk41.1 ?_
      show Ev (am_kz N X) ((d + 1), 221, 191, [some (.inl x0), some (.inl x1), some (.inl x2), none, none], [.inl (Int.fmod x1 x2)], (am_sh, am_mm U)) R
      have hk41a := hk41.2
      subst hk41a
      exact ev_end 9 (fun _ => rfl)
    · have hk42 := hk4.2 (Decidable.not_not.mp hc)
      subst hk42
      exact ev_end 10 (fun _ => rfl)
  have nh4 := hc
  clear hc
  by_cases hc : x0 = 47
  · have hk5 := h.2.2.2.2.2.1 hc
    refine ev_sw (off := 159) rfl (by rw [hc]; rfl) (pt := 160) rfl ?_
    refine ev_br (P := ¬ x2 = 0) (σ1 := ((d + 1), 221, 168, [some (.inl x0), some (.inl x1), some (.inl x2), none, none], [], (am_sh, am_mm U))) (σ2 := ((d + 1), 221, 164, [some (.inl x0), some (.inl x1), some (.inl x2), none, none], [], (am_sh, am_mm U))) 2 (fun _ => rfl) (fun hc => ?_) (fun hc => ?_)
    · have hk51 := hk5.1 hc
      refine ev_seg (σ1 := ((d + 1), 221, 170, [some (.inl x0), some (.inl x1), some (.inl x2), none, none], [.inl x2, .inl x1], (am_sh, am_mm U))) 2 (fun _ => rfl) ?_
      refine ev_fld rfl (by omega) (by simp [am_cat]) hk51.1 ?_
      show Ev (am_kz N X) ((d + 1), 221, 173, [some (.inl x0), some (.inl x1), some (.inl x2), none, none], [.inl (w32 (Int.fdiv x1 x2))], (am_sh, am_mm U)) R
      have hk51a := hk51.2
      subst hk51a
      exact ev_end 10 (fun _ => rfl)
    · have hk52 := hk5.2 (Decidable.not_not.mp hc)
      subst hk52
      exact ev_end 11 (fun _ => rfl)
  have nh5 := hc
  clear hc
  by_cases hc : x0 = 48
  · have hk6 := h.2.2.2.2.2.2.1 hc
    refine ev_sw (off := 177) rfl (by rw [hc]; rfl) (pt := 178) rfl ?_
    refine ev_br (P := ¬ x2 = 0) (σ1 := ((d + 1), 221, 186, [some (.inl x0), some (.inl x1), some (.inl x2), none, none], [], (am_sh, am_mm U))) (σ2 := ((d + 1), 221, 182, [some (.inl x0), some (.inl x1), some (.inl x2), none, none], [], (am_sh, am_mm U))) 2 (fun _ => rfl) (fun hc => ?_) (fun hc => ?_)
    · have hk61 := hk6.1 hc
      refine ev_seg (σ1 := ((d + 1), 221, 188, [some (.inl x0), some (.inl x1), some (.inl x2), none, none], [.inl x2, .inl x1], (am_sh, am_mm U))) 2 (fun _ => rfl) ?_
      refine ev_flm rfl (by omega) (by simp [am_cat]) hk61.1 ?_
      show Ev (am_kz N X) ((d + 1), 221, 191, [some (.inl x0), some (.inl x1), some (.inl x2), none, none], [.inl (Int.fmod x1 x2)], (am_sh, am_mm U)) R
      have hk61a := hk61.2
      subst hk61a
      exact ev_end 9 (fun _ => rfl)
    · have hk62 := hk6.2 (Decidable.not_not.mp hc)
      subst hk62
      exact ev_end 10 (fun _ => rfl)
  have nh6 := hc
  clear hc
  by_cases hc : x0 = 49
  · have hk7 := h.2.2.2.2.2.2.2.1 hc
    refine ev_sw (off := 177) rfl (by rw [hc]; rfl) (pt := 178) rfl ?_
    refine ev_br (P := ¬ x2 = 0) (σ1 := ((d + 1), 221, 186, [some (.inl x0), some (.inl x1), some (.inl x2), none, none], [], (am_sh, am_mm U))) (σ2 := ((d + 1), 221, 182, [some (.inl x0), some (.inl x1), some (.inl x2), none, none], [], (am_sh, am_mm U))) 2 (fun _ => rfl) (fun hc => ?_) (fun hc => ?_)
    · have hk71 := hk7.1 hc
      refine ev_seg (σ1 := ((d + 1), 221, 188, [some (.inl x0), some (.inl x1), some (.inl x2), none, none], [.inl x2, .inl x1], (am_sh, am_mm U))) 2 (fun _ => rfl) ?_
      refine ev_flm rfl (by omega) (by simp [am_cat]) hk71.1 ?_
      show Ev (am_kz N X) ((d + 1), 221, 191, [some (.inl x0), some (.inl x1), some (.inl x2), none, none], [.inl (Int.fmod x1 x2)], (am_sh, am_mm U)) R
      have hk71a := hk71.2
      subst hk71a
      exact ev_end 9 (fun _ => rfl)
    · have hk72 := hk7.2 (Decidable.not_not.mp hc)
      subst hk72
      exact ev_end 10 (fun _ => rfl)
  have nh7 := hc
  clear hc
  by_cases hc : x0 = 50
  · have hk8 := h.2.2.2.2.2.2.2.2.1 hc
    refine ev_sw (off := 177) rfl (by rw [hc]; rfl) (pt := 178) rfl ?_
    refine ev_br (P := ¬ x2 = 0) (σ1 := ((d + 1), 221, 186, [some (.inl x0), some (.inl x1), some (.inl x2), none, none], [], (am_sh, am_mm U))) (σ2 := ((d + 1), 221, 182, [some (.inl x0), some (.inl x1), some (.inl x2), none, none], [], (am_sh, am_mm U))) 2 (fun _ => rfl) (fun hc => ?_) (fun hc => ?_)
    · have hk81 := hk8.1 hc
      refine ev_seg (σ1 := ((d + 1), 221, 188, [some (.inl x0), some (.inl x1), some (.inl x2), none, none], [.inl x2, .inl x1], (am_sh, am_mm U))) 2 (fun _ => rfl) ?_
      refine ev_flm rfl (by omega) (by simp [am_cat]) hk81.1 ?_
      show Ev (am_kz N X) ((d + 1), 221, 191, [some (.inl x0), some (.inl x1), some (.inl x2), none, none], [.inl (Int.fmod x1 x2)], (am_sh, am_mm U)) R
      have hk81a := hk81.2
      subst hk81a
      exact ev_end 9 (fun _ => rfl)
    · have hk82 := hk8.2 (Decidable.not_not.mp hc)
      subst hk82
      exact ev_end 10 (fun _ => rfl)
  have nh8 := hc
  clear hc
  by_cases hc : x0 = 51
  · have hk9 := h.2.2.2.2.2.2.2.2.2.1 hc
    refine ev_sw (off := 177) rfl (by rw [hc]; rfl) (pt := 178) rfl ?_
    refine ev_br (P := ¬ x2 = 0) (σ1 := ((d + 1), 221, 186, [some (.inl x0), some (.inl x1), some (.inl x2), none, none], [], (am_sh, am_mm U))) (σ2 := ((d + 1), 221, 182, [some (.inl x0), some (.inl x1), some (.inl x2), none, none], [], (am_sh, am_mm U))) 2 (fun _ => rfl) (fun hc => ?_) (fun hc => ?_)
    · have hk91 := hk9.1 hc
      refine ev_seg (σ1 := ((d + 1), 221, 188, [some (.inl x0), some (.inl x1), some (.inl x2), none, none], [.inl x2, .inl x1], (am_sh, am_mm U))) 2 (fun _ => rfl) ?_
      refine ev_flm rfl (by omega) (by simp [am_cat]) hk91.1 ?_
      show Ev (am_kz N X) ((d + 1), 221, 191, [some (.inl x0), some (.inl x1), some (.inl x2), none, none], [.inl (Int.fmod x1 x2)], (am_sh, am_mm U)) R
      have hk91a := hk91.2
      subst hk91a
      exact ev_end 9 (fun _ => rfl)
    · have hk92 := hk9.2 (Decidable.not_not.mp hc)
      subst hk92
      exact ev_end 10 (fun _ => rfl)
  have nh9 := hc
  clear hc
  by_cases hc : x0 = 52
  · have hk10 := h.2.2.2.2.2.2.2.2.2.2.1 hc
    refine ev_sw (off := 177) rfl (by rw [hc]; rfl) (pt := 178) rfl ?_
    refine ev_br (P := ¬ x2 = 0) (σ1 := ((d + 1), 221, 186, [some (.inl x0), some (.inl x1), some (.inl x2), none, none], [], (am_sh, am_mm U))) (σ2 := ((d + 1), 221, 182, [some (.inl x0), some (.inl x1), some (.inl x2), none, none], [], (am_sh, am_mm U))) 2 (fun _ => rfl) (fun hc => ?_) (fun hc => ?_)
    · have hk101 := hk10.1 hc
      refine ev_seg (σ1 := ((d + 1), 221, 188, [some (.inl x0), some (.inl x1), some (.inl x2), none, none], [.inl x2, .inl x1], (am_sh, am_mm U))) 2 (fun _ => rfl) ?_
      refine ev_flm rfl (by omega) (by simp [am_cat]) hk101.1 ?_
      show Ev (am_kz N X) ((d + 1), 221, 191, [some (.inl x0), some (.inl x1), some (.inl x2), none, none], [.inl (Int.fmod x1 x2)], (am_sh, am_mm U)) R
      have hk101a := hk101.2
      subst hk101a
      exact ev_end 9 (fun _ => rfl)
    · have hk102 := hk10.2 (Decidable.not_not.mp hc)
      subst hk102
      exact ev_end 10 (fun _ => rfl)
  have nh10 := hc
  clear hc
  by_cases hc : x0 = 53
  · have hk11 := h.2.2.2.2.2.2.2.2.2.2.2.1 hc
    refine ev_sw (off := 177) rfl (by rw [hc]; rfl) (pt := 178) rfl ?_
    refine ev_br (P := ¬ x2 = 0) (σ1 := ((d + 1), 221, 186, [some (.inl x0), some (.inl x1), some (.inl x2), none, none], [], (am_sh, am_mm U))) (σ2 := ((d + 1), 221, 182, [some (.inl x0), some (.inl x1), some (.inl x2), none, none], [], (am_sh, am_mm U))) 2 (fun _ => rfl) (fun hc => ?_) (fun hc => ?_)
    · have hk111 := hk11.1 hc
      refine ev_seg (σ1 := ((d + 1), 221, 188, [some (.inl x0), some (.inl x1), some (.inl x2), none, none], [.inl x2, .inl x1], (am_sh, am_mm U))) 2 (fun _ => rfl) ?_
      refine ev_flm rfl (by omega) (by simp [am_cat]) hk111.1 ?_
      show Ev (am_kz N X) ((d + 1), 221, 191, [some (.inl x0), some (.inl x1), some (.inl x2), none, none], [.inl (Int.fmod x1 x2)], (am_sh, am_mm U)) R
      have hk111a := hk111.2
      subst hk111a
      exact ev_end 9 (fun _ => rfl)
    · have hk112 := hk11.2 (Decidable.not_not.mp hc)
      subst hk112
      exact ev_end 10 (fun _ => rfl)
  have nh11 := hc
  clear hc
  by_cases hc : x0 = 54
  · have hk12 := h.2.2.2.2.2.2.2.2.2.2.2.2.1 hc
    refine ev_sw (off := 177) rfl (by rw [hc]; rfl) (pt := 178) rfl ?_
    refine ev_br (P := ¬ x2 = 0) (σ1 := ((d + 1), 221, 186, [some (.inl x0), some (.inl x1), some (.inl x2), none, none], [], (am_sh, am_mm U))) (σ2 := ((d + 1), 221, 182, [some (.inl x0), some (.inl x1), some (.inl x2), none, none], [], (am_sh, am_mm U))) 2 (fun _ => rfl) (fun hc => ?_) (fun hc => ?_)
    · have hk121 := hk12.1 hc
      refine ev_seg (σ1 := ((d + 1), 221, 188, [some (.inl x0), some (.inl x1), some (.inl x2), none, none], [.inl x2, .inl x1], (am_sh, am_mm U))) 2 (fun _ => rfl) ?_
      refine ev_flm rfl (by omega) (by simp [am_cat]) hk121.1 ?_
      show Ev (am_kz N X) ((d + 1), 221, 191, [some (.inl x0), some (.inl x1), some (.inl x2), none, none], [.inl (Int.fmod x1 x2)], (am_sh, am_mm U)) R
      have hk121a := hk121.2
      subst hk121a
      exact ev_end 9 (fun _ => rfl)
    · have hk122 := hk12.2 (Decidable.not_not.mp hc)
      subst hk122
      exact ev_end 10 (fun _ => rfl)
  have nh12 := hc
  clear hc
  by_cases hc : x0 = 55
  · have hk13 := h.2.2.2.2.2.2.2.2.2.2.2.2.2.1 hc
    refine ev_sw (off := 177) rfl (by rw [hc]; rfl) (pt := 178) rfl ?_
    refine ev_br (P := ¬ x2 = 0) (σ1 := ((d + 1), 221, 186, [some (.inl x0), some (.inl x1), some (.inl x2), none, none], [], (am_sh, am_mm U))) (σ2 := ((d + 1), 221, 182, [some (.inl x0), some (.inl x1), some (.inl x2), none, none], [], (am_sh, am_mm U))) 2 (fun _ => rfl) (fun hc => ?_) (fun hc => ?_)
    · have hk131 := hk13.1 hc
      refine ev_seg (σ1 := ((d + 1), 221, 188, [some (.inl x0), some (.inl x1), some (.inl x2), none, none], [.inl x2, .inl x1], (am_sh, am_mm U))) 2 (fun _ => rfl) ?_
      refine ev_flm rfl (by omega) (by simp [am_cat]) hk131.1 ?_
      show Ev (am_kz N X) ((d + 1), 221, 191, [some (.inl x0), some (.inl x1), some (.inl x2), none, none], [.inl (Int.fmod x1 x2)], (am_sh, am_mm U)) R
      have hk131a := hk131.2
      subst hk131a
      exact ev_end 9 (fun _ => rfl)
    · have hk132 := hk13.2 (Decidable.not_not.mp hc)
      subst hk132
      exact ev_end 10 (fun _ => rfl)
  have nh13 := hc
  clear hc
  by_cases hc : x0 = 56
  · have hk14 := h.2.2.2.2.2.2.2.2.2.2.2.2.2.2.1 hc
    refine ev_sw (off := 177) rfl (by rw [hc]; rfl) (pt := 178) rfl ?_
    refine ev_br (P := ¬ x2 = 0) (σ1 := ((d + 1), 221, 186, [some (.inl x0), some (.inl x1), some (.inl x2), none, none], [], (am_sh, am_mm U))) (σ2 := ((d + 1), 221, 182, [some (.inl x0), some (.inl x1), some (.inl x2), none, none], [], (am_sh, am_mm U))) 2 (fun _ => rfl) (fun hc => ?_) (fun hc => ?_)
    · have hk141 := hk14.1 hc
      refine ev_seg (σ1 := ((d + 1), 221, 188, [some (.inl x0), some (.inl x1), some (.inl x2), none, none], [.inl x2, .inl x1], (am_sh, am_mm U))) 2 (fun _ => rfl) ?_
      refine ev_flm rfl (by omega) (by simp [am_cat]) hk141.1 ?_
      show Ev (am_kz N X) ((d + 1), 221, 191, [some (.inl x0), some (.inl x1), some (.inl x2), none, none], [.inl (Int.fmod x1 x2)], (am_sh, am_mm U)) R
      have hk141a := hk141.2
      subst hk141a
      exact ev_end 9 (fun _ => rfl)
    · have hk142 := hk14.2 (Decidable.not_not.mp hc)
      subst hk142
      exact ev_end 10 (fun _ => rfl)
  have nh14 := hc
  clear hc
  by_cases hc : x0 = 57
  · have hk15 := h.2.2.2.2.2.2.2.2.2.2.2.2.2.2.2.1 hc
    refine ev_sw (off := 177) rfl (by rw [hc]; rfl) (pt := 178) rfl ?_
    refine ev_br (P := ¬ x2 = 0) (σ1 := ((d + 1), 221, 186, [some (.inl x0), some (.inl x1), some (.inl x2), none, none], [], (am_sh, am_mm U))) (σ2 := ((d + 1), 221, 182, [some (.inl x0), some (.inl x1), some (.inl x2), none, none], [], (am_sh, am_mm U))) 2 (fun _ => rfl) (fun hc => ?_) (fun hc => ?_)
    · have hk151 := hk15.1 hc
      refine ev_seg (σ1 := ((d + 1), 221, 188, [some (.inl x0), some (.inl x1), some (.inl x2), none, none], [.inl x2, .inl x1], (am_sh, am_mm U))) 2 (fun _ => rfl) ?_
      refine ev_flm rfl (by omega) (by simp [am_cat]) hk151.1 ?_
      show Ev (am_kz N X) ((d + 1), 221, 191, [some (.inl x0), some (.inl x1), some (.inl x2), none, none], [.inl (Int.fmod x1 x2)], (am_sh, am_mm U)) R
      have hk151a := hk151.2
      subst hk151a
      exact ev_end 9 (fun _ => rfl)
    · have hk152 := hk15.2 (Decidable.not_not.mp hc)
      subst hk152
      exact ev_end 10 (fun _ => rfl)
  have nh15 := hc
  clear hc
  by_cases hc : x0 = 58
  · have hk16 := h.2.2.2.2.2.2.2.2.2.2.2.2.2.2.2.2.1 hc
    refine ev_sw (off := 177) rfl (by rw [hc]; rfl) (pt := 178) rfl ?_
    refine ev_br (P := ¬ x2 = 0) (σ1 := ((d + 1), 221, 186, [some (.inl x0), some (.inl x1), some (.inl x2), none, none], [], (am_sh, am_mm U))) (σ2 := ((d + 1), 221, 182, [some (.inl x0), some (.inl x1), some (.inl x2), none, none], [], (am_sh, am_mm U))) 2 (fun _ => rfl) (fun hc => ?_) (fun hc => ?_)
    · have hk161 := hk16.1 hc
      refine ev_seg (σ1 := ((d + 1), 221, 188, [some (.inl x0), some (.inl x1), some (.inl x2), none, none], [.inl x2, .inl x1], (am_sh, am_mm U))) 2 (fun _ => rfl) ?_
      refine ev_flm rfl (by omega) (by simp [am_cat]) hk161.1 ?_
      show Ev (am_kz N X) ((d + 1), 221, 191, [some (.inl x0), some (.inl x1), some (.inl x2), none, none], [.inl (Int.fmod x1 x2)], (am_sh, am_mm U)) R
      have hk161a := hk161.2
      subst hk161a
      exact ev_end 9 (fun _ => rfl)
    · have hk162 := hk16.2 (Decidable.not_not.mp hc)
      subst hk162
      exact ev_end 10 (fun _ => rfl)
  have nh16 := hc
  clear hc
  by_cases hc : x0 = 59
  · have hk17 := h.2.2.2.2.2.2.2.2.2.2.2.2.2.2.2.2.2.1 hc
    refine ev_sw (off := 177) rfl (by rw [hc]; rfl) (pt := 178) rfl ?_
    refine ev_br (P := ¬ x2 = 0) (σ1 := ((d + 1), 221, 186, [some (.inl x0), some (.inl x1), some (.inl x2), none, none], [], (am_sh, am_mm U))) (σ2 := ((d + 1), 221, 182, [some (.inl x0), some (.inl x1), some (.inl x2), none, none], [], (am_sh, am_mm U))) 2 (fun _ => rfl) (fun hc => ?_) (fun hc => ?_)
    · have hk171 := hk17.1 hc
      refine ev_seg (σ1 := ((d + 1), 221, 188, [some (.inl x0), some (.inl x1), some (.inl x2), none, none], [.inl x2, .inl x1], (am_sh, am_mm U))) 2 (fun _ => rfl) ?_
      refine ev_flm rfl (by omega) (by simp [am_cat]) hk171.1 ?_
      show Ev (am_kz N X) ((d + 1), 221, 191, [some (.inl x0), some (.inl x1), some (.inl x2), none, none], [.inl (Int.fmod x1 x2)], (am_sh, am_mm U)) R
      have hk171a := hk171.2
      subst hk171a
      exact ev_end 9 (fun _ => rfl)
    · have hk172 := hk17.2 (Decidable.not_not.mp hc)
      subst hk172
      exact ev_end 10 (fun _ => rfl)
  have nh17 := hc
  clear hc
  by_cases hc : x0 = 60
  · have hk18 := h.2.2.2.2.2.2.2.2.2.2.2.2.2.2.2.2.2.2.1 hc
    refine ev_sw (off := 99) rfl (by rw [hc]; rfl) (pt := 100) rfl ?_
    refine ev_br (P := x2 ≤ x1) (σ1 := ((d + 1), 221, 109, [some (.inl x0), some (.inl x1), some (.inl x2), none, none], [], (am_sh, am_mm U))) (σ2 := ((d + 1), 221, 105, [some (.inl x0), some (.inl x1), some (.inl x2), none, none], [], (am_sh, am_mm U))) 3 (fun _ => rfl) (fun hc => ?_) (fun hc => ?_)
    · have hk181 := hk18.1 hc
      subst hk181
      exact ev_end 2 (fun _ => rfl)
    · have hk182 := hk18.2 (Int.not_le.mp hc)
      subst hk182
      exact ev_end 3 (fun _ => rfl)
  have nh18 := hc
  clear hc
  by_cases hc : x0 = 61
  · have hk19 := h.2.2.2.2.2.2.2.2.2.2.2.2.2.2.2.2.2.2.2.1 hc
    refine ev_sw (off := 121) rfl (by rw [hc]; rfl) (pt := 122) rfl ?_
    refine ev_br (P := ¬ x1 = x2) (σ1 := ((d + 1), 221, 131, [some (.inl x0), some (.inl x1), some (.inl x2), none, none], [], (am_sh, am_mm U))) (σ2 := ((d + 1), 221, 127, [some (.inl x0), some (.inl x1), some (.inl x2), none, none], [], (am_sh, am_mm U))) 3 (fun _ => rfl) (fun hc => ?_) (fun hc => ?_)
    · have hk191 := hk19.1 hc
      subst hk191
      exact ev_end 2 (fun _ => rfl)
    · have hk192 := hk19.2 (Decidable.not_not.mp hc)
      subst hk192
      exact ev_end 3 (fun _ => rfl)
  have nh19 := hc
  clear hc
  by_cases hc : x0 = 62
  · have hk20 := h.2.2.2.2.2.2.2.2.2.2.2.2.2.2.2.2.2.2.2.2.1 hc
    refine ev_sw (off := 110) rfl (by rw [hc]; rfl) (pt := 111) rfl ?_
    refine ev_br (P := x1 ≤ x2) (σ1 := ((d + 1), 221, 120, [some (.inl x0), some (.inl x1), some (.inl x2), none, none], [], (am_sh, am_mm U))) (σ2 := ((d + 1), 221, 116, [some (.inl x0), some (.inl x1), some (.inl x2), none, none], [], (am_sh, am_mm U))) 3 (fun _ => rfl) (fun hc => ?_) (fun hc => ?_)
    · have hk201 := hk20.1 hc
      subst hk201
      exact ev_end 2 (fun _ => rfl)
    · have hk202 := hk20.2 (Int.not_le.mp hc)
      subst hk202
      exact ev_end 3 (fun _ => rfl)
  have nh20 := hc
  clear hc
  have hkd := h.2.2.2.2.2.2.2.2.2.2.2.2.2.2.2.2.2.2.2.2.2 ⟨nh0, nh1, nh2, nh3, nh4, nh5, nh6, nh7, nh8, nh9, nh10, nh11, nh12, nh13, nh14, nh15, nh16, nh17, nh18, nh19, nh20⟩
  refine ev_sw (off := 177) rfl (if_pos (by omega)) (pt := 178) rfl ?_
  refine ev_br (P := ¬ x2 = 0) (σ1 := ((d + 1), 221, 186, [some (.inl x0), some (.inl x1), some (.inl x2), none, none], [], (am_sh, am_mm U))) (σ2 := ((d + 1), 221, 182, [some (.inl x0), some (.inl x1), some (.inl x2), none, none], [], (am_sh, am_mm U))) 2 (fun _ => rfl) (fun hc => ?_) (fun hc => ?_)
  · have hkd1 := hkd.1 hc
    refine ev_seg (σ1 := ((d + 1), 221, 188, [some (.inl x0), some (.inl x1), some (.inl x2), none, none], [.inl x2, .inl x1], (am_sh, am_mm U))) 2 (fun _ => rfl) ?_
    refine ev_flm rfl (by omega) (by simp [am_cat]) hkd1.1 ?_
    show Ev (am_kz N X) ((d + 1), 221, 191, [some (.inl x0), some (.inl x1), some (.inl x2), none, none], [.inl (Int.fmod x1 x2)], (am_sh, am_mm U)) R
    have hkd1a := hkd1.2
    subst hkd1a
    exact ev_end 9 (fun _ => rfl)
  · have hkd2 := hkd.2 (Decidable.not_not.mp hc)
    subst hkd2
    exact ev_end 10 (fun _ => rfl)
set_option maxRecDepth 8000 in
theorem M_answers_r0 {N : Nat} {X : Nat → Int} {d : Nat} {x1 x2 : Int} {U : am_U} {R : Option am_V × am_M} (h : EvK N X (M_answers_s14 (d + 1) x1 x2 0 (w32 ((w32 (1600 * (U 86 13))) + x1)) U) R) : EvK N X (M_answers_s0 (d + 1) x1 x2 U) R := by
  show Ev (am_kz N X) ((d + 1), 224, 0, [some (.inr (.inr 86)), some (.inl x1), some (.inl x2), none, none, none], [], (am_sh, am_mm U)) R
  refine ev_seg (σ1 := ((d + 1), 224, 14, [some (.inr (.inr 86)), some (.inl x1), some (.inl x2), some (.inl 0), some (.inl (w32 ((w32 (1600 * (U 86 13))) + x1))), none], [], (am_sh, am_mm U))) 9 (fun _ => rfl) ?_
  exact h
set_option maxRecDepth 8000 in
theorem M_answers_r14 {N : Nat} {X : Nat → Int} {d : Nat} {x1 x2 x3 x4 : Int} {U : am_U} {R : Option am_V × am_M} (h : (((w32 ((w32 (1600 * (U 86 13))) + x2)) ≤ x4) → (((U 125 0) ≠ 1) → R = rI 0 U) ∧ (((U 125 0) = 1) → R = rI 1 U)) ∧ ((x4 < (w32 ((w32 (1600 * (U 86 13))) + x2))) → (0 ≤ x4 ∧ x4 < 3200) ∧ ((9 < (U 111 x4.toNat)) → (((U 111 x4.toNat) ≠ 22) → (((U 111 x4.toNat) ≠ 24) → (((U 111 x4.toNat) ≠ 25) → (0 ≤ (w32 ((w32 (x3 + (-1))) - 1)) ∧ (w32 ((w32 (x3 + (-1))) - 1)) < 500) ∧ (0 ≤ (w32 (x3 + (-1))) ∧ (w32 (x3 + (-1))) < 500) ∧ ∃ (r1 : Int) (U1 : am_U), EvK N X (M_two_s0 d (U 111 x4.toNat) (U 125 ((w32 ((w32 (x3 + (-1))) - 1)).toNat)) (U 125 ((w32 (x3 + (-1))).toNat)) U) (rJ r1 U1) ∧ EvK N X (M_answers_s14 (d + 1) x1 x2 (w32 (x3 + (-1))) (w32 (x4 + 1)) (am_upd U1 125 ((w32 ((w32 (x3 + (-1))) - 1)).toNat) r1)) R) ∧ (((U 111 x4.toNat) = 25) → (0 ≤ (w32 (x3 - 1)) ∧ (w32 (x3 - 1)) < 500) ∧ ∃ (r2 : Int) (U2 : am_U), EvK N X (M_isPrime_s0 d (U 125 ((w32 (x3 - 1)).toNat)) U) (rI r2 U2) ∧ ((r2 = 0) → EvK N X (M_answers_s14 (d + 1) x1 x2 x3 (w32 (x4 + 1)) (am_upd U2 125 ((w32 (x3 - 1)).toNat) 0)) R) ∧ ((r2 ≠ 0) → EvK N X (M_answers_s14 (d + 1) x1 x2 x3 (w32 (x4 + 1)) (am_upd U2 125 ((w32 (x3 - 1)).toNat) 1)) R))) ∧ (((U 111 x4.toNat) = 24) → (0 ≤ (w32 (x3 - 1)) ∧ (w32 (x3 - 1)) < 500) ∧ ∃ (r3 : Int) (U3 : am_U), EvK N X (M_isSquare_s0 d (U 125 ((w32 (x3 - 1)).toNat)) U) (rI r3 U3) ∧ ((r3 = 0) → EvK N X (M_answers_s14 (d + 1) x1 x2 x3 (w32 (x4 + 1)) (am_upd U3 125 ((w32 (x3 - 1)).toNat) 0)) R) ∧ ((r3 ≠ 0) → EvK N X (M_answers_s14 (d + 1) x1 x2 x3 (w32 (x4 + 1)) (am_upd U3 125 ((w32 (x3 - 1)).toNat) 1)) R))) ∧ (((U 111 x4.toNat) = 22) → (0 ≤ (w32 (x3 - 1)) ∧ (w32 (x3 - 1)) < 500) ∧ EvK N X (M_answers_s14 (d + 1) x1 x2 x3 (w32 (x4 + 1)) (am_upd U 125 ((w32 (x3 - 1)).toNat) (w64 (1 - (U 125 ((w32 (x3 - 1)).toNat)))))) R)) ∧ (((U 111 x4.toNat) ≤ 9) → ∃ (r4 : Int) (U4 : am_U), EvK N X (M_part_s0 d (U 111 x4.toNat) (U 112 x4.toNat) U) (rJ r4 U4) ∧ (0 ≤ x3 ∧ x3 < 500) ∧ EvK N X (M_answers_s14 (d + 1) x1 x2 (w32 (x3 + 1)) (w32 (x4 + 1)) (am_upd U4 125 x3.toNat r4)) R))) : EvK N X (M_answers_s14 (d + 1) x1 x2 x3 x4 U) R := by
  show Ev (am_kz N X) ((d + 1), 224, 14, [some (.inr (.inr 86)), some (.inl x1), some (.inl x2), some (.inl x3), some (.inl x4), none], [], (am_sh, am_mm U)) R
  refine ev_br (P := (w32 ((w32 (1600 * (U 86 13))) + x2)) ≤ x4) (σ1 := ((d + 1), 224, 208, [some (.inr (.inr 86)), some (.inl x1), some (.inl x2), some (.inl x3), some (.inl x4), none], [], (am_sh, am_mm U))) (σ2 := ((d + 1), 224, 29, [some (.inr (.inr 86)), some (.inl x1), some (.inl x2), some (.inl x3), some (.inl x4), none], [], (am_sh, am_mm U))) 8 (fun _ => rfl) (fun hc => ?_) (fun hc => ?_)
  · have h1 := h.1 hc
    refine ev_seg (σ1 := ((d + 1), 224, 213, [some (.inr (.inr 86)), some (.inl x1), some (.inl x2), some (.inl x3), some (.inl x4), none], [.inl 0, .inr (.inr 125)], (am_sh, am_mm U))) 3 (fun _ => rfl) ?_
    refine eu_lald 125 (n := 500) rfl (by decide) rfl (fun _ => rfl) (by decide) ?_
    show Ev (am_kz N X) ((d + 1), 224, 214, [some (.inr (.inr 86)), some (.inl x1), some (.inl x2), some (.inl x3), some (.inl x4), none], [.inr (.inl (U 125 0))], (am_sh, am_mm U)) R
    refine ev_br (P := ¬ (am_lcmp (U 125 0) 1) = 0) (σ1 := ((d + 1), 224, 223, [some (.inr (.inr 86)), some (.inl x1), some (.inl x2), some (.inl x3), some (.inl x4), none], [], (am_sh, am_mm U))) (σ2 := ((d + 1), 224, 219, [some (.inr (.inr 86)), some (.inl x1), some (.inl x2), some (.inl x3), some (.inl x4), none], [], (am_sh, am_mm U))) 3 (fun _ => rfl) (fun hc => ?_) (fun hc => ?_)
    · have h11 := h1.1 ((am_lc_ne (U 125 0) 1).mp hc)
      subst h11
      exact ev_end 2 (fun _ => rfl)
    · have h12 := h1.2 ((am_lcn_ne (U 125 0) 1).mp hc)
      subst h12
      exact ev_end 3 (fun _ => rfl)
  · have h2 := h.2 (Int.not_le.mp hc)
    refine ev_seg (σ1 := ((d + 1), 224, 35, [some (.inr (.inr 86)), some (.inl x1), some (.inl x2), some (.inl x3), some (.inl x4), none], [.inl x4, .inr (.inr 111)], (am_sh, am_mm U))) 3 (fun _ => rfl) ?_
    refine eu_iald 111 (n := 3200) rfl (by decide) rfl (fun _ => rfl) h2.1 ?_
    show Ev (am_kz N X) ((d + 1), 224, 36, [some (.inr (.inr 86)), some (.inl x1), some (.inl x2), some (.inl x3), some (.inl x4), none], [.inl (U 111 x4.toNat)], (am_sh, am_mm U)) R
    have h2a := h2.2
    refine ev_br (P := 9 < (U 111 x4.toNat)) (σ1 := ((d + 1), 224, 70, [some (.inr (.inr 86)), some (.inl x1), some (.inl x2), some (.inl x3), some (.inl x4), some (.inl (U 111 x4.toNat))], [], (am_sh, am_mm U))) (σ2 := ((d + 1), 224, 45, [some (.inr (.inr 86)), some (.inl x1), some (.inl x2), some (.inl x3), some (.inl x4), some (.inl (U 111 x4.toNat))], [], (am_sh, am_mm U))) 4 (fun _ => rfl) (fun hc => ?_) (fun hc => ?_)
    · have h2a1 := h2a.1 hc
      refine ev_br (P := ¬ (U 111 x4.toNat) = 22) (σ1 := ((d + 1), 224, 98, [some (.inr (.inr 86)), some (.inl x1), some (.inl x2), some (.inl x3), some (.inl x4), some (.inl (U 111 x4.toNat))], [], (am_sh, am_mm U))) (σ2 := ((d + 1), 224, 77, [some (.inr (.inr 86)), some (.inl x1), some (.inl x2), some (.inl x3), some (.inl x4), some (.inl (U 111 x4.toNat))], [], (am_sh, am_mm U))) 3 (fun _ => rfl) (fun hc => ?_) (fun hc => ?_)
      · have h2a11 := h2a1.1 hc
        refine ev_br (P := ¬ (U 111 x4.toNat) = 24) (σ1 := ((d + 1), 224, 135, [some (.inr (.inr 86)), some (.inl x1), some (.inl x2), some (.inl x3), some (.inl x4), some (.inl (U 111 x4.toNat))], [], (am_sh, am_mm U))) (σ2 := ((d + 1), 224, 105, [some (.inr (.inr 86)), some (.inl x1), some (.inl x2), some (.inl x3), some (.inl x4), some (.inl (U 111 x4.toNat))], [], (am_sh, am_mm U))) 3 (fun _ => rfl) (fun hc => ?_) (fun hc => ?_)
        · have h2a111 := h2a11.1 hc
          refine ev_br (P := ¬ (U 111 x4.toNat) = 25) (σ1 := ((d + 1), 224, 172, [some (.inr (.inr 86)), some (.inl x1), some (.inl x2), some (.inl x3), some (.inl x4), some (.inl (U 111 x4.toNat))], [], (am_sh, am_mm U))) (σ2 := ((d + 1), 224, 142, [some (.inr (.inr 86)), some (.inl x1), some (.inl x2), some (.inl x3), some (.inl x4), some (.inl (U 111 x4.toNat))], [], (am_sh, am_mm U))) 3 (fun _ => rfl) (fun hc => ?_) (fun hc => ?_)
          · have h2a1111 := h2a111.1 hc
            refine ev_seg (σ1 := ((d + 1), 224, 191, [some (.inr (.inr 86)), some (.inl x1), some (.inl x2), some (.inl (w32 (x3 + (-1)))), some (.inl x4), some (.inl (U 111 x4.toNat))], [.inl (w32 ((w32 (x3 + (-1))) - 1)), .inr (.inr 125), .inl (U 111 x4.toNat), .inl (w32 ((w32 (x3 + (-1))) - 1)), .inr (.inr 125)], (am_sh, am_mm U))) 12 (fun _ => rfl) ?_
            refine eu_lald 125 (n := 500) rfl (by decide) rfl (fun _ => rfl) h2a1111.1 ?_
            show Ev (am_kz N X) ((d + 1), 224, 192, [some (.inr (.inr 86)), some (.inl x1), some (.inl x2), some (.inl (w32 (x3 + (-1)))), some (.inl x4), some (.inl (U 111 x4.toNat))], [.inr (.inl (U 125 ((w32 ((w32 (x3 + (-1))) - 1)).toNat))), .inl (U 111 x4.toNat), .inl (w32 ((w32 (x3 + (-1))) - 1)), .inr (.inr 125)], (am_sh, am_mm U)) R
            have h2a1111a := h2a1111.2
            refine ev_seg (σ1 := ((d + 1), 224, 197, [some (.inr (.inr 86)), some (.inl x1), some (.inl x2), some (.inl (w32 (x3 + (-1)))), some (.inl x4), some (.inl (U 111 x4.toNat))], [.inl (w32 (x3 + (-1))), .inr (.inr 125), .inr (.inl (U 125 ((w32 ((w32 (x3 + (-1))) - 1)).toNat))), .inl (U 111 x4.toNat), .inl (w32 ((w32 (x3 + (-1))) - 1)), .inr (.inr 125)], (am_sh, am_mm U))) 3 (fun _ => rfl) ?_
            refine eu_lald 125 (n := 500) rfl (by decide) rfl (fun _ => rfl) h2a1111a.1 ?_
            show Ev (am_kz N X) ((d + 1), 224, 198, [some (.inr (.inr 86)), some (.inl x1), some (.inl x2), some (.inl (w32 (x3 + (-1)))), some (.inl x4), some (.inl (U 111 x4.toNat))], [.inr (.inl (U 125 ((w32 (x3 + (-1))).toNat))), .inr (.inl (U 125 ((w32 ((w32 (x3 + (-1))) - 1)).toNat))), .inl (U 111 x4.toNat), .inl (w32 ((w32 (x3 + (-1))) - 1)), .inr (.inr 125)], (am_sh, am_mm U)) R
            have h2a1111aa := h2a1111a.2
            obtain ⟨r1, U1, h2a1111aac, h2a1111aaa⟩ := h2a1111aa
            refine ev_cal (σc := (M_two_s0 d (U 111 x4.toNat) (U 125 ((w32 ((w32 (x3 + (-1))) - 1)).toNat)) (U 125 ((w32 (x3 + (-1))).toNat)) U)) (fun _ => rfl) h2a1111aac ?_
            show Ev (am_kz N X) ((d + 1), 224, 201, [some (.inr (.inr 86)), some (.inl x1), some (.inl x2), some (.inl (w32 (x3 + (-1)))), some (.inl x4), some (.inl (U 111 x4.toNat))], [.inr (.inl r1), .inl (w32 ((w32 (x3 + (-1))) - 1)), .inr (.inr 125)], (am_sh, am_mm U1)) R
            refine eu_last 125 (n := 500) rfl (by decide) rfl (fun _ => rfl) h2a1111.1 ?_
            show Ev (am_kz N X) ((d + 1), 224, 202, [some (.inr (.inr 86)), some (.inl x1), some (.inl x2), some (.inl (w32 (x3 + (-1)))), some (.inl x4), some (.inl (U 111 x4.toNat))], [], (am_sh, am_mm (am_upd U1 125 ((w32 ((w32 (x3 + (-1))) - 1)).toNat) r1))) R
            refine ev_seg (σ1 := ((d + 1), 224, 14, [some (.inr (.inr 86)), some (.inl x1), some (.inl x2), some (.inl (w32 (x3 + (-1)))), some (.inl (w32 (x4 + 1))), some (.inl (U 111 x4.toNat))], [], (am_sh, am_mm (am_upd U1 125 ((w32 ((w32 (x3 + (-1))) - 1)).toNat) r1)))) 2 (fun _ => rfl) ?_
            exact ev_le (L := [some (.inr (.inr 86)), some (.inl x1), some (.inl x2), some (.inl (w32 (x3 + (-1)))), some (.inl (w32 (x4 + 1))), none]) ⟨rfl, ⟨rfl, ⟨rfl, ⟨rfl, ⟨rfl, trivial⟩⟩⟩⟩⟩ h2a1111aaa
          · have h2a1112 := h2a111.2 (Decidable.not_not.mp hc)
            refine ev_seg (σ1 := ((d + 1), 224, 156, [some (.inr (.inr 86)), some (.inl x1), some (.inl x2), some (.inl x3), some (.inl x4), some (.inl (U 111 x4.toNat))], [.inl (w32 (x3 - 1)), .inr (.inr 125), .inl (w32 (x3 - 1)), .inr (.inr 125)], (am_sh, am_mm U))) 10 (fun _ => rfl) ?_
            refine eu_lald 125 (n := 500) rfl (by decide) rfl (fun _ => rfl) h2a1112.1 ?_
            show Ev (am_kz N X) ((d + 1), 224, 157, [some (.inr (.inr 86)), some (.inl x1), some (.inl x2), some (.inl x3), some (.inl x4), some (.inl (U 111 x4.toNat))], [.inr (.inl (U 125 ((w32 (x3 - 1)).toNat))), .inl (w32 (x3 - 1)), .inr (.inr 125)], (am_sh, am_mm U)) R
            have h2a1112a := h2a1112.2
            obtain ⟨r2, U2, h2a1112ac, h2a1112aa⟩ := h2a1112a
            refine ev_cal (σc := (M_isPrime_s0 d (U 125 ((w32 (x3 - 1)).toNat)) U)) (fun _ => rfl) h2a1112ac ?_
            show Ev (am_kz N X) ((d + 1), 224, 160, [some (.inr (.inr 86)), some (.inl x1), some (.inl x2), some (.inl x3), some (.inl x4), some (.inl (U 111 x4.toNat))], [.inl r2, .inl (w32 (x3 - 1)), .inr (.inr 125)], (am_sh, am_mm U2)) R
            refine ev_br (P := r2 = 0) (σ1 := ((d + 1), 224, 167, [some (.inr (.inr 86)), some (.inl x1), some (.inl x2), some (.inl x3), some (.inl x4), some (.inl (U 111 x4.toNat))], [.inl (w32 (x3 - 1)), .inr (.inr 125)], (am_sh, am_mm U2))) (σ2 := ((d + 1), 224, 163, [some (.inr (.inr 86)), some (.inl x1), some (.inl x2), some (.inl x3), some (.inl x4), some (.inl (U 111 x4.toNat))], [.inl (w32 (x3 - 1)), .inr (.inr 125)], (am_sh, am_mm U2))) 1 (fun _ => rfl) (fun hc => ?_) (fun hc => ?_)
            · have h2a1112aa1 := h2a1112aa.1 hc
              refine ev_seg (σ1 := ((d + 1), 224, 168, [some (.inr (.inr 86)), some (.inl x1), some (.inl x2), some (.inl x3), some (.inl x4), some (.inl (U 111 x4.toNat))], [.inr (.inl 0), .inl (w32 (x3 - 1)), .inr (.inr 125)], (am_sh, am_mm U2))) 1 (fun _ => rfl) ?_
              refine eu_last 125 (n := 500) rfl (by decide) rfl (fun _ => rfl) h2a1112.1 ?_
              show Ev (am_kz N X) ((d + 1), 224, 169, [some (.inr (.inr 86)), some (.inl x1), some (.inl x2), some (.inl x3), some (.inl x4), some (.inl (U 111 x4.toNat))], [], (am_sh, am_mm (am_upd U2 125 ((w32 (x3 - 1)).toNat) 0))) R
              refine ev_seg (σ1 := ((d + 1), 224, 14, [some (.inr (.inr 86)), some (.inl x1), some (.inl x2), some (.inl x3), some (.inl (w32 (x4 + 1))), some (.inl (U 111 x4.toNat))], [], (am_sh, am_mm (am_upd U2 125 ((w32 (x3 - 1)).toNat) 0)))) 3 (fun _ => rfl) ?_
              exact ev_le (L := [some (.inr (.inr 86)), some (.inl x1), some (.inl x2), some (.inl x3), some (.inl (w32 (x4 + 1))), none]) ⟨rfl, ⟨rfl, ⟨rfl, ⟨rfl, ⟨rfl, trivial⟩⟩⟩⟩⟩ h2a1112aa1
            · have h2a1112aa2 := h2a1112aa.2 hc
              refine ev_seg (σ1 := ((d + 1), 224, 168, [some (.inr (.inr 86)), some (.inl x1), some (.inl x2), some (.inl x3), some (.inl x4), some (.inl (U 111 x4.toNat))], [.inr (.inl 1), .inl (w32 (x3 - 1)), .inr (.inr 125)], (am_sh, am_mm U2))) 2 (fun _ => rfl) ?_
              refine eu_last 125 (n := 500) rfl (by decide) rfl (fun _ => rfl) h2a1112.1 ?_
              show Ev (am_kz N X) ((d + 1), 224, 169, [some (.inr (.inr 86)), some (.inl x1), some (.inl x2), some (.inl x3), some (.inl x4), some (.inl (U 111 x4.toNat))], [], (am_sh, am_mm (am_upd U2 125 ((w32 (x3 - 1)).toNat) 1))) R
              refine ev_seg (σ1 := ((d + 1), 224, 14, [some (.inr (.inr 86)), some (.inl x1), some (.inl x2), some (.inl x3), some (.inl (w32 (x4 + 1))), some (.inl (U 111 x4.toNat))], [], (am_sh, am_mm (am_upd U2 125 ((w32 (x3 - 1)).toNat) 1)))) 3 (fun _ => rfl) ?_
              exact ev_le (L := [some (.inr (.inr 86)), some (.inl x1), some (.inl x2), some (.inl x3), some (.inl (w32 (x4 + 1))), none]) ⟨rfl, ⟨rfl, ⟨rfl, ⟨rfl, ⟨rfl, trivial⟩⟩⟩⟩⟩ h2a1112aa2
        · have h2a112 := h2a11.2 (Decidable.not_not.mp hc)
          refine ev_seg (σ1 := ((d + 1), 224, 119, [some (.inr (.inr 86)), some (.inl x1), some (.inl x2), some (.inl x3), some (.inl x4), some (.inl (U 111 x4.toNat))], [.inl (w32 (x3 - 1)), .inr (.inr 125), .inl (w32 (x3 - 1)), .inr (.inr 125)], (am_sh, am_mm U))) 10 (fun _ => rfl) ?_
          refine eu_lald 125 (n := 500) rfl (by decide) rfl (fun _ => rfl) h2a112.1 ?_
          show Ev (am_kz N X) ((d + 1), 224, 120, [some (.inr (.inr 86)), some (.inl x1), some (.inl x2), some (.inl x3), some (.inl x4), some (.inl (U 111 x4.toNat))], [.inr (.inl (U 125 ((w32 (x3 - 1)).toNat))), .inl (w32 (x3 - 1)), .inr (.inr 125)], (am_sh, am_mm U)) R
          have h2a112a := h2a112.2
          obtain ⟨r3, U3, h2a112ac, h2a112aa⟩ := h2a112a
          refine ev_cal (σc := (M_isSquare_s0 d (U 125 ((w32 (x3 - 1)).toNat)) U)) (fun _ => rfl) h2a112ac ?_
          show Ev (am_kz N X) ((d + 1), 224, 123, [some (.inr (.inr 86)), some (.inl x1), some (.inl x2), some (.inl x3), some (.inl x4), some (.inl (U 111 x4.toNat))], [.inl r3, .inl (w32 (x3 - 1)), .inr (.inr 125)], (am_sh, am_mm U3)) R
          refine ev_br (P := r3 = 0) (σ1 := ((d + 1), 224, 130, [some (.inr (.inr 86)), some (.inl x1), some (.inl x2), some (.inl x3), some (.inl x4), some (.inl (U 111 x4.toNat))], [.inl (w32 (x3 - 1)), .inr (.inr 125)], (am_sh, am_mm U3))) (σ2 := ((d + 1), 224, 126, [some (.inr (.inr 86)), some (.inl x1), some (.inl x2), some (.inl x3), some (.inl x4), some (.inl (U 111 x4.toNat))], [.inl (w32 (x3 - 1)), .inr (.inr 125)], (am_sh, am_mm U3))) 1 (fun _ => rfl) (fun hc => ?_) (fun hc => ?_)
          · have h2a112aa1 := h2a112aa.1 hc
            refine ev_seg (σ1 := ((d + 1), 224, 131, [some (.inr (.inr 86)), some (.inl x1), some (.inl x2), some (.inl x3), some (.inl x4), some (.inl (U 111 x4.toNat))], [.inr (.inl 0), .inl (w32 (x3 - 1)), .inr (.inr 125)], (am_sh, am_mm U3))) 1 (fun _ => rfl) ?_
            refine eu_last 125 (n := 500) rfl (by decide) rfl (fun _ => rfl) h2a112.1 ?_
            show Ev (am_kz N X) ((d + 1), 224, 132, [some (.inr (.inr 86)), some (.inl x1), some (.inl x2), some (.inl x3), some (.inl x4), some (.inl (U 111 x4.toNat))], [], (am_sh, am_mm (am_upd U3 125 ((w32 (x3 - 1)).toNat) 0))) R
            refine ev_seg (σ1 := ((d + 1), 224, 14, [some (.inr (.inr 86)), some (.inl x1), some (.inl x2), some (.inl x3), some (.inl (w32 (x4 + 1))), some (.inl (U 111 x4.toNat))], [], (am_sh, am_mm (am_upd U3 125 ((w32 (x3 - 1)).toNat) 0)))) 3 (fun _ => rfl) ?_
            exact ev_le (L := [some (.inr (.inr 86)), some (.inl x1), some (.inl x2), some (.inl x3), some (.inl (w32 (x4 + 1))), none]) ⟨rfl, ⟨rfl, ⟨rfl, ⟨rfl, ⟨rfl, trivial⟩⟩⟩⟩⟩ h2a112aa1
          · have h2a112aa2 := h2a112aa.2 hc
            refine ev_seg (σ1 := ((d + 1), 224, 131, [some (.inr (.inr 86)), some (.inl x1), some (.inl x2), some (.inl x3), some (.inl x4), some (.inl (U 111 x4.toNat))], [.inr (.inl 1), .inl (w32 (x3 - 1)), .inr (.inr 125)], (am_sh, am_mm U3))) 2 (fun _ => rfl) ?_
            refine eu_last 125 (n := 500) rfl (by decide) rfl (fun _ => rfl) h2a112.1 ?_
            show Ev (am_kz N X) ((d + 1), 224, 132, [some (.inr (.inr 86)), some (.inl x1), some (.inl x2), some (.inl x3), some (.inl x4), some (.inl (U 111 x4.toNat))], [], (am_sh, am_mm (am_upd U3 125 ((w32 (x3 - 1)).toNat) 1))) R
            refine ev_seg (σ1 := ((d + 1), 224, 14, [some (.inr (.inr 86)), some (.inl x1), some (.inl x2), some (.inl x3), some (.inl (w32 (x4 + 1))), some (.inl (U 111 x4.toNat))], [], (am_sh, am_mm (am_upd U3 125 ((w32 (x3 - 1)).toNat) 1)))) 3 (fun _ => rfl) ?_
            exact ev_le (L := [some (.inr (.inr 86)), some (.inl x1), some (.inl x2), some (.inl x3), some (.inl (w32 (x4 + 1))), none]) ⟨rfl, ⟨rfl, ⟨rfl, ⟨rfl, ⟨rfl, trivial⟩⟩⟩⟩⟩ h2a112aa2
      · have h2a12 := h2a1.2 (Decidable.not_not.mp hc)
        refine ev_seg (σ1 := ((d + 1), 224, 92, [some (.inr (.inr 86)), some (.inl x1), some (.inl x2), some (.inl x3), some (.inl x4), some (.inl (U 111 x4.toNat))], [.inl (w32 (x3 - 1)), .inr (.inr 125), .inr (.inl 1), .inl (w32 (x3 - 1)), .inr (.inr 125)], (am_sh, am_mm U))) 11 (fun _ => rfl) ?_
        refine eu_lald 125 (n := 500) rfl (by decide) rfl (fun _ => rfl) h2a12.1 ?_
        show Ev (am_kz N X) ((d + 1), 224, 93, [some (.inr (.inr 86)), some (.inl x1), some (.inl x2), some (.inl x3), some (.inl x4), some (.inl (U 111 x4.toNat))], [.inr (.inl (U 125 ((w32 (x3 - 1)).toNat))), .inr (.inl 1), .inl (w32 (x3 - 1)), .inr (.inr 125)], (am_sh, am_mm U)) R
        have h2a12a := h2a12.2
        refine ev_seg (σ1 := ((d + 1), 224, 94, [some (.inr (.inr 86)), some (.inl x1), some (.inl x2), some (.inl x3), some (.inl x4), some (.inl (U 111 x4.toNat))], [.inr (.inl (w64 (1 - (U 125 ((w32 (x3 - 1)).toNat))))), .inl (w32 (x3 - 1)), .inr (.inr 125)], (am_sh, am_mm U))) 1 (fun _ => rfl) ?_
        refine eu_last 125 (n := 500) rfl (by decide) rfl (fun _ => rfl) h2a12.1 ?_
        show Ev (am_kz N X) ((d + 1), 224, 95, [some (.inr (.inr 86)), some (.inl x1), some (.inl x2), some (.inl x3), some (.inl x4), some (.inl (U 111 x4.toNat))], [], (am_sh, am_mm (am_upd U 125 ((w32 (x3 - 1)).toNat) (w64 (1 - (U 125 ((w32 (x3 - 1)).toNat))))))) R
        refine ev_seg (σ1 := ((d + 1), 224, 14, [some (.inr (.inr 86)), some (.inl x1), some (.inl x2), some (.inl x3), some (.inl (w32 (x4 + 1))), some (.inl (U 111 x4.toNat))], [], (am_sh, am_mm (am_upd U 125 ((w32 (x3 - 1)).toNat) (w64 (1 - (U 125 ((w32 (x3 - 1)).toNat)))))))) 3 (fun _ => rfl) ?_
        exact ev_le (L := [some (.inr (.inr 86)), some (.inl x1), some (.inl x2), some (.inl x3), some (.inl (w32 (x4 + 1))), none]) ⟨rfl, ⟨rfl, ⟨rfl, ⟨rfl, ⟨rfl, trivial⟩⟩⟩⟩⟩ h2a12a
    · have h2a2 := h2a.2 (Int.not_lt.mp hc)
      refine ev_seg (σ1 := ((d + 1), 224, 59, [some (.inr (.inr 86)), some (.inl x1), some (.inl x2), some (.inl x3), some (.inl x4), some (.inl (U 111 x4.toNat))], [.inl x4, .inr (.inr 112), .inl (U 111 x4.toNat), .inr (.inr 86), .inl x3, .inr (.inr 125)], (am_sh, am_mm U))) 8 (fun _ => rfl) ?_
      refine eu_iald 112 (n := 3200) rfl (by decide) rfl (fun _ => rfl) h2.1 ?_
      show Ev (am_kz N X) ((d + 1), 224, 60, [some (.inr (.inr 86)), some (.inl x1), some (.inl x2), some (.inl x3), some (.inl x4), some (.inl (U 111 x4.toNat))], [.inl (U 112 x4.toNat), .inl (U 111 x4.toNat), .inr (.inr 86), .inl x3, .inr (.inr 125)], (am_sh, am_mm U)) R
      obtain ⟨r4, U4, h2a2c, h2a2a⟩ := h2a2
      refine ev_cal (σc := (M_part_s0 d (U 111 x4.toNat) (U 112 x4.toNat) U)) (fun _ => rfl) h2a2c ?_
      show Ev (am_kz N X) ((d + 1), 224, 63, [some (.inr (.inr 86)), some (.inl x1), some (.inl x2), some (.inl x3), some (.inl x4), some (.inl (U 111 x4.toNat))], [.inr (.inl r4), .inl x3, .inr (.inr 125)], (am_sh, am_mm U4)) R
      refine eu_last 125 (n := 500) rfl (by decide) rfl (fun _ => rfl) h2a2a.1 ?_
      show Ev (am_kz N X) ((d + 1), 224, 64, [some (.inr (.inr 86)), some (.inl x1), some (.inl x2), some (.inl x3), some (.inl x4), some (.inl (U 111 x4.toNat))], [], (am_sh, am_mm (am_upd U4 125 x3.toNat r4))) R
      have h2a2aa := h2a2a.2
      refine ev_seg (σ1 := ((d + 1), 224, 14, [some (.inr (.inr 86)), some (.inl x1), some (.inl x2), some (.inl (w32 (x3 + 1))), some (.inl (w32 (x4 + 1))), some (.inl (U 111 x4.toNat))], [], (am_sh, am_mm (am_upd U4 125 x3.toNat r4)))) 4 (fun _ => rfl) ?_
      exact ev_le (L := [some (.inr (.inr 86)), some (.inl x1), some (.inl x2), some (.inl (w32 (x3 + 1))), some (.inl (w32 (x4 + 1))), none]) ⟨rfl, ⟨rfl, ⟨rfl, ⟨rfl, ⟨rfl, trivial⟩⟩⟩⟩⟩ h2a2aa
set_option maxRecDepth 8000 in
theorem Fk_saveRow_r0 {N : Nat} {X : Nat → Int} {d : Nat} {ρ : Nat} (hρ : 58 ≤ ρ ∧ ρ < 78) {U : am_U} {R : Option am_V × am_M} (h : ((((am_upd (am_upd U ρ 0 (U 16 0)) ρ 1 ((am_upd U ρ 0 (U 16 0)) 16 1)) 16 2) = 0) → EvK N X (Fk_saveRow_s39 d ρ 0 (am_upd (am_upd (am_upd U ρ 0 (U 16 0)) ρ 1 ((am_upd U ρ 0 (U 16 0)) 16 1)) ρ 2 0)) R) ∧ ((((am_upd (am_upd U ρ 0 (U 16 0)) ρ 1 ((am_upd U ρ 0 (U 16 0)) 16 1)) 16 2) ≠ 0) → EvK N X (Fk_saveRow_s39 d ρ 0 (am_upd (am_upd (am_upd U ρ 0 (U 16 0)) ρ 1 ((am_upd U ρ 0 (U 16 0)) 16 1)) ρ 2 1)) R)) : EvK N X (Fk_saveRow_s0 d ρ U) R := by
  show Ev (am_kz N X) (d, 225, 0, [some (.inr (.inr 16)), some (.inr (.inr ((ρ : Nat) : Int))), none], [], (am_sh, am_mm U)) R
  refine ev_aldHn hρ rfl rfl ?_
  show Ev (am_kz N X) (d, 225, 1, [some (.inr (.inr 16)), some (.inr (.inr ((ρ : Nat) : Int))), none], [.inr (.inr ((ρ : Nat) : Int))], (am_sh, am_mm U)) R
  refine ev_alenH hρ rfl ?_
  show Ev (am_kz N X) (d, 225, 2, [some (.inr (.inr 16)), some (.inr (.inr ((ρ : Nat) : Int))), none], [.inl 35], (am_sh, am_mm U)) R
  refine ev_seg (σ1 := (d, 225, 8, [some (.inr (.inr 16)), some (.inr (.inr ((ρ : Nat) : Int))), none], [], (am_sh, am_mm U))) 2 (fun _ => rfl) ?_
  refine ev_aldHn hρ rfl rfl ?_
  show Ev (am_kz N X) (d, 225, 9, [some (.inr (.inr 16)), some (.inr (.inr ((ρ : Nat) : Int))), none], [.inr (.inr ((ρ : Nat) : Int))], (am_sh, am_mm U)) R
  refine ev_seg (σ1 := (d, 225, 14, [some (.inr (.inr 16)), some (.inr (.inr ((ρ : Nat) : Int))), none], [.inl (U 16 0), .inl 0, .inr (.inr ((ρ : Nat) : Int))], (am_sh, am_mm U))) 3 (fun _ => rfl) ?_
  refine eu_iast ρ (n := 35) rfl (by omega) (am_shH hρ) (am_rfH hρ) (by decide) ?_
  show Ev (am_kz N X) (d, 225, 15, [some (.inr (.inr 16)), some (.inr (.inr ((ρ : Nat) : Int))), none], [], (am_sh, am_mm (am_upd U ρ 0 (U 16 0)))) R
  refine ev_aldHn hρ rfl rfl ?_
  show Ev (am_kz N X) (d, 225, 16, [some (.inr (.inr 16)), some (.inr (.inr ((ρ : Nat) : Int))), none], [.inr (.inr ((ρ : Nat) : Int))], (am_sh, am_mm (am_upd U ρ 0 (U 16 0)))) R
  refine ev_seg (σ1 := (d, 225, 21, [some (.inr (.inr 16)), some (.inr (.inr ((ρ : Nat) : Int))), none], [.inl ((am_upd U ρ 0 (U 16 0)) 16 1), .inl 1, .inr (.inr ((ρ : Nat) : Int))], (am_sh, am_mm (am_upd U ρ 0 (U 16 0))))) 3 (fun _ => rfl) ?_
  refine eu_iast ρ (n := 35) rfl (by omega) (am_shH hρ) (am_rfH hρ) (by decide) ?_
  show Ev (am_kz N X) (d, 225, 22, [some (.inr (.inr 16)), some (.inr (.inr ((ρ : Nat) : Int))), none], [], (am_sh, am_mm (am_upd (am_upd U ρ 0 (U 16 0)) ρ 1 ((am_upd U ρ 0 (U 16 0)) 16 1)))) R
  refine ev_aldHn hρ rfl rfl ?_
  show Ev (am_kz N X) (d, 225, 23, [some (.inr (.inr 16)), some (.inr (.inr ((ρ : Nat) : Int))), none], [.inr (.inr ((ρ : Nat) : Int))], (am_sh, am_mm (am_upd (am_upd U ρ 0 (U 16 0)) ρ 1 ((am_upd U ρ 0 (U 16 0)) 16 1)))) R
  refine ev_br (P := ((am_upd (am_upd U ρ 0 (U 16 0)) ρ 1 ((am_upd U ρ 0 (U 16 0)) 16 1)) 16 2) = 0) (σ1 := (d, 225, 35, [some (.inr (.inr 16)), some (.inr (.inr ((ρ : Nat) : Int))), none], [.inl 2, .inr (.inr ((ρ : Nat) : Int))], (am_sh, am_mm (am_upd (am_upd U ρ 0 (U 16 0)) ρ 1 ((am_upd U ρ 0 (U 16 0)) 16 1))))) (σ2 := (d, 225, 31, [some (.inr (.inr 16)), some (.inr (.inr ((ρ : Nat) : Int))), none], [.inl 2, .inr (.inr ((ρ : Nat) : Int))], (am_sh, am_mm (am_upd (am_upd U ρ 0 (U 16 0)) ρ 1 ((am_upd U ρ 0 (U 16 0)) 16 1))))) 4 (fun _ => rfl) (fun hc => ?_) (fun hc => ?_)
  · have h1 := h.1 hc
    refine ev_seg (σ1 := (d, 225, 36, [some (.inr (.inr 16)), some (.inr (.inr ((ρ : Nat) : Int))), none], [.inl 0, .inl 2, .inr (.inr ((ρ : Nat) : Int))], (am_sh, am_mm (am_upd (am_upd U ρ 0 (U 16 0)) ρ 1 ((am_upd U ρ 0 (U 16 0)) 16 1))))) 1 (fun _ => rfl) ?_
    refine eu_iast ρ (n := 35) rfl (by omega) (am_shH hρ) (am_rfH hρ) (by decide) ?_
    show Ev (am_kz N X) (d, 225, 37, [some (.inr (.inr 16)), some (.inr (.inr ((ρ : Nat) : Int))), none], [], (am_sh, am_mm (am_upd (am_upd (am_upd U ρ 0 (U 16 0)) ρ 1 ((am_upd U ρ 0 (U 16 0)) 16 1)) ρ 2 0))) R
    refine ev_seg (σ1 := (d, 225, 39, [some (.inr (.inr 16)), some (.inr (.inr ((ρ : Nat) : Int))), some (.inl 0)], [], (am_sh, am_mm (am_upd (am_upd (am_upd U ρ 0 (U 16 0)) ρ 1 ((am_upd U ρ 0 (U 16 0)) 16 1)) ρ 2 0)))) 2 (fun _ => rfl) ?_
    exact h1
  · have h2 := h.2 hc
    refine ev_seg (σ1 := (d, 225, 36, [some (.inr (.inr 16)), some (.inr (.inr ((ρ : Nat) : Int))), none], [.inl 1, .inl 2, .inr (.inr ((ρ : Nat) : Int))], (am_sh, am_mm (am_upd (am_upd U ρ 0 (U 16 0)) ρ 1 ((am_upd U ρ 0 (U 16 0)) 16 1))))) 2 (fun _ => rfl) ?_
    refine eu_iast ρ (n := 35) rfl (by omega) (am_shH hρ) (am_rfH hρ) (by decide) ?_
    show Ev (am_kz N X) (d, 225, 37, [some (.inr (.inr 16)), some (.inr (.inr ((ρ : Nat) : Int))), none], [], (am_sh, am_mm (am_upd (am_upd (am_upd U ρ 0 (U 16 0)) ρ 1 ((am_upd U ρ 0 (U 16 0)) 16 1)) ρ 2 1))) R
    refine ev_seg (σ1 := (d, 225, 39, [some (.inr (.inr 16)), some (.inr (.inr ((ρ : Nat) : Int))), some (.inl 0)], [], (am_sh, am_mm (am_upd (am_upd (am_upd U ρ 0 (U 16 0)) ρ 1 ((am_upd U ρ 0 (U 16 0)) 16 1)) ρ 2 1)))) 2 (fun _ => rfl) ?_
    exact h2
set_option maxRecDepth 8000 in
theorem Fk_saveRow_r39 {N : Nat} {X : Nat → Int} {d : Nat} {ρ : Nat} (hρ : 58 ≤ ρ ∧ ρ < 78) {x2 : Int} {U : am_U} {R : Option am_V × am_M} (h : (((U 16 0) ≤ x2) → R = rV U) ∧ ((x2 < (U 16 0)) → (0 ≤ x2 ∧ x2 < 16) ∧ (0 ≤ (w32 (3 + (w32 (2 * x2)))) ∧ (w32 (3 + (w32 (2 * x2)))) < 35) ∧ (0 ≤ (w32 (4 + (w32 (2 * x2)))) ∧ (w32 (4 + (w32 (2 * x2)))) < 35) ∧ EvK N X (Fk_saveRow_s39 d ρ (w32 (x2 + 1)) (am_upd (am_upd U ρ ((w32 (3 + (w32 (2 * x2)))).toNat) (U 17 x2.toNat)) ρ ((w32 (4 + (w32 (2 * x2)))).toNat) ((am_upd U ρ ((w32 (3 + (w32 (2 * x2)))).toNat) (U 17 x2.toNat)) 18 x2.toNat))) R)) : EvK N X (Fk_saveRow_s39 d ρ x2 U) R := by
  show Ev (am_kz N X) (d, 225, 39, [some (.inr (.inr 16)), some (.inr (.inr ((ρ : Nat) : Int))), some (.inl x2)], [], (am_sh, am_mm U)) R
  refine ev_br (P := (U 16 0) ≤ x2) (σ1 := (d, 225, 79, [some (.inr (.inr 16)), some (.inr (.inr ((ρ : Nat) : Int))), some (.inl x2)], [], (am_sh, am_mm U))) (σ2 := (d, 225, 47, [some (.inr (.inr 16)), some (.inr (.inr ((ρ : Nat) : Int))), some (.inl x2)], [], (am_sh, am_mm U))) 4 (fun _ => rfl) (fun hc => ?_) (fun hc => ?_)
  · have h1 := h.1 hc
    subst h1
    exact ev_end 1 (fun _ => rfl)
  · have h2 := h.2 (Int.not_le.mp hc)
    refine ev_aldHn hρ rfl rfl ?_
    show Ev (am_kz N X) (d, 225, 48, [some (.inr (.inr 16)), some (.inr (.inr ((ρ : Nat) : Int))), some (.inl x2)], [.inr (.inr ((ρ : Nat) : Int))], (am_sh, am_mm U)) R
    refine ev_seg (σ1 := (d, 225, 58, [some (.inr (.inr 16)), some (.inr (.inr ((ρ : Nat) : Int))), some (.inl x2)], [.inl x2, .inr (.inr 17), .inl (w32 (3 + (w32 (2 * x2)))), .inr (.inr ((ρ : Nat) : Int))], (am_sh, am_mm U))) 8 (fun _ => rfl) ?_
    refine eu_iald 17 (n := 16) rfl (by decide) rfl (fun _ => rfl) h2.1 ?_
    show Ev (am_kz N X) (d, 225, 59, [some (.inr (.inr 16)), some (.inr (.inr ((ρ : Nat) : Int))), some (.inl x2)], [.inl (U 17 x2.toNat), .inl (w32 (3 + (w32 (2 * x2)))), .inr (.inr ((ρ : Nat) : Int))], (am_sh, am_mm U)) R
    have h2a := h2.2
    refine eu_iast ρ (n := 35) rfl (by omega) (am_shH hρ) (am_rfH hρ) h2a.1 ?_
    show Ev (am_kz N X) (d, 225, 60, [some (.inr (.inr 16)), some (.inr (.inr ((ρ : Nat) : Int))), some (.inl x2)], [], (am_sh, am_mm (am_upd U ρ ((w32 (3 + (w32 (2 * x2)))).toNat) (U 17 x2.toNat)))) R
    have h2aa := h2a.2
    refine ev_aldHn hρ rfl rfl ?_
    show Ev (am_kz N X) (d, 225, 61, [some (.inr (.inr 16)), some (.inr (.inr ((ρ : Nat) : Int))), some (.inl x2)], [.inr (.inr ((ρ : Nat) : Int))], (am_sh, am_mm (am_upd U ρ ((w32 (3 + (w32 (2 * x2)))).toNat) (U 17 x2.toNat)))) R
    refine ev_seg (σ1 := (d, 225, 71, [some (.inr (.inr 16)), some (.inr (.inr ((ρ : Nat) : Int))), some (.inl x2)], [.inl x2, .inr (.inr 18), .inl (w32 (4 + (w32 (2 * x2)))), .inr (.inr ((ρ : Nat) : Int))], (am_sh, am_mm (am_upd U ρ ((w32 (3 + (w32 (2 * x2)))).toNat) (U 17 x2.toNat))))) 8 (fun _ => rfl) ?_
    refine eu_iald 18 (n := 16) rfl (by decide) rfl (fun _ => rfl) h2.1 ?_
    show Ev (am_kz N X) (d, 225, 72, [some (.inr (.inr 16)), some (.inr (.inr ((ρ : Nat) : Int))), some (.inl x2)], [.inl ((am_upd U ρ ((w32 (3 + (w32 (2 * x2)))).toNat) (U 17 x2.toNat)) 18 x2.toNat), .inl (w32 (4 + (w32 (2 * x2)))), .inr (.inr ((ρ : Nat) : Int))], (am_sh, am_mm (am_upd U ρ ((w32 (3 + (w32 (2 * x2)))).toNat) (U 17 x2.toNat)))) R
    refine eu_iast ρ (n := 35) rfl (by omega) (am_shH hρ) (am_rfH hρ) h2aa.1 ?_
    show Ev (am_kz N X) (d, 225, 73, [some (.inr (.inr 16)), some (.inr (.inr ((ρ : Nat) : Int))), some (.inl x2)], [], (am_sh, am_mm (am_upd (am_upd U ρ ((w32 (3 + (w32 (2 * x2)))).toNat) (U 17 x2.toNat)) ρ ((w32 (4 + (w32 (2 * x2)))).toNat) ((am_upd U ρ ((w32 (3 + (w32 (2 * x2)))).toNat) (U 17 x2.toNat)) 18 x2.toNat)))) R
    have h2aaa := h2aa.2
    refine ev_seg (σ1 := (d, 225, 39, [some (.inr (.inr 16)), some (.inr (.inr ((ρ : Nat) : Int))), some (.inl (w32 (x2 + 1)))], [], (am_sh, am_mm (am_upd (am_upd U ρ ((w32 (3 + (w32 (2 * x2)))).toNat) (U 17 x2.toNat)) ρ ((w32 (4 + (w32 (2 * x2)))).toNat) ((am_upd U ρ ((w32 (3 + (w32 (2 * x2)))).toNat) (U 17 x2.toNat)) 18 x2.toNat))))) 2 (fun _ => rfl) ?_
    exact h2aaa
set_option maxRecDepth 8000 in
theorem D_draw_r0 {N : Nat} {X : Nat → Int} {d : Nat} {x1 : Int} {U : am_U} {R : Option am_V × am_M} (h : (if 1 < x1 then x1 else 1) ≠ 0 ∧ R = rI (Int.tmod (w32 (Int.tdiv (w32 (am_land (w64 ((w64 (1103515245 * (U 1 18))) + 12345)) 2147483647)) 64)) (if 1 < x1 then x1 else 1)) (am_upd U 1 18 (w32 (am_land (w64 ((w64 (1103515245 * (U 1 18))) + 12345)) 2147483647)))) : EvK N X (D_draw_s0 (d + 1) x1 U) R := by
  show Ev (am_kz N X) ((d + 1), 228, 0, [some (.inr (.inr 1)), some (.inl x1)], [], (am_sh, am_mm U)) R
  refine ev_seg (σ1 := ((d + 1), 228, 19, [some (.inr (.inr 1)), some (.inl x1)], [.inl (w32 (am_land (w64 ((w64 (1103515245 * (U 1 18))) + 12345)) 2147483647)), .inr (.inr 1)], (am_sh, am_mm U))) 11 (fun _ => rfl) ?_
  refine eu_puti 1 (n := 19) rfl (by decide) rfl rfl ?_
  show Ev (am_kz N X) ((d + 1), 228, 22, [some (.inr (.inr 1)), some (.inl x1)], [], (am_sh, am_mm (am_upd U 1 18 (w32 (am_land (w64 ((w64 (1103515245 * (U 1 18))) + 12345)) 2147483647))))) R
  refine ev_seg (σ1 := ((d + 1), 228, 28, [some (.inr (.inr 1)), some (.inl x1)], [.inl 64, .inl (w32 (am_land (w64 ((w64 (1103515245 * (U 1 18))) + 12345)) 2147483647))], (am_sh, am_mm (am_upd U 1 18 (w32 (am_land (w64 ((w64 (1103515245 * (U 1 18))) + 12345)) 2147483647)))))) 3 (fun _ => rfl) ?_
  refine ev_idiv rfl (by decide) ?_
  show Ev (am_kz N X) ((d + 1), 228, 29, [some (.inr (.inr 1)), some (.inl x1)], [.inl (w32 (Int.tdiv (w32 (am_land (w64 ((w64 (1103515245 * (U 1 18))) + 12345)) 2147483647)) 64))], (am_sh, am_mm (am_upd U 1 18 (w32 (am_land (w64 ((w64 (1103515245 * (U 1 18))) + 12345)) 2147483647))))) R
  refine ev_seg (σ1 := ((d + 1), 228, 34, [some (.inr (.inr 1)), some (.inl x1)], [.inl (if 1 < x1 then x1 else 1), .inl (w32 (Int.tdiv (w32 (am_land (w64 ((w64 (1103515245 * (U 1 18))) + 12345)) 2147483647)) 64))], (am_sh, am_mm (am_upd U 1 18 (w32 (am_land (w64 ((w64 (1103515245 * (U 1 18))) + 12345)) 2147483647)))))) 3 (fun _ => rfl) ?_
  refine ev_irem rfl h.1 ?_
  show Ev (am_kz N X) ((d + 1), 228, 35, [some (.inr (.inr 1)), some (.inl x1)], [.inl (Int.tmod (w32 (Int.tdiv (w32 (am_land (w64 ((w64 (1103515245 * (U 1 18))) + 12345)) 2147483647)) 64)) (if 1 < x1 then x1 else 1))], (am_sh, am_mm (am_upd U 1 18 (w32 (am_land (w64 ((w64 (1103515245 * (U 1 18))) + 12345)) 2147483647))))) R
  have ha := h.2
  subst ha
  exact ev_end 1 (fun _ => rfl)
set_option maxRecDepth 8000 in
theorem D_comeIn_r0 {N : Nat} {X : Nat → Int} {d : Nat} {x1 x2 : Int} {U : am_U} {R : Option am_V × am_M} (h : ((x1 = 0) → R = rI 0 U) ∧ ((x1 ≠ 0) → ((999999999 < x1) → R = rI 0 U) ∧ ((x1 ≤ 999999999) → ((16 ≤ (U 16 0)) → R = rI 0 U) ∧ (((U 16 0) < 16) → ∃ (r1 : Int) (U1 : am_U), EvK N X (Fk_find_16_s0 d x1 U) (rI r1 U1) ∧ ((r1 < 0) → ∃ U2 : am_U, EvK N X (Fk_add_16_s0 d x1 x2 U1) (rV U2) ∧ R = rI 1 U2) ∧ ((0 ≤ r1) → R = rI 0 U1))))) : EvK N X (D_comeIn_s0 (d + 1) x1 x2 U) R := by
  show Ev (am_kz N X) ((d + 1), 229, 0, [some (.inr (.inr 1)), some (.inl x1), some (.inl x2)], [], (am_sh, am_mm U)) R
  refine ev_br (P := x1 = 0) (σ1 := ((d + 1), 229, 34, [some (.inr (.inr 1)), some (.inl x1), some (.inl x2)], [], (am_sh, am_mm U))) (σ2 := ((d + 1), 229, 4, [some (.inr (.inr 1)), some (.inl x1), some (.inl x2)], [], (am_sh, am_mm U))) 2 (fun _ => rfl) (fun hc => ?_) (fun hc => ?_)
  · have h1 := h.1 hc
    subst h1
    exact ev_end 2 (fun _ => rfl)
  · have h2 := h.2 hc
    refine ev_br (P := 999999999 < x1) (σ1 := ((d + 1), 229, 34, [some (.inr (.inr 1)), some (.inl x1), some (.inl x2)], [], (am_sh, am_mm U))) (σ2 := ((d + 1), 229, 11, [some (.inr (.inr 1)), some (.inl x1), some (.inl x2)], [], (am_sh, am_mm U))) 3 (fun _ => rfl) (fun hc => ?_) (fun hc => ?_)
    · have h21 := h2.1 hc
      subst h21
      exact ev_end 2 (fun _ => rfl)
    · have h22 := h2.2 (Int.not_lt.mp hc)
      refine ev_br (P := 16 ≤ (U 16 0)) (σ1 := ((d + 1), 229, 34, [some (.inr (.inr 1)), some (.inl x1), some (.inl x2)], [], (am_sh, am_mm U))) (σ2 := ((d + 1), 229, 23, [some (.inr (.inr 1)), some (.inl x1), some (.inl x2)], [], (am_sh, am_mm U))) 5 (fun _ => rfl) (fun hc => ?_) (fun hc => ?_)
      · have h221 := h22.1 hc
        subst h221
        exact ev_end 2 (fun _ => rfl)
      · have h222 := h22.2 (Int.not_le.mp hc)
        refine ev_seg (σ1 := ((d + 1), 229, 28, [some (.inr (.inr 1)), some (.inl x1), some (.inl x2)], [.inl x1, .inr (.inr 16)], (am_sh, am_mm U))) 3 (fun _ => rfl) ?_
        obtain ⟨r1, U1, h222c, h222a⟩ := h222
        refine ev_cal (σc := (Fk_find_16_s0 d x1 U)) (fun _ => rfl) h222c ?_
        show Ev (am_kz N X) ((d + 1), 229, 31, [some (.inr (.inr 1)), some (.inl x1), some (.inl x2)], [.inl r1], (am_sh, am_mm U1)) R
        refine ev_br (P := r1 < 0) (σ1 := ((d + 1), 229, 36, [some (.inr (.inr 1)), some (.inl x1), some (.inl x2)], [], (am_sh, am_mm U1))) (σ2 := ((d + 1), 229, 34, [some (.inr (.inr 1)), some (.inl x1), some (.inl x2)], [], (am_sh, am_mm U1))) 1 (fun _ => rfl) (fun hc => ?_) (fun hc => ?_)
        · have h222a1 := h222a.1 hc
          refine ev_seg (σ1 := ((d + 1), 229, 42, [some (.inr (.inr 1)), some (.inl x1), some (.inl x2)], [.inl x2, .inl x1, .inr (.inr 16)], (am_sh, am_mm U1))) 4 (fun _ => rfl) ?_
          obtain ⟨U2, h222a1c, h222a1a⟩ := h222a1
          refine ev_cal (σc := (Fk_add_16_s0 d x1 x2 U1)) (fun _ => rfl) h222a1c ?_
          show Ev (am_kz N X) ((d + 1), 229, 45, [some (.inr (.inr 1)), some (.inl x1), some (.inl x2)], [], (am_sh, am_mm U2)) R
          subst h222a1a
          exact ev_end 2 (fun _ => rfl)
        · have h222a2 := h222a.2 (Int.not_lt.mp hc)
          subst h222a2
          exact ev_end 2 (fun _ => rfl)
set_option maxRecDepth 8000 in
theorem D_burn_r0 {N : Nat} {X : Nat → Int} {d : Nat} {U : am_U} {R : Option am_V × am_M} (h : ∃ (r1 : Int) (U1 : am_U), EvK N X (D_draw_s0 d (U 3 1) U) (rI r1 U1) ∧ ∃ (r2 : Int) (U2 : am_U), EvK N X (D_draw_s0 d 100 U1) (rI r2 U2) ∧ ((r2 < (U2 3 5)) → EvK N X (D_burn_s31 (d + 1) r1 0 U2) R) ∧ (((U2 3 5) ≤ r2) → R = rV U2)) : EvK N X (D_burn_s0 (d + 1) U) R := by
  show Ev (am_kz N X) ((d + 1), 226, 0, [some (.inr (.inr 1)), none, none], [], (am_sh, am_mm U)) R
  refine ev_seg (σ1 := ((d + 1), 226, 8, [some (.inr (.inr 1)), none, none], [.inl (U 3 1), .inr (.inr 1)], (am_sh, am_mm U))) 4 (fun _ => rfl) ?_
  obtain ⟨r1, U1, hc, ha⟩ := h
  refine ev_cal (σc := (D_draw_s0 d (U 3 1) U)) (fun _ => rfl) hc ?_
  show Ev (am_kz N X) ((d + 1), 226, 11, [some (.inr (.inr 1)), none, none], [.inl r1], (am_sh, am_mm U1)) R
  refine ev_seg (σ1 := ((d + 1), 226, 15, [some (.inr (.inr 1)), some (.inl r1), none], [.inl 100, .inr (.inr 1)], (am_sh, am_mm U1))) 3 (fun _ => rfl) ?_
  obtain ⟨r2, U2, hac, haa⟩ := ha
  refine ev_cal (σc := (D_draw_s0 d 100 U1)) (fun _ => rfl) hac ?_
  show Ev (am_kz N X) ((d + 1), 226, 18, [some (.inr (.inr 1)), some (.inl r1), none], [.inl r2], (am_sh, am_mm U2)) R
  refine ev_br (P := r2 < (U2 3 5)) (σ1 := ((d + 1), 226, 29, [some (.inr (.inr 1)), some (.inl r1), none], [], (am_sh, am_mm U2))) (σ2 := ((d + 1), 226, 28, [some (.inr (.inr 1)), some (.inl r1), none], [], (am_sh, am_mm U2))) 4 (fun _ => rfl) (fun hc => ?_) (fun hc => ?_)
  · have haa1 := haa.1 hc
    refine ev_seg (σ1 := ((d + 1), 226, 31, [some (.inr (.inr 1)), some (.inl r1), some (.inl 0)], [], (am_sh, am_mm U2))) 2 (fun _ => rfl) ?_
    exact haa1
  · have haa2 := haa.2 (Int.not_lt.mp hc)
    subst haa2
    exact ev_end 1 (fun _ => rfl)
set_option maxRecDepth 8000 in
theorem D_burn_r31 {N : Nat} {X : Nat → Int} {d : Nat} {x1 x2 : Int} {U : am_U} {R : Option am_V × am_M} (h : (((U 16 0) ≤ x2) → R = rV U) ∧ ((x2 < (U 16 0)) → (0 ≤ x2 ∧ x2 < 16) ∧ (((U 18 x2.toNat) ≠ x1) → EvK N X (D_burn_s31 (d + 1) x1 (w32 (x2 + 1)) U) R) ∧ (((U 18 x2.toNat) = x1) → ∃ U1 : am_U, EvK N X (Fk_settle_16_s0 d x2 (-1) U) (rV U1) ∧ EvK N X (D_burn_s31 (d + 1) x1 (w32 (x2 + 1)) U1) R))) : EvK N X (D_burn_s31 (d + 1) x1 x2 U) R := by
  show Ev (am_kz N X) ((d + 1), 226, 31, [some (.inr (.inr 1)), some (.inl x1), some (.inl x2)], [], (am_sh, am_mm U)) R
  refine ev_br (P := (U 16 0) ≤ x2) (σ1 := ((d + 1), 226, 70, [some (.inr (.inr 1)), some (.inl x1), some (.inl x2)], [], (am_sh, am_mm U))) (σ2 := ((d + 1), 226, 42, [some (.inr (.inr 1)), some (.inl x1), some (.inl x2)], [], (am_sh, am_mm U))) 5 (fun _ => rfl) (fun hc => ?_) (fun hc => ?_)
  · have h1 := h.1 hc
    subst h1
    exact ev_end 1 (fun _ => rfl)
  · have h2 := h.2 (Int.not_le.mp hc)
    refine ev_seg (σ1 := ((d + 1), 226, 50, [some (.inr (.inr 1)), some (.inl x1), some (.inl x2)], [.inl x2, .inr (.inr 18)], (am_sh, am_mm U))) 4 (fun _ => rfl) ?_
    refine eu_iald 18 (n := 16) rfl (by decide) rfl (fun _ => rfl) h2.1 ?_
    show Ev (am_kz N X) ((d + 1), 226, 51, [some (.inr (.inr 1)), some (.inl x1), some (.inl x2)], [.inl (U 18 x2.toNat)], (am_sh, am_mm U)) R
    have h2a := h2.2
    refine ev_br (P := ¬ (U 18 x2.toNat) = x1) (σ1 := ((d + 1), 226, 64, [some (.inr (.inr 1)), some (.inl x1), some (.inl x2)], [], (am_sh, am_mm U))) (σ2 := ((d + 1), 226, 55, [some (.inr (.inr 1)), some (.inl x1), some (.inl x2)], [], (am_sh, am_mm U))) 2 (fun _ => rfl) (fun hc => ?_) (fun hc => ?_)
    · have h2a1 := h2a.1 hc
      refine ev_seg (σ1 := ((d + 1), 226, 31, [some (.inr (.inr 1)), some (.inl x1), some (.inl (w32 (x2 + 1)))], [], (am_sh, am_mm U))) 2 (fun _ => rfl) ?_
      exact h2a1
    · have h2a2 := h2a.2 (Decidable.not_not.mp hc)
      refine ev_seg (σ1 := ((d + 1), 226, 61, [some (.inr (.inr 1)), some (.inl x1), some (.inl x2)], [.inl (-1), .inl x2, .inr (.inr 16)], (am_sh, am_mm U))) 4 (fun _ => rfl) ?_
      obtain ⟨U1, h2a2c, h2a2a⟩ := h2a2
      refine ev_cal (σc := (Fk_settle_16_s0 d x2 (-1) U)) (fun _ => rfl) h2a2c ?_
      show Ev (am_kz N X) ((d + 1), 226, 64, [some (.inr (.inr 1)), some (.inl x1), some (.inl x2)], [], (am_sh, am_mm U1)) R
      refine ev_seg (σ1 := ((d + 1), 226, 31, [some (.inr (.inr 1)), some (.inl x1), some (.inl (w32 (x2 + 1)))], [], (am_sh, am_mm U1))) 2 (fun _ => rfl) ?_
      exact h2a2a
set_option maxRecDepth 8000 in
theorem D_bear_r0 {N : Nat} {X : Nat → Int} {d : Nat} {U : am_U} {R : Option am_V × am_M} (h : ∃ (r1 : Int) (U1 : am_U), EvK N X (D_draw_s0 d (U 3 1) U) (rI r1 U1) ∧ ∃ (r2 : Int) (U2 : am_U), EvK N X (D_isHouse_s0 d r1 U1) (rI r2 U2) ∧ ((r2 ≠ 0) → (0 ≤ r1 ∧ r1 < 12) ∧ ∃ (r3 : Int) (U3 : am_U), EvK N X (D_bitAt_s0 d (U2 19 r1.toNat) 0 U2) (rI r3 U3) ∧ ∃ (r4 : Int) (U4 : am_U), EvK N X (D_bitAt_s0 d (U3 19 r1.toNat) 1 U3) (rI r4 U4) ∧ ∃ (r5 : Int) (U5 : am_U), EvK N X (D_isPerson_s0 d r3 U4) (rI r5 U5) ∧ ((r5 = 0) → R = rI 0 U5) ∧ ((r5 ≠ 0) → ∃ (r6 : Int) (U6 : am_U), EvK N X (D_isPerson_s0 d r4 U5) (rI r6 U6) ∧ ((r6 = 0) → R = rI 0 U6) ∧ ((r6 ≠ 0) → ∃ (r7 : Int) (U7 : am_U), EvK N X (Fk_living_16_s0 d r1 U6) (rI r7 U7) ∧ ((r7 < (U7 8 r1.toNat)) → (0 ≤ r3 ∧ r3 < 16) ∧ (0 ≤ r4 ∧ r4 < 16) ∧ ∃ (r8 : Int) (U8 : am_U), EvK N X (D_comeIn_s0 d (if 0 ≤ (w32 ((U7 17 r3.toNat) - (U7 17 r4.toNat))) then (w32 ((U7 17 r3.toNat) - (U7 17 r4.toNat))) else w32 (-(w32 ((U7 17 r3.toNat) - (U7 17 r4.toNat))))) r1 U7) (rI r8 U8) ∧ R = rI r8 U8) ∧ (((U7 8 r1.toNat) ≤ r7) → R = rI 0 U7)))) ∧ ((r2 = 0) → R = rI 0 U2)) : EvK N X (D_bear_s0 (d + 1) U) R := by
  show Ev (am_kz N X) ((d + 1), 227, 0, [some (.inr (.inr 1)), none, none, none], [], (am_sh, am_mm U)) R
  refine ev_seg (σ1 := ((d + 1), 227, 8, [some (.inr (.inr 1)), none, none, none], [.inl (U 3 1), .inr (.inr 1)], (am_sh, am_mm U))) 4 (fun _ => rfl) ?_
  obtain ⟨r1, U1, hc, ha⟩ := h
  refine ev_cal (σc := (D_draw_s0 d (U 3 1) U)) (fun _ => rfl) hc ?_
  show Ev (am_kz N X) ((d + 1), 227, 11, [some (.inr (.inr 1)), none, none, none], [.inl r1], (am_sh, am_mm U1)) R
  refine ev_seg (σ1 := ((d + 1), 227, 14, [some (.inr (.inr 1)), some (.inl r1), none, none], [.inl r1, .inr (.inr 1)], (am_sh, am_mm U1))) 3 (fun _ => rfl) ?_
  obtain ⟨r2, U2, hac, haa⟩ := ha
  refine ev_cal (σc := (D_isHouse_s0 d r1 U1)) (fun _ => rfl) hac ?_
  show Ev (am_kz N X) ((d + 1), 227, 17, [some (.inr (.inr 1)), some (.inl r1), none, none], [.inl r2], (am_sh, am_mm U2)) R
  refine ev_br (P := ¬ r2 = 0) (σ1 := ((d + 1), 227, 22, [some (.inr (.inr 1)), some (.inl r1), none, none], [], (am_sh, am_mm U2))) (σ2 := ((d + 1), 227, 20, [some (.inr (.inr 1)), some (.inl r1), none, none], [], (am_sh, am_mm U2))) 1 (fun _ => rfl) (fun hc => ?_) (fun hc => ?_)
  · have haa1 := haa.1 hc
    refine ev_seg (σ1 := ((d + 1), 227, 30, [some (.inr (.inr 1)), some (.inl r1), none, none], [.inl r1, .inr (.inr 19)], (am_sh, am_mm U2))) 4 (fun _ => rfl) ?_
    refine eu_iald 19 (n := 12) rfl (by decide) rfl (fun _ => rfl) haa1.1 ?_
    show Ev (am_kz N X) ((d + 1), 227, 31, [some (.inr (.inr 1)), some (.inl r1), none, none], [.inl (U2 19 r1.toNat)], (am_sh, am_mm U2)) R
    have haa1a := haa1.2
    refine ev_seg (σ1 := ((d + 1), 227, 32, [some (.inr (.inr 1)), some (.inl r1), none, none], [.inl 0, .inl (U2 19 r1.toNat)], (am_sh, am_mm U2))) 1 (fun _ => rfl) ?_
    obtain ⟨r3, U3, haa1ac, haa1aa⟩ := haa1a
    refine ev_cal (σc := (D_bitAt_s0 d (U2 19 r1.toNat) 0 U2)) (fun _ => rfl) haa1ac ?_
    show Ev (am_kz N X) ((d + 1), 227, 35, [some (.inr (.inr 1)), some (.inl r1), none, none], [.inl r3], (am_sh, am_mm U3)) R
    refine ev_seg (σ1 := ((d + 1), 227, 44, [some (.inr (.inr 1)), some (.inl r1), some (.inl r3), none], [.inl r1, .inr (.inr 19)], (am_sh, am_mm U3))) 5 (fun _ => rfl) ?_
    refine eu_iald 19 (n := 12) rfl (by decide) rfl (fun _ => rfl) haa1.1 ?_
    show Ev (am_kz N X) ((d + 1), 227, 45, [some (.inr (.inr 1)), some (.inl r1), some (.inl r3), none], [.inl (U3 19 r1.toNat)], (am_sh, am_mm U3)) R
    refine ev_seg (σ1 := ((d + 1), 227, 46, [some (.inr (.inr 1)), some (.inl r1), some (.inl r3), none], [.inl 1, .inl (U3 19 r1.toNat)], (am_sh, am_mm U3))) 1 (fun _ => rfl) ?_
    obtain ⟨r4, U4, haa1aac, haa1aaa⟩ := haa1aa
    refine ev_cal (σc := (D_bitAt_s0 d (U3 19 r1.toNat) 1 U3)) (fun _ => rfl) haa1aac ?_
    show Ev (am_kz N X) ((d + 1), 227, 49, [some (.inr (.inr 1)), some (.inl r1), some (.inl r3), none], [.inl r4], (am_sh, am_mm U4)) R
    refine ev_seg (σ1 := ((d + 1), 227, 52, [some (.inr (.inr 1)), some (.inl r1), some (.inl r3), some (.inl r4)], [.inl r3, .inr (.inr 1)], (am_sh, am_mm U4))) 3 (fun _ => rfl) ?_
    obtain ⟨r5, U5, haa1aaac, haa1aaaa⟩ := haa1aaa
    refine ev_cal (σc := (D_isPerson_s0 d r3 U4)) (fun _ => rfl) haa1aaac ?_
    show Ev (am_kz N X) ((d + 1), 227, 55, [some (.inr (.inr 1)), some (.inl r1), some (.inl r3), some (.inl r4)], [.inl r5], (am_sh, am_mm U5)) R
    refine ev_br (P := r5 = 0) (σ1 := ((d + 1), 227, 86, [some (.inr (.inr 1)), some (.inl r1), some (.inl r3), some (.inl r4)], [], (am_sh, am_mm U5))) (σ2 := ((d + 1), 227, 58, [some (.inr (.inr 1)), some (.inl r1), some (.inl r3), some (.inl r4)], [], (am_sh, am_mm U5))) 1 (fun _ => rfl) (fun hc => ?_) (fun hc => ?_)
    · have haa1aaaa1 := haa1aaaa.1 hc
      subst haa1aaaa1
      exact ev_end 2 (fun _ => rfl)
    · have haa1aaaa2 := haa1aaaa.2 hc
      refine ev_seg (σ1 := ((d + 1), 227, 60, [some (.inr (.inr 1)), some (.inl r1), some (.inl r3), some (.inl r4)], [.inl r4, .inr (.inr 1)], (am_sh, am_mm U5))) 2 (fun _ => rfl) ?_
      obtain ⟨r6, U6, haa1aaaa2c, haa1aaaa2a⟩ := haa1aaaa2
      refine ev_cal (σc := (D_isPerson_s0 d r4 U5)) (fun _ => rfl) haa1aaaa2c ?_
      show Ev (am_kz N X) ((d + 1), 227, 63, [some (.inr (.inr 1)), some (.inl r1), some (.inl r3), some (.inl r4)], [.inl r6], (am_sh, am_mm U6)) R
      refine ev_br (P := r6 = 0) (σ1 := ((d + 1), 227, 86, [some (.inr (.inr 1)), some (.inl r1), some (.inl r3), some (.inl r4)], [], (am_sh, am_mm U6))) (σ2 := ((d + 1), 227, 66, [some (.inr (.inr 1)), some (.inl r1), some (.inl r3), some (.inl r4)], [], (am_sh, am_mm U6))) 1 (fun _ => rfl) (fun hc => ?_) (fun hc => ?_)
      · have haa1aaaa2a1 := haa1aaaa2a.1 hc
        subst haa1aaaa2a1
        exact ev_end 2 (fun _ => rfl)
      · have haa1aaaa2a2 := haa1aaaa2a.2 hc
        refine ev_seg (σ1 := ((d + 1), 227, 71, [some (.inr (.inr 1)), some (.inl r1), some (.inl r3), some (.inl r4)], [.inl r1, .inr (.inr 16)], (am_sh, am_mm U6))) 3 (fun _ => rfl) ?_
        obtain ⟨r7, U7, haa1aaaa2a2c, haa1aaaa2a2a⟩ := haa1aaaa2a2
        refine ev_cal (σc := (Fk_living_16_s0 d r1 U6)) (fun _ => rfl) haa1aaaa2a2c ?_
        show Ev (am_kz N X) ((d + 1), 227, 74, [some (.inr (.inr 1)), some (.inl r1), some (.inl r3), some (.inl r4)], [.inl r7], (am_sh, am_mm U7)) R
        refine ev_seg (σ1 := ((d + 1), 227, 82, [some (.inr (.inr 1)), some (.inl r1), some (.inl r3), some (.inl r4)], [.inl r1, .inr (.inr 8), .inl r7], (am_sh, am_mm U7))) 4 (fun _ => rfl) ?_
        refine eu_iald 8 (n := 12) rfl (by decide) rfl (fun _ => rfl) haa1.1 ?_
        show Ev (am_kz N X) ((d + 1), 227, 83, [some (.inr (.inr 1)), some (.inl r1), some (.inl r3), some (.inl r4)], [.inl (U7 8 r1.toNat), .inl r7], (am_sh, am_mm U7)) R
        refine ev_br (P := r7 < (U7 8 r1.toNat)) (σ1 := ((d + 1), 227, 88, [some (.inr (.inr 1)), some (.inl r1), some (.inl r3), some (.inl r4)], [], (am_sh, am_mm U7))) (σ2 := ((d + 1), 227, 86, [some (.inr (.inr 1)), some (.inl r1), some (.inl r3), some (.inl r4)], [], (am_sh, am_mm U7))) 1 (fun _ => rfl) (fun hc => ?_) (fun hc => ?_)
        · have haa1aaaa2a2a1 := haa1aaaa2a2a.1 hc
          refine ev_seg (σ1 := ((d + 1), 227, 97, [some (.inr (.inr 1)), some (.inl r1), some (.inl r3), some (.inl r4)], [.inl r3, .inr (.inr 17), .inr (.inr 1)], (am_sh, am_mm U7))) 5 (fun _ => rfl) ?_
          refine eu_iald 17 (n := 16) rfl (by decide) rfl (fun _ => rfl) haa1aaaa2a2a1.1 ?_
          show Ev (am_kz N X) ((d + 1), 227, 98, [some (.inr (.inr 1)), some (.inl r1), some (.inl r3), some (.inl r4)], [.inl (U7 17 r3.toNat), .inr (.inr 1)], (am_sh, am_mm U7)) R
          have haa1aaaa2a2a1a := haa1aaaa2a2a1.2
          refine ev_seg (σ1 := ((d + 1), 227, 106, [some (.inr (.inr 1)), some (.inl r1), some (.inl r3), some (.inl r4)], [.inl r4, .inr (.inr 17), .inl (U7 17 r3.toNat), .inr (.inr 1)], (am_sh, am_mm U7))) 4 (fun _ => rfl) ?_
          refine eu_iald 17 (n := 16) rfl (by decide) rfl (fun _ => rfl) haa1aaaa2a2a1a.1 ?_
          show Ev (am_kz N X) ((d + 1), 227, 107, [some (.inr (.inr 1)), some (.inl r1), some (.inl r3), some (.inl r4)], [.inl (U7 17 r4.toNat), .inl (U7 17 r3.toNat), .inr (.inr 1)], (am_sh, am_mm U7)) R
          have haa1aaaa2a2a1aa := haa1aaaa2a2a1a.2
          refine ev_seg (σ1 := ((d + 1), 227, 112, [some (.inr (.inr 1)), some (.inl r1), some (.inl r3), some (.inl r4)], [.inl r1, .inl (if 0 ≤ (w32 ((U7 17 r3.toNat) - (U7 17 r4.toNat))) then (w32 ((U7 17 r3.toNat) - (U7 17 r4.toNat))) else w32 (-(w32 ((U7 17 r3.toNat) - (U7 17 r4.toNat))))), .inr (.inr 1)], (am_sh, am_mm U7))) 3 (fun _ => rfl) ?_
          obtain ⟨r8, U8, haa1aaaa2a2a1aac, haa1aaaa2a2a1aaa⟩ := haa1aaaa2a2a1aa
          refine ev_cal (σc := (D_comeIn_s0 d (if 0 ≤ (w32 ((U7 17 r3.toNat) - (U7 17 r4.toNat))) then (w32 ((U7 17 r3.toNat) - (U7 17 r4.toNat))) else w32 (-(w32 ((U7 17 r3.toNat) - (U7 17 r4.toNat))))) r1 U7)) (fun _ => rfl) haa1aaaa2a2a1aac ?_
          show Ev (am_kz N X) ((d + 1), 227, 115, [some (.inr (.inr 1)), some (.inl r1), some (.inl r3), some (.inl r4)], [.inl r8], (am_sh, am_mm U8)) R
          subst haa1aaaa2a2a1aaa
          exact ev_end 1 (fun _ => rfl)
        · have haa1aaaa2a2a2 := haa1aaaa2a2a.2 (Int.not_lt.mp hc)
          subst haa1aaaa2a2a2
          exact ev_end 2 (fun _ => rfl)
  · have haa2 := haa.2 (Decidable.not_not.mp hc)
    subst haa2
    exact ev_end 2 (fun _ => rfl)
set_option maxRecDepth 8000 in
theorem M_draw_r0 {N : Nat} {X : Nat → Int} {d : Nat} {x1 : Int} {U : am_U} {R : Option am_V × am_M} (h : x1 ≠ 0 ∧ R = rI (w32 (Int.tmod (w64 (Int.tdiv (Int.tmod (w64 ((w64 (1103515245 * (U 86 59))) + 12345)) 2147483648) 64)) x1)) (am_upd U 86 59 (Int.tmod (w64 ((w64 (1103515245 * (U 86 59))) + 12345)) 2147483648))) : EvK N X (M_draw_s0 d x1 U) R := by
  show Ev (am_kz N X) (d, 230, 0, [some (.inr (.inr 86)), some (.inl x1)], [], (am_sh, am_mm U)) R
  refine ev_seg (σ1 := (d, 230, 16, [some (.inr (.inr 86)), some (.inl x1)], [.inr (.inl 2147483648), .inr (.inl (w64 ((w64 (1103515245 * (U 86 59))) + 12345))), .inr (.inr 86)], (am_sh, am_mm U))) 8 (fun _ => rfl) ?_
  refine ev_lrem rfl (by decide) ?_
  show Ev (am_kz N X) (d, 230, 17, [some (.inr (.inr 86)), some (.inl x1)], [.inr (.inl (Int.tmod (w64 ((w64 (1103515245 * (U 86 59))) + 12345)) 2147483648)), .inr (.inr 86)], (am_sh, am_mm U)) R
  refine eu_putj 86 (n := 90) rfl (by decide) rfl rfl ?_
  show Ev (am_kz N X) (d, 230, 20, [some (.inr (.inr 86)), some (.inl x1)], [], (am_sh, am_mm (am_upd U 86 59 (Int.tmod (w64 ((w64 (1103515245 * (U 86 59))) + 12345)) 2147483648)))) R
  refine ev_seg (σ1 := (d, 230, 27, [some (.inr (.inr 86)), some (.inl x1)], [.inr (.inl 64), .inr (.inl (Int.tmod (w64 ((w64 (1103515245 * (U 86 59))) + 12345)) 2147483648))], (am_sh, am_mm (am_upd U 86 59 (Int.tmod (w64 ((w64 (1103515245 * (U 86 59))) + 12345)) 2147483648))))) 3 (fun _ => rfl) ?_
  refine ev_ldiv rfl (by decide) ?_
  show Ev (am_kz N X) (d, 230, 28, [some (.inr (.inr 86)), some (.inl x1)], [.inr (.inl (w64 (Int.tdiv (Int.tmod (w64 ((w64 (1103515245 * (U 86 59))) + 12345)) 2147483648) 64)))], (am_sh, am_mm (am_upd U 86 59 (Int.tmod (w64 ((w64 (1103515245 * (U 86 59))) + 12345)) 2147483648)))) R
  refine ev_seg (σ1 := (d, 230, 30, [some (.inr (.inr 86)), some (.inl x1)], [.inr (.inl x1), .inr (.inl (w64 (Int.tdiv (Int.tmod (w64 ((w64 (1103515245 * (U 86 59))) + 12345)) 2147483648) 64)))], (am_sh, am_mm (am_upd U 86 59 (Int.tmod (w64 ((w64 (1103515245 * (U 86 59))) + 12345)) 2147483648))))) 2 (fun _ => rfl) ?_
  refine ev_lrem rfl h.1 ?_
  show Ev (am_kz N X) (d, 230, 31, [some (.inr (.inr 86)), some (.inl x1)], [.inr (.inl (Int.tmod (w64 (Int.tdiv (Int.tmod (w64 ((w64 (1103515245 * (U 86 59))) + 12345)) 2147483648) 64)) x1))], (am_sh, am_mm (am_upd U 86 59 (Int.tmod (w64 ((w64 (1103515245 * (U 86 59))) + 12345)) 2147483648)))) R
  have ha := h.2
  subst ha
  exact ev_end 2 (fun _ => rfl)
set_option maxRecDepth 8000 in
theorem M_comes_r0 {N : Nat} {X : Nat → Int} {d : Nat} {x1 x2 : Int} {U : am_U} {R : Option am_V × am_M} (h : ((x1 = 0) → EvK N X (M_comes_s31 d x1 x2 0 0 U) R) ∧ ((x1 ≠ 0) → ((999999999 < x1) → EvK N X (M_comes_s31 d x1 x2 0 0 U) R) ∧ ((x1 ≤ 999999999) → ((16 ≤ (U 122 0)) → EvK N X (M_comes_s31 d x1 x2 0 0 U) R) ∧ (((U 122 0) < 16) → EvK N X (M_comes_s31 d x1 x2 1 0 U) R)))) : EvK N X (M_comes_s0 d x1 x2 U) R := by
  show Ev (am_kz N X) (d, 233, 0, [some (.inr (.inr 86)), some (.inl x1), some (.inl x2), none, none], [], (am_sh, am_mm U)) R
  refine ev_br (P := x1 = 0) (σ1 := (d, 233, 26, [some (.inr (.inr 86)), some (.inl x1), some (.inl x2), none, none], [], (am_sh, am_mm U))) (σ2 := (d, 233, 4, [some (.inr (.inr 86)), some (.inl x1), some (.inl x2), none, none], [], (am_sh, am_mm U))) 2 (fun _ => rfl) (fun hc => ?_) (fun hc => ?_)
  · have h1 := h.1 hc
    refine ev_seg (σ1 := (d, 233, 31, [some (.inr (.inr 86)), some (.inl x1), some (.inl x2), some (.inl 0), some (.inl 0)], [], (am_sh, am_mm U))) 4 (fun _ => rfl) ?_
    exact h1
  · have h2 := h.2 hc
    refine ev_br (P := 999999999 < x1) (σ1 := (d, 233, 26, [some (.inr (.inr 86)), some (.inl x1), some (.inl x2), none, none], [], (am_sh, am_mm U))) (σ2 := (d, 233, 11, [some (.inr (.inr 86)), some (.inl x1), some (.inl x2), none, none], [], (am_sh, am_mm U))) 3 (fun _ => rfl) (fun hc => ?_) (fun hc => ?_)
    · have h21 := h2.1 hc
      refine ev_seg (σ1 := (d, 233, 31, [some (.inr (.inr 86)), some (.inl x1), some (.inl x2), some (.inl 0), some (.inl 0)], [], (am_sh, am_mm U))) 4 (fun _ => rfl) ?_
      exact h21
    · have h22 := h2.2 (Int.not_lt.mp hc)
      refine ev_seg (σ1 := (d, 233, 16, [some (.inr (.inr 86)), some (.inl x1), some (.inl x2), none, none], [.inl 0, .inr (.inr 122)], (am_sh, am_mm U))) 3 (fun _ => rfl) ?_
      refine eu_iald 122 (n := 22) rfl (by decide) rfl (fun _ => rfl) (by decide) ?_
      show Ev (am_kz N X) (d, 233, 17, [some (.inr (.inr 86)), some (.inl x1), some (.inl x2), none, none], [.inl (U 122 0)], (am_sh, am_mm U)) R
      refine ev_br (P := 16 ≤ (U 122 0)) (σ1 := (d, 233, 26, [some (.inr (.inr 86)), some (.inl x1), some (.inl x2), none, none], [], (am_sh, am_mm U))) (σ2 := (d, 233, 22, [some (.inr (.inr 86)), some (.inl x1), some (.inl x2), none, none], [], (am_sh, am_mm U))) 2 (fun _ => rfl) (fun hc => ?_) (fun hc => ?_)
      · have h221 := h22.1 hc
        refine ev_seg (σ1 := (d, 233, 31, [some (.inr (.inr 86)), some (.inl x1), some (.inl x2), some (.inl 0), some (.inl 0)], [], (am_sh, am_mm U))) 4 (fun _ => rfl) ?_
        exact h221
      · have h222 := h22.2 (Int.not_le.mp hc)
        refine ev_seg (σ1 := (d, 233, 31, [some (.inr (.inr 86)), some (.inl x1), some (.inl x2), some (.inl 1), some (.inl 0)], [], (am_sh, am_mm U))) 5 (fun _ => rfl) ?_
        exact h222
set_option maxRecDepth 8000 in
theorem M_comes_r31 {N : Nat} {X : Nat → Int} {d : Nat} {x1 x2 x3 x4 : Int} {U : am_U} {R : Option am_V × am_M} (h : (((U 122 0) ≤ x4) → ((x3 ≠ 0) → (0 ≤ (U 122 0) ∧ (U 122 0) < 352) ∧ R = rI 1 (am_upd (am_upd (am_upd U 123 ((U 122 0).toNat) x1) 124 ((U 122 0).toNat) x2) 122 0 (w32 ((U 122 0) + 1)))) ∧ ((x3 = 0) → R = rI 0 U)) ∧ ((x4 < (U 122 0)) → ((x3 = 0) → EvK N X (M_comes_s31 d x1 x2 0 (w32 (x4 + 1)) U) R) ∧ ((x3 ≠ 0) → (0 ≤ x4 ∧ x4 < 352) ∧ (((U 123 x4.toNat) = x1) → EvK N X (M_comes_s31 d x1 x2 0 (w32 (x4 + 1)) U) R) ∧ (((U 123 x4.toNat) ≠ x1) → EvK N X (M_comes_s31 d x1 x2 1 (w32 (x4 + 1)) U) R)))) : EvK N X (M_comes_s31 d x1 x2 x3 x4 U) R := by
  show Ev (am_kz N X) (d, 233, 31, [some (.inr (.inr 86)), some (.inl x1), some (.inl x2), some (.inl x3), some (.inl x4)], [], (am_sh, am_mm U)) R
  refine ev_seg (σ1 := (d, 233, 38, [some (.inr (.inr 86)), some (.inl x1), some (.inl x2), some (.inl x3), some (.inl x4)], [.inl 0, .inr (.inr 122), .inl x4], (am_sh, am_mm U))) 4 (fun _ => rfl) ?_
  refine eu_iald 122 (n := 22) rfl (by decide) rfl (fun _ => rfl) (by decide) ?_
  show Ev (am_kz N X) (d, 233, 39, [some (.inr (.inr 86)), some (.inl x1), some (.inl x2), some (.inl x3), some (.inl x4)], [.inl (U 122 0), .inl x4], (am_sh, am_mm U)) R
  refine ev_br (P := (U 122 0) ≤ x4) (σ1 := (d, 233, 69, [some (.inr (.inr 86)), some (.inl x1), some (.inl x2), some (.inl x3), some (.inl x4)], [], (am_sh, am_mm U))) (σ2 := (d, 233, 42, [some (.inr (.inr 86)), some (.inl x1), some (.inl x2), some (.inl x3), some (.inl x4)], [], (am_sh, am_mm U))) 1 (fun _ => rfl) (fun hc => ?_) (fun hc => ?_)
  · have h1 := h.1 hc
    refine ev_br (P := ¬ x3 = 0) (σ1 := (d, 233, 75, [some (.inr (.inr 86)), some (.inl x1), some (.inl x2), some (.inl x3), some (.inl x4)], [], (am_sh, am_mm U))) (σ2 := (d, 233, 73, [some (.inr (.inr 86)), some (.inl x1), some (.inl x2), some (.inl x3), some (.inl x4)], [], (am_sh, am_mm U))) 2 (fun _ => rfl) (fun hc => ?_) (fun hc => ?_)
    · have h11 := h1.1 hc
      refine ev_seg (σ1 := (d, 233, 84, [some (.inr (.inr 86)), some (.inl x1), some (.inl x2), some (.inl x3), some (.inl x4)], [.inl 0, .inr (.inr 122), .inr (.inr 123)], (am_sh, am_mm U))) 5 (fun _ => rfl) ?_
      refine eu_iald 122 (n := 22) rfl (by decide) rfl (fun _ => rfl) (by decide) ?_
      show Ev (am_kz N X) (d, 233, 85, [some (.inr (.inr 86)), some (.inl x1), some (.inl x2), some (.inl x3), some (.inl x4)], [.inl (U 122 0), .inr (.inr 123)], (am_sh, am_mm U)) R
      refine ev_seg (σ1 := (d, 233, 86, [some (.inr (.inr 86)), some (.inl x1), some (.inl x2), some (.inl x3), some (.inl x4)], [.inl x1, .inl (U 122 0), .inr (.inr 123)], (am_sh, am_mm U))) 1 (fun _ => rfl) ?_
      refine eu_iast 123 (n := 352) rfl (by decide) rfl (fun _ => rfl) h11.1 ?_
      show Ev (am_kz N X) (d, 233, 87, [some (.inr (.inr 86)), some (.inl x1), some (.inl x2), some (.inl x3), some (.inl x4)], [], (am_sh, am_mm (am_upd U 123 ((U 122 0).toNat) x1))) R
      have h11a := h11.2
      refine ev_seg (σ1 := (d, 233, 96, [some (.inr (.inr 86)), some (.inl x1), some (.inl x2), some (.inl x3), some (.inl x4)], [.inl 0, .inr (.inr 122), .inr (.inr 124)], (am_sh, am_mm (am_upd U 123 ((U 122 0).toNat) x1)))) 5 (fun _ => rfl) ?_
      refine eu_iald 122 (n := 22) rfl (by decide) rfl (fun _ => rfl) (by decide) ?_
      show Ev (am_kz N X) (d, 233, 97, [some (.inr (.inr 86)), some (.inl x1), some (.inl x2), some (.inl x3), some (.inl x4)], [.inl (U 122 0), .inr (.inr 124)], (am_sh, am_mm (am_upd U 123 ((U 122 0).toNat) x1))) R
      refine ev_seg (σ1 := (d, 233, 98, [some (.inr (.inr 86)), some (.inl x1), some (.inl x2), some (.inl x3), some (.inl x4)], [.inl x2, .inl (U 122 0), .inr (.inr 124)], (am_sh, am_mm (am_upd U 123 ((U 122 0).toNat) x1)))) 1 (fun _ => rfl) ?_
      refine eu_iast 124 (n := 352) rfl (by decide) rfl (fun _ => rfl) h11.1 ?_
      show Ev (am_kz N X) (d, 233, 99, [some (.inr (.inr 86)), some (.inl x1), some (.inl x2), some (.inl x3), some (.inl x4)], [], (am_sh, am_mm (am_upd (am_upd U 123 ((U 122 0).toNat) x1) 124 ((U 122 0).toNat) x2))) R
      refine ev_seg (σ1 := (d, 233, 105, [some (.inr (.inr 86)), some (.inl x1), some (.inl x2), some (.inl x3), some (.inl x4)], [.inl 0, .inr (.inr 122), .inl 0, .inr (.inr 122)], (am_sh, am_mm (am_upd (am_upd U 123 ((U 122 0).toNat) x1) 124 ((U 122 0).toNat) x2)))) 4 (fun _ => rfl) ?_
      refine eu_iald 122 (n := 22) rfl (by decide) rfl (fun _ => rfl) (by decide) ?_
      show Ev (am_kz N X) (d, 233, 106, [some (.inr (.inr 86)), some (.inl x1), some (.inl x2), some (.inl x3), some (.inl x4)], [.inl (U 122 0), .inl 0, .inr (.inr 122)], (am_sh, am_mm (am_upd (am_upd U 123 ((U 122 0).toNat) x1) 124 ((U 122 0).toNat) x2))) R
      refine ev_seg (σ1 := (d, 233, 108, [some (.inr (.inr 86)), some (.inl x1), some (.inl x2), some (.inl x3), some (.inl x4)], [.inl (w32 ((U 122 0) + 1)), .inl 0, .inr (.inr 122)], (am_sh, am_mm (am_upd (am_upd U 123 ((U 122 0).toNat) x1) 124 ((U 122 0).toNat) x2)))) 2 (fun _ => rfl) ?_
      refine eu_iast 122 (n := 22) rfl (by decide) rfl (fun _ => rfl) (by decide) ?_
      show Ev (am_kz N X) (d, 233, 109, [some (.inr (.inr 86)), some (.inl x1), some (.inl x2), some (.inl x3), some (.inl x4)], [], (am_sh, am_mm (am_upd (am_upd (am_upd U 123 ((U 122 0).toNat) x1) 124 ((U 122 0).toNat) x2) 122 0 (w32 ((U 122 0) + 1))))) R
      subst h11a
      exact ev_end 2 (fun _ => rfl)
    · have h12 := h1.2 (Decidable.not_not.mp hc)
      subst h12
      exact ev_end 2 (fun _ => rfl)
  · have h2 := h.2 (Int.not_le.mp hc)
    refine ev_br (P := x3 = 0) (σ1 := (d, 233, 61, [some (.inr (.inr 86)), some (.inl x1), some (.inl x2), some (.inl x3), some (.inl x4)], [], (am_sh, am_mm U))) (σ2 := (d, 233, 46, [some (.inr (.inr 86)), some (.inl x1), some (.inl x2), some (.inl x3), some (.inl x4)], [], (am_sh, am_mm U))) 2 (fun _ => rfl) (fun hc => ?_) (fun hc => ?_)
    · have h21 := h2.1 hc
      refine ev_seg (σ1 := (d, 233, 31, [some (.inr (.inr 86)), some (.inl x1), some (.inl x2), some (.inl 0), some (.inl (w32 (x4 + 1)))], [], (am_sh, am_mm U))) 4 (fun _ => rfl) ?_
      exact h21
    · have h22 := h2.2 hc
      refine ev_seg (σ1 := (d, 233, 52, [some (.inr (.inr 86)), some (.inl x1), some (.inl x2), some (.inl x3), some (.inl x4)], [.inl x4, .inr (.inr 123)], (am_sh, am_mm U))) 3 (fun _ => rfl) ?_
      refine eu_iald 123 (n := 352) rfl (by decide) rfl (fun _ => rfl) h22.1 ?_
      show Ev (am_kz N X) (d, 233, 53, [some (.inr (.inr 86)), some (.inl x1), some (.inl x2), some (.inl x3), some (.inl x4)], [.inl (U 123 x4.toNat)], (am_sh, am_mm U)) R
      have h22a := h22.2
      refine ev_br (P := (U 123 x4.toNat) = x1) (σ1 := (d, 233, 61, [some (.inr (.inr 86)), some (.inl x1), some (.inl x2), some (.inl x3), some (.inl x4)], [], (am_sh, am_mm U))) (σ2 := (d, 233, 57, [some (.inr (.inr 86)), some (.inl x1), some (.inl x2), some (.inl x3), some (.inl x4)], [], (am_sh, am_mm U))) 2 (fun _ => rfl) (fun hc => ?_) (fun hc => ?_)
      · have h22a1 := h22a.1 hc
        refine ev_seg (σ1 := (d, 233, 31, [some (.inr (.inr 86)), some (.inl x1), some (.inl x2), some (.inl 0), some (.inl (w32 (x4 + 1)))], [], (am_sh, am_mm U))) 4 (fun _ => rfl) ?_
        exact h22a1
      · have h22a2 := h22a.2 hc
        refine ev_seg (σ1 := (d, 233, 31, [some (.inr (.inr 86)), some (.inl x1), some (.inl x2), some (.inl 1), some (.inl (w32 (x4 + 1)))], [], (am_sh, am_mm U))) 5 (fun _ => rfl) ?_
        exact h22a2
set_option maxRecDepth 8000 in
theorem M_bears_r0 {N : Nat} {X : Nat → Int} {d : Nat} {x1 : Int} {U : am_U} {R : Option am_V × am_M} (h : ∃ (r1 : Int) (U1 : am_U), EvK N X (M_living_s0 d 0 x1 U) (rI r1 U1) ∧ ((r1 < 2) → R = rI 0 U1) ∧ ((2 ≤ r1) → ∃ (r2 : Int) (U2 : am_U), EvK N X (M_roomsOf_s0 d x1 U1) (rI r2 U2) ∧ ((r1 ≠ r2) → ∃ (r3 : Int) (U3 : am_U), EvK N X (M_house_s0 d x1 10 U2) (rI r3 U3) ∧ (0 ≤ r3 ∧ r3 < 352) ∧ ∃ (r4 : Int) (U4 : am_U), EvK N X (M_house_s0 d x1 11 U3) (rI r4 U4) ∧ (0 ≤ r4 ∧ r4 < 352) ∧ ((0 ≤ (w32 ((U3 123 r3.toNat) - (U4 123 r4.toNat)))) → ∃ (r5 : Int) (U5 : am_U), EvK N X (M_comes_s0 d (w32 ((U3 123 r3.toNat) - (U4 123 r4.toNat))) x1 U4) (rI r5 U5) ∧ R = rI r5 U5) ∧ (((w32 ((U3 123 r3.toNat) - (U4 123 r4.toNat))) < 0) → ∃ (r6 : Int) (U6 : am_U), EvK N X (M_comes_s0 d (w32 (-(w32 ((U3 123 r3.toNat) - (U4 123 r4.toNat))))) x1 U4) (rI r6 U6) ∧ R = rI r6 U6)) ∧ ((r1 = r2) → R = rI 0 U2))) : EvK N X (M_bears_s0 (d + 1) x1 U) R := by
  show Ev (am_kz N X) ((d + 1), 232, 0, [some (.inr (.inr 86)), some (.inl x1), none, none], [], (am_sh, am_mm U)) R
  refine ev_seg (σ1 := ((d + 1), 232, 3, [some (.inr (.inr 86)), some (.inl x1), none, none], [.inl x1, .inl 0, .inr (.inr 86)], (am_sh, am_mm U))) 3 (fun _ => rfl) ?_
  obtain ⟨r1, U1, hc, ha⟩ := h
  refine ev_cal (σc := (M_living_s0 d 0 x1 U)) (fun _ => rfl) hc ?_
  show Ev (am_kz N X) ((d + 1), 232, 6, [some (.inr (.inr 86)), some (.inl x1), none, none], [.inl r1], (am_sh, am_mm U1)) R
  refine ev_br (P := r1 < 2) (σ1 := ((d + 1), 232, 21, [some (.inr (.inr 86)), some (.inl x1), some (.inl r1), none], [], (am_sh, am_mm U1))) (σ2 := ((d + 1), 232, 12, [some (.inr (.inr 86)), some (.inl x1), some (.inl r1), none], [], (am_sh, am_mm U1))) 4 (fun _ => rfl) (fun hc => ?_) (fun hc => ?_)
  · have ha1 := ha.1 hc
    subst ha1
    exact ev_end 2 (fun _ => rfl)
  · have ha2 := ha.2 (Int.not_lt.mp hc)
    refine ev_seg (σ1 := ((d + 1), 232, 15, [some (.inr (.inr 86)), some (.inl x1), some (.inl r1), none], [.inl x1, .inr (.inr 86), .inl r1], (am_sh, am_mm U1))) 3 (fun _ => rfl) ?_
    obtain ⟨r2, U2, ha2c, ha2a⟩ := ha2
    refine ev_cal (σc := (M_roomsOf_s0 d x1 U1)) (fun _ => rfl) ha2c ?_
    show Ev (am_kz N X) ((d + 1), 232, 18, [some (.inr (.inr 86)), some (.inl x1), some (.inl r1), none], [.inl r2, .inl r1], (am_sh, am_mm U2)) R
    refine ev_br (P := ¬ r1 = r2) (σ1 := ((d + 1), 232, 23, [some (.inr (.inr 86)), some (.inl x1), some (.inl r1), none], [], (am_sh, am_mm U2))) (σ2 := ((d + 1), 232, 21, [some (.inr (.inr 86)), some (.inl x1), some (.inl r1), none], [], (am_sh, am_mm U2))) 1 (fun _ => rfl) (fun hc => ?_) (fun hc => ?_)
    · have ha2a1 := ha2a.1 hc
      refine ev_seg (σ1 := ((d + 1), 232, 31, [some (.inr (.inr 86)), some (.inl x1), some (.inl r1), none], [.inl 10, .inl x1, .inr (.inr 86), .inr (.inr 123)], (am_sh, am_mm U2))) 5 (fun _ => rfl) ?_
      obtain ⟨r3, U3, ha2a1c, ha2a1a⟩ := ha2a1
      refine ev_cal (σc := (M_house_s0 d x1 10 U2)) (fun _ => rfl) ha2a1c ?_
      show Ev (am_kz N X) ((d + 1), 232, 34, [some (.inr (.inr 86)), some (.inl x1), some (.inl r1), none], [.inl r3, .inr (.inr 123)], (am_sh, am_mm U3)) R
      refine eu_iald 123 (n := 352) rfl (by decide) rfl (fun _ => rfl) ha2a1a.1 ?_
      show Ev (am_kz N X) ((d + 1), 232, 35, [some (.inr (.inr 86)), some (.inl x1), some (.inl r1), none], [.inl (U3 123 r3.toNat)], (am_sh, am_mm U3)) R
      have ha2a1aa := ha2a1a.2
      refine ev_seg (σ1 := ((d + 1), 232, 43, [some (.inr (.inr 86)), some (.inl x1), some (.inl r1), none], [.inl 11, .inl x1, .inr (.inr 86), .inr (.inr 123), .inl (U3 123 r3.toNat)], (am_sh, am_mm U3))) 5 (fun _ => rfl) ?_
      obtain ⟨r4, U4, ha2a1aac, ha2a1aaa⟩ := ha2a1aa
      refine ev_cal (σc := (M_house_s0 d x1 11 U3)) (fun _ => rfl) ha2a1aac ?_
      show Ev (am_kz N X) ((d + 1), 232, 46, [some (.inr (.inr 86)), some (.inl x1), some (.inl r1), none], [.inl r4, .inr (.inr 123), .inl (U3 123 r3.toNat)], (am_sh, am_mm U4)) R
      refine eu_iald 123 (n := 352) rfl (by decide) rfl (fun _ => rfl) ha2a1aaa.1 ?_
      show Ev (am_kz N X) ((d + 1), 232, 47, [some (.inr (.inr 86)), some (.inl x1), some (.inl r1), none], [.inl (U4 123 r4.toNat), .inl (U3 123 r3.toNat)], (am_sh, am_mm U4)) R
      have ha2a1aaaa := ha2a1aaa.2
      refine ev_br (P := 0 ≤ (w32 ((U3 123 r3.toNat) - (U4 123 r4.toNat)))) (σ1 := ((d + 1), 232, 59, [some (.inr (.inr 86)), some (.inl x1), some (.inl r1), some (.inl (w32 ((U3 123 r3.toNat) - (U4 123 r4.toNat))))], [.inr (.inr 86)], (am_sh, am_mm U4))) (σ2 := ((d + 1), 232, 54, [some (.inr (.inr 86)), some (.inl x1), some (.inl r1), some (.inl (w32 ((U3 123 r3.toNat) - (U4 123 r4.toNat))))], [.inr (.inr 86)], (am_sh, am_mm U4))) 5 (fun _ => rfl) (fun hc => ?_) (fun hc => ?_)
      · have ha2a1aaaa1 := ha2a1aaaa.1 hc
        refine ev_seg (σ1 := ((d + 1), 232, 61, [some (.inr (.inr 86)), some (.inl x1), some (.inl r1), some (.inl (w32 ((U3 123 r3.toNat) - (U4 123 r4.toNat))))], [.inl x1, .inl (w32 ((U3 123 r3.toNat) - (U4 123 r4.toNat))), .inr (.inr 86)], (am_sh, am_mm U4))) 2 (fun _ => rfl) ?_
        obtain ⟨r5, U5, ha2a1aaaa1c, ha2a1aaaa1a⟩ := ha2a1aaaa1
        refine ev_cal (σc := (M_comes_s0 d (w32 ((U3 123 r3.toNat) - (U4 123 r4.toNat))) x1 U4)) (fun _ => rfl) ha2a1aaaa1c ?_
        show Ev (am_kz N X) ((d + 1), 232, 64, [some (.inr (.inr 86)), some (.inl x1), some (.inl r1), some (.inl (w32 ((U3 123 r3.toNat) - (U4 123 r4.toNat))))], [.inl r5], (am_sh, am_mm U5)) R
        subst ha2a1aaaa1a
        exact ev_end 1 (fun _ => rfl)
      · have ha2a1aaaa2 := ha2a1aaaa.2 (Int.not_le.mp hc)
        refine ev_seg (σ1 := ((d + 1), 232, 61, [some (.inr (.inr 86)), some (.inl x1), some (.inl r1), some (.inl (w32 ((U3 123 r3.toNat) - (U4 123 r4.toNat))))], [.inl x1, .inl (w32 (-(w32 ((U3 123 r3.toNat) - (U4 123 r4.toNat))))), .inr (.inr 86)], (am_sh, am_mm U4))) 4 (fun _ => rfl) ?_
        obtain ⟨r6, U6, ha2a1aaaa2c, ha2a1aaaa2a⟩ := ha2a1aaaa2
        refine ev_cal (σc := (M_comes_s0 d (w32 (-(w32 ((U3 123 r3.toNat) - (U4 123 r4.toNat))))) x1 U4)) (fun _ => rfl) ha2a1aaaa2c ?_
        show Ev (am_kz N X) ((d + 1), 232, 64, [some (.inr (.inr 86)), some (.inl x1), some (.inl r1), some (.inl (w32 ((U3 123 r3.toNat) - (U4 123 r4.toNat))))], [.inl r6], (am_sh, am_mm U6)) R
        subst ha2a1aaaa2a
        exact ev_end 1 (fun _ => rfl)
    · have ha2a2 := ha2a.2 (Decidable.not_not.mp hc)
      subst ha2a2
      exact ev_end 2 (fun _ => rfl)
set_option maxRecDepth 8000 in
theorem M_burns_r0 {N : Nat} {X : Nat → Int} {d : Nat} {x1 : Int} {U : am_U} {R : Option am_V × am_M} (h : EvK N X (M_burns_s2 d x1 0 U) R) : EvK N X (M_burns_s0 d x1 U) R := by
  show Ev (am_kz N X) (d, 231, 0, [some (.inr (.inr 86)), some (.inl x1), none], [], (am_sh, am_mm U)) R
  refine ev_seg (σ1 := (d, 231, 2, [some (.inr (.inr 86)), some (.inl x1), some (.inl 0)], [], (am_sh, am_mm U))) 2 (fun _ => rfl) ?_
  exact h
set_option maxRecDepth 8000 in
theorem M_burns_r2 {N : Nat} {X : Nat → Int} {d : Nat} {x1 x2 : Int} {U : am_U} {R : Option am_V × am_M} (h : (((U 122 0) ≤ x2) → R = rV U) ∧ ((x2 < (U 122 0)) → (0 ≤ x2 ∧ x2 < 352) ∧ (((U 124 x2.toNat) ≠ x1) → EvK N X (M_burns_s2 d x1 (w32 (x2 + 1)) (am_upd U 124 x2.toNat (U 124 x2.toNat))) R) ∧ (((U 124 x2.toNat) = x1) → EvK N X (M_burns_s2 d x1 (w32 (x2 + 1)) (am_upd U 124 x2.toNat (-1))) R))) : EvK N X (M_burns_s2 d x1 x2 U) R := by
  show Ev (am_kz N X) (d, 231, 2, [some (.inr (.inr 86)), some (.inl x1), some (.inl x2)], [], (am_sh, am_mm U)) R
  refine ev_seg (σ1 := (d, 231, 8, [some (.inr (.inr 86)), some (.inl x1), some (.inl x2)], [.inl 0, .inr (.inr 122), .inl x2], (am_sh, am_mm U))) 4 (fun _ => rfl) ?_
  refine eu_iald 122 (n := 22) rfl (by decide) rfl (fun _ => rfl) (by decide) ?_
  show Ev (am_kz N X) (d, 231, 9, [some (.inr (.inr 86)), some (.inl x1), some (.inl x2)], [.inl (U 122 0), .inl x2], (am_sh, am_mm U)) R
  refine ev_br (P := (U 122 0) ≤ x2) (σ1 := (d, 231, 44, [some (.inr (.inr 86)), some (.inl x1), some (.inl x2)], [], (am_sh, am_mm U))) (σ2 := (d, 231, 12, [some (.inr (.inr 86)), some (.inl x1), some (.inl x2)], [], (am_sh, am_mm U))) 1 (fun _ => rfl) (fun hc => ?_) (fun hc => ?_)
  · have h1 := h.1 hc
    subst h1
    exact ev_end 1 (fun _ => rfl)
  · have h2 := h.2 (Int.not_le.mp hc)
    refine ev_seg (σ1 := (d, 231, 22, [some (.inr (.inr 86)), some (.inl x1), some (.inl x2)], [.inl x2, .inr (.inr 124), .inl x2, .inr (.inr 124)], (am_sh, am_mm U))) 6 (fun _ => rfl) ?_
    refine eu_iald 124 (n := 352) rfl (by decide) rfl (fun _ => rfl) h2.1 ?_
    show Ev (am_kz N X) (d, 231, 23, [some (.inr (.inr 86)), some (.inl x1), some (.inl x2)], [.inl (U 124 x2.toNat), .inl x2, .inr (.inr 124)], (am_sh, am_mm U)) R
    have h2a := h2.2
    refine ev_br (P := ¬ (U 124 x2.toNat) = x1) (σ1 := (d, 231, 31, [some (.inr (.inr 86)), some (.inl x1), some (.inl x2)], [.inl x2, .inr (.inr 124)], (am_sh, am_mm U))) (σ2 := (d, 231, 27, [some (.inr (.inr 86)), some (.inl x1), some (.inl x2)], [.inl x2, .inr (.inr 124)], (am_sh, am_mm U))) 2 (fun _ => rfl) (fun hc => ?_) (fun hc => ?_)
    · have h2a1 := h2a.1 hc
      refine ev_seg (σ1 := (d, 231, 36, [some (.inr (.inr 86)), some (.inl x1), some (.inl x2)], [.inl x2, .inr (.inr 124), .inl x2, .inr (.inr 124)], (am_sh, am_mm U))) 3 (fun _ => rfl) ?_
      refine eu_iald 124 (n := 352) rfl (by decide) rfl (fun _ => rfl) h2.1 ?_
      show Ev (am_kz N X) (d, 231, 37, [some (.inr (.inr 86)), some (.inl x1), some (.inl x2)], [.inl (U 124 x2.toNat), .inl x2, .inr (.inr 124)], (am_sh, am_mm U)) R
      refine eu_iast 124 (n := 352) rfl (by decide) rfl (fun _ => rfl) h2.1 ?_
      show Ev (am_kz N X) (d, 231, 38, [some (.inr (.inr 86)), some (.inl x1), some (.inl x2)], [], (am_sh, am_mm (am_upd U 124 x2.toNat (U 124 x2.toNat)))) R
      refine ev_seg (σ1 := (d, 231, 2, [some (.inr (.inr 86)), some (.inl x1), some (.inl (w32 (x2 + 1)))], [], (am_sh, am_mm (am_upd U 124 x2.toNat (U 124 x2.toNat))))) 2 (fun _ => rfl) ?_
      exact h2a1
    · have h2a2 := h2a.2 (Decidable.not_not.mp hc)
      refine ev_seg (σ1 := (d, 231, 37, [some (.inr (.inr 86)), some (.inl x1), some (.inl x2)], [.inl (-1), .inl x2, .inr (.inr 124)], (am_sh, am_mm U))) 2 (fun _ => rfl) ?_
      refine eu_iast 124 (n := 352) rfl (by decide) rfl (fun _ => rfl) h2.1 ?_
      show Ev (am_kz N X) (d, 231, 38, [some (.inr (.inr 86)), some (.inl x1), some (.inl x2)], [], (am_sh, am_mm (am_upd U 124 x2.toNat (-1)))) R
      refine ev_seg (σ1 := (d, 231, 2, [some (.inr (.inr 86)), some (.inl x1), some (.inl (w32 (x2 + 1)))], [], (am_sh, am_mm (am_upd U 124 x2.toNat (-1))))) 2 (fun _ => rfl) ?_
      exact h2a2
set_option maxRecDepth 8000 in
theorem Fk_loadRow_r0 {N : Nat} {X : Nat → Int} {d : Nat} {ρ : Nat} (hρ : 58 ≤ ρ ∧ ρ < 78) {U : am_U} {R : Option am_V × am_M} (h : ∃ U1 : am_U, EvK N X (Fk_clear_16_s0 d U) (rV U1) ∧ ((((am_upd U1 16 1 (U1 ρ 1)) ρ 2) ≠ 1) → EvK N X (Fk_loadRow_s37 (d + 1) ρ 0 (am_upd (am_upd U1 16 1 (U1 ρ 1)) 16 2 0)) R) ∧ ((((am_upd U1 16 1 (U1 ρ 1)) ρ 2) = 1) → EvK N X (Fk_loadRow_s37 (d + 1) ρ 0 (am_upd (am_upd U1 16 1 (U1 ρ 1)) 16 2 1)) R)) : EvK N X (Fk_loadRow_s0 (d + 1) ρ U) R := by
  show Ev (am_kz N X) ((d + 1), 234, 0, [some (.inr (.inr 16)), some (.inr (.inr ((ρ : Nat) : Int))), none], [], (am_sh, am_mm U)) R
  refine ev_aldHn hρ rfl rfl ?_
  show Ev (am_kz N X) ((d + 1), 234, 1, [some (.inr (.inr 16)), some (.inr (.inr ((ρ : Nat) : Int))), none], [.inr (.inr ((ρ : Nat) : Int))], (am_sh, am_mm U)) R
  refine ev_alenH hρ rfl ?_
  show Ev (am_kz N X) ((d + 1), 234, 2, [some (.inr (.inr 16)), some (.inr (.inr ((ρ : Nat) : Int))), none], [.inl 35], (am_sh, am_mm U)) R
  refine ev_seg (σ1 := ((d + 1), 234, 9, [some (.inr (.inr 16)), some (.inr (.inr ((ρ : Nat) : Int))), none], [.inr (.inr 16)], (am_sh, am_mm U))) 3 (fun _ => rfl) ?_
  obtain ⟨U1, hc, ha⟩ := h
  refine ev_cal (σc := (Fk_clear_16_s0 d U)) (fun _ => rfl) hc ?_
  show Ev (am_kz N X) ((d + 1), 234, 12, [some (.inr (.inr 16)), some (.inr (.inr ((ρ : Nat) : Int))), none], [], (am_sh, am_mm U1)) R
  refine ev_seg (σ1 := ((d + 1), 234, 13, [some (.inr (.inr 16)), some (.inr (.inr ((ρ : Nat) : Int))), none], [.inr (.inr 16)], (am_sh, am_mm U1))) 1 (fun _ => rfl) ?_
  refine ev_aldHn hρ rfl rfl ?_
  show Ev (am_kz N X) ((d + 1), 234, 14, [some (.inr (.inr 16)), some (.inr (.inr ((ρ : Nat) : Int))), none], [.inr (.inr ((ρ : Nat) : Int)), .inr (.inr 16)], (am_sh, am_mm U1)) R
  refine ev_seg (σ1 := ((d + 1), 234, 15, [some (.inr (.inr 16)), some (.inr (.inr ((ρ : Nat) : Int))), none], [.inl 1, .inr (.inr ((ρ : Nat) : Int)), .inr (.inr 16)], (am_sh, am_mm U1))) 1 (fun _ => rfl) ?_
  refine eu_iald ρ (n := 35) rfl (by omega) (am_shH hρ) (am_rfH hρ) (by decide) ?_
  show Ev (am_kz N X) ((d + 1), 234, 16, [some (.inr (.inr 16)), some (.inr (.inr ((ρ : Nat) : Int))), none], [.inl (U1 ρ 1), .inr (.inr 16)], (am_sh, am_mm U1)) R
  refine eu_puti 16 (n := 7) rfl (by decide) rfl rfl ?_
  show Ev (am_kz N X) ((d + 1), 234, 19, [some (.inr (.inr 16)), some (.inr (.inr ((ρ : Nat) : Int))), none], [], (am_sh, am_mm (am_upd U1 16 1 (U1 ρ 1)))) R
  refine ev_seg (σ1 := ((d + 1), 234, 20, [some (.inr (.inr 16)), some (.inr (.inr ((ρ : Nat) : Int))), none], [.inr (.inr 16)], (am_sh, am_mm (am_upd U1 16 1 (U1 ρ 1))))) 1 (fun _ => rfl) ?_
  refine ev_aldHn hρ rfl rfl ?_
  show Ev (am_kz N X) ((d + 1), 234, 21, [some (.inr (.inr 16)), some (.inr (.inr ((ρ : Nat) : Int))), none], [.inr (.inr ((ρ : Nat) : Int)), .inr (.inr 16)], (am_sh, am_mm (am_upd U1 16 1 (U1 ρ 1)))) R
  refine ev_seg (σ1 := ((d + 1), 234, 22, [some (.inr (.inr 16)), some (.inr (.inr ((ρ : Nat) : Int))), none], [.inl 2, .inr (.inr ((ρ : Nat) : Int)), .inr (.inr 16)], (am_sh, am_mm (am_upd U1 16 1 (U1 ρ 1))))) 1 (fun _ => rfl) ?_
  refine eu_iald ρ (n := 35) rfl (by omega) (am_shH hρ) (am_rfH hρ) (by decide) ?_
  show Ev (am_kz N X) ((d + 1), 234, 23, [some (.inr (.inr 16)), some (.inr (.inr ((ρ : Nat) : Int))), none], [.inl ((am_upd U1 16 1 (U1 ρ 1)) ρ 2), .inr (.inr 16)], (am_sh, am_mm (am_upd U1 16 1 (U1 ρ 1)))) R
  refine ev_br (P := ¬ ((am_upd U1 16 1 (U1 ρ 1)) ρ 2) = 1) (σ1 := ((d + 1), 234, 31, [some (.inr (.inr 16)), some (.inr (.inr ((ρ : Nat) : Int))), none], [.inr (.inr 16)], (am_sh, am_mm (am_upd U1 16 1 (U1 ρ 1))))) (σ2 := ((d + 1), 234, 27, [some (.inr (.inr 16)), some (.inr (.inr ((ρ : Nat) : Int))), none], [.inr (.inr 16)], (am_sh, am_mm (am_upd U1 16 1 (U1 ρ 1))))) 2 (fun _ => rfl) (fun hc => ?_) (fun hc => ?_)
  · have ha1 := ha.1 hc
    refine ev_seg (σ1 := ((d + 1), 234, 32, [some (.inr (.inr 16)), some (.inr (.inr ((ρ : Nat) : Int))), none], [.inl 0, .inr (.inr 16)], (am_sh, am_mm (am_upd U1 16 1 (U1 ρ 1))))) 1 (fun _ => rfl) ?_
    refine eu_putz 16 (n := 7) rfl (by decide) rfl rfl (by decide) ?_
    show Ev (am_kz N X) ((d + 1), 234, 35, [some (.inr (.inr 16)), some (.inr (.inr ((ρ : Nat) : Int))), none], [], (am_sh, am_mm (am_upd (am_upd U1 16 1 (U1 ρ 1)) 16 2 0))) R
    refine ev_seg (σ1 := ((d + 1), 234, 37, [some (.inr (.inr 16)), some (.inr (.inr ((ρ : Nat) : Int))), some (.inl 0)], [], (am_sh, am_mm (am_upd (am_upd U1 16 1 (U1 ρ 1)) 16 2 0)))) 2 (fun _ => rfl) ?_
    exact ha1
  · have ha2 := ha.2 (Decidable.not_not.mp hc)
    refine ev_seg (σ1 := ((d + 1), 234, 32, [some (.inr (.inr 16)), some (.inr (.inr ((ρ : Nat) : Int))), none], [.inl 1, .inr (.inr 16)], (am_sh, am_mm (am_upd U1 16 1 (U1 ρ 1))))) 2 (fun _ => rfl) ?_
    refine eu_putz 16 (n := 7) rfl (by decide) rfl rfl (by decide) ?_
    show Ev (am_kz N X) ((d + 1), 234, 35, [some (.inr (.inr 16)), some (.inr (.inr ((ρ : Nat) : Int))), none], [], (am_sh, am_mm (am_upd (am_upd U1 16 1 (U1 ρ 1)) 16 2 1))) R
    refine ev_seg (σ1 := ((d + 1), 234, 37, [some (.inr (.inr 16)), some (.inr (.inr ((ρ : Nat) : Int))), some (.inl 0)], [], (am_sh, am_mm (am_upd (am_upd U1 16 1 (U1 ρ 1)) 16 2 1)))) 2 (fun _ => rfl) ?_
    exact ha2
set_option maxRecDepth 8000 in
theorem Fk_loadRow_r37 {N : Nat} {X : Nat → Int} {d : Nat} {ρ : Nat} (hρ : 58 ≤ ρ ∧ ρ < 78) {x2 : Int} {U : am_U} {R : Option am_V × am_M} (h : (((U ρ 0) ≤ x2) → R = rV U) ∧ ((x2 < (U ρ 0)) → ((16 ≤ x2) → R = rV U) ∧ ((x2 < 16) → (0 ≤ (w32 (3 + (w32 (2 * x2)))) ∧ (w32 (3 + (w32 (2 * x2)))) < 35) ∧ (0 ≤ (w32 (4 + (w32 (2 * x2)))) ∧ (w32 (4 + (w32 (2 * x2)))) < 35) ∧ ∃ U1 : am_U, EvK N X (Fk_add_16_s0 d (U ρ ((w32 (3 + (w32 (2 * x2)))).toNat)) (U ρ ((w32 (4 + (w32 (2 * x2)))).toNat)) U) (rV U1) ∧ EvK N X (Fk_loadRow_s37 (d + 1) ρ (w32 (x2 + 1)) U1) R))) : EvK N X (Fk_loadRow_s37 (d + 1) ρ x2 U) R := by
  show Ev (am_kz N X) ((d + 1), 234, 37, [some (.inr (.inr 16)), some (.inr (.inr ((ρ : Nat) : Int))), some (.inl x2)], [], (am_sh, am_mm U)) R
  refine ev_seg (σ1 := ((d + 1), 234, 38, [some (.inr (.inr 16)), some (.inr (.inr ((ρ : Nat) : Int))), some (.inl x2)], [.inl x2], (am_sh, am_mm U))) 1 (fun _ => rfl) ?_
  refine ev_aldHn hρ rfl rfl ?_
  show Ev (am_kz N X) ((d + 1), 234, 39, [some (.inr (.inr 16)), some (.inr (.inr ((ρ : Nat) : Int))), some (.inl x2)], [.inr (.inr ((ρ : Nat) : Int)), .inl x2], (am_sh, am_mm U)) R
  refine ev_seg (σ1 := ((d + 1), 234, 40, [some (.inr (.inr 16)), some (.inr (.inr ((ρ : Nat) : Int))), some (.inl x2)], [.inl 0, .inr (.inr ((ρ : Nat) : Int)), .inl x2], (am_sh, am_mm U))) 1 (fun _ => rfl) ?_
  refine eu_iald ρ (n := 35) rfl (by omega) (am_shH hρ) (am_rfH hρ) (by decide) ?_
  show Ev (am_kz N X) ((d + 1), 234, 41, [some (.inr (.inr 16)), some (.inr (.inr ((ρ : Nat) : Int))), some (.inl x2)], [.inl (U ρ 0), .inl x2], (am_sh, am_mm U)) R
  refine ev_br (P := (U ρ 0) ≤ x2) (σ1 := ((d + 1), 234, 74, [some (.inr (.inr 16)), some (.inr (.inr ((ρ : Nat) : Int))), some (.inl x2)], [], (am_sh, am_mm U))) (σ2 := ((d + 1), 234, 44, [some (.inr (.inr 16)), some (.inr (.inr ((ρ : Nat) : Int))), some (.inl x2)], [], (am_sh, am_mm U))) 1 (fun _ => rfl) (fun hc => ?_) (fun hc => ?_)
  · have h1 := h.1 hc
    subst h1
    exact ev_end 1 (fun _ => rfl)
  · have h2 := h.2 (Int.not_le.mp hc)
    refine ev_br (P := 16 ≤ x2) (σ1 := ((d + 1), 234, 74, [some (.inr (.inr 16)), some (.inr (.inr ((ρ : Nat) : Int))), some (.inl x2)], [], (am_sh, am_mm U))) (σ2 := ((d + 1), 234, 50, [some (.inr (.inr 16)), some (.inr (.inr ((ρ : Nat) : Int))), some (.inl x2)], [], (am_sh, am_mm U))) 3 (fun _ => rfl) (fun hc => ?_) (fun hc => ?_)
    · have h21 := h2.1 hc
      subst h21
      exact ev_end 1 (fun _ => rfl)
    · have h22 := h2.2 (Int.not_le.mp hc)
      refine ev_seg (σ1 := ((d + 1), 234, 51, [some (.inr (.inr 16)), some (.inr (.inr ((ρ : Nat) : Int))), some (.inl x2)], [.inr (.inr 16)], (am_sh, am_mm U))) 1 (fun _ => rfl) ?_
      refine ev_aldHn hρ rfl rfl ?_
      show Ev (am_kz N X) ((d + 1), 234, 52, [some (.inr (.inr 16)), some (.inr (.inr ((ρ : Nat) : Int))), some (.inl x2)], [.inr (.inr ((ρ : Nat) : Int)), .inr (.inr 16)], (am_sh, am_mm U)) R
      refine ev_seg (σ1 := ((d + 1), 234, 57, [some (.inr (.inr 16)), some (.inr (.inr ((ρ : Nat) : Int))), some (.inl x2)], [.inl (w32 (3 + (w32 (2 * x2)))), .inr (.inr ((ρ : Nat) : Int)), .inr (.inr 16)], (am_sh, am_mm U))) 5 (fun _ => rfl) ?_
      refine eu_iald ρ (n := 35) rfl (by omega) (am_shH hρ) (am_rfH hρ) h22.1 ?_
      show Ev (am_kz N X) ((d + 1), 234, 58, [some (.inr (.inr 16)), some (.inr (.inr ((ρ : Nat) : Int))), some (.inl x2)], [.inl (U ρ ((w32 (3 + (w32 (2 * x2)))).toNat)), .inr (.inr 16)], (am_sh, am_mm U)) R
      have h22a := h22.2
      refine ev_aldHn hρ rfl rfl ?_
      show Ev (am_kz N X) ((d + 1), 234, 59, [some (.inr (.inr 16)), some (.inr (.inr ((ρ : Nat) : Int))), some (.inl x2)], [.inr (.inr ((ρ : Nat) : Int)), .inl (U ρ ((w32 (3 + (w32 (2 * x2)))).toNat)), .inr (.inr 16)], (am_sh, am_mm U)) R
      refine ev_seg (σ1 := ((d + 1), 234, 64, [some (.inr (.inr 16)), some (.inr (.inr ((ρ : Nat) : Int))), some (.inl x2)], [.inl (w32 (4 + (w32 (2 * x2)))), .inr (.inr ((ρ : Nat) : Int)), .inl (U ρ ((w32 (3 + (w32 (2 * x2)))).toNat)), .inr (.inr 16)], (am_sh, am_mm U))) 5 (fun _ => rfl) ?_
      refine eu_iald ρ (n := 35) rfl (by omega) (am_shH hρ) (am_rfH hρ) h22a.1 ?_
      show Ev (am_kz N X) ((d + 1), 234, 65, [some (.inr (.inr 16)), some (.inr (.inr ((ρ : Nat) : Int))), some (.inl x2)], [.inl (U ρ ((w32 (4 + (w32 (2 * x2)))).toNat)), .inl (U ρ ((w32 (3 + (w32 (2 * x2)))).toNat)), .inr (.inr 16)], (am_sh, am_mm U)) R
      have h22aa := h22a.2
      obtain ⟨U1, h22aac, h22aaa⟩ := h22aa
      refine ev_cal (σc := (Fk_add_16_s0 d (U ρ ((w32 (3 + (w32 (2 * x2)))).toNat)) (U ρ ((w32 (4 + (w32 (2 * x2)))).toNat)) U)) (fun _ => rfl) h22aac ?_
      show Ev (am_kz N X) ((d + 1), 234, 68, [some (.inr (.inr 16)), some (.inr (.inr ((ρ : Nat) : Int))), some (.inl x2)], [], (am_sh, am_mm U1)) R
      refine ev_seg (σ1 := ((d + 1), 234, 37, [some (.inr (.inr 16)), some (.inr (.inr ((ρ : Nat) : Int))), some (.inl (w32 (x2 + 1)))], [], (am_sh, am_mm U1))) 2 (fun _ => rfl) ?_
      exact h22aaa
set_option maxRecDepth 8000 in
theorem Cp_look_r0 {N : Nat} {X : Nat → Int} {d : Nat} {U : am_U} {R : Option am_V × am_M} (h : (((U 52 8) = 0) → ∃ U1 : am_U, EvK N X (Cp_findAllowed_s0 d (am_upd U 52 8 1)) (rV U1) ∧ ∃ U2 : am_U, EvK N X (Cp_fillTable_s0 d (am_upd U1 52 6 (if 0 < (w32 ((U1 16 0) - 12)) then (w32 ((U1 16 0) - 12)) else 0))) (rV U2) ∧ ∃ U3 : am_U, EvK N X (Ar_fill_II_54_s0 d 20 (am_upd U2 52 7 (-1))) (rV U3) ∧ ∃ U4 : am_U, EvK N X (Cp_pairHead_s0 d 0 (w32 ((am_shl 1 (U3 16 0)) - 1)) 0 U3) (rV U4) ∧ ∃ U5 : am_U, EvK N X (Cp_pairTail_s0 d U4) (rV U5) ∧ R = rV U5) ∧ (((U 52 8) ≠ 0) → R = rV U)) : EvK N X (Cp_look_s0 (d + 1) U) R := by
  show Ev (am_kz N X) ((d + 1), 235, 0, [some (.inr (.inr 52))], [], (am_sh, am_mm U)) R
  refine ev_br (P := (U 52 8) = 0) (σ1 := ((d + 1), 235, 8, [some (.inr (.inr 52))], [], (am_sh, am_mm U))) (σ2 := ((d + 1), 235, 7, [some (.inr (.inr 52))], [], (am_sh, am_mm U))) 3 (fun _ => rfl) (fun hc => ?_) (fun hc => ?_)
  · have h1 := h.1 hc
    refine ev_seg (σ1 := ((d + 1), 235, 10, [some (.inr (.inr 52))], [.inl 1, .inr (.inr 52)], (am_sh, am_mm U))) 2 (fun _ => rfl) ?_
    refine eu_putz 52 (n := 9) rfl (by decide) rfl rfl (by decide) ?_
    show Ev (am_kz N X) ((d + 1), 235, 13, [some (.inr (.inr 52))], [], (am_sh, am_mm (am_upd U 52 8 1))) R
    refine ev_seg (σ1 := ((d + 1), 235, 14, [some (.inr (.inr 52))], [.inr (.inr 52)], (am_sh, am_mm (am_upd U 52 8 1)))) 1 (fun _ => rfl) ?_
    obtain ⟨U1, h1c, h1a⟩ := h1
    refine ev_cal (σc := (Cp_findAllowed_s0 d (am_upd U 52 8 1))) (fun _ => rfl) h1c ?_
    show Ev (am_kz N X) ((d + 1), 235, 17, [some (.inr (.inr 52))], [], (am_sh, am_mm U1)) R
    refine ev_seg (σ1 := ((d + 1), 235, 32, [some (.inr (.inr 52))], [.inl (if 0 < (w32 ((U1 16 0) - 12)) then (w32 ((U1 16 0) - 12)) else 0), .inr (.inr 52)], (am_sh, am_mm U1))) 8 (fun _ => rfl) ?_
    refine eu_puti 52 (n := 9) rfl (by decide) rfl rfl ?_
    show Ev (am_kz N X) ((d + 1), 235, 35, [some (.inr (.inr 52))], [], (am_sh, am_mm (am_upd U1 52 6 (if 0 < (w32 ((U1 16 0) - 12)) then (w32 ((U1 16 0) - 12)) else 0)))) R
    refine ev_seg (σ1 := ((d + 1), 235, 36, [some (.inr (.inr 52))], [.inr (.inr 52)], (am_sh, am_mm (am_upd U1 52 6 (if 0 < (w32 ((U1 16 0) - 12)) then (w32 ((U1 16 0) - 12)) else 0))))) 1 (fun _ => rfl) ?_
    obtain ⟨U2, h1ac, h1aa⟩ := h1a
    refine ev_cal (σc := (Cp_fillTable_s0 d (am_upd U1 52 6 (if 0 < (w32 ((U1 16 0) - 12)) then (w32 ((U1 16 0) - 12)) else 0)))) (fun _ => rfl) h1ac ?_
    show Ev (am_kz N X) ((d + 1), 235, 39, [some (.inr (.inr 52))], [], (am_sh, am_mm U2)) R
    refine ev_seg (σ1 := ((d + 1), 235, 41, [some (.inr (.inr 52))], [.inl (-1), .inr (.inr 52)], (am_sh, am_mm U2))) 2 (fun _ => rfl) ?_
    refine eu_puti 52 (n := 9) rfl (by decide) rfl rfl ?_
    show Ev (am_kz N X) ((d + 1), 235, 44, [some (.inr (.inr 52))], [], (am_sh, am_mm (am_upd U2 52 7 (-1)))) R
    refine ev_seg (σ1 := ((d + 1), 235, 50, [some (.inr (.inr 52))], [.inl 20, .inr (.inr 54)], (am_sh, am_mm (am_upd U2 52 7 (-1))))) 3 (fun _ => rfl) ?_
    obtain ⟨U3, h1aac, h1aaa⟩ := h1aa
    refine ev_cal (σc := (Ar_fill_II_54_s0 d 20 (am_upd U2 52 7 (-1)))) (fun _ => rfl) h1aac ?_
    show Ev (am_kz N X) ((d + 1), 235, 53, [some (.inr (.inr 52))], [], (am_sh, am_mm U3)) R
    refine ev_seg (σ1 := ((d + 1), 235, 67, [some (.inr (.inr 52))], [.inl 0, .inl (w32 ((am_shl 1 (U3 16 0)) - 1)), .inl 0, .inr (.inr 52)], (am_sh, am_mm U3))) 10 (fun _ => rfl) ?_
    obtain ⟨U4, h1aaac, h1aaaa⟩ := h1aaa
    refine ev_cal (σc := (Cp_pairHead_s0 d 0 (w32 ((am_shl 1 (U3 16 0)) - 1)) 0 U3)) (fun _ => rfl) h1aaac ?_
    show Ev (am_kz N X) ((d + 1), 235, 70, [some (.inr (.inr 52))], [], (am_sh, am_mm U4)) R
    refine ev_seg (σ1 := ((d + 1), 235, 71, [some (.inr (.inr 52))], [.inr (.inr 52)], (am_sh, am_mm U4))) 1 (fun _ => rfl) ?_
    obtain ⟨U5, h1aaaac, h1aaaaa⟩ := h1aaaa
    refine ev_cal (σc := (Cp_pairTail_s0 d U4)) (fun _ => rfl) h1aaaac ?_
    show Ev (am_kz N X) ((d + 1), 235, 74, [some (.inr (.inr 52))], [], (am_sh, am_mm U5)) R
    subst h1aaaaa
    exact ev_end 1 (fun _ => rfl)
  · have h2 := h.2 hc
    subst h2
    exact ev_end 1 (fun _ => rfl)
set_option maxRecDepth 8000 in
theorem M_lowest_r0 {N : Nat} {X : Nat → Int} {d : Nat} {x0 : Int} {U : am_U} {R : Option am_V × am_M} (h : EvK N X (M_lowest_s2 d x0 0 U) R) : EvK N X (M_lowest_s0 d x0 U) R := by
  show Ev (am_kz N X) (d, 237, 0, [some (.inl x0), none], [], (am_sh, am_mm U)) R
  refine ev_seg (σ1 := (d, 237, 2, [some (.inl x0), some (.inl 0)], [], (am_sh, am_mm U))) 2 (fun _ => rfl) ?_
  exact h
set_option maxRecDepth 8000 in
theorem M_lowest_r2 {N : Nat} {X : Nat → Int} {d : Nat} {x0 x1 : Int} {U : am_U} {R : Option am_V × am_M} (h : (((am_and (am_shr x0 x1) 1) ≠ 0) → R = rI x1 U) ∧ (((am_and (am_shr x0 x1) 1) = 0) → EvK N X (M_lowest_s2 d x0 (w32 (x1 + 1)) U) R)) : EvK N X (M_lowest_s2 d x0 x1 U) R := by
  show Ev (am_kz N X) (d, 237, 2, [some (.inl x0), some (.inl x1)], [], (am_sh, am_mm U)) R
  refine ev_br (P := ¬ (am_and (am_shr x0 x1) 1) = 0) (σ1 := (d, 237, 16, [some (.inl x0), some (.inl x1)], [], (am_sh, am_mm U))) (σ2 := (d, 237, 10, [some (.inl x0), some (.inl x1)], [], (am_sh, am_mm U))) 6 (fun _ => rfl) (fun hc => ?_) (fun hc => ?_)
  · have h1 := h.1 hc
    subst h1
    exact ev_end 2 (fun _ => rfl)
  · have h2 := h.2 (Decidable.not_not.mp hc)
    refine ev_seg (σ1 := (d, 237, 2, [some (.inl x0), some (.inl (w32 (x1 + 1)))], [], (am_sh, am_mm U))) 2 (fun _ => rfl) ?_
    exact h2
set_option maxRecDepth 8000 in
theorem M_mayWed_r0 {N : Nat} {X : Nat → Int} {d : Nat} {x1 x2 : Int} {U : am_U} {R : Option am_V × am_M} (h : (0 ≤ x2 ∧ x2 < 352) ∧ (0 ≤ (U 86 13) ∧ (U 86 13) < 2) ∧ ∃ (r1 : Int) (U1 : am_U), EvK N X (M_asks_s0 d 0 x1 (U 123 x2.toNat) (U 104 ((U 86 13).toNat)) (U 105 ((U 86 13).toNat)) U) (rI r1 U1) ∧ ((r1 = 0) → R = rI 0 U1) ∧ ((r1 ≠ 0) → (0 ≤ x1 ∧ x1 < 352) ∧ (0 ≤ (U1 86 13) ∧ (U1 86 13) < 2) ∧ ∃ (r2 : Int) (U2 : am_U), EvK N X (M_asks_s0 d 0 x2 (U1 123 x1.toNat) (U1 104 ((U1 86 13).toNat)) (U1 105 ((U1 86 13).toNat)) U1) (rI r2 U2) ∧ ((r2 = 0) → R = rI 0 U2) ∧ ((r2 ≠ 0) → R = rI 1 U2))) : EvK N X (M_mayWed_s0 (d + 1) x1 x2 U) R := by
  show Ev (am_kz N X) ((d + 1), 236, 0, [some (.inr (.inr 86)), some (.inl x1), some (.inl x2)], [], (am_sh, am_mm U)) R
  refine ev_seg (σ1 := ((d + 1), 236, 8, [some (.inr (.inr 86)), some (.inl x1), some (.inl x2)], [.inl x2, .inr (.inr 123), .inl x1, .inl 0, .inr (.inr 86)], (am_sh, am_mm U))) 6 (fun _ => rfl) ?_
  refine eu_iald 123 (n := 352) rfl (by decide) rfl (fun _ => rfl) h.1 ?_
  show Ev (am_kz N X) ((d + 1), 236, 9, [some (.inr (.inr 86)), some (.inl x1), some (.inl x2)], [.inl (U 123 x2.toNat), .inl x1, .inl 0, .inr (.inr 86)], (am_sh, am_mm U)) R
  have ha := h.2
  refine ev_seg (σ1 := ((d + 1), 236, 18, [some (.inr (.inr 86)), some (.inl x1), some (.inl x2)], [.inl (U 86 13), .inr (.inr 104), .inr (.inl (U 123 x2.toNat)), .inl x1, .inl 0, .inr (.inr 86)], (am_sh, am_mm U))) 5 (fun _ => rfl) ?_
  refine eu_iald 104 (n := 2) rfl (by decide) rfl (fun _ => rfl) ha.1 ?_
  show Ev (am_kz N X) ((d + 1), 236, 19, [some (.inr (.inr 86)), some (.inl x1), some (.inl x2)], [.inl (U 104 ((U 86 13).toNat)), .inr (.inl (U 123 x2.toNat)), .inl x1, .inl 0, .inr (.inr 86)], (am_sh, am_mm U)) R
  have haa := ha.2
  refine ev_seg (σ1 := ((d + 1), 236, 27, [some (.inr (.inr 86)), some (.inl x1), some (.inl x2)], [.inl (U 86 13), .inr (.inr 105), .inl (U 104 ((U 86 13).toNat)), .inr (.inl (U 123 x2.toNat)), .inl x1, .inl 0, .inr (.inr 86)], (am_sh, am_mm U))) 4 (fun _ => rfl) ?_
  refine eu_iald 105 (n := 2) rfl (by decide) rfl (fun _ => rfl) ha.1 ?_
  show Ev (am_kz N X) ((d + 1), 236, 28, [some (.inr (.inr 86)), some (.inl x1), some (.inl x2)], [.inl (U 105 ((U 86 13).toNat)), .inl (U 104 ((U 86 13).toNat)), .inr (.inl (U 123 x2.toNat)), .inl x1, .inl 0, .inr (.inr 86)], (am_sh, am_mm U)) R
  obtain ⟨r1, U1, haac, haaa⟩ := haa
  refine ev_cal (σc := (M_asks_s0 d 0 x1 (U 123 x2.toNat) (U 104 ((U 86 13).toNat)) (U 105 ((U 86 13).toNat)) U)) (fun _ => rfl) haac ?_
  show Ev (am_kz N X) ((d + 1), 236, 31, [some (.inr (.inr 86)), some (.inl x1), some (.inl x2)], [.inl r1], (am_sh, am_mm U1)) R
  refine ev_br (P := r1 = 0) (σ1 := ((d + 1), 236, 72, [some (.inr (.inr 86)), some (.inl x1), some (.inl x2)], [], (am_sh, am_mm U1))) (σ2 := ((d + 1), 236, 34, [some (.inr (.inr 86)), some (.inl x1), some (.inl x2)], [], (am_sh, am_mm U1))) 1 (fun _ => rfl) (fun hc => ?_) (fun hc => ?_)
  · have haaa1 := haaa.1 hc
    subst haaa1
    exact ev_end 2 (fun _ => rfl)
  · have haaa2 := haaa.2 hc
    refine ev_seg (σ1 := ((d + 1), 236, 42, [some (.inr (.inr 86)), some (.inl x1), some (.inl x2)], [.inl x1, .inr (.inr 123), .inl x2, .inl 0, .inr (.inr 86)], (am_sh, am_mm U1))) 6 (fun _ => rfl) ?_
    refine eu_iald 123 (n := 352) rfl (by decide) rfl (fun _ => rfl) haaa2.1 ?_
    show Ev (am_kz N X) ((d + 1), 236, 43, [some (.inr (.inr 86)), some (.inl x1), some (.inl x2)], [.inl (U1 123 x1.toNat), .inl x2, .inl 0, .inr (.inr 86)], (am_sh, am_mm U1)) R
    have haaa2a := haaa2.2
    refine ev_seg (σ1 := ((d + 1), 236, 52, [some (.inr (.inr 86)), some (.inl x1), some (.inl x2)], [.inl (U1 86 13), .inr (.inr 104), .inr (.inl (U1 123 x1.toNat)), .inl x2, .inl 0, .inr (.inr 86)], (am_sh, am_mm U1))) 5 (fun _ => rfl) ?_
    refine eu_iald 104 (n := 2) rfl (by decide) rfl (fun _ => rfl) haaa2a.1 ?_
    show Ev (am_kz N X) ((d + 1), 236, 53, [some (.inr (.inr 86)), some (.inl x1), some (.inl x2)], [.inl (U1 104 ((U1 86 13).toNat)), .inr (.inl (U1 123 x1.toNat)), .inl x2, .inl 0, .inr (.inr 86)], (am_sh, am_mm U1)) R
    have haaa2aa := haaa2a.2
    refine ev_seg (σ1 := ((d + 1), 236, 61, [some (.inr (.inr 86)), some (.inl x1), some (.inl x2)], [.inl (U1 86 13), .inr (.inr 105), .inl (U1 104 ((U1 86 13).toNat)), .inr (.inl (U1 123 x1.toNat)), .inl x2, .inl 0, .inr (.inr 86)], (am_sh, am_mm U1))) 4 (fun _ => rfl) ?_
    refine eu_iald 105 (n := 2) rfl (by decide) rfl (fun _ => rfl) haaa2a.1 ?_
    show Ev (am_kz N X) ((d + 1), 236, 62, [some (.inr (.inr 86)), some (.inl x1), some (.inl x2)], [.inl (U1 105 ((U1 86 13).toNat)), .inl (U1 104 ((U1 86 13).toNat)), .inr (.inl (U1 123 x1.toNat)), .inl x2, .inl 0, .inr (.inr 86)], (am_sh, am_mm U1)) R
    obtain ⟨r2, U2, haaa2aac, haaa2aaa⟩ := haaa2aa
    refine ev_cal (σc := (M_asks_s0 d 0 x2 (U1 123 x1.toNat) (U1 104 ((U1 86 13).toNat)) (U1 105 ((U1 86 13).toNat)) U1)) (fun _ => rfl) haaa2aac ?_
    show Ev (am_kz N X) ((d + 1), 236, 65, [some (.inr (.inr 86)), some (.inl x1), some (.inl x2)], [.inl r2], (am_sh, am_mm U2)) R
    refine ev_br (P := r2 = 0) (σ1 := ((d + 1), 236, 72, [some (.inr (.inr 86)), some (.inl x1), some (.inl x2)], [], (am_sh, am_mm U2))) (σ2 := ((d + 1), 236, 68, [some (.inr (.inr 86)), some (.inl x1), some (.inl x2)], [], (am_sh, am_mm U2))) 1 (fun _ => rfl) (fun hc => ?_) (fun hc => ?_)
    · have haaa2aaa1 := haaa2aaa.1 hc
      subst haaa2aaa1
      exact ev_end 2 (fun _ => rfl)
    · have haaa2aaa2 := haaa2aaa.2 hc
      subst haaa2aaa2
      exact ev_end 3 (fun _ => rfl)
set_option maxRecDepth 8000 in
theorem Ar_fill_II_83_r0 {N : Nat} {X : Nat → Int} {d : Nat} {x1 : Int} {U : am_U} {R : Option am_V × am_M} (h : EvK N X (Ar_fill_II_83_s5 d x1 0 64 U) R) : EvK N X (Ar_fill_II_83_s0 d x1 U) R := by
  show Ev (am_kz N X) (d, 211, 0, [some (.inr (.inr 83)), some (.inl x1), none, none], [], (am_sh, am_mm U)) R
  refine ev_seg (σ1 := (d, 211, 5, [some (.inr (.inr 83)), some (.inl x1), some (.inl 0), some (.inl 64)], [], (am_sh, am_mm U))) 5 (fun _ => rfl) ?_
  exact h
set_option maxRecDepth 8000 in
theorem Ar_fill_II_83_r5 {N : Nat} {X : Nat → Int} {d : Nat} {x1 x2 x3 : Int} {U : am_U} {R : Option am_V × am_M} (h : ((x3 ≤ x2) → R = rV U) ∧ ((x2 < x3) → (0 ≤ x2 ∧ x2 < 64) ∧ EvK N X (Ar_fill_II_83_s5 d x1 (w32 (x2 + 1)) x3 (am_upd U 83 x2.toNat x1)) R)) : EvK N X (Ar_fill_II_83_s5 d x1 x2 x3 U) R := by
  show Ev (am_kz N X) (d, 211, 5, [some (.inr (.inr 83)), some (.inl x1), some (.inl x2), some (.inl x3)], [], (am_sh, am_mm U)) R
  refine ev_br (P := x3 ≤ x2) (σ1 := (d, 211, 20, [some (.inr (.inr 83)), some (.inl x1), some (.inl x2), some (.inl x3)], [], (am_sh, am_mm U))) (σ2 := (d, 211, 10, [some (.inr (.inr 83)), some (.inl x1), some (.inl x2), some (.inl x3)], [], (am_sh, am_mm U))) 3 (fun _ => rfl) (fun hc => ?_) (fun hc => ?_)
  · have h1 := h.1 hc
    subst h1
    exact ev_end 1 (fun _ => rfl)
  · have h2 := h.2 (Int.not_le.mp hc)
    refine ev_seg (σ1 := (d, 211, 13, [some (.inr (.inr 83)), some (.inl x1), some (.inl x2), some (.inl x3)], [.inl x1, .inl x2, .inr (.inr 83)], (am_sh, am_mm U))) 3 (fun _ => rfl) ?_
    refine eu_iast 83 (n := 64) rfl (by decide) rfl (fun _ => rfl) h2.1 ?_
    show Ev (am_kz N X) (d, 211, 14, [some (.inr (.inr 83)), some (.inl x1), some (.inl x2), some (.inl x3)], [], (am_sh, am_mm (am_upd U 83 x2.toNat x1))) R
    have h2a := h2.2
    refine ev_seg (σ1 := (d, 211, 5, [some (.inr (.inr 83)), some (.inl x1), some (.inl (w32 (x2 + 1))), some (.inl x3)], [], (am_sh, am_mm (am_upd U 83 x2.toNat x1)))) 2 (fun _ => rfl) ?_
    exact h2a
set_option maxRecDepth 8000 in
theorem M_areFriends_r0 {N : Nat} {X : Nat → Int} {d : Nat} {x1 x2 : Int} {U : am_U} {R : Option am_V × am_M} (h : ∃ (r1 : Int) (U1 : am_U), EvK N X (M_sizeOf_s0 d x1 U) (rJ r1 U1) ∧ ∃ (r2 : Int) (U2 : am_U), EvK N X (M_sizeOf_s0 d x2 U1) (rJ r2 U2) ∧ ((r1 = r2) → R = rI 0 U2) ∧ ((r1 ≠ r2) → ∃ (r3 : Int) (U3 : am_U), EvK N X (M_sizeOf_s0 d x1 U2) (rJ r3 U3) ∧ ∃ (r4 : Int) (U4 : am_U), EvK N X (M_partsOf_s0 d r3 U3) (rJ r4 U4) ∧ ∃ (r5 : Int) (U5 : am_U), EvK N X (M_sizeOf_s0 d x2 U4) (rJ r5 U5) ∧ ((r4 ≠ r5) → R = rI 0 U5) ∧ ((r4 = r5) → ∃ (r6 : Int) (U6 : am_U), EvK N X (M_sizeOf_s0 d x2 U5) (rJ r6 U6) ∧ ∃ (r7 : Int) (U7 : am_U), EvK N X (M_partsOf_s0 d r6 U6) (rJ r7 U7) ∧ ∃ (r8 : Int) (U8 : am_U), EvK N X (M_sizeOf_s0 d x1 U7) (rJ r8 U8) ∧ ((r7 ≠ r8) → R = rI 0 U8) ∧ ((r7 = r8) → R = rI 1 U8)))) : EvK N X (M_areFriends_s0 (d + 1) x1 x2 U) R := by
  show Ev (am_kz N X) ((d + 1), 238, 0, [some (.inr (.inr 86)), some (.inl x1), some (.inl x2)], [], (am_sh, am_mm U)) R
  refine ev_seg (σ1 := ((d + 1), 238, 2, [some (.inr (.inr 86)), some (.inl x1), some (.inl x2)], [.inl x1, .inr (.inr 86)], (am_sh, am_mm U))) 2 (fun _ => rfl) ?_
  obtain ⟨r1, U1, hc, ha⟩ := h
  refine ev_cal (σc := (M_sizeOf_s0 d x1 U)) (fun _ => rfl) hc ?_
  show Ev (am_kz N X) ((d + 1), 238, 5, [some (.inr (.inr 86)), some (.inl x1), some (.inl x2)], [.inr (.inl r1)], (am_sh, am_mm U1)) R
  refine ev_seg (σ1 := ((d + 1), 238, 7, [some (.inr (.inr 86)), some (.inl x1), some (.inl x2)], [.inl x2, .inr (.inr 86), .inr (.inl r1)], (am_sh, am_mm U1))) 2 (fun _ => rfl) ?_
  obtain ⟨r2, U2, hac, haa⟩ := ha
  refine ev_cal (σc := (M_sizeOf_s0 d x2 U1)) (fun _ => rfl) hac ?_
  show Ev (am_kz N X) ((d + 1), 238, 10, [some (.inr (.inr 86)), some (.inl x1), some (.inl x2)], [.inr (.inl r2), .inr (.inl r1)], (am_sh, am_mm U2)) R
  refine ev_br (P := (am_lcmp r1 r2) = 0) (σ1 := ((d + 1), 238, 52, [some (.inr (.inr 86)), some (.inl x1), some (.inl x2)], [], (am_sh, am_mm U2))) (σ2 := ((d + 1), 238, 14, [some (.inr (.inr 86)), some (.inl x1), some (.inl x2)], [], (am_sh, am_mm U2))) 2 (fun _ => rfl) (fun hc => ?_) (fun hc => ?_)
  · have haa1 := haa.1 ((am_lc_eq r1 r2).mp hc)
    subst haa1
    exact ev_end 2 (fun _ => rfl)
  · have haa2 := haa.2 ((am_lcn_eq r1 r2).mp hc)
    refine ev_seg (σ1 := ((d + 1), 238, 16, [some (.inr (.inr 86)), some (.inl x1), some (.inl x2)], [.inl x1, .inr (.inr 86)], (am_sh, am_mm U2))) 2 (fun _ => rfl) ?_
    obtain ⟨r3, U3, haa2c, haa2a⟩ := haa2
    refine ev_cal (σc := (M_sizeOf_s0 d x1 U2)) (fun _ => rfl) haa2c ?_
    show Ev (am_kz N X) ((d + 1), 238, 19, [some (.inr (.inr 86)), some (.inl x1), some (.inl x2)], [.inr (.inl r3)], (am_sh, am_mm U3)) R
    obtain ⟨r4, U4, haa2ac, haa2aa⟩ := haa2a
    refine ev_cal (σc := (M_partsOf_s0 d r3 U3)) (fun _ => rfl) haa2ac ?_
    show Ev (am_kz N X) ((d + 1), 238, 22, [some (.inr (.inr 86)), some (.inl x1), some (.inl x2)], [.inr (.inl r4)], (am_sh, am_mm U4)) R
    refine ev_seg (σ1 := ((d + 1), 238, 24, [some (.inr (.inr 86)), some (.inl x1), some (.inl x2)], [.inl x2, .inr (.inr 86), .inr (.inl r4)], (am_sh, am_mm U4))) 2 (fun _ => rfl) ?_
    obtain ⟨r5, U5, haa2aac, haa2aaa⟩ := haa2aa
    refine ev_cal (σc := (M_sizeOf_s0 d x2 U4)) (fun _ => rfl) haa2aac ?_
    show Ev (am_kz N X) ((d + 1), 238, 27, [some (.inr (.inr 86)), some (.inl x1), some (.inl x2)], [.inr (.inl r5), .inr (.inl r4)], (am_sh, am_mm U5)) R
    refine ev_br (P := ¬ (am_lcmp r4 r5) = 0) (σ1 := ((d + 1), 238, 52, [some (.inr (.inr 86)), some (.inl x1), some (.inl x2)], [], (am_sh, am_mm U5))) (σ2 := ((d + 1), 238, 31, [some (.inr (.inr 86)), some (.inl x1), some (.inl x2)], [], (am_sh, am_mm U5))) 2 (fun _ => rfl) (fun hc => ?_) (fun hc => ?_)
    · have haa2aaa1 := haa2aaa.1 ((am_lc_ne r4 r5).mp hc)
      subst haa2aaa1
      exact ev_end 2 (fun _ => rfl)
    · have haa2aaa2 := haa2aaa.2 ((am_lcn_ne r4 r5).mp hc)
      refine ev_seg (σ1 := ((d + 1), 238, 33, [some (.inr (.inr 86)), some (.inl x1), some (.inl x2)], [.inl x2, .inr (.inr 86)], (am_sh, am_mm U5))) 2 (fun _ => rfl) ?_
      obtain ⟨r6, U6, haa2aaa2c, haa2aaa2a⟩ := haa2aaa2
      refine ev_cal (σc := (M_sizeOf_s0 d x2 U5)) (fun _ => rfl) haa2aaa2c ?_
      show Ev (am_kz N X) ((d + 1), 238, 36, [some (.inr (.inr 86)), some (.inl x1), some (.inl x2)], [.inr (.inl r6)], (am_sh, am_mm U6)) R
      obtain ⟨r7, U7, haa2aaa2ac, haa2aaa2aa⟩ := haa2aaa2a
      refine ev_cal (σc := (M_partsOf_s0 d r6 U6)) (fun _ => rfl) haa2aaa2ac ?_
      show Ev (am_kz N X) ((d + 1), 238, 39, [some (.inr (.inr 86)), some (.inl x1), some (.inl x2)], [.inr (.inl r7)], (am_sh, am_mm U7)) R
      refine ev_seg (σ1 := ((d + 1), 238, 41, [some (.inr (.inr 86)), some (.inl x1), some (.inl x2)], [.inl x1, .inr (.inr 86), .inr (.inl r7)], (am_sh, am_mm U7))) 2 (fun _ => rfl) ?_
      obtain ⟨r8, U8, haa2aaa2aac, haa2aaa2aaa⟩ := haa2aaa2aa
      refine ev_cal (σc := (M_sizeOf_s0 d x1 U7)) (fun _ => rfl) haa2aaa2aac ?_
      show Ev (am_kz N X) ((d + 1), 238, 44, [some (.inr (.inr 86)), some (.inl x1), some (.inl x2)], [.inr (.inl r8), .inr (.inl r7)], (am_sh, am_mm U8)) R
      refine ev_br (P := ¬ (am_lcmp r7 r8) = 0) (σ1 := ((d + 1), 238, 52, [some (.inr (.inr 86)), some (.inl x1), some (.inl x2)], [], (am_sh, am_mm U8))) (σ2 := ((d + 1), 238, 48, [some (.inr (.inr 86)), some (.inl x1), some (.inl x2)], [], (am_sh, am_mm U8))) 2 (fun _ => rfl) (fun hc => ?_) (fun hc => ?_)
      · have haa2aaa2aaa1 := haa2aaa2aaa.1 ((am_lc_ne r7 r8).mp hc)
        subst haa2aaa2aaa1
        exact ev_end 2 (fun _ => rfl)
      · have haa2aaa2aaa2 := haa2aaa2aaa.2 ((am_lcn_ne r7 r8).mp hc)
        subst haa2aaa2aaa2
        exact ev_end 3 (fun _ => rfl)
set_option maxRecDepth 8000 in
theorem Dg_add_r0 {N : Nat} {X : Nat → Int} {d : Nat} {x1 : Int} {U : am_U} {R : Option am_V × am_M} (h : EvK N X (Dg_add_s10 (d + 1) x1 x1 0 0 0 U) R) : EvK N X (Dg_add_s0 (d + 1) x1 U) R := by
  show Ev (am_kz N X) ((d + 1), 239, 0, [some (.inr (.inr 82)), some (.inl x1), none, none, none, none, none], [], (am_sh, am_mm U)) R
  refine ev_seg (σ1 := ((d + 1), 239, 10, [some (.inr (.inr 82)), some (.inl x1), some (.inl x1), some (.inl 0), some (.inl 0), some (.inl 0), none], [], (am_sh, am_mm U))) 8 (fun _ => rfl) ?_
  exact h
set_option maxRecDepth 8000 in
theorem Dg_add_r10 {N : Nat} {X : Nat → Int} {d : Nat} {x1 x2 x3 x4 x5 : Int} {U : am_U} {R : Option am_V × am_M} (h : ((64 ≤ x5) → R = rV U) ∧ ((x5 < 64) → (((w32 (x2 + x3)) ≤ 0) → R = rV U) ∧ ((0 < (w32 (x2 + x3))) → (0 ≤ x5 ∧ x5 < 64) ∧ (((w32 ((w32 ((U 83 x5.toNat) + (Int.tmod x2 10))) + x3)) < 10) → EvK N X (Dg_add_s10 (d + 1) x1 (w32 (Int.tdiv x2 10)) 0 0 (w32 (x5 + 1)) (am_upd (am_upd (am_upd (am_upd U 83 x5.toNat (w32 ((w32 ((w32 ((U 83 x5.toNat) + (Int.tmod x2 10))) + x3)) - 0))) 82 2 (w32 ((U 82 2) + 0))) 82 3 (if (U 82 3) < 0 then 0 else (U 82 3))) 82 1 (if (U 82 1) < (w32 (x5 + 1)) then (w32 (x5 + 1)) else (U 82 1)))) R) ∧ ((10 ≤ (w32 ((w32 ((U 83 x5.toNat) + (Int.tmod x2 10))) + x3))) → EvK N X (Dg_add_s10 (d + 1) x1 (w32 (Int.tdiv x2 10)) 1 (w32 (x4 + 1)) (w32 (x5 + 1)) (am_upd (am_upd (am_upd (am_upd U 83 x5.toNat (w32 ((w32 ((w32 ((U 83 x5.toNat) + (Int.tmod x2 10))) + x3)) - 10))) 82 2 (w32 ((U 82 2) + 1))) 82 3 (if (U 82 3) < (w32 (x4 + 1)) then (w32 (x4 + 1)) else (U 82 3))) 82 1 (if (U 82 1) < (w32 (x5 + 1)) then (w32 (x5 + 1)) else (U 82 1)))) R)))) : EvK N X (Dg_add_s10 (d + 1) x1 x2 x3 x4 x5 U) R := by
  show Ev (am_kz N X) ((d + 1), 239, 10, [some (.inr (.inr 82)), some (.inl x1), some (.inl x2), some (.inl x3), some (.inl x4), some (.inl x5), none], [], (am_sh, am_mm U)) R
  refine ev_br (P := 64 ≤ x5) (σ1 := ((d + 1), 239, 130, [some (.inr (.inr 82)), some (.inl x1), some (.inl x2), some (.inl x3), some (.inl x4), some (.inl x5), none], [], (am_sh, am_mm U))) (σ2 := ((d + 1), 239, 17, [some (.inr (.inr 82)), some (.inl x1), some (.inl x2), some (.inl x3), some (.inl x4), some (.inl x5), none], [], (am_sh, am_mm U))) 3 (fun _ => rfl) (fun hc => ?_) (fun hc => ?_)
  · have h1 := h.1 hc
    subst h1
    exact ev_end 1 (fun _ => rfl)
  · have h2 := h.2 (Int.not_le.mp hc)
    refine ev_br (P := (w32 (x2 + x3)) ≤ 0) (σ1 := ((d + 1), 239, 130, [some (.inr (.inr 82)), some (.inl x1), some (.inl x2), some (.inl x3), some (.inl x4), some (.inl x5), none], [], (am_sh, am_mm U))) (σ2 := ((d + 1), 239, 23, [some (.inr (.inr 82)), some (.inl x1), some (.inl x2), some (.inl x3), some (.inl x4), some (.inl x5), none], [], (am_sh, am_mm U))) 4 (fun _ => rfl) (fun hc => ?_) (fun hc => ?_)
    · have h21 := h2.1 hc
      subst h21
      exact ev_end 1 (fun _ => rfl)
    · have h22 := h2.2 (Int.not_le.mp hc)
      refine ev_seg (σ1 := ((d + 1), 239, 29, [some (.inr (.inr 82)), some (.inl x1), some (.inl x2), some (.inl x3), some (.inl x4), some (.inl x5), none], [.inl x5, .inr (.inr 83)], (am_sh, am_mm U))) 3 (fun _ => rfl) ?_
      refine eu_iald 83 (n := 64) rfl (by decide) rfl (fun _ => rfl) h22.1 ?_
      show Ev (am_kz N X) ((d + 1), 239, 30, [some (.inr (.inr 82)), some (.inl x1), some (.inl x2), some (.inl x3), some (.inl x4), some (.inl x5), none], [.inl (U 83 x5.toNat)], (am_sh, am_mm U)) R
      have h22a := h22.2
      refine ev_seg (σ1 := ((d + 1), 239, 33, [some (.inr (.inr 82)), some (.inl x1), some (.inl x2), some (.inl x3), some (.inl x4), some (.inl x5), none], [.inl 10, .inl x2, .inl (U 83 x5.toNat)], (am_sh, am_mm U))) 2 (fun _ => rfl) ?_
      refine ev_irem rfl (by decide) ?_
      show Ev (am_kz N X) ((d + 1), 239, 34, [some (.inr (.inr 82)), some (.inl x1), some (.inl x2), some (.inl x3), some (.inl x4), some (.inl x5), none], [.inl (Int.tmod x2 10), .inl (U 83 x5.toNat)], (am_sh, am_mm U)) R
      refine ev_seg (σ1 := ((d + 1), 239, 42, [some (.inr (.inr 82)), some (.inl x1), some (.inl x2), some (.inl x3), some (.inl x4), some (.inl x5), some (.inl (w32 ((w32 ((U 83 x5.toNat) + (Int.tmod x2 10))) + x3)))], [.inl 10, .inl x2], (am_sh, am_mm U))) 6 (fun _ => rfl) ?_
      refine ev_idiv rfl (by decide) ?_
      show Ev (am_kz N X) ((d + 1), 239, 43, [some (.inr (.inr 82)), some (.inl x1), some (.inl x2), some (.inl x3), some (.inl x4), some (.inl x5), some (.inl (w32 ((w32 ((U 83 x5.toNat) + (Int.tmod x2 10))) + x3)))], [.inl (w32 (Int.tdiv x2 10))], (am_sh, am_mm U)) R
      refine ev_br (P := (w32 ((w32 ((U 83 x5.toNat) + (Int.tmod x2 10))) + x3)) < 10) (σ1 := ((d + 1), 239, 55, [some (.inr (.inr 82)), some (.inl x1), some (.inl (w32 (Int.tdiv x2 10))), some (.inl x3), some (.inl x4), some (.inl x5), some (.inl (w32 ((w32 ((U 83 x5.toNat) + (Int.tmod x2 10))) + x3)))], [], (am_sh, am_mm U))) (σ2 := ((d + 1), 239, 51, [some (.inr (.inr 82)), some (.inl x1), some (.inl (w32 (Int.tdiv x2 10))), some (.inl x3), some (.inl x4), some (.inl x5), some (.inl (w32 ((w32 ((U 83 x5.toNat) + (Int.tmod x2 10))) + x3)))], [], (am_sh, am_mm U))) 4 (fun _ => rfl) (fun hc => ?_) (fun hc => ?_)
      · have h22a1 := h22a.1 hc
        refine ev_seg (σ1 := ((d + 1), 239, 70, [some (.inr (.inr 82)), some (.inl x1), some (.inl (w32 (Int.tdiv x2 10))), some (.inl 0), some (.inl x4), some (.inl x5), some (.inl (w32 ((w32 ((U 83 x5.toNat) + (Int.tmod x2 10))) + x3)))], [.inl (w32 ((w32 ((w32 ((U 83 x5.toNat) + (Int.tmod x2 10))) + x3)) - 0)), .inl x5, .inr (.inr 83)], (am_sh, am_mm U))) 10 (fun _ => rfl) ?_
        refine eu_iast 83 (n := 64) rfl (by decide) rfl (fun _ => rfl) h22.1 ?_
        show Ev (am_kz N X) ((d + 1), 239, 71, [some (.inr (.inr 82)), some (.inl x1), some (.inl (w32 (Int.tdiv x2 10))), some (.inl 0), some (.inl x4), some (.inl x5), some (.inl (w32 ((w32 ((U 83 x5.toNat) + (Int.tmod x2 10))) + x3)))], [], (am_sh, am_mm (am_upd U 83 x5.toNat (w32 ((w32 ((w32 ((U 83 x5.toNat) + (Int.tmod x2 10))) + x3)) - 0))))) R
        refine ev_seg (σ1 := ((d + 1), 239, 93, [some (.inr (.inr 82)), some (.inl x1), some (.inl (w32 (Int.tdiv x2 10))), some (.inl 0), some (.inl 0), some (.inl x5), some (.inl (w32 ((w32 ((U 83 x5.toNat) + (Int.tmod x2 10))) + x3)))], [.inl (w32 ((U 82 2) + 0)), .inr (.inr 82)], (am_sh, am_mm (am_upd U 83 x5.toNat (w32 ((w32 ((w32 ((U 83 x5.toNat) + (Int.tmod x2 10))) + x3)) - 0)))))) 10 (fun _ => rfl) ?_
        refine eu_puti 82 (n := 4) rfl (by decide) rfl rfl ?_
        show Ev (am_kz N X) ((d + 1), 239, 96, [some (.inr (.inr 82)), some (.inl x1), some (.inl (w32 (Int.tdiv x2 10))), some (.inl 0), some (.inl 0), some (.inl x5), some (.inl (w32 ((w32 ((U 83 x5.toNat) + (Int.tmod x2 10))) + x3)))], [], (am_sh, am_mm (am_upd (am_upd U 83 x5.toNat (w32 ((w32 ((w32 ((U 83 x5.toNat) + (Int.tmod x2 10))) + x3)) - 0))) 82 2 (w32 ((U 82 2) + 0))))) R
        refine ev_seg (σ1 := ((d + 1), 239, 106, [some (.inr (.inr 82)), some (.inl x1), some (.inl (w32 (Int.tdiv x2 10))), some (.inl 0), some (.inl 0), some (.inl x5), some (.inl (w32 ((w32 ((U 83 x5.toNat) + (Int.tmod x2 10))) + x3)))], [.inl (if (U 82 3) < 0 then 0 else (U 82 3)), .inr (.inr 82)], (am_sh, am_mm (am_upd (am_upd U 83 x5.toNat (w32 ((w32 ((w32 ((U 83 x5.toNat) + (Int.tmod x2 10))) + x3)) - 0))) 82 2 (w32 ((U 82 2) + 0)))))) 5 (fun _ => rfl) ?_
        refine eu_puti 82 (n := 4) rfl (by decide) rfl rfl ?_
        show Ev (am_kz N X) ((d + 1), 239, 109, [some (.inr (.inr 82)), some (.inl x1), some (.inl (w32 (Int.tdiv x2 10))), some (.inl 0), some (.inl 0), some (.inl x5), some (.inl (w32 ((w32 ((U 83 x5.toNat) + (Int.tmod x2 10))) + x3)))], [], (am_sh, am_mm (am_upd (am_upd (am_upd U 83 x5.toNat (w32 ((w32 ((w32 ((U 83 x5.toNat) + (Int.tmod x2 10))) + x3)) - 0))) 82 2 (w32 ((U 82 2) + 0))) 82 3 (if (U 82 3) < 0 then 0 else (U 82 3))))) R
        refine ev_seg (σ1 := ((d + 1), 239, 121, [some (.inr (.inr 82)), some (.inl x1), some (.inl (w32 (Int.tdiv x2 10))), some (.inl 0), some (.inl 0), some (.inl x5), some (.inl (w32 ((w32 ((U 83 x5.toNat) + (Int.tmod x2 10))) + x3)))], [.inl (if (U 82 1) < (w32 (x5 + 1)) then (w32 (x5 + 1)) else (U 82 1)), .inr (.inr 82)], (am_sh, am_mm (am_upd (am_upd (am_upd U 83 x5.toNat (w32 ((w32 ((w32 ((U 83 x5.toNat) + (Int.tmod x2 10))) + x3)) - 0))) 82 2 (w32 ((U 82 2) + 0))) 82 3 (if (U 82 3) < 0 then 0 else (U 82 3)))))) 7 (fun _ => rfl) ?_
        refine eu_puti 82 (n := 4) rfl (by decide) rfl rfl ?_
        show Ev (am_kz N X) ((d + 1), 239, 124, [some (.inr (.inr 82)), some (.inl x1), some (.inl (w32 (Int.tdiv x2 10))), some (.inl 0), some (.inl 0), some (.inl x5), some (.inl (w32 ((w32 ((U 83 x5.toNat) + (Int.tmod x2 10))) + x3)))], [], (am_sh, am_mm (am_upd (am_upd (am_upd (am_upd U 83 x5.toNat (w32 ((w32 ((w32 ((U 83 x5.toNat) + (Int.tmod x2 10))) + x3)) - 0))) 82 2 (w32 ((U 82 2) + 0))) 82 3 (if (U 82 3) < 0 then 0 else (U 82 3))) 82 1 (if (U 82 1) < (w32 (x5 + 1)) then (w32 (x5 + 1)) else (U 82 1))))) R
        refine ev_seg (σ1 := ((d + 1), 239, 10, [some (.inr (.inr 82)), some (.inl x1), some (.inl (w32 (Int.tdiv x2 10))), some (.inl 0), some (.inl 0), some (.inl (w32 (x5 + 1))), some (.inl (w32 ((w32 ((U 83 x5.toNat) + (Int.tmod x2 10))) + x3)))], [], (am_sh, am_mm (am_upd (am_upd (am_upd (am_upd U 83 x5.toNat (w32 ((w32 ((w32 ((U 83 x5.toNat) + (Int.tmod x2 10))) + x3)) - 0))) 82 2 (w32 ((U 82 2) + 0))) 82 3 (if (U 82 3) < 0 then 0 else (U 82 3))) 82 1 (if (U 82 1) < (w32 (x5 + 1)) then (w32 (x5 + 1)) else (U 82 1)))))) 2 (fun _ => rfl) ?_
        exact ev_le (L := [some (.inr (.inr 82)), some (.inl x1), some (.inl (w32 (Int.tdiv x2 10))), some (.inl 0), some (.inl 0), some (.inl (w32 (x5 + 1))), none]) ⟨rfl, ⟨rfl, ⟨rfl, ⟨rfl, ⟨rfl, ⟨rfl, trivial⟩⟩⟩⟩⟩⟩ h22a1
      · have h22a2 := h22a.2 (Int.not_lt.mp hc)
        refine ev_seg (σ1 := ((d + 1), 239, 70, [some (.inr (.inr 82)), some (.inl x1), some (.inl (w32 (Int.tdiv x2 10))), some (.inl 1), some (.inl x4), some (.inl x5), some (.inl (w32 ((w32 ((U 83 x5.toNat) + (Int.tmod x2 10))) + x3)))], [.inl (w32 ((w32 ((w32 ((U 83 x5.toNat) + (Int.tmod x2 10))) + x3)) - 10)), .inl x5, .inr (.inr 83)], (am_sh, am_mm U))) 11 (fun _ => rfl) ?_
        refine eu_iast 83 (n := 64) rfl (by decide) rfl (fun _ => rfl) h22.1 ?_
        show Ev (am_kz N X) ((d + 1), 239, 71, [some (.inr (.inr 82)), some (.inl x1), some (.inl (w32 (Int.tdiv x2 10))), some (.inl 1), some (.inl x4), some (.inl x5), some (.inl (w32 ((w32 ((U 83 x5.toNat) + (Int.tmod x2 10))) + x3)))], [], (am_sh, am_mm (am_upd U 83 x5.toNat (w32 ((w32 ((w32 ((U 83 x5.toNat) + (Int.tmod x2 10))) + x3)) - 10))))) R
        refine ev_seg (σ1 := ((d + 1), 239, 93, [some (.inr (.inr 82)), some (.inl x1), some (.inl (w32 (Int.tdiv x2 10))), some (.inl 1), some (.inl (w32 (x4 + 1))), some (.inl x5), some (.inl (w32 ((w32 ((U 83 x5.toNat) + (Int.tmod x2 10))) + x3)))], [.inl (w32 ((U 82 2) + 1)), .inr (.inr 82)], (am_sh, am_mm (am_upd U 83 x5.toNat (w32 ((w32 ((w32 ((U 83 x5.toNat) + (Int.tmod x2 10))) + x3)) - 10)))))) 13 (fun _ => rfl) ?_
        refine eu_puti 82 (n := 4) rfl (by decide) rfl rfl ?_
        show Ev (am_kz N X) ((d + 1), 239, 96, [some (.inr (.inr 82)), some (.inl x1), some (.inl (w32 (Int.tdiv x2 10))), some (.inl 1), some (.inl (w32 (x4 + 1))), some (.inl x5), some (.inl (w32 ((w32 ((U 83 x5.toNat) + (Int.tmod x2 10))) + x3)))], [], (am_sh, am_mm (am_upd (am_upd U 83 x5.toNat (w32 ((w32 ((w32 ((U 83 x5.toNat) + (Int.tmod x2 10))) + x3)) - 10))) 82 2 (w32 ((U 82 2) + 1))))) R
        refine ev_seg (σ1 := ((d + 1), 239, 106, [some (.inr (.inr 82)), some (.inl x1), some (.inl (w32 (Int.tdiv x2 10))), some (.inl 1), some (.inl (w32 (x4 + 1))), some (.inl x5), some (.inl (w32 ((w32 ((U 83 x5.toNat) + (Int.tmod x2 10))) + x3)))], [.inl (if (U 82 3) < (w32 (x4 + 1)) then (w32 (x4 + 1)) else (U 82 3)), .inr (.inr 82)], (am_sh, am_mm (am_upd (am_upd U 83 x5.toNat (w32 ((w32 ((w32 ((U 83 x5.toNat) + (Int.tmod x2 10))) + x3)) - 10))) 82 2 (w32 ((U 82 2) + 1)))))) 5 (fun _ => rfl) ?_
        refine eu_puti 82 (n := 4) rfl (by decide) rfl rfl ?_
        show Ev (am_kz N X) ((d + 1), 239, 109, [some (.inr (.inr 82)), some (.inl x1), some (.inl (w32 (Int.tdiv x2 10))), some (.inl 1), some (.inl (w32 (x4 + 1))), some (.inl x5), some (.inl (w32 ((w32 ((U 83 x5.toNat) + (Int.tmod x2 10))) + x3)))], [], (am_sh, am_mm (am_upd (am_upd (am_upd U 83 x5.toNat (w32 ((w32 ((w32 ((U 83 x5.toNat) + (Int.tmod x2 10))) + x3)) - 10))) 82 2 (w32 ((U 82 2) + 1))) 82 3 (if (U 82 3) < (w32 (x4 + 1)) then (w32 (x4 + 1)) else (U 82 3))))) R
        refine ev_seg (σ1 := ((d + 1), 239, 121, [some (.inr (.inr 82)), some (.inl x1), some (.inl (w32 (Int.tdiv x2 10))), some (.inl 1), some (.inl (w32 (x4 + 1))), some (.inl x5), some (.inl (w32 ((w32 ((U 83 x5.toNat) + (Int.tmod x2 10))) + x3)))], [.inl (if (U 82 1) < (w32 (x5 + 1)) then (w32 (x5 + 1)) else (U 82 1)), .inr (.inr 82)], (am_sh, am_mm (am_upd (am_upd (am_upd U 83 x5.toNat (w32 ((w32 ((w32 ((U 83 x5.toNat) + (Int.tmod x2 10))) + x3)) - 10))) 82 2 (w32 ((U 82 2) + 1))) 82 3 (if (U 82 3) < (w32 (x4 + 1)) then (w32 (x4 + 1)) else (U 82 3)))))) 7 (fun _ => rfl) ?_
        refine eu_puti 82 (n := 4) rfl (by decide) rfl rfl ?_
        show Ev (am_kz N X) ((d + 1), 239, 124, [some (.inr (.inr 82)), some (.inl x1), some (.inl (w32 (Int.tdiv x2 10))), some (.inl 1), some (.inl (w32 (x4 + 1))), some (.inl x5), some (.inl (w32 ((w32 ((U 83 x5.toNat) + (Int.tmod x2 10))) + x3)))], [], (am_sh, am_mm (am_upd (am_upd (am_upd (am_upd U 83 x5.toNat (w32 ((w32 ((w32 ((U 83 x5.toNat) + (Int.tmod x2 10))) + x3)) - 10))) 82 2 (w32 ((U 82 2) + 1))) 82 3 (if (U 82 3) < (w32 (x4 + 1)) then (w32 (x4 + 1)) else (U 82 3))) 82 1 (if (U 82 1) < (w32 (x5 + 1)) then (w32 (x5 + 1)) else (U 82 1))))) R
        refine ev_seg (σ1 := ((d + 1), 239, 10, [some (.inr (.inr 82)), some (.inl x1), some (.inl (w32 (Int.tdiv x2 10))), some (.inl 1), some (.inl (w32 (x4 + 1))), some (.inl (w32 (x5 + 1))), some (.inl (w32 ((w32 ((U 83 x5.toNat) + (Int.tmod x2 10))) + x3)))], [], (am_sh, am_mm (am_upd (am_upd (am_upd (am_upd U 83 x5.toNat (w32 ((w32 ((w32 ((U 83 x5.toNat) + (Int.tmod x2 10))) + x3)) - 10))) 82 2 (w32 ((U 82 2) + 1))) 82 3 (if (U 82 3) < (w32 (x4 + 1)) then (w32 (x4 + 1)) else (U 82 3))) 82 1 (if (U 82 1) < (w32 (x5 + 1)) then (w32 (x5 + 1)) else (U 82 1)))))) 2 (fun _ => rfl) ?_
        exact ev_le (L := [some (.inr (.inr 82)), some (.inl x1), some (.inl (w32 (Int.tdiv x2 10))), some (.inl 1), some (.inl (w32 (x4 + 1))), some (.inl (w32 (x5 + 1))), none]) ⟨rfl, ⟨rfl, ⟨rfl, ⟨rfl, ⟨rfl, ⟨rfl, trivial⟩⟩⟩⟩⟩⟩ h22a2
set_option maxRecDepth 8000 in
theorem Tw_fillSet_r0 {N : Nat} {X : Nat → Int} {d : Nat} {x2 x3 : Int} {U : am_U} {R : Option am_V × am_M} (h : EvK N X (Tw_fillSet_s9 (d + 1) x2 x3 0 0 0 U) R) : EvK N X (Tw_fillSet_s0 (d + 1) x2 x3 U) R := by
  show Ev (am_kz N X) ((d + 1), 240, 0, [some (.inr (.inr 3)), some (.inr (.inr 44)), some (.inl x2), some (.inl x3), none, none, none, none], [], (am_sh, am_mm U)) R
  refine ev_seg (σ1 := ((d + 1), 240, 9, [some (.inr (.inr 3)), some (.inr (.inr 44)), some (.inl x2), some (.inl x3), some (.inl 0), some (.inl 0), some (.inl 0), none], [], (am_sh, am_mm U))) 6 (fun _ => rfl) ?_
  exact h
set_option maxRecDepth 8000 in
theorem Tw_fillSet_r9 {N : Nat} {X : Nat → Int} {d : Nat} {x2 x3 x4 x5 x6 : Int} {U : am_U} {R : Option am_V × am_M} (h : ((x3 ≤ x6) → ((x5 ≠ 0) → (0 ≤ x2 ∧ x2 < 4096) ∧ R = rV (am_upd U 44 x2.toNat (w32 ((w32 (x5 * 16)) + x4)))) ∧ ((x5 = 0) → (0 ≤ x2 ∧ x2 < 4096) ∧ R = rV (am_upd U 44 x2.toNat (w32 ((w32 (x5 * 16)) + (w32 (x4 + 1))))))) ∧ ((x6 < x3) → (((am_and (am_shr x2 x6) 1) ≠ 1) → EvK N X (Tw_fillSet_s9 (d + 1) x2 x3 x4 x5 (w32 (x6 + 1)) U) R) ∧ (((am_and (am_shr x2 x6) 1) = 1) → (0 ≤ (am_and x2 (am_xor (am_shl 1 x6) (-1))) ∧ (am_and x2 (am_xor (am_shl 1 x6) (-1))) < 4096) ∧ (0 ≤ x6 ∧ x6 < 12) ∧ EvK N X (Tw_fillSet_s9 (d + 1) x2 x3 (if x4 < (am_and (U 44 ((am_and x2 (am_xor (am_shl 1 x6) (-1))).toNat)) 15) then (am_and (U 44 ((am_and x2 (am_xor (am_shl 1 x6) (-1))).toNat)) 15) else x4) (w32 ((am_shr (U 44 ((am_and x2 (am_xor (am_shl 1 x6) (-1))).toNat)) 4) + (U 11 x6.toNat))) (w32 (x6 + 1)) U) R))) : EvK N X (Tw_fillSet_s9 (d + 1) x2 x3 x4 x5 x6 U) R := by
  show Ev (am_kz N X) ((d + 1), 240, 9, [some (.inr (.inr 3)), some (.inr (.inr 44)), some (.inl x2), some (.inl x3), some (.inl x4), some (.inl x5), some (.inl x6), none], [], (am_sh, am_mm U)) R
  refine ev_br (P := x3 ≤ x6) (σ1 := ((d + 1), 240, 69, [some (.inr (.inr 3)), some (.inr (.inr 44)), some (.inl x2), some (.inl x3), some (.inl x4), some (.inl x5), some (.inl x6), none], [], (am_sh, am_mm U))) (σ2 := ((d + 1), 240, 15, [some (.inr (.inr 3)), some (.inr (.inr 44)), some (.inl x2), some (.inl x3), some (.inl x4), some (.inl x5), some (.inl x6), none], [], (am_sh, am_mm U))) 3 (fun _ => rfl) (fun hc => ?_) (fun hc => ?_)
  · have h1 := h.1 hc
    refine ev_br (P := ¬ x5 = 0) (σ1 := ((d + 1), 240, 88, [some (.inr (.inr 3)), some (.inr (.inr 44)), some (.inl x2), some (.inl x3), some (.inl x4), some (.inl x5), some (.inl x6), none], [.inl (w32 (x5 * 16)), .inl x2, .inr (.inr 44)], (am_sh, am_mm U))) (σ2 := ((d + 1), 240, 81, [some (.inr (.inr 3)), some (.inr (.inr 44)), some (.inl x2), some (.inl x3), some (.inl x4), some (.inl x5), some (.inl x6), none], [.inl (w32 (x5 * 16)), .inl x2, .inr (.inr 44)], (am_sh, am_mm U))) 7 (fun _ => rfl) (fun hc => ?_) (fun hc => ?_)
    · have h11 := h1.1 hc
      refine ev_seg (σ1 := ((d + 1), 240, 91, [some (.inr (.inr 3)), some (.inr (.inr 44)), some (.inl x2), some (.inl x3), some (.inl x4), some (.inl x5), some (.inl x6), none], [.inl (w32 ((w32 (x5 * 16)) + x4)), .inl x2, .inr (.inr 44)], (am_sh, am_mm U))) 2 (fun _ => rfl) ?_
      refine eu_iast 44 (n := 4096) rfl (by decide) rfl (fun _ => rfl) h11.1 ?_
      show Ev (am_kz N X) ((d + 1), 240, 92, [some (.inr (.inr 3)), some (.inr (.inr 44)), some (.inl x2), some (.inl x3), some (.inl x4), some (.inl x5), some (.inl x6), none], [], (am_sh, am_mm (am_upd U 44 x2.toNat (w32 ((w32 (x5 * 16)) + x4))))) R
      have h11a := h11.2
      subst h11a
      exact ev_end 1 (fun _ => rfl)
    · have h12 := h1.2 (Decidable.not_not.mp hc)
      refine ev_seg (σ1 := ((d + 1), 240, 91, [some (.inr (.inr 3)), some (.inr (.inr 44)), some (.inl x2), some (.inl x3), some (.inl x4), some (.inl x5), some (.inl x6), none], [.inl (w32 ((w32 (x5 * 16)) + (w32 (x4 + 1)))), .inl x2, .inr (.inr 44)], (am_sh, am_mm U))) 5 (fun _ => rfl) ?_
      refine eu_iast 44 (n := 4096) rfl (by decide) rfl (fun _ => rfl) h12.1 ?_
      show Ev (am_kz N X) ((d + 1), 240, 92, [some (.inr (.inr 3)), some (.inr (.inr 44)), some (.inl x2), some (.inl x3), some (.inl x4), some (.inl x5), some (.inl x6), none], [], (am_sh, am_mm (am_upd U 44 x2.toNat (w32 ((w32 (x5 * 16)) + (w32 (x4 + 1))))))) R
      have h12a := h12.2
      subst h12a
      exact ev_end 1 (fun _ => rfl)
  · have h2 := h.2 (Int.not_le.mp hc)
    refine ev_br (P := ¬ (am_and (am_shr x2 x6) 1) = 1) (σ1 := ((d + 1), 240, 63, [some (.inr (.inr 3)), some (.inr (.inr 44)), some (.inl x2), some (.inl x3), some (.inl x4), some (.inl x5), some (.inl x6), none], [], (am_sh, am_mm U))) (σ2 := ((d + 1), 240, 25, [some (.inr (.inr 3)), some (.inr (.inr 44)), some (.inl x2), some (.inl x3), some (.inl x4), some (.inl x5), some (.inl x6), none], [], (am_sh, am_mm U))) 7 (fun _ => rfl) (fun hc => ?_) (fun hc => ?_)
    · have h21 := h2.1 hc
      refine ev_seg (σ1 := ((d + 1), 240, 9, [some (.inr (.inr 3)), some (.inr (.inr 44)), some (.inl x2), some (.inl x3), some (.inl x4), some (.inl x5), some (.inl (w32 (x6 + 1))), none], [], (am_sh, am_mm U))) 2 (fun _ => rfl) ?_
      exact h21
    · have h22 := h2.2 (Decidable.not_not.mp hc)
      refine ev_seg (σ1 := ((d + 1), 240, 34, [some (.inr (.inr 3)), some (.inr (.inr 44)), some (.inl x2), some (.inl x3), some (.inl x4), some (.inl x5), some (.inl x6), none], [.inl (am_and x2 (am_xor (am_shl 1 x6) (-1))), .inr (.inr 44)], (am_sh, am_mm U))) 8 (fun _ => rfl) ?_
      refine eu_iald 44 (n := 4096) rfl (by decide) rfl (fun _ => rfl) h22.1 ?_
      show Ev (am_kz N X) ((d + 1), 240, 35, [some (.inr (.inr 3)), some (.inr (.inr 44)), some (.inl x2), some (.inl x3), some (.inl x4), some (.inl x5), some (.inl x6), none], [.inl (U 44 ((am_and x2 (am_xor (am_shl 1 x6) (-1))).toNat))], (am_sh, am_mm U)) R
      have h22a := h22.2
      refine ev_seg (σ1 := ((d + 1), 240, 59, [some (.inr (.inr 3)), some (.inr (.inr 44)), some (.inl x2), some (.inl x3), some (.inl (if x4 < (am_and (U 44 ((am_and x2 (am_xor (am_shl 1 x6) (-1))).toNat)) 15) then (am_and (U 44 ((am_and x2 (am_xor (am_shl 1 x6) (-1))).toNat)) 15) else x4)), some (.inl x5), some (.inl x6), some (.inl (U 44 ((am_and x2 (am_xor (am_shl 1 x6) (-1))).toNat)))], [.inl x6, .inr (.inr 11), .inl (am_shr (U 44 ((am_and x2 (am_xor (am_shl 1 x6) (-1))).toNat)) 4)], (am_sh, am_mm U))) 13 (fun _ => rfl) ?_
      refine eu_iald 11 (n := 12) rfl (by decide) rfl (fun _ => rfl) h22a.1 ?_
      show Ev (am_kz N X) ((d + 1), 240, 60, [some (.inr (.inr 3)), some (.inr (.inr 44)), some (.inl x2), some (.inl x3), some (.inl (if x4 < (am_and (U 44 ((am_and x2 (am_xor (am_shl 1 x6) (-1))).toNat)) 15) then (am_and (U 44 ((am_and x2 (am_xor (am_shl 1 x6) (-1))).toNat)) 15) else x4)), some (.inl x5), some (.inl x6), some (.inl (U 44 ((am_and x2 (am_xor (am_shl 1 x6) (-1))).toNat)))], [.inl (U 11 x6.toNat), .inl (am_shr (U 44 ((am_and x2 (am_xor (am_shl 1 x6) (-1))).toNat)) 4)], (am_sh, am_mm U)) R
      have h22aa := h22a.2
      refine ev_seg (σ1 := ((d + 1), 240, 9, [some (.inr (.inr 3)), some (.inr (.inr 44)), some (.inl x2), some (.inl x3), some (.inl (if x4 < (am_and (U 44 ((am_and x2 (am_xor (am_shl 1 x6) (-1))).toNat)) 15) then (am_and (U 44 ((am_and x2 (am_xor (am_shl 1 x6) (-1))).toNat)) 15) else x4)), some (.inl (w32 ((am_shr (U 44 ((am_and x2 (am_xor (am_shl 1 x6) (-1))).toNat)) 4) + (U 11 x6.toNat)))), some (.inl (w32 (x6 + 1))), some (.inl (U 44 ((am_and x2 (am_xor (am_shl 1 x6) (-1))).toNat)))], [], (am_sh, am_mm U))) 4 (fun _ => rfl) ?_
      exact ev_le (L := [some (.inr (.inr 3)), some (.inr (.inr 44)), some (.inl x2), some (.inl x3), some (.inl (if x4 < (am_and (U 44 ((am_and x2 (am_xor (am_shl 1 x6) (-1))).toNat)) 15) then (am_and (U 44 ((am_and x2 (am_xor (am_shl 1 x6) (-1))).toNat)) 15) else x4)), some (.inl (w32 ((am_shr (U 44 ((am_and x2 (am_xor (am_shl 1 x6) (-1))).toNat)) 4) + (U 11 x6.toNat)))), some (.inl (w32 (x6 + 1))), none]) ⟨rfl, ⟨rfl, ⟨rfl, ⟨rfl, ⟨rfl, ⟨rfl, ⟨rfl, trivial⟩⟩⟩⟩⟩⟩⟩ h22aa
set_option maxRecDepth 8000 in
theorem Rl_findFoes_r0 {N : Nat} {X : Nat → Int} {d : Nat} {U : am_U} {R : Option am_V × am_M} (h : EvK N X (Rl_findFoes_s2 (d + 1) 1 U) R) : EvK N X (Rl_findFoes_s0 (d + 1) U) R := by
  show Ev (am_kz N X) ((d + 1), 241, 0, [some (.inr (.inr 78)), none, none], [], (am_sh, am_mm U)) R
  refine ev_seg (σ1 := ((d + 1), 241, 2, [some (.inr (.inr 78)), some (.inl 1), none], [], (am_sh, am_mm U))) 2 (fun _ => rfl) ?_
  exact h
set_option maxRecDepth 8000 in
theorem Rl_findFoes_r2 {N : Nat} {X : Nat → Int} {d : Nat} {x1 : Int} {U : am_U} {R : Option am_V × am_M} (h : ((24 < x1) → R = rV U) ∧ ((x1 ≤ 24) → EvK N X (Rl_findFoes_s10 (d + 1) x1 1 U) R)) : EvK N X (Rl_findFoes_s2 (d + 1) x1 U) R := by
  show Ev (am_kz N X) ((d + 1), 241, 2, [some (.inr (.inr 78)), some (.inl x1), none], [], (am_sh, am_mm U)) R
  refine ev_br (P := 24 < x1) (σ1 := ((d + 1), 241, 53, [some (.inr (.inr 78)), some (.inl x1), none], [], (am_sh, am_mm U))) (σ2 := ((d + 1), 241, 8, [some (.inr (.inr 78)), some (.inl x1), none], [], (am_sh, am_mm U))) 3 (fun _ => rfl) (fun hc => ?_) (fun hc => ?_)
  · have h1 := h.1 hc
    subst h1
    exact ev_end 1 (fun _ => rfl)
  · have h2 := h.2 (Int.not_lt.mp hc)
    refine ev_seg (σ1 := ((d + 1), 241, 10, [some (.inr (.inr 78)), some (.inl x1), some (.inl 1)], [], (am_sh, am_mm U))) 2 (fun _ => rfl) ?_
    exact h2
set_option maxRecDepth 8000 in
theorem Rl_findFoes_r10 {N : Nat} {X : Nat → Int} {d : Nat} {x1 x2 : Int} {U : am_U} {R : Option am_V × am_M} (h : ((24 < x2) → EvK N X (Rl_findFoes_s2 (d + 1) (w32 (x1 + 1)) U) R) ∧ ((x2 ≤ 24) → (0 ≤ x1 ∧ x1 < 25) ∧ ∃ (r1 : Int) (U1 : am_U), EvK N X (Nm_commonFactor_s0 d x1 x2 U) (rI r1 U1) ∧ ((r1 ≤ 1) → EvK N X (Rl_findFoes_s10 (d + 1) x1 (w32 (x2 + 1)) (am_upd U1 79 x1.toNat (am_or (U 79 x1.toNat) 0))) R) ∧ ((1 < r1) → EvK N X (Rl_findFoes_s10 (d + 1) x1 (w32 (x2 + 1)) (am_upd U1 79 x1.toNat (am_or (U 79 x1.toNat) (am_shl 1 x2)))) R))) : EvK N X (Rl_findFoes_s10 (d + 1) x1 x2 U) R := by
  show Ev (am_kz N X) ((d + 1), 241, 10, [some (.inr (.inr 78)), some (.inl x1), some (.inl x2)], [], (am_sh, am_mm U)) R
  refine ev_br (P := 24 < x2) (σ1 := ((d + 1), 241, 47, [some (.inr (.inr 78)), some (.inl x1), some (.inl x2)], [], (am_sh, am_mm U))) (σ2 := ((d + 1), 241, 16, [some (.inr (.inr 78)), some (.inl x1), some (.inl x2)], [], (am_sh, am_mm U))) 3 (fun _ => rfl) (fun hc => ?_) (fun hc => ?_)
  · have h1 := h.1 hc
    refine ev_seg (σ1 := ((d + 1), 241, 2, [some (.inr (.inr 78)), some (.inl (w32 (x1 + 1))), some (.inl x2)], [], (am_sh, am_mm U))) 2 (fun _ => rfl) ?_
    exact ev_le (L := [some (.inr (.inr 78)), some (.inl (w32 (x1 + 1))), none]) ⟨rfl, ⟨rfl, trivial⟩⟩ h1
  · have h2 := h.2 (Int.not_lt.mp hc)
    refine ev_seg (σ1 := ((d + 1), 241, 22, [some (.inr (.inr 78)), some (.inl x1), some (.inl x2)], [.inl x1, .inr (.inr 79), .inl x1, .inr (.inr 79)], (am_sh, am_mm U))) 4 (fun _ => rfl) ?_
    refine eu_iald 79 (n := 25) rfl (by decide) rfl (fun _ => rfl) h2.1 ?_
    show Ev (am_kz N X) ((d + 1), 241, 23, [some (.inr (.inr 78)), some (.inl x1), some (.inl x2)], [.inl (U 79 x1.toNat), .inl x1, .inr (.inr 79)], (am_sh, am_mm U)) R
    have h2a := h2.2
    refine ev_seg (σ1 := ((d + 1), 241, 25, [some (.inr (.inr 78)), some (.inl x1), some (.inl x2)], [.inl x2, .inl x1, .inl (U 79 x1.toNat), .inl x1, .inr (.inr 79)], (am_sh, am_mm U))) 2 (fun _ => rfl) ?_
    obtain ⟨r1, U1, h2ac, h2aa⟩ := h2a
    refine ev_cal (σc := (Nm_commonFactor_s0 d x1 x2 U)) (fun _ => rfl) h2ac ?_
    show Ev (am_kz N X) ((d + 1), 241, 28, [some (.inr (.inr 78)), some (.inl x1), some (.inl x2)], [.inl r1, .inl (U 79 x1.toNat), .inl x1, .inr (.inr 79)], (am_sh, am_mm U1)) R
    refine ev_br (P := r1 ≤ 1) (σ1 := ((d + 1), 241, 38, [some (.inr (.inr 78)), some (.inl x1), some (.inl x2)], [.inl (U 79 x1.toNat), .inl x1, .inr (.inr 79)], (am_sh, am_mm U1))) (σ2 := ((d + 1), 241, 32, [some (.inr (.inr 78)), some (.inl x1), some (.inl x2)], [.inl (U 79 x1.toNat), .inl x1, .inr (.inr 79)], (am_sh, am_mm U1))) 2 (fun _ => rfl) (fun hc => ?_) (fun hc => ?_)
    · have h2aa1 := h2aa.1 hc
      refine ev_seg (σ1 := ((d + 1), 241, 40, [some (.inr (.inr 78)), some (.inl x1), some (.inl x2)], [.inl (am_or (U 79 x1.toNat) 0), .inl x1, .inr (.inr 79)], (am_sh, am_mm U1))) 2 (fun _ => rfl) ?_
      refine eu_iast 79 (n := 25) rfl (by decide) rfl (fun _ => rfl) h2.1 ?_
      show Ev (am_kz N X) ((d + 1), 241, 41, [some (.inr (.inr 78)), some (.inl x1), some (.inl x2)], [], (am_sh, am_mm (am_upd U1 79 x1.toNat (am_or (U 79 x1.toNat) 0)))) R
      refine ev_seg (σ1 := ((d + 1), 241, 10, [some (.inr (.inr 78)), some (.inl x1), some (.inl (w32 (x2 + 1)))], [], (am_sh, am_mm (am_upd U1 79 x1.toNat (am_or (U 79 x1.toNat) 0))))) 2 (fun _ => rfl) ?_
      exact h2aa1
    · have h2aa2 := h2aa.2 (Int.not_le.mp hc)
      refine ev_seg (σ1 := ((d + 1), 241, 40, [some (.inr (.inr 78)), some (.inl x1), some (.inl x2)], [.inl (am_or (U 79 x1.toNat) (am_shl 1 x2)), .inl x1, .inr (.inr 79)], (am_sh, am_mm U1))) 5 (fun _ => rfl) ?_
      refine eu_iast 79 (n := 25) rfl (by decide) rfl (fun _ => rfl) h2.1 ?_
      show Ev (am_kz N X) ((d + 1), 241, 41, [some (.inr (.inr 78)), some (.inl x1), some (.inl x2)], [], (am_sh, am_mm (am_upd U1 79 x1.toNat (am_or (U 79 x1.toNat) (am_shl 1 x2))))) R
      refine ev_seg (σ1 := ((d + 1), 241, 10, [some (.inr (.inr 78)), some (.inl x1), some (.inl (w32 (x2 + 1)))], [], (am_sh, am_mm (am_upd U1 79 x1.toNat (am_or (U 79 x1.toNat) (am_shl 1 x2)))))) 2 (fun _ => rfl) ?_
      exact h2aa2
set_option maxRecDepth 8000 in
theorem Rl_search_r0 {N : Nat} {X : Nat → Int} {d : Nat} {x1 : Int} {U : am_U} {R : Option am_V × am_M} (h : EvK N X (Rl_search_s8 (d + 1) x1 (U 78 4) 0 U) R) : EvK N X (Rl_search_s0 (d + 1) x1 U) R := by
  show Ev (am_kz N X) ((d + 1), 242, 0, [some (.inr (.inr 78)), some (.inl x1), some (.inr (.inr 2)), none, none, none], [], (am_sh, am_mm U)) R
  refine ev_seg (σ1 := ((d + 1), 242, 8, [some (.inr (.inr 78)), some (.inl x1), some (.inr (.inr 2)), some (.inl (U 78 4)), some (.inl 0), none], [], (am_sh, am_mm U))) 5 (fun _ => rfl) ?_
  exact h
set_option maxRecDepth 8000 in
theorem Rl_search_r8 {N : Nat} {X : Nat → Int} {d : Nat} {x1 x3 x4 : Int} {U : am_U} {R : Option am_V × am_M} (h : ((x1 ≤ x4) → (((U 78 3) ≤ (w32 (x1 + 1))) → ∃ U1 : am_U, EvK N X (Rl_keepFirst_s0 d x1 x3 U) (rV U1) ∧ ∃ (r2 : Int) (U2 : am_U), EvK N X (In_bitCount_s0 d x3 U1) (rI r2 U2) ∧ R = rV (am_upd U2 78 5 (w32 ((U1 78 5) + r2)))) ∧ (((w32 (x1 + 1)) < (U 78 3)) → (((w32 (x1 + 1)) < 4) → EvK N X (Rl_search_s119 (d + 1) x1 x3 1 U) R) ∧ ((4 ≤ (w32 (x1 + 1))) → ∃ U3 : am_U, EvK N X (Rl_keepFirst_s0 d x1 x3 U) (rV U3) ∧ ∃ (r4 : Int) (U4 : am_U), EvK N X (In_bitCount_s0 d x3 U3) (rI r4 U4) ∧ R = rV (am_upd U4 78 5 (w32 ((U3 78 5) + r4)))))) ∧ ((x4 < x1) → ∃ (r5 : Int) (U5 : am_U), EvK N X (Rl_pairOf_s0 d x4 x1 U) (rI r5 U5) ∧ (0 ≤ (w32 (2 + r5)) ∧ (w32 (2 + r5)) < 1600) ∧ (((U5 2 ((w32 (2 + r5)).toNat)) ≠ 1) → (0 ≤ x4 ∧ x4 < 4) ∧ (0 ≤ (U5 80 x4.toNat) ∧ (U5 80 x4.toNat) < 25) ∧ EvK N X (Rl_search_s8 (d + 1) x1 (am_and x3 (am_xor (U5 79 ((U5 80 x4.toNat).toNat)) (-1))) (w32 (x4 + 1)) U5) R) ∧ (((U5 2 ((w32 (2 + r5)).toNat)) = 1) → (0 ≤ x4 ∧ x4 < 4) ∧ (0 ≤ (U5 80 x4.toNat) ∧ (U5 80 x4.toNat) < 25) ∧ EvK N X (Rl_search_s8 (d + 1) x1 (am_and x3 (U5 79 ((U5 80 x4.toNat).toNat))) (w32 (x4 + 1)) U5) R))) : EvK N X (Rl_search_s8 (d + 1) x1 x3 x4 U) R := by
  show Ev (am_kz N X) ((d + 1), 242, 8, [some (.inr (.inr 78)), some (.inl x1), some (.inr (.inr 2)), some (.inl x3), some (.inl x4), none], [], (am_sh, am_mm U)) R
  refine ev_br (P := x1 ≤ x4) (σ1 := ((d + 1), 242, 79, [some (.inr (.inr 78)), some (.inl x1), some (.inr (.inr 2)), some (.inl x3), some (.inl x4), none], [], (am_sh, am_mm U))) (σ2 := ((d + 1), 242, 14, [some (.inr (.inr 78)), some (.inl x1), some (.inr (.inr 2)), some (.inl x3), some (.inl x4), none], [], (am_sh, am_mm U))) 3 (fun _ => rfl) (fun hc => ?_) (fun hc => ?_)
  · have h1 := h.1 hc
    refine ev_br (P := (U 78 3) ≤ (w32 (x1 + 1))) (σ1 := ((d + 1), 242, 96, [some (.inr (.inr 78)), some (.inl x1), some (.inr (.inr 2)), some (.inl x3), some (.inl x4), none], [], (am_sh, am_mm U))) (σ2 := ((d + 1), 242, 89, [some (.inr (.inr 78)), some (.inl x1), some (.inr (.inr 2)), some (.inl x3), some (.inl x4), none], [], (am_sh, am_mm U))) 6 (fun _ => rfl) (fun hc => ?_) (fun hc => ?_)
    · have h11 := h1.1 hc
      refine ev_seg (σ1 := ((d + 1), 242, 99, [some (.inr (.inr 78)), some (.inl x1), some (.inr (.inr 2)), some (.inl x3), some (.inl x4), none], [.inl x3, .inl x1, .inr (.inr 78)], (am_sh, am_mm U))) 3 (fun _ => rfl) ?_
      obtain ⟨U1, h11c, h11a⟩ := h11
      refine ev_cal (σc := (Rl_keepFirst_s0 d x1 x3 U)) (fun _ => rfl) h11c ?_
      show Ev (am_kz N X) ((d + 1), 242, 102, [some (.inr (.inr 78)), some (.inl x1), some (.inr (.inr 2)), some (.inl x3), some (.inl x4), none], [], (am_sh, am_mm U1)) R
      refine ev_seg (σ1 := ((d + 1), 242, 108, [some (.inr (.inr 78)), some (.inl x1), some (.inr (.inr 2)), some (.inl x3), some (.inl x4), none], [.inl x3, .inl (U1 78 5), .inr (.inr 78)], (am_sh, am_mm U1))) 4 (fun _ => rfl) ?_
      obtain ⟨r2, U2, h11ac, h11aa⟩ := h11a
      refine ev_cal (σc := (In_bitCount_s0 d x3 U1)) (fun _ => rfl) h11ac ?_
      show Ev (am_kz N X) ((d + 1), 242, 111, [some (.inr (.inr 78)), some (.inl x1), some (.inr (.inr 2)), some (.inl x3), some (.inl x4), none], [.inl r2, .inl (U1 78 5), .inr (.inr 78)], (am_sh, am_mm U2)) R
      refine ev_seg (σ1 := ((d + 1), 242, 112, [some (.inr (.inr 78)), some (.inl x1), some (.inr (.inr 2)), some (.inl x3), some (.inl x4), none], [.inl (w32 ((U1 78 5) + r2)), .inr (.inr 78)], (am_sh, am_mm U2))) 1 (fun _ => rfl) ?_
      refine eu_puti 78 (n := 6) rfl (by decide) rfl rfl ?_
      show Ev (am_kz N X) ((d + 1), 242, 115, [some (.inr (.inr 78)), some (.inl x1), some (.inr (.inr 2)), some (.inl x3), some (.inl x4), none], [], (am_sh, am_mm (am_upd U2 78 5 (w32 ((U1 78 5) + r2))))) R
      subst h11aa
      exact ev_end 1 (fun _ => rfl)
    · have h12 := h1.2 (Int.not_le.mp hc)
      refine ev_br (P := (w32 (x1 + 1)) < 4) (σ1 := ((d + 1), 242, 116, [some (.inr (.inr 78)), some (.inl x1), some (.inr (.inr 2)), some (.inl x3), some (.inl x4), none], [], (am_sh, am_mm U))) (σ2 := ((d + 1), 242, 96, [some (.inr (.inr 78)), some (.inl x1), some (.inr (.inr 2)), some (.inl x3), some (.inl x4), none], [], (am_sh, am_mm U))) 5 (fun _ => rfl) (fun hc => ?_) (fun hc => ?_)
      · have h121 := h12.1 hc
        refine ev_seg (σ1 := ((d + 1), 242, 119, [some (.inr (.inr 78)), some (.inl x1), some (.inr (.inr 2)), some (.inl x3), some (.inl 1), none], [], (am_sh, am_mm U))) 2 (fun _ => rfl) ?_
        exact h121
      · have h122 := h12.2 (Int.not_lt.mp hc)
        refine ev_seg (σ1 := ((d + 1), 242, 99, [some (.inr (.inr 78)), some (.inl x1), some (.inr (.inr 2)), some (.inl x3), some (.inl x4), none], [.inl x3, .inl x1, .inr (.inr 78)], (am_sh, am_mm U))) 3 (fun _ => rfl) ?_
        obtain ⟨U3, h122c, h122a⟩ := h122
        refine ev_cal (σc := (Rl_keepFirst_s0 d x1 x3 U)) (fun _ => rfl) h122c ?_
        show Ev (am_kz N X) ((d + 1), 242, 102, [some (.inr (.inr 78)), some (.inl x1), some (.inr (.inr 2)), some (.inl x3), some (.inl x4), none], [], (am_sh, am_mm U3)) R
        refine ev_seg (σ1 := ((d + 1), 242, 108, [some (.inr (.inr 78)), some (.inl x1), some (.inr (.inr 2)), some (.inl x3), some (.inl x4), none], [.inl x3, .inl (U3 78 5), .inr (.inr 78)], (am_sh, am_mm U3))) 4 (fun _ => rfl) ?_
        obtain ⟨r4, U4, h122ac, h122aa⟩ := h122a
        refine ev_cal (σc := (In_bitCount_s0 d x3 U3)) (fun _ => rfl) h122ac ?_
        show Ev (am_kz N X) ((d + 1), 242, 111, [some (.inr (.inr 78)), some (.inl x1), some (.inr (.inr 2)), some (.inl x3), some (.inl x4), none], [.inl r4, .inl (U3 78 5), .inr (.inr 78)], (am_sh, am_mm U4)) R
        refine ev_seg (σ1 := ((d + 1), 242, 112, [some (.inr (.inr 78)), some (.inl x1), some (.inr (.inr 2)), some (.inl x3), some (.inl x4), none], [.inl (w32 ((U3 78 5) + r4)), .inr (.inr 78)], (am_sh, am_mm U4))) 1 (fun _ => rfl) ?_
        refine eu_puti 78 (n := 6) rfl (by decide) rfl rfl ?_
        show Ev (am_kz N X) ((d + 1), 242, 115, [some (.inr (.inr 78)), some (.inl x1), some (.inr (.inr 2)), some (.inl x3), some (.inl x4), none], [], (am_sh, am_mm (am_upd U4 78 5 (w32 ((U3 78 5) + r4))))) R
        subst h122aa
        exact ev_end 1 (fun _ => rfl)
  · have h2 := h.2 (Int.not_le.mp hc)
    refine ev_seg (σ1 := ((d + 1), 242, 20, [some (.inr (.inr 78)), some (.inl x1), some (.inr (.inr 2)), some (.inl x3), some (.inl x4), none], [.inl x1, .inl x4, .inr (.inr 78), .inl 2, .inr (.inr 2)], (am_sh, am_mm U))) 5 (fun _ => rfl) ?_
    obtain ⟨r5, U5, h2c, h2a⟩ := h2
    refine ev_cal (σc := (Rl_pairOf_s0 d x4 x1 U)) (fun _ => rfl) h2c ?_
    show Ev (am_kz N X) ((d + 1), 242, 23, [some (.inr (.inr 78)), some (.inl x1), some (.inr (.inr 2)), some (.inl x3), some (.inl x4), none], [.inl r5, .inl 2, .inr (.inr 2)], (am_sh, am_mm U5)) R
    refine ev_seg (σ1 := ((d + 1), 242, 24, [some (.inr (.inr 78)), some (.inl x1), some (.inr (.inr 2)), some (.inl x3), some (.inl x4), none], [.inl (w32 (2 + r5)), .inr (.inr 2)], (am_sh, am_mm U5))) 1 (fun _ => rfl) ?_
    refine eu_iald 2 (n := 1600) rfl (by decide) rfl (fun _ => rfl) h2a.1 ?_
    show Ev (am_kz N X) ((d + 1), 242, 25, [some (.inr (.inr 78)), some (.inl x1), some (.inr (.inr 2)), some (.inl x3), some (.inl x4), none], [.inl (U5 2 ((w32 (2 + r5)).toNat))], (am_sh, am_mm U5)) R
    have h2aa := h2a.2
    refine ev_br (P := ¬ (U5 2 ((w32 (2 + r5)).toNat)) = 1) (σ1 := ((d + 1), 242, 33, [some (.inr (.inr 78)), some (.inl x1), some (.inr (.inr 2)), some (.inl x3), some (.inl x4), none], [], (am_sh, am_mm U5))) (σ2 := ((d + 1), 242, 29, [some (.inr (.inr 78)), some (.inl x1), some (.inr (.inr 2)), some (.inl x3), some (.inl x4), none], [], (am_sh, am_mm U5))) 2 (fun _ => rfl) (fun hc => ?_) (fun hc => ?_)
    · have h2aa1 := h2aa.1 hc
      refine ev_seg (σ1 := ((d + 1), 242, 67, [some (.inr (.inr 78)), some (.inl x1), some (.inr (.inr 2)), some (.inl x3), some (.inl x4), some (.inl 0)], [.inl x4, .inr (.inr 80), .inr (.inr 79), .inl x3], (am_sh, am_mm U5))) 10 (fun _ => rfl) ?_
      refine eu_iald 80 (n := 4) rfl (by decide) rfl (fun _ => rfl) h2aa1.1 ?_
      show Ev (am_kz N X) ((d + 1), 242, 68, [some (.inr (.inr 78)), some (.inl x1), some (.inr (.inr 2)), some (.inl x3), some (.inl x4), some (.inl 0)], [.inl (U5 80 x4.toNat), .inr (.inr 79), .inl x3], (am_sh, am_mm U5)) R
      have h2aa1a := h2aa1.2
      refine eu_iald 79 (n := 25) rfl (by decide) rfl (fun _ => rfl) h2aa1a.1 ?_
      show Ev (am_kz N X) ((d + 1), 242, 69, [some (.inr (.inr 78)), some (.inl x1), some (.inr (.inr 2)), some (.inl x3), some (.inl x4), some (.inl 0)], [.inl (U5 79 ((U5 80 x4.toNat).toNat)), .inl x3], (am_sh, am_mm U5)) R
      have h2aa1aa := h2aa1a.2
      refine ev_seg (σ1 := ((d + 1), 242, 8, [some (.inr (.inr 78)), some (.inl x1), some (.inr (.inr 2)), some (.inl (am_and x3 (am_xor (U5 79 ((U5 80 x4.toNat).toNat)) (-1)))), some (.inl (w32 (x4 + 1))), some (.inl 0)], [], (am_sh, am_mm U5))) 6 (fun _ => rfl) ?_
      exact ev_le (L := [some (.inr (.inr 78)), some (.inl x1), some (.inr (.inr 2)), some (.inl (am_and x3 (am_xor (U5 79 ((U5 80 x4.toNat).toNat)) (-1)))), some (.inl (w32 (x4 + 1))), none]) ⟨rfl, ⟨rfl, ⟨rfl, ⟨rfl, ⟨rfl, trivial⟩⟩⟩⟩⟩ h2aa1aa
    · have h2aa2 := h2aa.2 (Decidable.not_not.mp hc)
      refine ev_seg (σ1 := ((d + 1), 242, 52, [some (.inr (.inr 78)), some (.inl x1), some (.inr (.inr 2)), some (.inl x3), some (.inl x4), some (.inl 1)], [.inl x4, .inr (.inr 80), .inr (.inr 79), .inl x3], (am_sh, am_mm U5))) 11 (fun _ => rfl) ?_
      refine eu_iald 80 (n := 4) rfl (by decide) rfl (fun _ => rfl) h2aa2.1 ?_
      show Ev (am_kz N X) ((d + 1), 242, 53, [some (.inr (.inr 78)), some (.inl x1), some (.inr (.inr 2)), some (.inl x3), some (.inl x4), some (.inl 1)], [.inl (U5 80 x4.toNat), .inr (.inr 79), .inl x3], (am_sh, am_mm U5)) R
      have h2aa2a := h2aa2.2
      refine eu_iald 79 (n := 25) rfl (by decide) rfl (fun _ => rfl) h2aa2a.1 ?_
      show Ev (am_kz N X) ((d + 1), 242, 54, [some (.inr (.inr 78)), some (.inl x1), some (.inr (.inr 2)), some (.inl x3), some (.inl x4), some (.inl 1)], [.inl (U5 79 ((U5 80 x4.toNat).toNat)), .inl x3], (am_sh, am_mm U5)) R
      have h2aa2aa := h2aa2a.2
      refine ev_seg (σ1 := ((d + 1), 242, 8, [some (.inr (.inr 78)), some (.inl x1), some (.inr (.inr 2)), some (.inl (am_and x3 (U5 79 ((U5 80 x4.toNat).toNat)))), some (.inl (w32 (x4 + 1))), some (.inl 1)], [], (am_sh, am_mm U5))) 5 (fun _ => rfl) ?_
      exact ev_le (L := [some (.inr (.inr 78)), some (.inl x1), some (.inr (.inr 2)), some (.inl (am_and x3 (U5 79 ((U5 80 x4.toNat).toNat)))), some (.inl (w32 (x4 + 1))), none]) ⟨rfl, ⟨rfl, ⟨rfl, ⟨rfl, ⟨rfl, trivial⟩⟩⟩⟩⟩ h2aa2aa
set_option maxRecDepth 8000 in
theorem Rl_search_r119 {N : Nat} {X : Nat → Int} {d : Nat} {x1 x3 x4 : Int} {U : am_U} {R : Option am_V × am_M} (h : ((24 < x4) → R = rV U) ∧ ((x4 ≤ 24) → (((am_and (am_shr x3 x4) 1) ≠ 1) → EvK N X (Rl_search_s119 (d + 1) x1 x3 (w32 (x4 + 1)) U) R) ∧ (((am_and (am_shr x3 x4) 1) = 1) → (0 ≤ x1 ∧ x1 < 4) ∧ ∃ U1 : am_U, EvK N X (Rl_search_s0 d (w32 (x1 + 1)) (am_upd U 80 x1.toNat x4)) (rV U1) ∧ EvK N X (Rl_search_s119 (d + 1) x1 x3 (w32 (x4 + 1)) U1) R))) : EvK N X (Rl_search_s119 (d + 1) x1 x3 x4 U) R := by
  show Ev (am_kz N X) ((d + 1), 242, 119, [some (.inr (.inr 78)), some (.inl x1), some (.inr (.inr 2)), some (.inl x3), some (.inl x4), none], [], (am_sh, am_mm U)) R
  refine ev_br (P := 24 < x4) (σ1 := ((d + 1), 242, 158, [some (.inr (.inr 78)), some (.inl x1), some (.inr (.inr 2)), some (.inl x3), some (.inl x4), none], [], (am_sh, am_mm U))) (σ2 := ((d + 1), 242, 126, [some (.inr (.inr 78)), some (.inl x1), some (.inr (.inr 2)), some (.inl x3), some (.inl x4), none], [], (am_sh, am_mm U))) 3 (fun _ => rfl) (fun hc => ?_) (fun hc => ?_)
  · have h1 := h.1 hc
    subst h1
    exact ev_end 1 (fun _ => rfl)
  · have h2 := h.2 (Int.not_lt.mp hc)
    refine ev_br (P := ¬ (am_and (am_shr x3 x4) 1) = 1) (σ1 := ((d + 1), 242, 152, [some (.inr (.inr 78)), some (.inl x1), some (.inr (.inr 2)), some (.inl x3), some (.inl x4), none], [], (am_sh, am_mm U))) (σ2 := ((d + 1), 242, 136, [some (.inr (.inr 78)), some (.inl x1), some (.inr (.inr 2)), some (.inl x3), some (.inl x4), none], [], (am_sh, am_mm U))) 7 (fun _ => rfl) (fun hc => ?_) (fun hc => ?_)
    · have h21 := h2.1 hc
      refine ev_seg (σ1 := ((d + 1), 242, 119, [some (.inr (.inr 78)), some (.inl x1), some (.inr (.inr 2)), some (.inl x3), some (.inl (w32 (x4 + 1))), none], [], (am_sh, am_mm U))) 2 (fun _ => rfl) ?_
      exact h21
    · have h22 := h2.2 (Decidable.not_not.mp hc)
      refine ev_seg (σ1 := ((d + 1), 242, 143, [some (.inr (.inr 78)), some (.inl x1), some (.inr (.inr 2)), some (.inl x3), some (.inl x4), none], [.inl x4, .inl x1, .inr (.inr 80)], (am_sh, am_mm U))) 4 (fun _ => rfl) ?_
      refine eu_iast 80 (n := 4) rfl (by decide) rfl (fun _ => rfl) h22.1 ?_
      show Ev (am_kz N X) ((d + 1), 242, 144, [some (.inr (.inr 78)), some (.inl x1), some (.inr (.inr 2)), some (.inl x3), some (.inl x4), none], [], (am_sh, am_mm (am_upd U 80 x1.toNat x4))) R
      have h22a := h22.2
      refine ev_seg (σ1 := ((d + 1), 242, 149, [some (.inr (.inr 78)), some (.inl x1), some (.inr (.inr 2)), some (.inl x3), some (.inl x4), none], [.inr (.inr 2), .inl (w32 (x1 + 1)), .inr (.inr 78)], (am_sh, am_mm (am_upd U 80 x1.toNat x4)))) 5 (fun _ => rfl) ?_
      obtain ⟨U1, h22ac, h22aa⟩ := h22a
      refine ev_cal (σc := (Rl_search_s0 d (w32 (x1 + 1)) (am_upd U 80 x1.toNat x4))) (fun _ => rfl) h22ac ?_
      show Ev (am_kz N X) ((d + 1), 242, 152, [some (.inr (.inr 78)), some (.inl x1), some (.inr (.inr 2)), some (.inl x3), some (.inl x4), none], [], (am_sh, am_mm U1)) R
      refine ev_seg (σ1 := ((d + 1), 242, 119, [some (.inr (.inr 78)), some (.inl x1), some (.inr (.inr 2)), some (.inl x3), some (.inl (w32 (x4 + 1))), none], [], (am_sh, am_mm U1))) 2 (fun _ => rfl) ?_
      exact h22aa
