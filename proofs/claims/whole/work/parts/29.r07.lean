set_option maxRecDepth 8000 in
theorem Rd_readFact_r209 {N : Nat} {X : Nat → Int} {d : Nat} {x1 x2 : Int} {U : am_U} {R : Option am_V × am_M} (h : ∃ U1 : am_U, EvK N X (Rd_next_s0 d U) (rV U1) ∧ ∃ (r2 : Int) (U2 : am_U), EvK N X (Rd_readSum_s0 d x1 U1) (rI r2 U2) ∧ ((r2 = 0) → R = rI 0 U2) ∧ ((r2 ≠ 0) → ∃ (r3 : Int) (U3 : am_U), EvK N X (Tw_emitSign_s0 d x2 U2) (rI r3 U3) ∧ ((r3 = 0) → R = rI 0 U3) ∧ ((r3 ≠ 0) → R = rI 1 U3))) : EvK N X (Rd_readFact_s209 (d + 1) x1 x2 U) R := by
  show Ev (am_kz N X) ((d + 1), 323, 209, [some (.inr (.inr 26)), some (.inl x1), some (.inl x2)], [], (am_sh, am_mm U)) R
  refine ev_seg (σ1 := ((d + 1), 323, 210, [some (.inr (.inr 26)), some (.inl x1), some (.inl x2)], [.inr (.inr 26)], (am_sh, am_mm U))) 1 (fun _ => rfl) ?_
  obtain ⟨U1, hc, ha⟩ := h
  refine ev_cal (σc := (Rd_next_s0 d U)) (fun _ => rfl) hc ?_
  show Ev (am_kz N X) ((d + 1), 323, 213, [some (.inr (.inr 26)), some (.inl x1), some (.inl x2)], [], (am_sh, am_mm U1)) R
  refine ev_seg (σ1 := ((d + 1), 323, 215, [some (.inr (.inr 26)), some (.inl x1), some (.inl x2)], [.inl x1, .inr (.inr 26)], (am_sh, am_mm U1))) 2 (fun _ => rfl) ?_
  obtain ⟨r2, U2, hac, haa⟩ := ha
  refine ev_cal (σc := (Rd_readSum_s0 d x1 U1)) (fun _ => rfl) hac ?_
  show Ev (am_kz N X) ((d + 1), 323, 218, [some (.inr (.inr 26)), some (.inl x1), some (.inl x2)], [.inl r2], (am_sh, am_mm U2)) R
  refine ev_br (P := r2 = 0) (σ1 := ((d + 1), 323, 236, [some (.inr (.inr 26)), some (.inl x1), some (.inl x2)], [], (am_sh, am_mm U2))) (σ2 := ((d + 1), 323, 221, [some (.inr (.inr 26)), some (.inl x1), some (.inl x2)], [], (am_sh, am_mm U2))) 1 (fun _ => rfl) (fun hc => ?_) (fun hc => ?_)
  · have haa1 := haa.1 hc
    subst haa1
    exact ev_end 2 (fun _ => rfl)
  · have haa2 := haa.2 hc
    refine ev_seg (σ1 := ((d + 1), 323, 226, [some (.inr (.inr 26)), some (.inl x1), some (.inl x2)], [.inl x2, .inr (.inr 31)], (am_sh, am_mm U2))) 3 (fun _ => rfl) ?_
    obtain ⟨r3, U3, haa2c, haa2a⟩ := haa2
    refine ev_cal (σc := (Tw_emitSign_s0 d x2 U2)) (fun _ => rfl) haa2c ?_
    show Ev (am_kz N X) ((d + 1), 323, 229, [some (.inr (.inr 26)), some (.inl x1), some (.inl x2)], [.inl r3], (am_sh, am_mm U3)) R
    refine ev_br (P := r3 = 0) (σ1 := ((d + 1), 323, 236, [some (.inr (.inr 26)), some (.inl x1), some (.inl x2)], [], (am_sh, am_mm U3))) (σ2 := ((d + 1), 323, 232, [some (.inr (.inr 26)), some (.inl x1), some (.inl x2)], [], (am_sh, am_mm U3))) 1 (fun _ => rfl) (fun hc => ?_) (fun hc => ?_)
    · have haa2a1 := haa2a.1 hc
      subst haa2a1
      exact ev_end 2 (fun _ => rfl)
    · have haa2a2 := haa2a.2 hc
      subst haa2a2
      exact ev_end 3 (fun _ => rfl)
set_option maxRecDepth 8000 in
theorem Rd_readFact_r85 {N : Nat} {X : Nat → Int} {d : Nat} {x1 : Int} {U : am_U} {R : Option am_V × am_M} (h : R = rI 0 U) : EvK N X (Rd_readFact_s85 (d + 1) x1 U) R := by
  show Ev (am_kz N X) ((d + 1), 323, 85, [some (.inr (.inr 26)), some (.inl x1), none], [], (am_sh, am_mm U)) R
  subst h
  exact ev_end 2 (fun _ => rfl)
set_option maxRecDepth 8000 in
theorem Rd_readFact_r43 {N : Nat} {X : Nat → Int} {d : Nat} {x1 : Int} {U : am_U} {R : Option am_V × am_M} (h : R = rI 0 U) : EvK N X (Rd_readFact_s43 (d + 1) x1 U) R := by
  show Ev (am_kz N X) ((d + 1), 323, 43, [some (.inr (.inr 26)), some (.inl x1), none], [], (am_sh, am_mm U)) R
  subst h
  exact ev_end 2 (fun _ => rfl)
set_option maxRecDepth 8000 in
theorem Tw_emit_r0 {N : Nat} {X : Nat → Int} {d : Nat} {x1 : Int} {U : am_U} {R : Option am_V × am_M} (h : ((1600 ≤ (U 31 18)) → R = rI 1 U) ∧ (((U 31 18) < 1600) → (0 ≤ (U 31 18) ∧ (U 31 18) < 1600) ∧ R = rI 1 (am_upd (am_upd U 43 ((U 31 18).toNat) x1) 31 18 (w32 ((U 31 18) + 1))))) : EvK N X (Tw_emit_s0 d x1 U) R := by
  show Ev (am_kz N X) (d, 324, 0, [some (.inr (.inr 31)), some (.inl x1)], [], (am_sh, am_mm U)) R
  refine ev_br (P := 1600 ≤ (U 31 18)) (σ1 := (d, 324, 32, [some (.inr (.inr 31)), some (.inl x1)], [], (am_sh, am_mm U))) (σ2 := (d, 324, 12, [some (.inr (.inr 31)), some (.inl x1)], [], (am_sh, am_mm U))) 6 (fun _ => rfl) (fun hc => ?_) (fun hc => ?_)
  · have h1 := h.1 hc
    subst h1
    exact ev_end 2 (fun _ => rfl)
  · have h2 := h.2 (Int.not_le.mp hc)
    refine ev_seg (σ1 := (d, 324, 21, [some (.inr (.inr 31)), some (.inl x1)], [.inl x1, .inl (U 31 18), .inr (.inr 43)], (am_sh, am_mm U))) 5 (fun _ => rfl) ?_
    refine eu_iast 43 (n := 1600) rfl (by decide) rfl (fun _ => rfl) h2.1 ?_
    show Ev (am_kz N X) (d, 324, 22, [some (.inr (.inr 31)), some (.inl x1)], [], (am_sh, am_mm (am_upd U 43 ((U 31 18).toNat) x1))) R
    have h2a := h2.2
    refine ev_seg (σ1 := (d, 324, 29, [some (.inr (.inr 31)), some (.inl x1)], [.inl (w32 ((U 31 18) + 1)), .inr (.inr 31)], (am_sh, am_mm (am_upd U 43 ((U 31 18).toNat) x1)))) 5 (fun _ => rfl) ?_
    refine eu_puti 31 (n := 19) rfl (by decide) rfl rfl ?_
    show Ev (am_kz N X) (d, 324, 32, [some (.inr (.inr 31)), some (.inl x1)], [], (am_sh, am_mm (am_upd (am_upd U 43 ((U 31 18).toNat) x1) 31 18 (w32 ((U 31 18) + 1))))) R
    subst h2a
    exact ev_end 2 (fun _ => rfl)
set_option maxRecDepth 8000 in
theorem M_isTest_r0 {N : Nat} {X : Nat → Int} {d : Nat} {x0 : Int} {U : am_U} {R : Option am_V × am_M} (h : ((x0 = 1) → R = rI 1 U) ∧ ((x0 ≠ 1) → ((x0 ≠ 5) → R = rI 0 U) ∧ ((x0 = 5) → R = rI 1 U))) : EvK N X (M_isTest_s0 d x0 U) R := by
  show Ev (am_kz N X) (d, 325, 0, [some (.inl x0)], [], (am_sh, am_mm U)) R
  refine ev_br (P := x0 = 1) (σ1 := (d, 325, 10, [some (.inl x0)], [], (am_sh, am_mm U))) (σ2 := (d, 325, 5, [some (.inl x0)], [], (am_sh, am_mm U))) 3 (fun _ => rfl) (fun hc => ?_) (fun hc => ?_)
  · have h1 := h.1 hc
    subst h1
    exact ev_end 3 (fun _ => rfl)
  · have h2 := h.2 hc
    refine ev_br (P := ¬ x0 = 5) (σ1 := (d, 325, 14, [some (.inl x0)], [], (am_sh, am_mm U))) (σ2 := (d, 325, 10, [some (.inl x0)], [], (am_sh, am_mm U))) 3 (fun _ => rfl) (fun hc => ?_) (fun hc => ?_)
    · have h21 := h2.1 hc
      subst h21
      exact ev_end 2 (fun _ => rfl)
    · have h22 := h2.2 (Decidable.not_not.mp hc)
      subst h22
      exact ev_end 3 (fun _ => rfl)
set_option maxRecDepth 8000 in
theorem M_joins_r0 {N : Nat} {X : Nat → Int} {d : Nat} {x1 : Int} {U : am_U} {R : Option am_V × am_M} (h : (0 ≤ (w32 ((U 86 46) - 1)) ∧ (w32 ((U 86 46) - 1)) < 20) ∧ (((U 86 49) ≤ (U 117 ((w32 ((U 86 46) - 1)).toNat))) → R = rV U) ∧ (((U 117 ((w32 ((U 86 46) - 1)).toNat)) < (U 86 49)) → (0 ≤ (w32 ((U 86 49) - 1)) ∧ (w32 ((U 86 49) - 1)) < 500) ∧ ∃ (r1 : Int) (U1 : am_U), EvK N X (M_rank_s0 d (U 118 ((w32 ((U 86 49) - 1)).toNat)) U) (rI r1 U1) ∧ ((r1 < x1) → R = rV U1) ∧ ((x1 ≤ r1) → (0 ≤ (w32 ((U1 86 49) - 1)) ∧ (w32 ((U1 86 49) - 1)) < 500) ∧ ∃ U2 : am_U, EvK N X (M_add_s0 d (U1 118 ((w32 ((U1 86 49) - 1)).toNat)) 0 (am_upd U1 86 49 (w32 ((U1 86 49) - 1)))) (rV U2) ∧ (0 ≤ (U2 86 49) ∧ (U2 86 49) < 500) ∧ (((U2 118 ((U2 86 49).toNat)) ≠ 22) → EvK N X (M_joins_s0 (d + 1) x1 U2) R) ∧ (((U2 118 ((U2 86 49).toNat)) = 22) → EvK N X (M_joins_s0 (d + 1) x1 (am_upd U2 86 47 (w32 ((U2 86 47) - 1)))) R)))) : EvK N X (M_joins_s0 (d + 1) x1 U) R := by
  show Ev (am_kz N X) ((d + 1), 329, 0, [some (.inr (.inr 86)), some (.inl x1)], [], (am_sh, am_mm U)) R
  refine ev_seg (σ1 := ((d + 1), 329, 14, [some (.inr (.inr 86)), some (.inl x1)], [.inl (w32 ((U 86 46) - 1)), .inr (.inr 117), .inl (U 86 49)], (am_sh, am_mm U))) 8 (fun _ => rfl) ?_
  refine eu_iald 117 (n := 20) rfl (by decide) rfl (fun _ => rfl) h.1 ?_
  show Ev (am_kz N X) ((d + 1), 329, 15, [some (.inr (.inr 86)), some (.inl x1)], [.inl (U 117 ((w32 ((U 86 46) - 1)).toNat)), .inl (U 86 49)], (am_sh, am_mm U)) R
  have ha := h.2
  refine ev_br (P := (U 86 49) ≤ (U 117 ((w32 ((U 86 46) - 1)).toNat))) (σ1 := ((d + 1), 329, 87, [some (.inr (.inr 86)), some (.inl x1)], [], (am_sh, am_mm U))) (σ2 := ((d + 1), 329, 18, [some (.inr (.inr 86)), some (.inl x1)], [], (am_sh, am_mm U))) 1 (fun _ => rfl) (fun hc => ?_) (fun hc => ?_)
  · have ha1 := ha.1 hc
    subst ha1
    exact ev_end 1 (fun _ => rfl)
  · have ha2 := ha.2 (Int.not_le.mp hc)
    refine ev_seg (σ1 := ((d + 1), 329, 28, [some (.inr (.inr 86)), some (.inl x1)], [.inl (w32 ((U 86 49) - 1)), .inr (.inr 118)], (am_sh, am_mm U))) 6 (fun _ => rfl) ?_
    refine eu_iald 118 (n := 500) rfl (by decide) rfl (fun _ => rfl) ha2.1 ?_
    show Ev (am_kz N X) ((d + 1), 329, 29, [some (.inr (.inr 86)), some (.inl x1)], [.inl (U 118 ((w32 ((U 86 49) - 1)).toNat))], (am_sh, am_mm U)) R
    have ha2a := ha2.2
    obtain ⟨r1, U1, ha2ac, ha2aa⟩ := ha2a
    refine ev_cal (σc := (M_rank_s0 d (U 118 ((w32 ((U 86 49) - 1)).toNat)) U)) (fun _ => rfl) ha2ac ?_
    show Ev (am_kz N X) ((d + 1), 329, 32, [some (.inr (.inr 86)), some (.inl x1)], [.inl r1], (am_sh, am_mm U1)) R
    refine ev_br (P := r1 < x1) (σ1 := ((d + 1), 329, 87, [some (.inr (.inr 86)), some (.inl x1)], [], (am_sh, am_mm U1))) (σ2 := ((d + 1), 329, 36, [some (.inr (.inr 86)), some (.inl x1)], [], (am_sh, am_mm U1))) 2 (fun _ => rfl) (fun hc => ?_) (fun hc => ?_)
    · have ha2aa1 := ha2aa.1 hc
      subst ha2aa1
      exact ev_end 1 (fun _ => rfl)
    · have ha2aa2 := ha2aa.2 (Int.not_lt.mp hc)
      refine ev_seg (σ1 := ((d + 1), 329, 43, [some (.inr (.inr 86)), some (.inl x1)], [.inl (w32 ((U1 86 49) - 1)), .inr (.inr 86)], (am_sh, am_mm U1))) 5 (fun _ => rfl) ?_
      refine eu_puti 86 (n := 90) rfl (by decide) rfl rfl ?_
      show Ev (am_kz N X) ((d + 1), 329, 46, [some (.inr (.inr 86)), some (.inl x1)], [], (am_sh, am_mm (am_upd U1 86 49 (w32 ((U1 86 49) - 1))))) R
      refine ev_seg (σ1 := ((d + 1), 329, 55, [some (.inr (.inr 86)), some (.inl x1)], [.inl (w32 ((U1 86 49) - 1)), .inr (.inr 118), .inr (.inr 86)], (am_sh, am_mm (am_upd U1 86 49 (w32 ((U1 86 49) - 1)))))) 5 (fun _ => rfl) ?_
      refine eu_iald 118 (n := 500) rfl (by decide) rfl (fun _ => rfl) ha2aa2.1 ?_
      show Ev (am_kz N X) ((d + 1), 329, 56, [some (.inr (.inr 86)), some (.inl x1)], [.inl (U1 118 ((w32 ((U1 86 49) - 1)).toNat)), .inr (.inr 86)], (am_sh, am_mm (am_upd U1 86 49 (w32 ((U1 86 49) - 1))))) R
      have ha2aa2a := ha2aa2.2
      refine ev_seg (σ1 := ((d + 1), 329, 57, [some (.inr (.inr 86)), some (.inl x1)], [.inl 0, .inl (U1 118 ((w32 ((U1 86 49) - 1)).toNat)), .inr (.inr 86)], (am_sh, am_mm (am_upd U1 86 49 (w32 ((U1 86 49) - 1)))))) 1 (fun _ => rfl) ?_
      obtain ⟨U2, ha2aa2ac, ha2aa2aa⟩ := ha2aa2a
      refine ev_cal (σc := (M_add_s0 d (U1 118 ((w32 ((U1 86 49) - 1)).toNat)) 0 (am_upd U1 86 49 (w32 ((U1 86 49) - 1))))) (fun _ => rfl) ha2aa2ac ?_
      show Ev (am_kz N X) ((d + 1), 329, 60, [some (.inr (.inr 86)), some (.inl x1)], [], (am_sh, am_mm U2)) R
      refine ev_seg (σ1 := ((d + 1), 329, 68, [some (.inr (.inr 86)), some (.inl x1)], [.inl (U2 86 49), .inr (.inr 118)], (am_sh, am_mm U2))) 4 (fun _ => rfl) ?_
      refine eu_iald 118 (n := 500) rfl (by decide) rfl (fun _ => rfl) ha2aa2aa.1 ?_
      show Ev (am_kz N X) ((d + 1), 329, 69, [some (.inr (.inr 86)), some (.inl x1)], [.inl (U2 118 ((U2 86 49).toNat))], (am_sh, am_mm U2)) R
      have ha2aa2aaa := ha2aa2aa.2
      refine ev_br (P := ¬ (U2 118 ((U2 86 49).toNat)) = 22) (σ1 := ((d + 1), 329, 0, [some (.inr (.inr 86)), some (.inl x1)], [], (am_sh, am_mm U2))) (σ2 := ((d + 1), 329, 74, [some (.inr (.inr 86)), some (.inl x1)], [], (am_sh, am_mm U2))) 2 (fun _ => rfl) (fun hc => ?_) (fun hc => ?_)
      · have ha2aa2aaa1 := ha2aa2aaa.1 hc
        exact ha2aa2aaa1
      · have ha2aa2aaa2 := ha2aa2aaa.2 (Decidable.not_not.mp hc)
        refine ev_seg (σ1 := ((d + 1), 329, 81, [some (.inr (.inr 86)), some (.inl x1)], [.inl (w32 ((U2 86 47) - 1)), .inr (.inr 86)], (am_sh, am_mm U2))) 5 (fun _ => rfl) ?_
        refine eu_puti 86 (n := 90) rfl (by decide) rfl rfl ?_
        show Ev (am_kz N X) ((d + 1), 329, 84, [some (.inr (.inr 86)), some (.inl x1)], [], (am_sh, am_mm (am_upd U2 86 47 (w32 ((U2 86 47) - 1))))) R
        refine ev_seg (σ1 := ((d + 1), 329, 0, [some (.inr (.inr 86)), some (.inl x1)], [], (am_sh, am_mm (am_upd U2 86 47 (w32 ((U2 86 47) - 1)))))) 1 (fun _ => rfl) ?_
        exact ha2aa2aaa2
set_option maxRecDepth 8000 in
theorem M_holdsBack_r0 {N : Nat} {X : Nat → Int} {d : Nat} {x1 : Int} {U : am_U} {R : Option am_V × am_M} (h : (0 ≤ (U 86 49) ∧ (U 86 49) < 500) ∧ R = rV (am_upd (am_upd U 118 ((U 86 49).toNat) x1) 86 49 (w32 ((U 86 49) + 1)))) : EvK N X (M_holdsBack_s0 d x1 U) R := by
  show Ev (am_kz N X) (d, 326, 0, [some (.inr (.inr 86)), some (.inl x1)], [], (am_sh, am_mm U)) R
  refine ev_seg (σ1 := (d, 326, 9, [some (.inr (.inr 86)), some (.inl x1)], [.inl x1, .inl (U 86 49), .inr (.inr 118)], (am_sh, am_mm U))) 5 (fun _ => rfl) ?_
  refine eu_iast 118 (n := 500) rfl (by decide) rfl (fun _ => rfl) h.1 ?_
  show Ev (am_kz N X) (d, 326, 10, [some (.inr (.inr 86)), some (.inl x1)], [], (am_sh, am_mm (am_upd U 118 ((U 86 49).toNat) x1))) R
  have ha := h.2
  refine ev_seg (σ1 := (d, 326, 17, [some (.inr (.inr 86)), some (.inl x1)], [.inl (w32 ((U 86 49) + 1)), .inr (.inr 86)], (am_sh, am_mm (am_upd U 118 ((U 86 49).toNat) x1)))) 5 (fun _ => rfl) ?_
  refine eu_puti 86 (n := 90) rfl (by decide) rfl rfl ?_
  show Ev (am_kz N X) (d, 326, 20, [some (.inr (.inr 86)), some (.inl x1)], [], (am_sh, am_mm (am_upd (am_upd U 118 ((U 86 49).toNat) x1) 86 49 (w32 ((U 86 49) + 1))))) R
  subst ha
  exact ev_end 1 (fun _ => rfl)
set_option maxRecDepth 8000 in
theorem M_add_r0 {N : Nat} {X : Nat → Int} {d : Nat} {x1 x2 : Int} {U : am_U} {R : Option am_V × am_M} (h : (0 ≤ (w32 ((w32 (1600 * (U 86 40))) + (U 86 39))) ∧ (w32 ((w32 (1600 * (U 86 40))) + (U 86 39))) < 3200) ∧ R = rV (am_upd (am_upd (am_upd U 111 ((w32 ((w32 (1600 * (U 86 40))) + (U 86 39))).toNat) x1) 112 ((w32 ((w32 (1600 * (U 86 40))) + (U 86 39))).toNat) x2) 86 39 (w32 ((U 86 39) + 1)))) : EvK N X (M_add_s0 d x1 x2 U) R := by
  show Ev (am_kz N X) (d, 328, 0, [some (.inr (.inr 86)), some (.inl x1), some (.inl x2)], [], (am_sh, am_mm U)) R
  refine ev_seg (σ1 := (d, 328, 18, [some (.inr (.inr 86)), some (.inl x1), some (.inl x2)], [.inl x1, .inl (w32 ((w32 (1600 * (U 86 40))) + (U 86 39))), .inr (.inr 111)], (am_sh, am_mm U))) 10 (fun _ => rfl) ?_
  refine eu_iast 111 (n := 3200) rfl (by decide) rfl (fun _ => rfl) h.1 ?_
  show Ev (am_kz N X) (d, 328, 19, [some (.inr (.inr 86)), some (.inl x1), some (.inl x2)], [], (am_sh, am_mm (am_upd U 111 ((w32 ((w32 (1600 * (U 86 40))) + (U 86 39))).toNat) x1))) R
  have ha := h.2
  refine ev_seg (σ1 := (d, 328, 37, [some (.inr (.inr 86)), some (.inl x1), some (.inl x2)], [.inl x2, .inl (w32 ((w32 (1600 * (U 86 40))) + (U 86 39))), .inr (.inr 112)], (am_sh, am_mm (am_upd U 111 ((w32 ((w32 (1600 * (U 86 40))) + (U 86 39))).toNat) x1)))) 10 (fun _ => rfl) ?_
  refine eu_iast 112 (n := 3200) rfl (by decide) rfl (fun _ => rfl) h.1 ?_
  show Ev (am_kz N X) (d, 328, 38, [some (.inr (.inr 86)), some (.inl x1), some (.inl x2)], [], (am_sh, am_mm (am_upd (am_upd U 111 ((w32 ((w32 (1600 * (U 86 40))) + (U 86 39))).toNat) x1) 112 ((w32 ((w32 (1600 * (U 86 40))) + (U 86 39))).toNat) x2))) R
  refine ev_seg (σ1 := (d, 328, 45, [some (.inr (.inr 86)), some (.inl x1), some (.inl x2)], [.inl (w32 ((U 86 39) + 1)), .inr (.inr 86)], (am_sh, am_mm (am_upd (am_upd U 111 ((w32 ((w32 (1600 * (U 86 40))) + (U 86 39))).toNat) x1) 112 ((w32 ((w32 (1600 * (U 86 40))) + (U 86 39))).toNat) x2)))) 5 (fun _ => rfl) ?_
  refine eu_puti 86 (n := 90) rfl (by decide) rfl rfl ?_
  show Ev (am_kz N X) (d, 328, 48, [some (.inr (.inr 86)), some (.inl x1), some (.inl x2)], [], (am_sh, am_mm (am_upd (am_upd (am_upd U 111 ((w32 ((w32 (1600 * (U 86 40))) + (U 86 39))).toNat) x1) 112 ((w32 ((w32 (1600 * (U 86 40))) + (U 86 39))).toNat) x2) 86 39 (w32 ((U 86 39) + 1))))) R
  subst ha
  exact ev_end 1 (fun _ => rfl)
set_option maxRecDepth 8000 in
theorem M_opens_r0 {N : Nat} {X : Nat → Int} {d : Nat} {x1 : Int} {U : am_U} {R : Option am_V × am_M} (h : (((U 86 47) ≠ 7) → (((U 86 8) ≤ 0) → ∃ U1 : am_U, EvK N X (M_ahead_s0 d (am_upd U 86 47 (w32 ((U 86 47) + 1)))) (rV U1) ∧ ∃ U2 : am_U, EvK N X (M_pushes_s0 d x1 U1) (rV U2) ∧ R = rV U2) ∧ ((0 < (U 86 8)) → R = rV U)) ∧ (((U 86 47) = 7) → ∃ U3 : am_U, EvK N X (M_blame_s0 d 5 (U 86 4) U) (rV U3) ∧ (((U3 86 8) ≤ 0) → ∃ U4 : am_U, EvK N X (M_ahead_s0 d (am_upd U3 86 47 (w32 ((U3 86 47) + 1)))) (rV U4) ∧ ∃ U5 : am_U, EvK N X (M_pushes_s0 d x1 U4) (rV U5) ∧ R = rV U5) ∧ ((0 < (U3 86 8)) → R = rV U3))) : EvK N X (M_opens_s0 (d + 1) x1 U) R := by
  show Ev (am_kz N X) ((d + 1), 327, 0, [some (.inr (.inr 86)), some (.inl x1)], [], (am_sh, am_mm U)) R
  refine ev_br (P := ¬ (U 86 47) = 7) (σ1 := ((d + 1), 327, 18, [some (.inr (.inr 86)), some (.inl x1)], [], (am_sh, am_mm U))) (σ2 := ((d + 1), 327, 9, [some (.inr (.inr 86)), some (.inl x1)], [], (am_sh, am_mm U))) 4 (fun _ => rfl) (fun hc => ?_) (fun hc => ?_)
  · have h1 := h.1 hc
    refine ev_br (P := (U 86 8) ≤ 0) (σ1 := ((d + 1), 327, 26, [some (.inr (.inr 86)), some (.inl x1)], [], (am_sh, am_mm U))) (σ2 := ((d + 1), 327, 25, [some (.inr (.inr 86)), some (.inl x1)], [], (am_sh, am_mm U))) 3 (fun _ => rfl) (fun hc => ?_) (fun hc => ?_)
    · have h11 := h1.1 hc
      refine ev_seg (σ1 := ((d + 1), 327, 33, [some (.inr (.inr 86)), some (.inl x1)], [.inl (w32 ((U 86 47) + 1)), .inr (.inr 86)], (am_sh, am_mm U))) 5 (fun _ => rfl) ?_
      refine eu_puti 86 (n := 90) rfl (by decide) rfl rfl ?_
      show Ev (am_kz N X) ((d + 1), 327, 36, [some (.inr (.inr 86)), some (.inl x1)], [], (am_sh, am_mm (am_upd U 86 47 (w32 ((U 86 47) + 1))))) R
      refine ev_seg (σ1 := ((d + 1), 327, 37, [some (.inr (.inr 86)), some (.inl x1)], [.inr (.inr 86)], (am_sh, am_mm (am_upd U 86 47 (w32 ((U 86 47) + 1)))))) 1 (fun _ => rfl) ?_
      obtain ⟨U1, h11c, h11a⟩ := h11
      refine ev_cal (σc := (M_ahead_s0 d (am_upd U 86 47 (w32 ((U 86 47) + 1))))) (fun _ => rfl) h11c ?_
      show Ev (am_kz N X) ((d + 1), 327, 40, [some (.inr (.inr 86)), some (.inl x1)], [], (am_sh, am_mm U1)) R
      refine ev_seg (σ1 := ((d + 1), 327, 42, [some (.inr (.inr 86)), some (.inl x1)], [.inl x1, .inr (.inr 86)], (am_sh, am_mm U1))) 2 (fun _ => rfl) ?_
      obtain ⟨U2, h11ac, h11aa⟩ := h11a
      refine ev_cal (σc := (M_pushes_s0 d x1 U1)) (fun _ => rfl) h11ac ?_
      show Ev (am_kz N X) ((d + 1), 327, 45, [some (.inr (.inr 86)), some (.inl x1)], [], (am_sh, am_mm U2)) R
      subst h11aa
      exact ev_end 1 (fun _ => rfl)
    · have h12 := h1.2 (Int.not_le.mp hc)
      subst h12
      exact ev_end 1 (fun _ => rfl)
  · have h2 := h.2 (Decidable.not_not.mp hc)
    refine ev_seg (σ1 := ((d + 1), 327, 15, [some (.inr (.inr 86)), some (.inl x1)], [.inl (U 86 4), .inl 5, .inr (.inr 86)], (am_sh, am_mm U))) 4 (fun _ => rfl) ?_
    obtain ⟨U3, h2c, h2a⟩ := h2
    refine ev_cal (σc := (M_blame_s0 d 5 (U 86 4) U)) (fun _ => rfl) h2c ?_
    show Ev (am_kz N X) ((d + 1), 327, 18, [some (.inr (.inr 86)), some (.inl x1)], [], (am_sh, am_mm U3)) R
    refine ev_br (P := (U3 86 8) ≤ 0) (σ1 := ((d + 1), 327, 26, [some (.inr (.inr 86)), some (.inl x1)], [], (am_sh, am_mm U3))) (σ2 := ((d + 1), 327, 25, [some (.inr (.inr 86)), some (.inl x1)], [], (am_sh, am_mm U3))) 3 (fun _ => rfl) (fun hc => ?_) (fun hc => ?_)
    · have h2a1 := h2a.1 hc
      refine ev_seg (σ1 := ((d + 1), 327, 33, [some (.inr (.inr 86)), some (.inl x1)], [.inl (w32 ((U3 86 47) + 1)), .inr (.inr 86)], (am_sh, am_mm U3))) 5 (fun _ => rfl) ?_
      refine eu_puti 86 (n := 90) rfl (by decide) rfl rfl ?_
      show Ev (am_kz N X) ((d + 1), 327, 36, [some (.inr (.inr 86)), some (.inl x1)], [], (am_sh, am_mm (am_upd U3 86 47 (w32 ((U3 86 47) + 1))))) R
      refine ev_seg (σ1 := ((d + 1), 327, 37, [some (.inr (.inr 86)), some (.inl x1)], [.inr (.inr 86)], (am_sh, am_mm (am_upd U3 86 47 (w32 ((U3 86 47) + 1)))))) 1 (fun _ => rfl) ?_
      obtain ⟨U4, h2a1c, h2a1a⟩ := h2a1
      refine ev_cal (σc := (M_ahead_s0 d (am_upd U3 86 47 (w32 ((U3 86 47) + 1))))) (fun _ => rfl) h2a1c ?_
      show Ev (am_kz N X) ((d + 1), 327, 40, [some (.inr (.inr 86)), some (.inl x1)], [], (am_sh, am_mm U4)) R
      refine ev_seg (σ1 := ((d + 1), 327, 42, [some (.inr (.inr 86)), some (.inl x1)], [.inl x1, .inr (.inr 86)], (am_sh, am_mm U4))) 2 (fun _ => rfl) ?_
      obtain ⟨U5, h2a1ac, h2a1aa⟩ := h2a1a
      refine ev_cal (σc := (M_pushes_s0 d x1 U4)) (fun _ => rfl) h2a1ac ?_
      show Ev (am_kz N X) ((d + 1), 327, 45, [some (.inr (.inr 86)), some (.inl x1)], [], (am_sh, am_mm U5)) R
      subst h2a1aa
      exact ev_end 1 (fun _ => rfl)
    · have h2a2 := h2a.2 (Int.not_le.mp hc)
      subst h2a2
      exact ev_end 1 (fun _ => rfl)
set_option maxRecDepth 8000 in
theorem Tk_isOwnWord_r0 {N : Nat} {X : Nat → Int} {d : Nat} {x1 x2 x3 : Int} {U : am_U} {R : Option am_V × am_M} (h : EvK N X (Tk_isOwnWord_s9 (d + 1) x1 x2 x3 (w32 (6 * x3)) 0 U) R) : EvK N X (Tk_isOwnWord_s0 (d + 1) x1 x2 x3 U) R := by
  show Ev (am_kz N X) ((d + 1), 330, 0, [some (.inr (.inr 2)), some (.inl x1), some (.inl x2), some (.inl x3), none, none, none], [], (am_sh, am_mm U)) R
  refine ev_seg (σ1 := ((d + 1), 330, 9, [some (.inr (.inr 2)), some (.inl x1), some (.inl x2), some (.inl x3), some (.inl (w32 (6 * x3))), some (.inl 0), none], [], (am_sh, am_mm U))) 6 (fun _ => rfl) ?_
  exact h
set_option maxRecDepth 8000 in
theorem Tk_isOwnWord_r9 {N : Nat} {X : Nat → Int} {d : Nat} {x1 x2 x3 x4 x5 : Int} {U : am_U} {R : Option am_V × am_M} (h : ((6 ≤ x5) → R = rI 1 U) ∧ ((x5 < 6) → ((x2 ≤ (w32 (x1 + x5))) → ∃ (r1 : Int) (U1 : am_U), EvK N X (St_length_m3_s0 d U) (rI r1 U1) ∧ ((r1 ≤ (w32 (x4 + x5))) → R = rI 0 U1) ∧ (((w32 (x4 + x5)) < r1) → ∃ (r2 : Int) (U2 : am_U), EvK N X (St_charAt_s0 d (w32 (x4 + x5)) U1) (rI r2 U2) ∧ ((r2 = 32) → EvK N X (Tk_isOwnWord_s9 (d + 1) x1 x2 x3 x4 (w32 (x5 + 1)) U2) R) ∧ ((r2 ≠ 32) → R = rI 0 U2))) ∧ (((w32 (x1 + x5)) < x2) → (0 ≤ (w32 (x1 + x5)) ∧ (w32 (x1 + x5)) < 1600) ∧ ∃ (r3 : Int) (U3 : am_U), EvK N X (St_length_m3_s0 d U) (rI r3 U3) ∧ ((r3 ≤ (w32 (x4 + x5))) → R = rI 0 U3) ∧ (((w32 (x4 + x5)) < r3) → ∃ (r4 : Int) (U4 : am_U), EvK N X (St_charAt_s0 d (w32 (x4 + x5)) U3) (rI r4 U4) ∧ ((r4 = (U 2 ((w32 (x1 + x5)).toNat))) → EvK N X (Tk_isOwnWord_s9 (d + 1) x1 x2 x3 x4 (w32 (x5 + 1)) U4) R) ∧ ((r4 ≠ (U 2 ((w32 (x1 + x5)).toNat))) → R = rI 0 U4))))) : EvK N X (Tk_isOwnWord_s9 (d + 1) x1 x2 x3 x4 x5 U) R := by
  show Ev (am_kz N X) ((d + 1), 330, 9, [some (.inr (.inr 2)), some (.inl x1), some (.inl x2), some (.inl x3), some (.inl x4), some (.inl x5), none], [], (am_sh, am_mm U)) R
  refine ev_br (P := 6 ≤ x5) (σ1 := ((d + 1), 330, 73, [some (.inr (.inr 2)), some (.inl x1), some (.inl x2), some (.inl x3), some (.inl x4), some (.inl x5), none], [], (am_sh, am_mm U))) (σ2 := ((d + 1), 330, 16, [some (.inr (.inr 2)), some (.inl x1), some (.inl x2), some (.inl x3), some (.inl x4), some (.inl x5), none], [], (am_sh, am_mm U))) 3 (fun _ => rfl) (fun hc => ?_) (fun hc => ?_)
  · have h1 := h.1 hc
    subst h1
    exact ev_end 2 (fun _ => rfl)
  · have h2 := h.2 (Int.not_le.mp hc)
    refine ev_br (P := x2 ≤ (w32 (x1 + x5))) (σ1 := ((d + 1), 330, 33, [some (.inr (.inr 2)), some (.inl x1), some (.inl x2), some (.inl x3), some (.inl x4), some (.inl x5), none], [], (am_sh, am_mm U))) (σ2 := ((d + 1), 330, 24, [some (.inr (.inr 2)), some (.inl x1), some (.inl x2), some (.inl x3), some (.inl x4), some (.inl x5), none], [], (am_sh, am_mm U))) 5 (fun _ => rfl) (fun hc => ?_) (fun hc => ?_)
    · have h21 := h2.1 hc
      refine ev_seg (σ1 := ((d + 1), 330, 44, [some (.inr (.inr 2)), some (.inl x1), some (.inl x2), some (.inl x3), some (.inl x4), some (.inl x5), some (.inl 32)], [.inr (.inr (-3)), .inl (w32 (x4 + x5))], (am_sh, am_mm U))) 6 (fun _ => rfl) ?_
      obtain ⟨r1, U1, h21c, h21a⟩ := h21
      refine ev_cal (σc := (St_length_m3_s0 d U)) (fun _ => rfl) h21c ?_
      show Ev (am_kz N X) ((d + 1), 330, 47, [some (.inr (.inr 2)), some (.inl x1), some (.inl x2), some (.inl x3), some (.inl x4), some (.inl x5), some (.inl 32)], [.inl r1, .inl (w32 (x4 + x5))], (am_sh, am_mm U1)) R
      refine ev_br (P := r1 ≤ (w32 (x4 + x5))) (σ1 := ((d + 1), 330, 65, [some (.inr (.inr 2)), some (.inl x1), some (.inl x2), some (.inl x3), some (.inl x4), some (.inl x5), some (.inl 32)], [], (am_sh, am_mm U1))) (σ2 := ((d + 1), 330, 50, [some (.inr (.inr 2)), some (.inl x1), some (.inl x2), some (.inl x3), some (.inl x4), some (.inl x5), some (.inl 32)], [], (am_sh, am_mm U1))) 1 (fun _ => rfl) (fun hc => ?_) (fun hc => ?_)
      · have h21a1 := h21a.1 hc
        subst h21a1
        exact ev_end 2 (fun _ => rfl)
      · have h21a2 := h21a.2 (Int.not_le.mp hc)
        refine ev_seg (σ1 := ((d + 1), 330, 57, [some (.inr (.inr 2)), some (.inl x1), some (.inl x2), some (.inl x3), some (.inl x4), some (.inl x5), some (.inl 32)], [.inl (w32 (x4 + x5)), .inr (.inr (-3))], (am_sh, am_mm U1))) 4 (fun _ => rfl) ?_
        obtain ⟨r2, U2, h21a2c, h21a2a⟩ := h21a2
        refine ev_cal (σc := (St_charAt_s0 d (w32 (x4 + x5)) U1)) (fun _ => rfl) h21a2c ?_
        show Ev (am_kz N X) ((d + 1), 330, 60, [some (.inr (.inr 2)), some (.inl x1), some (.inl x2), some (.inl x3), some (.inl x4), some (.inl x5), some (.inl 32)], [.inl r2], (am_sh, am_mm U2)) R
        refine ev_br (P := r2 = 32) (σ1 := ((d + 1), 330, 67, [some (.inr (.inr 2)), some (.inl x1), some (.inl x2), some (.inl x3), some (.inl x4), some (.inl x5), some (.inl 32)], [], (am_sh, am_mm U2))) (σ2 := ((d + 1), 330, 65, [some (.inr (.inr 2)), some (.inl x1), some (.inl x2), some (.inl x3), some (.inl x4), some (.inl x5), some (.inl 32)], [], (am_sh, am_mm U2))) 2 (fun _ => rfl) (fun hc => ?_) (fun hc => ?_)
        · have h21a2a1 := h21a2a.1 hc
          refine ev_seg (σ1 := ((d + 1), 330, 9, [some (.inr (.inr 2)), some (.inl x1), some (.inl x2), some (.inl x3), some (.inl x4), some (.inl (w32 (x5 + 1))), some (.inl 32)], [], (am_sh, am_mm U2))) 2 (fun _ => rfl) ?_
          exact ev_le (L := [some (.inr (.inr 2)), some (.inl x1), some (.inl x2), some (.inl x3), some (.inl x4), some (.inl (w32 (x5 + 1))), none]) ⟨rfl, ⟨rfl, ⟨rfl, ⟨rfl, ⟨rfl, ⟨rfl, trivial⟩⟩⟩⟩⟩⟩ h21a2a1
        · have h21a2a2 := h21a2a.2 hc
          subst h21a2a2
          exact ev_end 2 (fun _ => rfl)
    · have h22 := h2.2 (Int.not_le.mp hc)
      refine ev_seg (σ1 := ((d + 1), 330, 29, [some (.inr (.inr 2)), some (.inl x1), some (.inl x2), some (.inl x3), some (.inl x4), some (.inl x5), none], [.inl (w32 (x1 + x5)), .inr (.inr 2)], (am_sh, am_mm U))) 4 (fun _ => rfl) ?_
      refine eu_iald 2 (n := 1600) rfl (by decide) rfl (fun _ => rfl) h22.1 ?_
      show Ev (am_kz N X) ((d + 1), 330, 30, [some (.inr (.inr 2)), some (.inl x1), some (.inl x2), some (.inl x3), some (.inl x4), some (.inl x5), none], [.inl (U 2 ((w32 (x1 + x5)).toNat))], (am_sh, am_mm U)) R
      have h22a := h22.2
      refine ev_seg (σ1 := ((d + 1), 330, 44, [some (.inr (.inr 2)), some (.inl x1), some (.inl x2), some (.inl x3), some (.inl x4), some (.inl x5), some (.inl (U 2 ((w32 (x1 + x5)).toNat)))], [.inr (.inr (-3)), .inl (w32 (x4 + x5))], (am_sh, am_mm U))) 6 (fun _ => rfl) ?_
      obtain ⟨r3, U3, h22ac, h22aa⟩ := h22a
      refine ev_cal (σc := (St_length_m3_s0 d U)) (fun _ => rfl) h22ac ?_
      show Ev (am_kz N X) ((d + 1), 330, 47, [some (.inr (.inr 2)), some (.inl x1), some (.inl x2), some (.inl x3), some (.inl x4), some (.inl x5), some (.inl (U 2 ((w32 (x1 + x5)).toNat)))], [.inl r3, .inl (w32 (x4 + x5))], (am_sh, am_mm U3)) R
      refine ev_br (P := r3 ≤ (w32 (x4 + x5))) (σ1 := ((d + 1), 330, 65, [some (.inr (.inr 2)), some (.inl x1), some (.inl x2), some (.inl x3), some (.inl x4), some (.inl x5), some (.inl (U 2 ((w32 (x1 + x5)).toNat)))], [], (am_sh, am_mm U3))) (σ2 := ((d + 1), 330, 50, [some (.inr (.inr 2)), some (.inl x1), some (.inl x2), some (.inl x3), some (.inl x4), some (.inl x5), some (.inl (U 2 ((w32 (x1 + x5)).toNat)))], [], (am_sh, am_mm U3))) 1 (fun _ => rfl) (fun hc => ?_) (fun hc => ?_)
      · have h22aa1 := h22aa.1 hc
        subst h22aa1
        exact ev_end 2 (fun _ => rfl)
      · have h22aa2 := h22aa.2 (Int.not_le.mp hc)
        refine ev_seg (σ1 := ((d + 1), 330, 57, [some (.inr (.inr 2)), some (.inl x1), some (.inl x2), some (.inl x3), some (.inl x4), some (.inl x5), some (.inl (U 2 ((w32 (x1 + x5)).toNat)))], [.inl (w32 (x4 + x5)), .inr (.inr (-3))], (am_sh, am_mm U3))) 4 (fun _ => rfl) ?_
        obtain ⟨r4, U4, h22aa2c, h22aa2a⟩ := h22aa2
        refine ev_cal (σc := (St_charAt_s0 d (w32 (x4 + x5)) U3)) (fun _ => rfl) h22aa2c ?_
        show Ev (am_kz N X) ((d + 1), 330, 60, [some (.inr (.inr 2)), some (.inl x1), some (.inl x2), some (.inl x3), some (.inl x4), some (.inl x5), some (.inl (U 2 ((w32 (x1 + x5)).toNat)))], [.inl r4], (am_sh, am_mm U4)) R
        refine ev_br (P := r4 = (U 2 ((w32 (x1 + x5)).toNat))) (σ1 := ((d + 1), 330, 67, [some (.inr (.inr 2)), some (.inl x1), some (.inl x2), some (.inl x3), some (.inl x4), some (.inl x5), some (.inl (U 2 ((w32 (x1 + x5)).toNat)))], [], (am_sh, am_mm U4))) (σ2 := ((d + 1), 330, 65, [some (.inr (.inr 2)), some (.inl x1), some (.inl x2), some (.inl x3), some (.inl x4), some (.inl x5), some (.inl (U 2 ((w32 (x1 + x5)).toNat)))], [], (am_sh, am_mm U4))) 2 (fun _ => rfl) (fun hc => ?_) (fun hc => ?_)
        · have h22aa2a1 := h22aa2a.1 hc
          refine ev_seg (σ1 := ((d + 1), 330, 9, [some (.inr (.inr 2)), some (.inl x1), some (.inl x2), some (.inl x3), some (.inl x4), some (.inl (w32 (x5 + 1))), some (.inl (U 2 ((w32 (x1 + x5)).toNat)))], [], (am_sh, am_mm U4))) 2 (fun _ => rfl) ?_
          exact ev_le (L := [some (.inr (.inr 2)), some (.inl x1), some (.inl x2), some (.inl x3), some (.inl x4), some (.inl (w32 (x5 + 1))), none]) ⟨rfl, ⟨rfl, ⟨rfl, ⟨rfl, ⟨rfl, ⟨rfl, trivial⟩⟩⟩⟩⟩⟩ h22aa2a1
        · have h22aa2a2 := h22aa2a.2 hc
          subst h22aa2a2
          exact ev_end 2 (fun _ => rfl)
set_option maxRecDepth 8000 in
theorem St_isLatin1_m2_r0 {N : Nat} {X : Nat → Int} {d : Nat} {U : am_U} {R : Option am_V × am_M} (h : R = rI 1 U) : EvK N X (St_isLatin1_m2_s0 d U) R := by
  show Ev (am_kz N X) (d, 331, 0, [some (.inr (.inr (-2)))], [], (am_sh, am_mm U)) R
  subst h
  exact ev_end 8 (fun _ => rfl)
set_option maxRecDepth 8000 in
theorem St_length_m2_r0 {N : Nat} {X : Nat → Int} {d : Nat} {U : am_U} {R : Option am_V × am_M} (h : ∃ (r1 : Int) (U1 : am_U), EvK N X (St_coder_m2_s0 d U) (rI r1 U1) ∧ R = rI (am_shr 14 r1) U1) : EvK N X (St_length_m2_s0 (d + 1) U) R := by
  show Ev (am_kz N X) ((d + 1), 332, 0, [some (.inr (.inr (-2)))], [], (am_sh, am_mm U)) R
  refine ev_seg (σ1 := ((d + 1), 332, 6, [some (.inr (.inr (-2)))], [.inr (.inr (-2)), .inl 14], (am_sh, am_mm U))) 4 (fun _ => rfl) ?_
  obtain ⟨r1, U1, hc, ha⟩ := h
  refine ev_cal (σc := (St_coder_m2_s0 d U)) (fun _ => rfl) hc ?_
  show Ev (am_kz N X) ((d + 1), 332, 9, [some (.inr (.inr (-2)))], [.inl r1, .inl 14], (am_sh, am_mm U1)) R
  subst ha
  exact ev_end 2 (fun _ => rfl)
set_option maxRecDepth 8000 in
theorem SL_indexOf_r0 {N : Nat} {X : Nat → Int} {d : Nat} {x1 x2 x3 : Int} {U : am_U} {R : Option am_V × am_M} (h : ∃ (r1 : Int) (U1 : am_U), EvK N X (SL_canEncode_s0 d x1 U) (rI r1 U1) ∧ ((r1 ≠ 0) → (((if x2 < 0 then 0 else x2) < (if 14 < x3 then 14 else x3)) → ∃ (r2 : Int) (U2 : am_U), EvK N X (SL_indexOfChar_s0 d x1 (if x2 < 0 then 0 else x2) (if 14 < x3 then 14 else x3) U1) (rI r2 U2) ∧ R = rI r2 U2) ∧ (((if 14 < x3 then 14 else x3) ≤ (if x2 < 0 then 0 else x2)) → R = rI (-1) U1)) ∧ ((r1 = 0) → R = rI (-1) U1)) : EvK N X (SL_indexOf_s0 (d + 1) x1 x2 x3 U) R := by
  show Ev (am_kz N X) ((d + 1), 333, 0, [some (.inr (.inr (-6))), some (.inl x1), some (.inl x2), some (.inl x3)], [], (am_sh, am_mm U)) R
  refine ev_seg (σ1 := ((d + 1), 333, 1, [some (.inr (.inr (-6))), some (.inl x1), some (.inl x2), some (.inl x3)], [.inl x1], (am_sh, am_mm U))) 1 (fun _ => rfl) ?_
  obtain ⟨r1, U1, hc, ha⟩ := h
  refine ev_cal (σc := (SL_canEncode_s0 d x1 U)) (fun _ => rfl) hc ?_
  show Ev (am_kz N X) ((d + 1), 333, 4, [some (.inr (.inr (-6))), some (.inl x1), some (.inl x2), some (.inl x3)], [.inl r1], (am_sh, am_mm U1)) R
  refine ev_br (P := ¬ r1 = 0) (σ1 := ((d + 1), 333, 9, [some (.inr (.inr (-6))), some (.inl x1), some (.inl x2), some (.inl x3)], [], (am_sh, am_mm U1))) (σ2 := ((d + 1), 333, 7, [some (.inr (.inr (-6))), some (.inl x1), some (.inl x2), some (.inl x3)], [], (am_sh, am_mm U1))) 1 (fun _ => rfl) (fun hc => ?_) (fun hc => ?_)
  · have ha1 := ha.1 hc
    refine ev_br (P := (if x2 < 0 then 0 else x2) < (if 14 < x3 then 14 else x3)) (σ1 := ((d + 1), 333, 29, [some (.inr (.inr (-6))), some (.inl x1), some (.inl (if x2 < 0 then 0 else x2)), some (.inl (if 14 < x3 then 14 else x3))], [], (am_sh, am_mm U1))) (σ2 := ((d + 1), 333, 27, [some (.inr (.inr (-6))), some (.inl x1), some (.inl (if x2 < 0 then 0 else x2)), some (.inl (if 14 < x3 then 14 else x3))], [], (am_sh, am_mm U1))) 12 (fun _ => rfl) (fun hc => ?_) (fun hc => ?_)
    · have ha11 := ha1.1 hc
      refine ev_seg (σ1 := ((d + 1), 333, 33, [some (.inr (.inr (-6))), some (.inl x1), some (.inl (if x2 < 0 then 0 else x2)), some (.inl (if 14 < x3 then 14 else x3))], [.inl (if 14 < x3 then 14 else x3), .inl (if x2 < 0 then 0 else x2), .inl x1, .inr (.inr (-6))], (am_sh, am_mm U1))) 4 (fun _ => rfl) ?_
      obtain ⟨r2, U2, ha11c, ha11a⟩ := ha11
      refine ev_cal (σc := (SL_indexOfChar_s0 d x1 (if x2 < 0 then 0 else x2) (if 14 < x3 then 14 else x3) U1)) (fun _ => rfl) ha11c ?_
      show Ev (am_kz N X) ((d + 1), 333, 36, [some (.inr (.inr (-6))), some (.inl x1), some (.inl (if x2 < 0 then 0 else x2)), some (.inl (if 14 < x3 then 14 else x3))], [.inl r2], (am_sh, am_mm U2)) R
      subst ha11a
      exact ev_end 1 (fun _ => rfl)
    · have ha12 := ha1.2 (Int.not_lt.mp hc)
      subst ha12
      exact ev_end 2 (fun _ => rfl)
  · have ha2 := ha.2 (Decidable.not_not.mp hc)
    subst ha2
    exact ev_end 2 (fun _ => rfl)
set_option maxRecDepth 8000 in
theorem Rd_readSum_r0 {N : Nat} {X : Nat → Int} {d : Nat} {x1 : Int} {U : am_U} {R : Option am_V × am_M} (h : ∃ (r1 : Int) (U1 : am_U), EvK N X (Rd_readProduct_s0 d x1 U) (rI r1 U1) ∧ EvK N X (Rd_readSum_s8 (d + 1) x1 r1 0 U1) R) : EvK N X (Rd_readSum_s0 (d + 1) x1 U) R := by
  show Ev (am_kz N X) ((d + 1), 335, 0, [some (.inr (.inr 26)), some (.inl x1), none, none, none], [], (am_sh, am_mm U)) R
  refine ev_seg (σ1 := ((d + 1), 335, 2, [some (.inr (.inr 26)), some (.inl x1), none, none, none], [.inl x1, .inr (.inr 26)], (am_sh, am_mm U))) 2 (fun _ => rfl) ?_
  obtain ⟨r1, U1, hc, ha⟩ := h
  refine ev_cal (σc := (Rd_readProduct_s0 d x1 U)) (fun _ => rfl) hc ?_
  show Ev (am_kz N X) ((d + 1), 335, 5, [some (.inr (.inr 26)), some (.inl x1), none, none, none], [.inl r1], (am_sh, am_mm U1)) R
  refine ev_seg (σ1 := ((d + 1), 335, 8, [some (.inr (.inr 26)), some (.inl x1), some (.inl r1), some (.inl 0), none], [], (am_sh, am_mm U1))) 3 (fun _ => rfl) ?_
  exact ha
set_option maxRecDepth 8000 in
theorem Rd_readSum_r8 {N : Nat} {X : Nat → Int} {d : Nat} {x1 x2 x3 : Int} {U : am_U} {R : Option am_V × am_M} (h : ((1600 ≤ x3) → (x2 = 0 ∨ x2 = 1) ∧ R = rI x2 U) ∧ ((x3 < 1600) → ((x2 = 0) → (x2 = 0 ∨ x2 = 1) ∧ R = rI x2 U) ∧ ((x2 ≠ 0) → ∃ (r1 : Int) (U1 : am_U), EvK N X (Rd_isSign_s0 d 43 U) (rI r1 U1) ∧ ((r1 ≠ 0) → ∃ U2 : am_U, EvK N X (Rd_next_s0 d U1) (rV U2) ∧ ∃ (r3 : Int) (U3 : am_U), EvK N X (Rd_readProduct_s0 d x1 U2) (rI r3 U3) ∧ ((r3 = 0) → EvK N X (Rd_readSum_s8 (d + 1) x1 0 (w32 (x3 + 1)) U3) R) ∧ ((r3 ≠ 0) → ∃ (r4 : Int) (U4 : am_U), EvK N X (Tw_emitSign_s0 d (U1 26 8) U3) (rI r4 U4) ∧ ((r4 = 0) → EvK N X (Rd_readSum_s8 (d + 1) x1 0 (w32 (x3 + 1)) U4) R) ∧ ((r4 ≠ 0) → EvK N X (Rd_readSum_s8 (d + 1) x1 1 (w32 (x3 + 1)) U4) R))) ∧ ((r1 = 0) → ∃ (r5 : Int) (U5 : am_U), EvK N X (Rd_isSign_s0 d 45 U1) (rI r5 U5) ∧ ((r5 = 0) → (x2 = 0 ∨ x2 = 1) ∧ R = rI x2 U5) ∧ ((r5 ≠ 0) → ∃ U6 : am_U, EvK N X (Rd_next_s0 d U5) (rV U6) ∧ ∃ (r7 : Int) (U7 : am_U), EvK N X (Rd_readProduct_s0 d x1 U6) (rI r7 U7) ∧ ((r7 = 0) → EvK N X (Rd_readSum_s8 (d + 1) x1 0 (w32 (x3 + 1)) U7) R) ∧ ((r7 ≠ 0) → ∃ (r8 : Int) (U8 : am_U), EvK N X (Tw_emitSign_s0 d (U5 26 8) U7) (rI r8 U8) ∧ ((r8 = 0) → EvK N X (Rd_readSum_s8 (d + 1) x1 0 (w32 (x3 + 1)) U8) R) ∧ ((r8 ≠ 0) → EvK N X (Rd_readSum_s8 (d + 1) x1 1 (w32 (x3 + 1)) U8) R))))))) : EvK N X (Rd_readSum_s8 (d + 1) x1 x2 x3 U) R := by
  show Ev (am_kz N X) ((d + 1), 335, 8, [some (.inr (.inr 26)), some (.inl x1), some (.inl x2), some (.inl x3), none], [], (am_sh, am_mm U)) R
  refine ev_br (P := 1600 ≤ x3) (σ1 := ((d + 1), 335, 79, [some (.inr (.inr 26)), some (.inl x1), some (.inl x2), some (.inl x3), none], [], (am_sh, am_mm U))) (σ2 := ((d + 1), 335, 15, [some (.inr (.inr 26)), some (.inl x1), some (.inl x2), some (.inl x3), none], [], (am_sh, am_mm U))) 3 (fun _ => rfl) (fun hc => ?_) (fun hc => ?_)
  · have h1 := h.1 hc
    refine ev_seg (σ1 := ((d + 1), 335, 80, [some (.inr (.inr 26)), some (.inl x1), some (.inl x2), some (.inl x3), none], [.inl x2], (am_sh, am_mm U))) 1 (fun _ => rfl) ?_
    rw [h1.2]
    exact ev_retz rfl rfl h1.1
  · have h2 := h.2 (Int.not_le.mp hc)
    refine ev_br (P := x2 = 0) (σ1 := ((d + 1), 335, 79, [some (.inr (.inr 26)), some (.inl x1), some (.inl x2), some (.inl x3), none], [], (am_sh, am_mm U))) (σ2 := ((d + 1), 335, 19, [some (.inr (.inr 26)), some (.inl x1), some (.inl x2), some (.inl x3), none], [], (am_sh, am_mm U))) 2 (fun _ => rfl) (fun hc => ?_) (fun hc => ?_)
    · have h21 := h2.1 hc
      refine ev_seg (σ1 := ((d + 1), 335, 80, [some (.inr (.inr 26)), some (.inl x1), some (.inl x2), some (.inl x3), none], [.inl x2], (am_sh, am_mm U))) 1 (fun _ => rfl) ?_
      rw [h21.2]
      exact ev_retz rfl rfl h21.1
    · have h22 := h2.2 hc
      refine ev_seg (σ1 := ((d + 1), 335, 22, [some (.inr (.inr 26)), some (.inl x1), some (.inl x2), some (.inl x3), none], [.inl 43, .inr (.inr 26)], (am_sh, am_mm U))) 2 (fun _ => rfl) ?_
      obtain ⟨r1, U1, h22c, h22a⟩ := h22
      refine ev_cal (σc := (Rd_isSign_s0 d 43 U)) (fun _ => rfl) h22c ?_
      show Ev (am_kz N X) ((d + 1), 335, 25, [some (.inr (.inr 26)), some (.inl x1), some (.inl x2), some (.inl x3), none], [.inl r1], (am_sh, am_mm U1)) R
      refine ev_br (P := ¬ r1 = 0) (σ1 := ((d + 1), 335, 37, [some (.inr (.inr 26)), some (.inl x1), some (.inl x2), some (.inl x3), none], [], (am_sh, am_mm U1))) (σ2 := ((d + 1), 335, 28, [some (.inr (.inr 26)), some (.inl x1), some (.inl x2), some (.inl x3), none], [], (am_sh, am_mm U1))) 1 (fun _ => rfl) (fun hc => ?_) (fun hc => ?_)
      · have h22a1 := h22a.1 hc
        refine ev_seg (σ1 := ((d + 1), 335, 44, [some (.inr (.inr 26)), some (.inl x1), some (.inl x2), some (.inl x3), some (.inl (U1 26 8))], [.inr (.inr 26)], (am_sh, am_mm U1))) 4 (fun _ => rfl) ?_
        obtain ⟨U2, h22a1c, h22a1a⟩ := h22a1
        refine ev_cal (σc := (Rd_next_s0 d U1)) (fun _ => rfl) h22a1c ?_
        show Ev (am_kz N X) ((d + 1), 335, 47, [some (.inr (.inr 26)), some (.inl x1), some (.inl x2), some (.inl x3), some (.inl (U1 26 8))], [], (am_sh, am_mm U2)) R
        refine ev_seg (σ1 := ((d + 1), 335, 49, [some (.inr (.inr 26)), some (.inl x1), some (.inl x2), some (.inl x3), some (.inl (U1 26 8))], [.inl x1, .inr (.inr 26)], (am_sh, am_mm U2))) 2 (fun _ => rfl) ?_
        obtain ⟨r3, U3, h22a1ac, h22a1aa⟩ := h22a1a
        refine ev_cal (σc := (Rd_readProduct_s0 d x1 U2)) (fun _ => rfl) h22a1ac ?_
        show Ev (am_kz N X) ((d + 1), 335, 52, [some (.inr (.inr 26)), some (.inl x1), some (.inl x2), some (.inl x3), some (.inl (U1 26 8))], [.inl r3], (am_sh, am_mm U3)) R
        refine ev_br (P := r3 = 0) (σ1 := ((d + 1), 335, 71, [some (.inr (.inr 26)), some (.inl x1), some (.inl x2), some (.inl x3), some (.inl (U1 26 8))], [], (am_sh, am_mm U3))) (σ2 := ((d + 1), 335, 55, [some (.inr (.inr 26)), some (.inl x1), some (.inl x2), some (.inl x3), some (.inl (U1 26 8))], [], (am_sh, am_mm U3))) 1 (fun _ => rfl) (fun hc => ?_) (fun hc => ?_)
        · have h22a1aa1 := h22a1aa.1 hc
          refine ev_seg (σ1 := ((d + 1), 335, 8, [some (.inr (.inr 26)), some (.inl x1), some (.inl 0), some (.inl (w32 (x3 + 1))), some (.inl (U1 26 8))], [], (am_sh, am_mm U3))) 4 (fun _ => rfl) ?_
          exact ev_le (L := [some (.inr (.inr 26)), some (.inl x1), some (.inl 0), some (.inl (w32 (x3 + 1))), none]) ⟨rfl, ⟨rfl, ⟨rfl, ⟨rfl, trivial⟩⟩⟩⟩ h22a1aa1
        · have h22a1aa2 := h22a1aa.2 hc
          refine ev_seg (σ1 := ((d + 1), 335, 61, [some (.inr (.inr 26)), some (.inl x1), some (.inl x2), some (.inl x3), some (.inl (U1 26 8))], [.inl (U1 26 8), .inr (.inr 31)], (am_sh, am_mm U3))) 3 (fun _ => rfl) ?_
          obtain ⟨r4, U4, h22a1aa2c, h22a1aa2a⟩ := h22a1aa2
          refine ev_cal (σc := (Tw_emitSign_s0 d (U1 26 8) U3)) (fun _ => rfl) h22a1aa2c ?_
          show Ev (am_kz N X) ((d + 1), 335, 64, [some (.inr (.inr 26)), some (.inl x1), some (.inl x2), some (.inl x3), some (.inl (U1 26 8))], [.inl r4], (am_sh, am_mm U4)) R
          refine ev_br (P := r4 = 0) (σ1 := ((d + 1), 335, 71, [some (.inr (.inr 26)), some (.inl x1), some (.inl x2), some (.inl x3), some (.inl (U1 26 8))], [], (am_sh, am_mm U4))) (σ2 := ((d + 1), 335, 67, [some (.inr (.inr 26)), some (.inl x1), some (.inl x2), some (.inl x3), some (.inl (U1 26 8))], [], (am_sh, am_mm U4))) 1 (fun _ => rfl) (fun hc => ?_) (fun hc => ?_)
          · have h22a1aa2a1 := h22a1aa2a.1 hc
            refine ev_seg (σ1 := ((d + 1), 335, 8, [some (.inr (.inr 26)), some (.inl x1), some (.inl 0), some (.inl (w32 (x3 + 1))), some (.inl (U1 26 8))], [], (am_sh, am_mm U4))) 4 (fun _ => rfl) ?_
            exact ev_le (L := [some (.inr (.inr 26)), some (.inl x1), some (.inl 0), some (.inl (w32 (x3 + 1))), none]) ⟨rfl, ⟨rfl, ⟨rfl, ⟨rfl, trivial⟩⟩⟩⟩ h22a1aa2a1
          · have h22a1aa2a2 := h22a1aa2a.2 hc
            refine ev_seg (σ1 := ((d + 1), 335, 8, [some (.inr (.inr 26)), some (.inl x1), some (.inl 1), some (.inl (w32 (x3 + 1))), some (.inl (U1 26 8))], [], (am_sh, am_mm U4))) 5 (fun _ => rfl) ?_
            exact ev_le (L := [some (.inr (.inr 26)), some (.inl x1), some (.inl 1), some (.inl (w32 (x3 + 1))), none]) ⟨rfl, ⟨rfl, ⟨rfl, ⟨rfl, trivial⟩⟩⟩⟩ h22a1aa2a2
      · have h22a2 := h22a.2 (Decidable.not_not.mp hc)
        refine ev_seg (σ1 := ((d + 1), 335, 31, [some (.inr (.inr 26)), some (.inl x1), some (.inl x2), some (.inl x3), none], [.inl 45, .inr (.inr 26)], (am_sh, am_mm U1))) 2 (fun _ => rfl) ?_
        obtain ⟨r5, U5, h22a2c, h22a2a⟩ := h22a2
        refine ev_cal (σc := (Rd_isSign_s0 d 45 U1)) (fun _ => rfl) h22a2c ?_
        show Ev (am_kz N X) ((d + 1), 335, 34, [some (.inr (.inr 26)), some (.inl x1), some (.inl x2), some (.inl x3), none], [.inl r5], (am_sh, am_mm U5)) R
        refine ev_br (P := r5 = 0) (σ1 := ((d + 1), 335, 79, [some (.inr (.inr 26)), some (.inl x1), some (.inl x2), some (.inl x3), none], [], (am_sh, am_mm U5))) (σ2 := ((d + 1), 335, 37, [some (.inr (.inr 26)), some (.inl x1), some (.inl x2), some (.inl x3), none], [], (am_sh, am_mm U5))) 1 (fun _ => rfl) (fun hc => ?_) (fun hc => ?_)
        · have h22a2a1 := h22a2a.1 hc
          refine ev_seg (σ1 := ((d + 1), 335, 80, [some (.inr (.inr 26)), some (.inl x1), some (.inl x2), some (.inl x3), none], [.inl x2], (am_sh, am_mm U5))) 1 (fun _ => rfl) ?_
          rw [h22a2a1.2]
          exact ev_retz rfl rfl h22a2a1.1
        · have h22a2a2 := h22a2a.2 hc
          refine ev_seg (σ1 := ((d + 1), 335, 44, [some (.inr (.inr 26)), some (.inl x1), some (.inl x2), some (.inl x3), some (.inl (U5 26 8))], [.inr (.inr 26)], (am_sh, am_mm U5))) 4 (fun _ => rfl) ?_
          obtain ⟨U6, h22a2a2c, h22a2a2a⟩ := h22a2a2
          refine ev_cal (σc := (Rd_next_s0 d U5)) (fun _ => rfl) h22a2a2c ?_
          show Ev (am_kz N X) ((d + 1), 335, 47, [some (.inr (.inr 26)), some (.inl x1), some (.inl x2), some (.inl x3), some (.inl (U5 26 8))], [], (am_sh, am_mm U6)) R
          refine ev_seg (σ1 := ((d + 1), 335, 49, [some (.inr (.inr 26)), some (.inl x1), some (.inl x2), some (.inl x3), some (.inl (U5 26 8))], [.inl x1, .inr (.inr 26)], (am_sh, am_mm U6))) 2 (fun _ => rfl) ?_
          obtain ⟨r7, U7, h22a2a2ac, h22a2a2aa⟩ := h22a2a2a
          refine ev_cal (σc := (Rd_readProduct_s0 d x1 U6)) (fun _ => rfl) h22a2a2ac ?_
          show Ev (am_kz N X) ((d + 1), 335, 52, [some (.inr (.inr 26)), some (.inl x1), some (.inl x2), some (.inl x3), some (.inl (U5 26 8))], [.inl r7], (am_sh, am_mm U7)) R
          refine ev_br (P := r7 = 0) (σ1 := ((d + 1), 335, 71, [some (.inr (.inr 26)), some (.inl x1), some (.inl x2), some (.inl x3), some (.inl (U5 26 8))], [], (am_sh, am_mm U7))) (σ2 := ((d + 1), 335, 55, [some (.inr (.inr 26)), some (.inl x1), some (.inl x2), some (.inl x3), some (.inl (U5 26 8))], [], (am_sh, am_mm U7))) 1 (fun _ => rfl) (fun hc => ?_) (fun hc => ?_)
          · have h22a2a2aa1 := h22a2a2aa.1 hc
            refine ev_seg (σ1 := ((d + 1), 335, 8, [some (.inr (.inr 26)), some (.inl x1), some (.inl 0), some (.inl (w32 (x3 + 1))), some (.inl (U5 26 8))], [], (am_sh, am_mm U7))) 4 (fun _ => rfl) ?_
            exact ev_le (L := [some (.inr (.inr 26)), some (.inl x1), some (.inl 0), some (.inl (w32 (x3 + 1))), none]) ⟨rfl, ⟨rfl, ⟨rfl, ⟨rfl, trivial⟩⟩⟩⟩ h22a2a2aa1
          · have h22a2a2aa2 := h22a2a2aa.2 hc
            refine ev_seg (σ1 := ((d + 1), 335, 61, [some (.inr (.inr 26)), some (.inl x1), some (.inl x2), some (.inl x3), some (.inl (U5 26 8))], [.inl (U5 26 8), .inr (.inr 31)], (am_sh, am_mm U7))) 3 (fun _ => rfl) ?_
            obtain ⟨r8, U8, h22a2a2aa2c, h22a2a2aa2a⟩ := h22a2a2aa2
            refine ev_cal (σc := (Tw_emitSign_s0 d (U5 26 8) U7)) (fun _ => rfl) h22a2a2aa2c ?_
            show Ev (am_kz N X) ((d + 1), 335, 64, [some (.inr (.inr 26)), some (.inl x1), some (.inl x2), some (.inl x3), some (.inl (U5 26 8))], [.inl r8], (am_sh, am_mm U8)) R
            refine ev_br (P := r8 = 0) (σ1 := ((d + 1), 335, 71, [some (.inr (.inr 26)), some (.inl x1), some (.inl x2), some (.inl x3), some (.inl (U5 26 8))], [], (am_sh, am_mm U8))) (σ2 := ((d + 1), 335, 67, [some (.inr (.inr 26)), some (.inl x1), some (.inl x2), some (.inl x3), some (.inl (U5 26 8))], [], (am_sh, am_mm U8))) 1 (fun _ => rfl) (fun hc => ?_) (fun hc => ?_)
            · have h22a2a2aa2a1 := h22a2a2aa2a.1 hc
              refine ev_seg (σ1 := ((d + 1), 335, 8, [some (.inr (.inr 26)), some (.inl x1), some (.inl 0), some (.inl (w32 (x3 + 1))), some (.inl (U5 26 8))], [], (am_sh, am_mm U8))) 4 (fun _ => rfl) ?_
              exact ev_le (L := [some (.inr (.inr 26)), some (.inl x1), some (.inl 0), some (.inl (w32 (x3 + 1))), none]) ⟨rfl, ⟨rfl, ⟨rfl, ⟨rfl, trivial⟩⟩⟩⟩ h22a2a2aa2a1
            · have h22a2a2aa2a2 := h22a2a2aa2a.2 hc
              refine ev_seg (σ1 := ((d + 1), 335, 8, [some (.inr (.inr 26)), some (.inl x1), some (.inl 1), some (.inl (w32 (x3 + 1))), some (.inl (U5 26 8))], [], (am_sh, am_mm U8))) 5 (fun _ => rfl) ?_
              exact ev_le (L := [some (.inr (.inr 26)), some (.inl x1), some (.inl 1), some (.inl (w32 (x3 + 1))), none]) ⟨rfl, ⟨rfl, ⟨rfl, ⟨rfl, trivial⟩⟩⟩⟩ h22a2a2aa2a2
set_option maxRecDepth 8000 in
theorem Rd_opens_r0 {N : Nat} {X : Nat → Int} {d : Nat} {x1 : Int} {U : am_U} {R : Option am_V × am_M} (h : ((x1 < 7) → ∃ U1 : am_U, EvK N X (Rd_next_s0 d U) (rV U1) ∧ R = rI 1 U1) ∧ ((7 ≤ x1) → ∃ (r2 : Int) (U2 : am_U), EvK N X (Rd_refuseFor_s0 d 5 (U 26 9) U) (rI r2 U2) ∧ (r2 = 0 ∨ r2 = 1) ∧ R = rI r2 U2)) : EvK N X (Rd_opens_s0 (d + 1) x1 U) R := by
  show Ev (am_kz N X) ((d + 1), 334, 0, [some (.inr (.inr 26)), some (.inl x1)], [], (am_sh, am_mm U)) R
  refine ev_br (P := x1 < 7) (σ1 := ((d + 1), 334, 16, [some (.inr (.inr 26)), some (.inl x1)], [], (am_sh, am_mm U))) (σ2 := ((d + 1), 334, 6, [some (.inr (.inr 26)), some (.inl x1)], [], (am_sh, am_mm U))) 3 (fun _ => rfl) (fun hc => ?_) (fun hc => ?_)
  · have h1 := h.1 hc
    refine ev_seg (σ1 := ((d + 1), 334, 17, [some (.inr (.inr 26)), some (.inl x1)], [.inr (.inr 26)], (am_sh, am_mm U))) 1 (fun _ => rfl) ?_
    obtain ⟨U1, h1c, h1a⟩ := h1
    refine ev_cal (σc := (Rd_next_s0 d U)) (fun _ => rfl) h1c ?_
    show Ev (am_kz N X) ((d + 1), 334, 20, [some (.inr (.inr 26)), some (.inl x1)], [], (am_sh, am_mm U1)) R
    subst h1a
    exact ev_end 2 (fun _ => rfl)
  · have h2 := h.2 (Int.not_lt.mp hc)
    refine ev_seg (σ1 := ((d + 1), 334, 12, [some (.inr (.inr 26)), some (.inl x1)], [.inl (U 26 9), .inl 5, .inr (.inr 26)], (am_sh, am_mm U))) 4 (fun _ => rfl) ?_
    obtain ⟨r2, U2, h2c, h2a⟩ := h2
    refine ev_cal (σc := (Rd_refuseFor_s0 d 5 (U 26 9) U)) (fun _ => rfl) h2c ?_
    show Ev (am_kz N X) ((d + 1), 334, 15, [some (.inr (.inr 26)), some (.inl x1)], [.inl r2], (am_sh, am_mm U2)) R
    rw [h2a.2]
    exact ev_retz rfl rfl h2a.1
set_option maxRecDepth 8000 in
theorem Tw_emitSign_r0 {N : Nat} {X : Nat → Int} {d : Nat} {x1 : Int} {U : am_U} {R : Option am_V × am_M} (h : ∃ (r1 : Int) (U1 : am_U), EvK N X (Tw_emit_s0 d (w32 ((-100) - x1)) U) (rI r1 U1) ∧ (r1 = 0 ∨ r1 = 1) ∧ R = rI r1 U1) : EvK N X (Tw_emitSign_s0 (d + 1) x1 U) R := by
  show Ev (am_kz N X) ((d + 1), 336, 0, [some (.inr (.inr 31)), some (.inl x1)], [], (am_sh, am_mm U)) R
  refine ev_seg (σ1 := ((d + 1), 336, 5, [some (.inr (.inr 31)), some (.inl x1)], [.inl (w32 ((-100) - x1)), .inr (.inr 31)], (am_sh, am_mm U))) 4 (fun _ => rfl) ?_
  obtain ⟨r1, U1, hc, ha⟩ := h
  refine ev_cal (σc := (Tw_emit_s0 d (w32 ((-100) - x1)) U)) (fun _ => rfl) hc ?_
  show Ev (am_kz N X) ((d + 1), 336, 8, [some (.inr (.inr 31)), some (.inl x1)], [.inl r1], (am_sh, am_mm U1)) R
  rw [ha.2]
  exact ev_retz rfl rfl ha.1
set_option maxRecDepth 8000 in
theorem M_rank_r0 {N : Nat} {X : Nat → Int} {d : Nat} {x0 : Int} {U : am_U} {R : Option am_V × am_M} (h : ((x0 ≠ 21) → ((x0 ≠ 20) → ((x0 ≠ 22) → ((x0 = 17) → R = rI 4 U) ∧ ((x0 ≠ 17) → ((x0 = 18) → R = rI 4 U) ∧ ((x0 ≠ 18) → ((x0 = 19) → R = rI 4 U) ∧ ((x0 ≠ 19) → ((x0 = 24) → R = rI 4 U) ∧ ((x0 ≠ 24) → ((x0 ≠ 25) → ((x0 = 10) → R = rI 5 U) ∧ ((x0 ≠ 10) → ((x0 ≠ 11) → R = rI 6 U) ∧ ((x0 = 11) → R = rI 5 U))) ∧ ((x0 = 25) → R = rI 4 U)))))) ∧ ((x0 = 22) → R = rI 3 U)) ∧ ((x0 = 20) → R = rI 2 U)) ∧ ((x0 = 21) → R = rI 1 U)) : EvK N X (M_rank_s0 d x0 U) R := by
  show Ev (am_kz N X) (d, 337, 0, [some (.inl x0)], [], (am_sh, am_mm U)) R
  refine ev_br (P := ¬ x0 = 21) (σ1 := (d, 337, 10, [some (.inl x0)], [], (am_sh, am_mm U))) (σ2 := (d, 337, 6, [some (.inl x0)], [], (am_sh, am_mm U))) 3 (fun _ => rfl) (fun hc => ?_) (fun hc => ?_)
  · have h1 := h.1 hc
    refine ev_br (P := ¬ x0 = 20) (σ1 := (d, 337, 20, [some (.inl x0)], [], (am_sh, am_mm U))) (σ2 := (d, 337, 16, [some (.inl x0)], [], (am_sh, am_mm U))) 3 (fun _ => rfl) (fun hc => ?_) (fun hc => ?_)
    · have h11 := h1.1 hc
      refine ev_br (P := ¬ x0 = 22) (σ1 := (d, 337, 30, [some (.inl x0)], [], (am_sh, am_mm U))) (σ2 := (d, 337, 26, [some (.inl x0)], [], (am_sh, am_mm U))) 3 (fun _ => rfl) (fun hc => ?_) (fun hc => ?_)
      · have h111 := h11.1 hc
        refine ev_br (P := x0 = 17) (σ1 := (d, 337, 60, [some (.inl x0)], [], (am_sh, am_mm U))) (σ2 := (d, 337, 36, [some (.inl x0)], [], (am_sh, am_mm U))) 3 (fun _ => rfl) (fun hc => ?_) (fun hc => ?_)
        · have h1111 := h111.1 hc
          subst h1111
          exact ev_end 3 (fun _ => rfl)
        · have h1112 := h111.2 hc
          refine ev_br (P := x0 = 18) (σ1 := (d, 337, 60, [some (.inl x0)], [], (am_sh, am_mm U))) (σ2 := (d, 337, 42, [some (.inl x0)], [], (am_sh, am_mm U))) 3 (fun _ => rfl) (fun hc => ?_) (fun hc => ?_)
          · have h11121 := h1112.1 hc
            subst h11121
            exact ev_end 3 (fun _ => rfl)
          · have h11122 := h1112.2 hc
            refine ev_br (P := x0 = 19) (σ1 := (d, 337, 60, [some (.inl x0)], [], (am_sh, am_mm U))) (σ2 := (d, 337, 48, [some (.inl x0)], [], (am_sh, am_mm U))) 3 (fun _ => rfl) (fun hc => ?_) (fun hc => ?_)
            · have h111221 := h11122.1 hc
              subst h111221
              exact ev_end 3 (fun _ => rfl)
            · have h111222 := h11122.2 hc
              refine ev_br (P := x0 = 24) (σ1 := (d, 337, 60, [some (.inl x0)], [], (am_sh, am_mm U))) (σ2 := (d, 337, 54, [some (.inl x0)], [], (am_sh, am_mm U))) 3 (fun _ => rfl) (fun hc => ?_) (fun hc => ?_)
              · have h1112221 := h111222.1 hc
                subst h1112221
                exact ev_end 3 (fun _ => rfl)
              · have h1112222 := h111222.2 hc
                refine ev_br (P := ¬ x0 = 25) (σ1 := (d, 337, 64, [some (.inl x0)], [], (am_sh, am_mm U))) (σ2 := (d, 337, 60, [some (.inl x0)], [], (am_sh, am_mm U))) 3 (fun _ => rfl) (fun hc => ?_) (fun hc => ?_)
                · have h11122221 := h1112222.1 hc
                  refine ev_br (P := x0 = 10) (σ1 := (d, 337, 76, [some (.inl x0)], [], (am_sh, am_mm U))) (σ2 := (d, 337, 70, [some (.inl x0)], [], (am_sh, am_mm U))) 3 (fun _ => rfl) (fun hc => ?_) (fun hc => ?_)
                  · have h111222211 := h11122221.1 hc
                    subst h111222211
                    exact ev_end 3 (fun _ => rfl)
                  · have h111222212 := h11122221.2 hc
                    refine ev_br (P := ¬ x0 = 11) (σ1 := (d, 337, 80, [some (.inl x0)], [], (am_sh, am_mm U))) (σ2 := (d, 337, 76, [some (.inl x0)], [], (am_sh, am_mm U))) 3 (fun _ => rfl) (fun hc => ?_) (fun hc => ?_)
                    · have h1112222121 := h111222212.1 hc
                      subst h1112222121
                      exact ev_end 2 (fun _ => rfl)
                    · have h1112222122 := h111222212.2 (Decidable.not_not.mp hc)
                      subst h1112222122
                      exact ev_end 3 (fun _ => rfl)
                · have h11122222 := h1112222.2 (Decidable.not_not.mp hc)
                  subst h11122222
                  exact ev_end 3 (fun _ => rfl)
      · have h112 := h11.2 (Decidable.not_not.mp hc)
        subst h112
        exact ev_end 3 (fun _ => rfl)
    · have h12 := h1.2 (Decidable.not_not.mp hc)
      subst h12
      exact ev_end 3 (fun _ => rfl)
  · have h2 := h.2 (Decidable.not_not.mp hc)
    subst h2
    exact ev_end 3 (fun _ => rfl)
set_option maxRecDepth 8000 in
theorem St_length_m3_r0 {N : Nat} {X : Nat → Int} {d : Nat} {U : am_U} {R : Option am_V × am_M} (h : ∃ (r1 : Int) (U1 : am_U), EvK N X (St_coder_m3_s0 d U) (rI r1 U1) ∧ R = rI (am_shr 156 r1) U1) : EvK N X (St_length_m3_s0 (d + 1) U) R := by
  show Ev (am_kz N X) ((d + 1), 332, 0, [some (.inr (.inr (-3)))], [], (am_sh, am_mm U)) R
  refine ev_seg (σ1 := ((d + 1), 332, 6, [some (.inr (.inr (-3)))], [.inr (.inr (-3)), .inl 156], (am_sh, am_mm U))) 4 (fun _ => rfl) ?_
  obtain ⟨r1, U1, hc, ha⟩ := h
  refine ev_cal (σc := (St_coder_m3_s0 d U)) (fun _ => rfl) hc ?_
  show Ev (am_kz N X) ((d + 1), 332, 9, [some (.inr (.inr (-3)))], [.inl r1, .inl 156], (am_sh, am_mm U1)) R
  subst ha
  exact ev_end 2 (fun _ => rfl)
set_option maxRecDepth 8000 in
theorem St_charAt_r0 {N : Nat} {X : Nat → Int} {d : Nat} {x1 : Int} {U : am_U} {R : Option am_V × am_M} (h : ∃ (r1 : Int) (U1 : am_U), EvK N X (St_isLatin1_m3_s0 d U) (rI r1 U1) ∧ ((r1 = 0) → False) ∧ ((r1 ≠ 0) → ∃ (r2 : Int) (U2 : am_U), EvK N X (SL_charAt_s0 d x1 U1) (rI r2 U2) ∧ (0 ≤ r2 ∧ r2 < 65536) ∧ R = rI r2 U2)) : EvK N X (St_charAt_s0 (d + 1) x1 U) R := by
  show Ev (am_kz N X) ((d + 1), 338, 0, [some (.inr (.inr (-3))), some (.inl x1)], [], (am_sh, am_mm U)) R
  refine ev_seg (σ1 := ((d + 1), 338, 1, [some (.inr (.inr (-3))), some (.inl x1)], [.inr (.inr (-3))], (am_sh, am_mm U))) 1 (fun _ => rfl) ?_
  obtain ⟨r1, U1, hc, ha⟩ := h
  refine ev_cal (σc := (St_isLatin1_m3_s0 d U)) (fun _ => rfl) hc ?_
  show Ev (am_kz N X) ((d + 1), 338, 4, [some (.inr (.inr (-3))), some (.inl x1)], [.inl r1], (am_sh, am_mm U1)) R
  refine ev_br (P := r1 = 0) (σ1 := ((d + 1), 338, 16, [some (.inr (.inr (-3))), some (.inl x1)], [], (am_sh, am_mm U1))) (σ2 := ((d + 1), 338, 7, [some (.inr (.inr (-3))), some (.inl x1)], [], (am_sh, am_mm U1))) 1 (fun _ => rfl) (fun hc => ?_) (fun hc => ?_)
  · have ha1 := ha.1 hc
    exact absurd ha1 id
  · have ha2 := ha.2 hc
    refine ev_seg (σ1 := ((d + 1), 338, 12, [some (.inr (.inr (-3))), some (.inl x1)], [.inl x1, .inr (.inr (-7))], (am_sh, am_mm U1))) 3 (fun _ => rfl) ?_
    obtain ⟨r2, U2, ha2c, ha2a⟩ := ha2
    refine ev_cal (σc := (SL_charAt_s0 d x1 U1)) (fun _ => rfl) ha2c ?_
    show Ev (am_kz N X) ((d + 1), 338, 15, [some (.inr (.inr (-3))), some (.inl x1)], [.inl r2], (am_sh, am_mm U2)) R
    rw [ha2a.2]
    exact ev_retc rfl rfl ha2a.1
set_option maxRecDepth 8000 in
theorem St_coder_m2_r0 {N : Nat} {X : Nat → Int} {d : Nat} {U : am_U} {R : Option am_V × am_M} (h : R = rI 0 U) : EvK N X (St_coder_m2_s0 d U) R := by
  show Ev (am_kz N X) (d, 339, 0, [some (.inr (.inr (-2)))], [], (am_sh, am_mm U)) R
  subst h
  exact ev_end 6 (fun _ => rfl)
set_option maxRecDepth 8000 in
theorem SL_canEncode_r0 {N : Nat} {X : Nat → Int} {d : Nat} {x0 : Int} {U : am_U} {R : Option am_V × am_M} (h : ((x0 < 0) → R = rI 0 U) ∧ ((0 ≤ x0) → ((255 < x0) → R = rI 0 U) ∧ ((x0 ≤ 255) → R = rI 1 U))) : EvK N X (SL_canEncode_s0 d x0 U) R := by
  show Ev (am_kz N X) (d, 340, 0, [some (.inl x0)], [], (am_sh, am_mm U)) R
  refine ev_br (P := x0 < 0) (σ1 := (d, 340, 15, [some (.inl x0)], [], (am_sh, am_mm U))) (σ2 := (d, 340, 4, [some (.inl x0)], [], (am_sh, am_mm U))) 2 (fun _ => rfl) (fun hc => ?_) (fun hc => ?_)
  · have h1 := h.1 hc
    subst h1
    exact ev_end 2 (fun _ => rfl)
  · have h2 := h.2 (Int.not_lt.mp hc)
    refine ev_br (P := 255 < x0) (σ1 := (d, 340, 15, [some (.inl x0)], [], (am_sh, am_mm U))) (σ2 := (d, 340, 11, [some (.inl x0)], [], (am_sh, am_mm U))) 3 (fun _ => rfl) (fun hc => ?_) (fun hc => ?_)
    · have h21 := h2.1 hc
      subst h21
      exact ev_end 2 (fun _ => rfl)
    · have h22 := h2.2 (Int.not_lt.mp hc)
      subst h22
      exact ev_end 3 (fun _ => rfl)
set_option maxRecDepth 8000 in
theorem SL_indexOfChar_r0 {N : Nat} {X : Nat → Int} {d : Nat} {x1 x2 x3 : Int} {U : am_U} {R : Option am_V × am_M} (h : EvK N X (SL_indexOfChar_s7 d x1 x2 x3 ((Int32.ofInt x1).toInt8.toInt32.toInt) x2 U) R) : EvK N X (SL_indexOfChar_s0 d x1 x2 x3 U) R := by
  show Ev (am_kz N X) (d, 341, 0, [some (.inr (.inr (-6))), some (.inl x1), some (.inl x2), some (.inl x3), none, none], [], (am_sh, am_mm U)) R
  refine ev_seg (σ1 := (d, 341, 7, [some (.inr (.inr (-6))), some (.inl x1), some (.inl x2), some (.inl x3), some (.inl ((Int32.ofInt x1).toInt8.toInt32.toInt)), some (.inl x2)], [], (am_sh, am_mm U))) 5 (fun _ => rfl) ?_
  exact h
set_option maxRecDepth 8000 in
theorem SL_indexOfChar_r7 {N : Nat} {X : Nat → Int} {d : Nat} {x1 x2 x3 x4 x5 : Int} {U : am_U} {R : Option am_V × am_M} (h : ((x3 ≤ x5) → R = rI (-1) U) ∧ ((x5 < x3) → (0 ≤ x5 ∧ x5 < 14) ∧ (((am_b6 x5.toNat) ≠ x4) → EvK N X (SL_indexOfChar_s7 d x1 x2 x3 x4 (w32 (x5 + 1)) U) R) ∧ (((am_b6 x5.toNat) = x4) → R = rI x5 U))) : EvK N X (SL_indexOfChar_s7 d x1 x2 x3 x4 x5 U) R := by
  show Ev (am_kz N X) (d, 341, 7, [some (.inr (.inr (-6))), some (.inl x1), some (.inl x2), some (.inl x3), some (.inl x4), some (.inl x5)], [], (am_sh, am_mm U)) R
  refine ev_br (P := x3 ≤ x5) (σ1 := (d, 341, 31, [some (.inr (.inr (-6))), some (.inl x1), some (.inl x2), some (.inl x3), some (.inl x4), some (.inl x5)], [], (am_sh, am_mm U))) (σ2 := (d, 341, 13, [some (.inr (.inr (-6))), some (.inl x1), some (.inl x2), some (.inl x3), some (.inl x4), some (.inl x5)], [], (am_sh, am_mm U))) 3 (fun _ => rfl) (fun hc => ?_) (fun hc => ?_)
  · have h1 := h.1 hc
    subst h1
    exact ev_end 2 (fun _ => rfl)
  · have h2 := h.2 (Int.not_le.mp hc)
    refine ev_seg (σ1 := (d, 341, 16, [some (.inr (.inr (-6))), some (.inl x1), some (.inl x2), some (.inl x3), some (.inl x4), some (.inl x5)], [.inl x5, .inr (.inr (-6))], (am_sh, am_mm U))) 2 (fun _ => rfl) ?_
    refine ev_baz (f := am_b6) (n := 14) rfl (by decide) rfl h2.1 ?_
    show Ev (am_kz N X) (d, 341, 17, [some (.inr (.inr (-6))), some (.inl x1), some (.inl x2), some (.inl x3), some (.inl x4), some (.inl x5)], [.inl (am_b6 x5.toNat)], (am_sh, am_mm U)) R
    have h2a := h2.2
    refine ev_br (P := ¬ (am_b6 x5.toNat) = x4) (σ1 := (d, 341, 25, [some (.inr (.inr (-6))), some (.inl x1), some (.inl x2), some (.inl x3), some (.inl x4), some (.inl x5)], [], (am_sh, am_mm U))) (σ2 := (d, 341, 22, [some (.inr (.inr (-6))), some (.inl x1), some (.inl x2), some (.inl x3), some (.inl x4), some (.inl x5)], [], (am_sh, am_mm U))) 2 (fun _ => rfl) (fun hc => ?_) (fun hc => ?_)
    · have h2a1 := h2a.1 hc
      refine ev_seg (σ1 := (d, 341, 7, [some (.inr (.inr (-6))), some (.inl x1), some (.inl x2), some (.inl x3), some (.inl x4), some (.inl (w32 (x5 + 1)))], [], (am_sh, am_mm U))) 2 (fun _ => rfl) ?_
      exact h2a1
    · have h2a2 := h2a.2 (Decidable.not_not.mp hc)
      subst h2a2
      exact ev_end 2 (fun _ => rfl)
set_option maxRecDepth 8000 in
theorem Rd_readProduct_r0 {N : Nat} {X : Nat → Int} {d : Nat} {x1 : Int} {U : am_U} {R : Option am_V × am_M} (h : ∃ (r1 : Int) (U1 : am_U), EvK N X (Rd_readPart_s0 d x1 U) (rI r1 U1) ∧ EvK N X (Rd_readProduct_s8 (d + 1) x1 r1 0 U1) R) : EvK N X (Rd_readProduct_s0 (d + 1) x1 U) R := by
  show Ev (am_kz N X) ((d + 1), 342, 0, [some (.inr (.inr 26)), some (.inl x1), none, none, none], [], (am_sh, am_mm U)) R
  refine ev_seg (σ1 := ((d + 1), 342, 2, [some (.inr (.inr 26)), some (.inl x1), none, none, none], [.inl x1, .inr (.inr 26)], (am_sh, am_mm U))) 2 (fun _ => rfl) ?_
  obtain ⟨r1, U1, hc, ha⟩ := h
  refine ev_cal (σc := (Rd_readPart_s0 d x1 U)) (fun _ => rfl) hc ?_
  show Ev (am_kz N X) ((d + 1), 342, 5, [some (.inr (.inr 26)), some (.inl x1), none, none, none], [.inl r1], (am_sh, am_mm U1)) R
  refine ev_seg (σ1 := ((d + 1), 342, 8, [some (.inr (.inr 26)), some (.inl x1), some (.inl r1), some (.inl 0), none], [], (am_sh, am_mm U1))) 3 (fun _ => rfl) ?_
  exact ha
set_option maxRecDepth 8000 in
theorem Rd_readProduct_r8 {N : Nat} {X : Nat → Int} {d : Nat} {x1 x2 x3 : Int} {U : am_U} {R : Option am_V × am_M} (h : ((1600 ≤ x3) → (x2 = 0 ∨ x2 = 1) ∧ R = rI x2 U) ∧ ((x3 < 1600) → ((x2 = 0) → (x2 = 0 ∨ x2 = 1) ∧ R = rI x2 U) ∧ ((x2 ≠ 0) → ∃ (r1 : Int) (U1 : am_U), EvK N X (Rd_isSign_s0 d 42 U) (rI r1 U1) ∧ ((r1 ≠ 0) → ∃ U2 : am_U, EvK N X (Rd_next_s0 d U1) (rV U2) ∧ ∃ (r3 : Int) (U3 : am_U), EvK N X (Rd_readPart_s0 d x1 U2) (rI r3 U3) ∧ ((r3 = 0) → EvK N X (Rd_readProduct_s8 (d + 1) x1 0 (w32 (x3 + 1)) U3) R) ∧ ((r3 ≠ 0) → ∃ (r4 : Int) (U4 : am_U), EvK N X (Tw_emitSign_s0 d (U1 26 8) U3) (rI r4 U4) ∧ ((r4 = 0) → EvK N X (Rd_readProduct_s8 (d + 1) x1 0 (w32 (x3 + 1)) U4) R) ∧ ((r4 ≠ 0) → EvK N X (Rd_readProduct_s8 (d + 1) x1 1 (w32 (x3 + 1)) U4) R))) ∧ ((r1 = 0) → ∃ (r5 : Int) (U5 : am_U), EvK N X (Rd_isSign_s0 d 47 U1) (rI r5 U5) ∧ ((r5 ≠ 0) → ∃ U6 : am_U, EvK N X (Rd_next_s0 d U5) (rV U6) ∧ ∃ (r7 : Int) (U7 : am_U), EvK N X (Rd_readPart_s0 d x1 U6) (rI r7 U7) ∧ ((r7 = 0) → EvK N X (Rd_readProduct_s8 (d + 1) x1 0 (w32 (x3 + 1)) U7) R) ∧ ((r7 ≠ 0) → ∃ (r8 : Int) (U8 : am_U), EvK N X (Tw_emitSign_s0 d (U5 26 8) U7) (rI r8 U8) ∧ ((r8 = 0) → EvK N X (Rd_readProduct_s8 (d + 1) x1 0 (w32 (x3 + 1)) U8) R) ∧ ((r8 ≠ 0) → EvK N X (Rd_readProduct_s8 (d + 1) x1 1 (w32 (x3 + 1)) U8) R))) ∧ ((r5 = 0) → ∃ (r9 : Int) (U9 : am_U), EvK N X (Rd_isSign_s0 d 37 U5) (rI r9 U9) ∧ ((r9 = 0) → (x2 = 0 ∨ x2 = 1) ∧ R = rI x2 U9) ∧ ((r9 ≠ 0) → ∃ U10 : am_U, EvK N X (Rd_next_s0 d U9) (rV U10) ∧ ∃ (r11 : Int) (U11 : am_U), EvK N X (Rd_readPart_s0 d x1 U10) (rI r11 U11) ∧ ((r11 = 0) → EvK N X (Rd_readProduct_s8 (d + 1) x1 0 (w32 (x3 + 1)) U11) R) ∧ ((r11 ≠ 0) → ∃ (r12 : Int) (U12 : am_U), EvK N X (Tw_emitSign_s0 d (U9 26 8) U11) (rI r12 U12) ∧ ((r12 = 0) → EvK N X (Rd_readProduct_s8 (d + 1) x1 0 (w32 (x3 + 1)) U12) R) ∧ ((r12 ≠ 0) → EvK N X (Rd_readProduct_s8 (d + 1) x1 1 (w32 (x3 + 1)) U12) R)))))))) : EvK N X (Rd_readProduct_s8 (d + 1) x1 x2 x3 U) R := by
  show Ev (am_kz N X) ((d + 1), 342, 8, [some (.inr (.inr 26)), some (.inl x1), some (.inl x2), some (.inl x3), none], [], (am_sh, am_mm U)) R
  refine ev_br (P := 1600 ≤ x3) (σ1 := ((d + 1), 342, 88, [some (.inr (.inr 26)), some (.inl x1), some (.inl x2), some (.inl x3), none], [], (am_sh, am_mm U))) (σ2 := ((d + 1), 342, 15, [some (.inr (.inr 26)), some (.inl x1), some (.inl x2), some (.inl x3), none], [], (am_sh, am_mm U))) 3 (fun _ => rfl) (fun hc => ?_) (fun hc => ?_)
  · have h1 := h.1 hc
    refine ev_seg (σ1 := ((d + 1), 342, 89, [some (.inr (.inr 26)), some (.inl x1), some (.inl x2), some (.inl x3), none], [.inl x2], (am_sh, am_mm U))) 1 (fun _ => rfl) ?_
    rw [h1.2]
    exact ev_retz rfl rfl h1.1
  · have h2 := h.2 (Int.not_le.mp hc)
    refine ev_br (P := x2 = 0) (σ1 := ((d + 1), 342, 88, [some (.inr (.inr 26)), some (.inl x1), some (.inl x2), some (.inl x3), none], [], (am_sh, am_mm U))) (σ2 := ((d + 1), 342, 19, [some (.inr (.inr 26)), some (.inl x1), some (.inl x2), some (.inl x3), none], [], (am_sh, am_mm U))) 2 (fun _ => rfl) (fun hc => ?_) (fun hc => ?_)
    · have h21 := h2.1 hc
      refine ev_seg (σ1 := ((d + 1), 342, 89, [some (.inr (.inr 26)), some (.inl x1), some (.inl x2), some (.inl x3), none], [.inl x2], (am_sh, am_mm U))) 1 (fun _ => rfl) ?_
      rw [h21.2]
      exact ev_retz rfl rfl h21.1
    · have h22 := h2.2 hc
      refine ev_seg (σ1 := ((d + 1), 342, 22, [some (.inr (.inr 26)), some (.inl x1), some (.inl x2), some (.inl x3), none], [.inl 42, .inr (.inr 26)], (am_sh, am_mm U))) 2 (fun _ => rfl) ?_
      obtain ⟨r1, U1, h22c, h22a⟩ := h22
      refine ev_cal (σc := (Rd_isSign_s0 d 42 U)) (fun _ => rfl) h22c ?_
      show Ev (am_kz N X) ((d + 1), 342, 25, [some (.inr (.inr 26)), some (.inl x1), some (.inl x2), some (.inl x3), none], [.inl r1], (am_sh, am_mm U1)) R
      refine ev_br (P := ¬ r1 = 0) (σ1 := ((d + 1), 342, 46, [some (.inr (.inr 26)), some (.inl x1), some (.inl x2), some (.inl x3), none], [], (am_sh, am_mm U1))) (σ2 := ((d + 1), 342, 28, [some (.inr (.inr 26)), some (.inl x1), some (.inl x2), some (.inl x3), none], [], (am_sh, am_mm U1))) 1 (fun _ => rfl) (fun hc => ?_) (fun hc => ?_)
      · have h22a1 := h22a.1 hc
        refine ev_seg (σ1 := ((d + 1), 342, 53, [some (.inr (.inr 26)), some (.inl x1), some (.inl x2), some (.inl x3), some (.inl (U1 26 8))], [.inr (.inr 26)], (am_sh, am_mm U1))) 4 (fun _ => rfl) ?_
        obtain ⟨U2, h22a1c, h22a1a⟩ := h22a1
        refine ev_cal (σc := (Rd_next_s0 d U1)) (fun _ => rfl) h22a1c ?_
        show Ev (am_kz N X) ((d + 1), 342, 56, [some (.inr (.inr 26)), some (.inl x1), some (.inl x2), some (.inl x3), some (.inl (U1 26 8))], [], (am_sh, am_mm U2)) R
        refine ev_seg (σ1 := ((d + 1), 342, 58, [some (.inr (.inr 26)), some (.inl x1), some (.inl x2), some (.inl x3), some (.inl (U1 26 8))], [.inl x1, .inr (.inr 26)], (am_sh, am_mm U2))) 2 (fun _ => rfl) ?_
        obtain ⟨r3, U3, h22a1ac, h22a1aa⟩ := h22a1a
        refine ev_cal (σc := (Rd_readPart_s0 d x1 U2)) (fun _ => rfl) h22a1ac ?_
        show Ev (am_kz N X) ((d + 1), 342, 61, [some (.inr (.inr 26)), some (.inl x1), some (.inl x2), some (.inl x3), some (.inl (U1 26 8))], [.inl r3], (am_sh, am_mm U3)) R
        refine ev_br (P := r3 = 0) (σ1 := ((d + 1), 342, 80, [some (.inr (.inr 26)), some (.inl x1), some (.inl x2), some (.inl x3), some (.inl (U1 26 8))], [], (am_sh, am_mm U3))) (σ2 := ((d + 1), 342, 64, [some (.inr (.inr 26)), some (.inl x1), some (.inl x2), some (.inl x3), some (.inl (U1 26 8))], [], (am_sh, am_mm U3))) 1 (fun _ => rfl) (fun hc => ?_) (fun hc => ?_)
        · have h22a1aa1 := h22a1aa.1 hc
          refine ev_seg (σ1 := ((d + 1), 342, 8, [some (.inr (.inr 26)), some (.inl x1), some (.inl 0), some (.inl (w32 (x3 + 1))), some (.inl (U1 26 8))], [], (am_sh, am_mm U3))) 4 (fun _ => rfl) ?_
          exact ev_le (L := [some (.inr (.inr 26)), some (.inl x1), some (.inl 0), some (.inl (w32 (x3 + 1))), none]) ⟨rfl, ⟨rfl, ⟨rfl, ⟨rfl, trivial⟩⟩⟩⟩ h22a1aa1
        · have h22a1aa2 := h22a1aa.2 hc
          refine ev_seg (σ1 := ((d + 1), 342, 70, [some (.inr (.inr 26)), some (.inl x1), some (.inl x2), some (.inl x3), some (.inl (U1 26 8))], [.inl (U1 26 8), .inr (.inr 31)], (am_sh, am_mm U3))) 3 (fun _ => rfl) ?_
          obtain ⟨r4, U4, h22a1aa2c, h22a1aa2a⟩ := h22a1aa2
          refine ev_cal (σc := (Tw_emitSign_s0 d (U1 26 8) U3)) (fun _ => rfl) h22a1aa2c ?_
          show Ev (am_kz N X) ((d + 1), 342, 73, [some (.inr (.inr 26)), some (.inl x1), some (.inl x2), some (.inl x3), some (.inl (U1 26 8))], [.inl r4], (am_sh, am_mm U4)) R
          refine ev_br (P := r4 = 0) (σ1 := ((d + 1), 342, 80, [some (.inr (.inr 26)), some (.inl x1), some (.inl x2), some (.inl x3), some (.inl (U1 26 8))], [], (am_sh, am_mm U4))) (σ2 := ((d + 1), 342, 76, [some (.inr (.inr 26)), some (.inl x1), some (.inl x2), some (.inl x3), some (.inl (U1 26 8))], [], (am_sh, am_mm U4))) 1 (fun _ => rfl) (fun hc => ?_) (fun hc => ?_)
          · have h22a1aa2a1 := h22a1aa2a.1 hc
            refine ev_seg (σ1 := ((d + 1), 342, 8, [some (.inr (.inr 26)), some (.inl x1), some (.inl 0), some (.inl (w32 (x3 + 1))), some (.inl (U1 26 8))], [], (am_sh, am_mm U4))) 4 (fun _ => rfl) ?_
            exact ev_le (L := [some (.inr (.inr 26)), some (.inl x1), some (.inl 0), some (.inl (w32 (x3 + 1))), none]) ⟨rfl, ⟨rfl, ⟨rfl, ⟨rfl, trivial⟩⟩⟩⟩ h22a1aa2a1
          · have h22a1aa2a2 := h22a1aa2a.2 hc
            refine ev_seg (σ1 := ((d + 1), 342, 8, [some (.inr (.inr 26)), some (.inl x1), some (.inl 1), some (.inl (w32 (x3 + 1))), some (.inl (U1 26 8))], [], (am_sh, am_mm U4))) 5 (fun _ => rfl) ?_
            exact ev_le (L := [some (.inr (.inr 26)), some (.inl x1), some (.inl 1), some (.inl (w32 (x3 + 1))), none]) ⟨rfl, ⟨rfl, ⟨rfl, ⟨rfl, trivial⟩⟩⟩⟩ h22a1aa2a2
      · have h22a2 := h22a.2 (Decidable.not_not.mp hc)
        refine ev_seg (σ1 := ((d + 1), 342, 31, [some (.inr (.inr 26)), some (.inl x1), some (.inl x2), some (.inl x3), none], [.inl 47, .inr (.inr 26)], (am_sh, am_mm U1))) 2 (fun _ => rfl) ?_
        obtain ⟨r5, U5, h22a2c, h22a2a⟩ := h22a2
        refine ev_cal (σc := (Rd_isSign_s0 d 47 U1)) (fun _ => rfl) h22a2c ?_
        show Ev (am_kz N X) ((d + 1), 342, 34, [some (.inr (.inr 26)), some (.inl x1), some (.inl x2), some (.inl x3), none], [.inl r5], (am_sh, am_mm U5)) R
        refine ev_br (P := ¬ r5 = 0) (σ1 := ((d + 1), 342, 46, [some (.inr (.inr 26)), some (.inl x1), some (.inl x2), some (.inl x3), none], [], (am_sh, am_mm U5))) (σ2 := ((d + 1), 342, 37, [some (.inr (.inr 26)), some (.inl x1), some (.inl x2), some (.inl x3), none], [], (am_sh, am_mm U5))) 1 (fun _ => rfl) (fun hc => ?_) (fun hc => ?_)
        · have h22a2a1 := h22a2a.1 hc
          refine ev_seg (σ1 := ((d + 1), 342, 53, [some (.inr (.inr 26)), some (.inl x1), some (.inl x2), some (.inl x3), some (.inl (U5 26 8))], [.inr (.inr 26)], (am_sh, am_mm U5))) 4 (fun _ => rfl) ?_
          obtain ⟨U6, h22a2a1c, h22a2a1a⟩ := h22a2a1
          refine ev_cal (σc := (Rd_next_s0 d U5)) (fun _ => rfl) h22a2a1c ?_
          show Ev (am_kz N X) ((d + 1), 342, 56, [some (.inr (.inr 26)), some (.inl x1), some (.inl x2), some (.inl x3), some (.inl (U5 26 8))], [], (am_sh, am_mm U6)) R
          refine ev_seg (σ1 := ((d + 1), 342, 58, [some (.inr (.inr 26)), some (.inl x1), some (.inl x2), some (.inl x3), some (.inl (U5 26 8))], [.inl x1, .inr (.inr 26)], (am_sh, am_mm U6))) 2 (fun _ => rfl) ?_
          obtain ⟨r7, U7, h22a2a1ac, h22a2a1aa⟩ := h22a2a1a
          refine ev_cal (σc := (Rd_readPart_s0 d x1 U6)) (fun _ => rfl) h22a2a1ac ?_
          show Ev (am_kz N X) ((d + 1), 342, 61, [some (.inr (.inr 26)), some (.inl x1), some (.inl x2), some (.inl x3), some (.inl (U5 26 8))], [.inl r7], (am_sh, am_mm U7)) R
          refine ev_br (P := r7 = 0) (σ1 := ((d + 1), 342, 80, [some (.inr (.inr 26)), some (.inl x1), some (.inl x2), some (.inl x3), some (.inl (U5 26 8))], [], (am_sh, am_mm U7))) (σ2 := ((d + 1), 342, 64, [some (.inr (.inr 26)), some (.inl x1), some (.inl x2), some (.inl x3), some (.inl (U5 26 8))], [], (am_sh, am_mm U7))) 1 (fun _ => rfl) (fun hc => ?_) (fun hc => ?_)
          · have h22a2a1aa1 := h22a2a1aa.1 hc
            refine ev_seg (σ1 := ((d + 1), 342, 8, [some (.inr (.inr 26)), some (.inl x1), some (.inl 0), some (.inl (w32 (x3 + 1))), some (.inl (U5 26 8))], [], (am_sh, am_mm U7))) 4 (fun _ => rfl) ?_
            exact ev_le (L := [some (.inr (.inr 26)), some (.inl x1), some (.inl 0), some (.inl (w32 (x3 + 1))), none]) ⟨rfl, ⟨rfl, ⟨rfl, ⟨rfl, trivial⟩⟩⟩⟩ h22a2a1aa1
          · have h22a2a1aa2 := h22a2a1aa.2 hc
            refine ev_seg (σ1 := ((d + 1), 342, 70, [some (.inr (.inr 26)), some (.inl x1), some (.inl x2), some (.inl x3), some (.inl (U5 26 8))], [.inl (U5 26 8), .inr (.inr 31)], (am_sh, am_mm U7))) 3 (fun _ => rfl) ?_
            obtain ⟨r8, U8, h22a2a1aa2c, h22a2a1aa2a⟩ := h22a2a1aa2
            refine ev_cal (σc := (Tw_emitSign_s0 d (U5 26 8) U7)) (fun _ => rfl) h22a2a1aa2c ?_
            show Ev (am_kz N X) ((d + 1), 342, 73, [some (.inr (.inr 26)), some (.inl x1), some (.inl x2), some (.inl x3), some (.inl (U5 26 8))], [.inl r8], (am_sh, am_mm U8)) R
            refine ev_br (P := r8 = 0) (σ1 := ((d + 1), 342, 80, [some (.inr (.inr 26)), some (.inl x1), some (.inl x2), some (.inl x3), some (.inl (U5 26 8))], [], (am_sh, am_mm U8))) (σ2 := ((d + 1), 342, 76, [some (.inr (.inr 26)), some (.inl x1), some (.inl x2), some (.inl x3), some (.inl (U5 26 8))], [], (am_sh, am_mm U8))) 1 (fun _ => rfl) (fun hc => ?_) (fun hc => ?_)
            · have h22a2a1aa2a1 := h22a2a1aa2a.1 hc
              refine ev_seg (σ1 := ((d + 1), 342, 8, [some (.inr (.inr 26)), some (.inl x1), some (.inl 0), some (.inl (w32 (x3 + 1))), some (.inl (U5 26 8))], [], (am_sh, am_mm U8))) 4 (fun _ => rfl) ?_
              exact ev_le (L := [some (.inr (.inr 26)), some (.inl x1), some (.inl 0), some (.inl (w32 (x3 + 1))), none]) ⟨rfl, ⟨rfl, ⟨rfl, ⟨rfl, trivial⟩⟩⟩⟩ h22a2a1aa2a1
            · have h22a2a1aa2a2 := h22a2a1aa2a.2 hc
              refine ev_seg (σ1 := ((d + 1), 342, 8, [some (.inr (.inr 26)), some (.inl x1), some (.inl 1), some (.inl (w32 (x3 + 1))), some (.inl (U5 26 8))], [], (am_sh, am_mm U8))) 5 (fun _ => rfl) ?_
              exact ev_le (L := [some (.inr (.inr 26)), some (.inl x1), some (.inl 1), some (.inl (w32 (x3 + 1))), none]) ⟨rfl, ⟨rfl, ⟨rfl, ⟨rfl, trivial⟩⟩⟩⟩ h22a2a1aa2a2
        · have h22a2a2 := h22a2a.2 (Decidable.not_not.mp hc)
          refine ev_seg (σ1 := ((d + 1), 342, 40, [some (.inr (.inr 26)), some (.inl x1), some (.inl x2), some (.inl x3), none], [.inl 37, .inr (.inr 26)], (am_sh, am_mm U5))) 2 (fun _ => rfl) ?_
          obtain ⟨r9, U9, h22a2a2c, h22a2a2a⟩ := h22a2a2
          refine ev_cal (σc := (Rd_isSign_s0 d 37 U5)) (fun _ => rfl) h22a2a2c ?_
          show Ev (am_kz N X) ((d + 1), 342, 43, [some (.inr (.inr 26)), some (.inl x1), some (.inl x2), some (.inl x3), none], [.inl r9], (am_sh, am_mm U9)) R
          refine ev_br (P := r9 = 0) (σ1 := ((d + 1), 342, 88, [some (.inr (.inr 26)), some (.inl x1), some (.inl x2), some (.inl x3), none], [], (am_sh, am_mm U9))) (σ2 := ((d + 1), 342, 46, [some (.inr (.inr 26)), some (.inl x1), some (.inl x2), some (.inl x3), none], [], (am_sh, am_mm U9))) 1 (fun _ => rfl) (fun hc => ?_) (fun hc => ?_)
          · have h22a2a2a1 := h22a2a2a.1 hc
            refine ev_seg (σ1 := ((d + 1), 342, 89, [some (.inr (.inr 26)), some (.inl x1), some (.inl x2), some (.inl x3), none], [.inl x2], (am_sh, am_mm U9))) 1 (fun _ => rfl) ?_
            rw [h22a2a2a1.2]
            exact ev_retz rfl rfl h22a2a2a1.1
          · have h22a2a2a2 := h22a2a2a.2 hc
            refine ev_seg (σ1 := ((d + 1), 342, 53, [some (.inr (.inr 26)), some (.inl x1), some (.inl x2), some (.inl x3), some (.inl (U9 26 8))], [.inr (.inr 26)], (am_sh, am_mm U9))) 4 (fun _ => rfl) ?_
            obtain ⟨U10, h22a2a2a2c, h22a2a2a2a⟩ := h22a2a2a2
            refine ev_cal (σc := (Rd_next_s0 d U9)) (fun _ => rfl) h22a2a2a2c ?_
            show Ev (am_kz N X) ((d + 1), 342, 56, [some (.inr (.inr 26)), some (.inl x1), some (.inl x2), some (.inl x3), some (.inl (U9 26 8))], [], (am_sh, am_mm U10)) R
            refine ev_seg (σ1 := ((d + 1), 342, 58, [some (.inr (.inr 26)), some (.inl x1), some (.inl x2), some (.inl x3), some (.inl (U9 26 8))], [.inl x1, .inr (.inr 26)], (am_sh, am_mm U10))) 2 (fun _ => rfl) ?_
            obtain ⟨r11, U11, h22a2a2a2ac, h22a2a2a2aa⟩ := h22a2a2a2a
            refine ev_cal (σc := (Rd_readPart_s0 d x1 U10)) (fun _ => rfl) h22a2a2a2ac ?_
            show Ev (am_kz N X) ((d + 1), 342, 61, [some (.inr (.inr 26)), some (.inl x1), some (.inl x2), some (.inl x3), some (.inl (U9 26 8))], [.inl r11], (am_sh, am_mm U11)) R
            refine ev_br (P := r11 = 0) (σ1 := ((d + 1), 342, 80, [some (.inr (.inr 26)), some (.inl x1), some (.inl x2), some (.inl x3), some (.inl (U9 26 8))], [], (am_sh, am_mm U11))) (σ2 := ((d + 1), 342, 64, [some (.inr (.inr 26)), some (.inl x1), some (.inl x2), some (.inl x3), some (.inl (U9 26 8))], [], (am_sh, am_mm U11))) 1 (fun _ => rfl) (fun hc => ?_) (fun hc => ?_)
            · have h22a2a2a2aa1 := h22a2a2a2aa.1 hc
              refine ev_seg (σ1 := ((d + 1), 342, 8, [some (.inr (.inr 26)), some (.inl x1), some (.inl 0), some (.inl (w32 (x3 + 1))), some (.inl (U9 26 8))], [], (am_sh, am_mm U11))) 4 (fun _ => rfl) ?_
              exact ev_le (L := [some (.inr (.inr 26)), some (.inl x1), some (.inl 0), some (.inl (w32 (x3 + 1))), none]) ⟨rfl, ⟨rfl, ⟨rfl, ⟨rfl, trivial⟩⟩⟩⟩ h22a2a2a2aa1
            · have h22a2a2a2aa2 := h22a2a2a2aa.2 hc
              refine ev_seg (σ1 := ((d + 1), 342, 70, [some (.inr (.inr 26)), some (.inl x1), some (.inl x2), some (.inl x3), some (.inl (U9 26 8))], [.inl (U9 26 8), .inr (.inr 31)], (am_sh, am_mm U11))) 3 (fun _ => rfl) ?_
              obtain ⟨r12, U12, h22a2a2a2aa2c, h22a2a2a2aa2a⟩ := h22a2a2a2aa2
              refine ev_cal (σc := (Tw_emitSign_s0 d (U9 26 8) U11)) (fun _ => rfl) h22a2a2a2aa2c ?_
              show Ev (am_kz N X) ((d + 1), 342, 73, [some (.inr (.inr 26)), some (.inl x1), some (.inl x2), some (.inl x3), some (.inl (U9 26 8))], [.inl r12], (am_sh, am_mm U12)) R
              refine ev_br (P := r12 = 0) (σ1 := ((d + 1), 342, 80, [some (.inr (.inr 26)), some (.inl x1), some (.inl x2), some (.inl x3), some (.inl (U9 26 8))], [], (am_sh, am_mm U12))) (σ2 := ((d + 1), 342, 76, [some (.inr (.inr 26)), some (.inl x1), some (.inl x2), some (.inl x3), some (.inl (U9 26 8))], [], (am_sh, am_mm U12))) 1 (fun _ => rfl) (fun hc => ?_) (fun hc => ?_)
              · have h22a2a2a2aa2a1 := h22a2a2a2aa2a.1 hc
                refine ev_seg (σ1 := ((d + 1), 342, 8, [some (.inr (.inr 26)), some (.inl x1), some (.inl 0), some (.inl (w32 (x3 + 1))), some (.inl (U9 26 8))], [], (am_sh, am_mm U12))) 4 (fun _ => rfl) ?_
                exact ev_le (L := [some (.inr (.inr 26)), some (.inl x1), some (.inl 0), some (.inl (w32 (x3 + 1))), none]) ⟨rfl, ⟨rfl, ⟨rfl, ⟨rfl, trivial⟩⟩⟩⟩ h22a2a2a2aa2a1
              · have h22a2a2a2aa2a2 := h22a2a2a2aa2a.2 hc
                refine ev_seg (σ1 := ((d + 1), 342, 8, [some (.inr (.inr 26)), some (.inl x1), some (.inl 1), some (.inl (w32 (x3 + 1))), some (.inl (U9 26 8))], [], (am_sh, am_mm U12))) 5 (fun _ => rfl) ?_
                exact ev_le (L := [some (.inr (.inr 26)), some (.inl x1), some (.inl 1), some (.inl (w32 (x3 + 1))), none]) ⟨rfl, ⟨rfl, ⟨rfl, ⟨rfl, trivial⟩⟩⟩⟩ h22a2a2a2aa2a2
set_option maxRecDepth 8000 in
theorem St_coder_m3_r0 {N : Nat} {X : Nat → Int} {d : Nat} {U : am_U} {R : Option am_V × am_M} (h : R = rI 0 U) : EvK N X (St_coder_m3_s0 d U) R := by
  show Ev (am_kz N X) (d, 339, 0, [some (.inr (.inr (-3)))], [], (am_sh, am_mm U)) R
  subst h
  exact ev_end 6 (fun _ => rfl)
set_option maxRecDepth 8000 in
theorem St_isLatin1_m3_r0 {N : Nat} {X : Nat → Int} {d : Nat} {U : am_U} {R : Option am_V × am_M} (h : R = rI 1 U) : EvK N X (St_isLatin1_m3_s0 d U) R := by
  show Ev (am_kz N X) (d, 331, 0, [some (.inr (.inr (-3)))], [], (am_sh, am_mm U)) R
  subst h
  exact ev_end 8 (fun _ => rfl)
set_option maxRecDepth 8000 in
theorem SL_charAt_r0 {N : Nat} {X : Nat → Int} {d : Nat} {x1 : Int} {U : am_U} {R : Option am_V × am_M} (h : ∃ U1 : am_U, EvK N X (St_checkIndex_s0 d x1 156 U) (rV U1) ∧ (0 ≤ x1 ∧ x1 < 156) ∧ (0 ≤ (((Int32.ofInt (am_and (am_b7 x1.toNat) 255)).toUInt32 % 65536).toInt32.toInt) ∧ (((Int32.ofInt (am_and (am_b7 x1.toNat) 255)).toUInt32 % 65536).toInt32.toInt) < 65536) ∧ R = rI (((Int32.ofInt (am_and (am_b7 x1.toNat) 255)).toUInt32 % 65536).toInt32.toInt) U1) : EvK N X (SL_charAt_s0 (d + 1) x1 U) R := by
  show Ev (am_kz N X) ((d + 1), 343, 0, [some (.inr (.inr (-7))), some (.inl x1)], [], (am_sh, am_mm U)) R
  refine ev_seg (σ1 := ((d + 1), 343, 3, [some (.inr (.inr (-7))), some (.inl x1)], [.inl 156, .inl x1], (am_sh, am_mm U))) 3 (fun _ => rfl) ?_
  obtain ⟨U1, hc, ha⟩ := h
  refine ev_cal (σc := (St_checkIndex_s0 d x1 156 U)) (fun _ => rfl) hc ?_
  show Ev (am_kz N X) ((d + 1), 343, 6, [some (.inr (.inr (-7))), some (.inl x1)], [], (am_sh, am_mm U1)) R
  refine ev_seg (σ1 := ((d + 1), 343, 8, [some (.inr (.inr (-7))), some (.inl x1)], [.inl x1, .inr (.inr (-7))], (am_sh, am_mm U1))) 2 (fun _ => rfl) ?_
  refine ev_baz (f := am_b7) (n := 156) rfl (by decide) rfl ha.1 ?_
  show Ev (am_kz N X) ((d + 1), 343, 9, [some (.inr (.inr (-7))), some (.inl x1)], [.inl (am_b7 x1.toNat)], (am_sh, am_mm U1)) R
  have haa := ha.2
  refine ev_seg (σ1 := ((d + 1), 343, 14, [some (.inr (.inr (-7))), some (.inl x1)], [.inl (((Int32.ofInt (am_and (am_b7 x1.toNat) 255)).toUInt32 % 65536).toInt32.toInt)], (am_sh, am_mm U1))) 3 (fun _ => rfl) ?_
  rw [haa.2]
  exact ev_retc rfl rfl haa.1
set_option maxRecDepth 8000 in
theorem Rd_readPart_r0 {N : Nat} {X : Nat → Int} {d : Nat} {x1 : Int} {U : am_U} {R : Option am_V × am_M} (h : (((U 26 7) ≠ 3) → ∃ (r1 : Int) (U1 : am_U), EvK N X (Rd_isSign_s0 d 40 U) (rI r1 U1) ∧ ((r1 = 0) → (((U1 26 7) = 1) → ((U 26 8) = 0 → ∃ U2 : am_U, EvK N X (Rd_next_s0 d U1) (rV U2) ∧ ∃ (r3 : Int) (U3 : am_U), EvK N X (Tw_emitWord_s0 d (U 26 8) U2) (rI r3 U3) ∧ (r3 = 0 ∨ r3 = 1) ∧ R = rI r3 U3) ∧ ((U 26 8) = 1 → ∃ U4 : am_U, EvK N X (Rd_next_s0 d U1) (rV U4) ∧ ∃ (r5 : Int) (U5 : am_U), EvK N X (Tw_emitWord_s0 d (U 26 8) U4) (rI r5 U5) ∧ (r5 = 0 ∨ r5 = 1) ∧ R = rI r5 U5) ∧ ((U 26 8) = 2 → ∃ (r6 : Int) (U6 : am_U), EvK N X (Rd_refuseHere_s0 d U1) (rI r6 U6) ∧ (r6 = 0 ∨ r6 = 1) ∧ R = rI r6 U6) ∧ ((U 26 8) = 3 → ∃ U7 : am_U, EvK N X (Rd_next_s0 d U1) (rV U7) ∧ ∃ (r8 : Int) (U8 : am_U), EvK N X (Tw_emitWord_s0 d (U 26 8) U7) (rI r8 U8) ∧ (r8 = 0 ∨ r8 = 1) ∧ R = rI r8 U8) ∧ ((U 26 8) = 4 → ∃ (r9 : Int) (U9 : am_U), EvK N X (Rd_refuseHere_s0 d U1) (rI r9 U9) ∧ (r9 = 0 ∨ r9 = 1) ∧ R = rI r9 U9) ∧ ((U 26 8) = 5 → ∃ (r10 : Int) (U10 : am_U), EvK N X (Rd_refuseHere_s0 d U1) (rI r10 U10) ∧ (r10 = 0 ∨ r10 = 1) ∧ R = rI r10 U10) ∧ ((U 26 8) = 6 → ∃ (r11 : Int) (U11 : am_U), EvK N X (Rd_refuseHere_s0 d U1) (rI r11 U11) ∧ (r11 = 0 ∨ r11 = 1) ∧ R = rI r11 U11) ∧ ((U 26 8) = 7 → ∃ (r12 : Int) (U12 : am_U), EvK N X (Rd_refuseHere_s0 d U1) (rI r12 U12) ∧ (r12 = 0 ∨ r12 = 1) ∧ R = rI r12 U12) ∧ ((U 26 8) = 8 → ∃ (r13 : Int) (U13 : am_U), EvK N X (Rd_refuseHere_s0 d U1) (rI r13 U13) ∧ (r13 = 0 ∨ r13 = 1) ∧ R = rI r13 U13) ∧ ((U 26 8) = 9 → ∃ (r14 : Int) (U14 : am_U), EvK N X (Rd_refuseHere_s0 d U1) (rI r14 U14) ∧ (r14 = 0 ∨ r14 = 1) ∧ R = rI r14 U14) ∧ ((U 26 8) = 10 → ∃ (r15 : Int) (U15 : am_U), EvK N X (Rd_refuseHere_s0 d U1) (rI r15 U15) ∧ (r15 = 0 ∨ r15 = 1) ∧ R = rI r15 U15) ∧ ((U 26 8) = 11 → ∃ (r16 : Int) (U16 : am_U), EvK N X (Rd_refuseHere_s0 d U1) (rI r16 U16) ∧ (r16 = 0 ∨ r16 = 1) ∧ R = rI r16 U16) ∧ ((U 26 8) = 12 → ∃ (r17 : Int) (U17 : am_U), EvK N X (Rd_refuseHere_s0 d U1) (rI r17 U17) ∧ (r17 = 0 ∨ r17 = 1) ∧ R = rI r17 U17) ∧ ((U 26 8) = 13 → ∃ (r18 : Int) (U18 : am_U), EvK N X (Rd_refuseHere_s0 d U1) (rI r18 U18) ∧ (r18 = 0 ∨ r18 = 1) ∧ R = rI r18 U18) ∧ ((U 26 8) = 14 → ∃ U19 : am_U, EvK N X (Rd_next_s0 d U1) (rV U19) ∧ ∃ (r20 : Int) (U20 : am_U), EvK N X (Tw_emitWord_s0 d (U 26 8) U19) (rI r20 U20) ∧ (r20 = 0 ∨ r20 = 1) ∧ R = rI r20 U20) ∧ ((U 26 8) = 15 → ∃ U21 : am_U, EvK N X (Rd_next_s0 d U1) (rV U21) ∧ ∃ (r22 : Int) (U22 : am_U), EvK N X (Tw_emitWord_s0 d (U 26 8) U21) (rI r22 U22) ∧ (r22 = 0 ∨ r22 = 1) ∧ R = rI r22 U22) ∧ ((U 26 8) = 16 → ∃ U23 : am_U, EvK N X (Rd_next_s0 d U1) (rV U23) ∧ ∃ (r24 : Int) (U24 : am_U), EvK N X (Tw_emitWord_s0 d (U 26 8) U23) (rI r24 U24) ∧ (r24 = 0 ∨ r24 = 1) ∧ R = rI r24 U24) ∧ ((U 26 8) = 17 → ∃ (r25 : Int) (U25 : am_U), EvK N X (Rd_refuseHere_s0 d U1) (rI r25 U25) ∧ (r25 = 0 ∨ r25 = 1) ∧ R = rI r25 U25) ∧ ((U 26 8) = 18 → ∃ (r26 : Int) (U26 : am_U), EvK N X (Rd_refuseHere_s0 d U1) (rI r26 U26) ∧ (r26 = 0 ∨ r26 = 1) ∧ R = rI r26 U26) ∧ ((U 26 8) = 19 → ∃ (r27 : Int) (U27 : am_U), EvK N X (Rd_refuseHere_s0 d U1) (rI r27 U27) ∧ (r27 = 0 ∨ r27 = 1) ∧ R = rI r27 U27) ∧ ((U 26 8) = 20 → ∃ (r28 : Int) (U28 : am_U), EvK N X (Rd_refuseHere_s0 d U1) (rI r28 U28) ∧ (r28 = 0 ∨ r28 = 1) ∧ R = rI r28 U28) ∧ ((U 26 8) = 21 → ∃ (r29 : Int) (U29 : am_U), EvK N X (Rd_refuseHere_s0 d U1) (rI r29 U29) ∧ (r29 = 0 ∨ r29 = 1) ∧ R = rI r29 U29) ∧ ((U 26 8) = 22 → ∃ (r30 : Int) (U30 : am_U), EvK N X (Rd_refuseHere_s0 d U1) (rI r30 U30) ∧ (r30 = 0 ∨ r30 = 1) ∧ R = rI r30 U30) ∧ ((U 26 8) = 23 → ∃ U31 : am_U, EvK N X (Rd_next_s0 d U1) (rV U31) ∧ ∃ (r32 : Int) (U32 : am_U), EvK N X (Rd_readTwo_s0 d x1 U31) (rI r32 U32) ∧ ((r32 = 0) → R = rI 0 U32) ∧ ((r32 ≠ 0) → ∃ (r33 : Int) (U33 : am_U), EvK N X (Tw_emitWord_s0 d (U 26 8) U32) (rI r33 U33) ∧ ((r33 = 0) → R = rI 0 U33) ∧ ((r33 ≠ 0) → R = rI 1 U33))) ∧ ((U 26 8) = 24 → ∃ U34 : am_U, EvK N X (Rd_next_s0 d U1) (rV U34) ∧ ∃ (r35 : Int) (U35 : am_U), EvK N X (Rd_readTwo_s0 d x1 U34) (rI r35 U35) ∧ ((r35 = 0) → R = rI 0 U35) ∧ ((r35 ≠ 0) → ∃ (r36 : Int) (U36 : am_U), EvK N X (Tw_emitWord_s0 d (U 26 8) U35) (rI r36 U36) ∧ ((r36 = 0) → R = rI 0 U36) ∧ ((r36 ≠ 0) → R = rI 1 U36))) ∧ ((U 26 8) = 25 → ∃ U37 : am_U, EvK N X (Rd_next_s0 d U1) (rV U37) ∧ ∃ (r38 : Int) (U38 : am_U), EvK N X (Rd_readTwo_s0 d x1 U37) (rI r38 U38) ∧ ((r38 = 0) → R = rI 0 U38) ∧ ((r38 ≠ 0) → ∃ (r39 : Int) (U39 : am_U), EvK N X (Tw_emitWord_s0 d (U 26 8) U38) (rI r39 U39) ∧ ((r39 = 0) → R = rI 0 U39) ∧ ((r39 ≠ 0) → R = rI 1 U39))) ∧ (¬ (U 26 8) = 0 ∧ ¬ (U 26 8) = 1 ∧ ¬ (U 26 8) = 2 ∧ ¬ (U 26 8) = 3 ∧ ¬ (U 26 8) = 4 ∧ ¬ (U 26 8) = 5 ∧ ¬ (U 26 8) = 6 ∧ ¬ (U 26 8) = 7 ∧ ¬ (U 26 8) = 8 ∧ ¬ (U 26 8) = 9 ∧ ¬ (U 26 8) = 10 ∧ ¬ (U 26 8) = 11 ∧ ¬ (U 26 8) = 12 ∧ ¬ (U 26 8) = 13 ∧ ¬ (U 26 8) = 14 ∧ ¬ (U 26 8) = 15 ∧ ¬ (U 26 8) = 16 ∧ ¬ (U 26 8) = 17 ∧ ¬ (U 26 8) = 18 ∧ ¬ (U 26 8) = 19 ∧ ¬ (U 26 8) = 20 ∧ ¬ (U 26 8) = 21 ∧ ¬ (U 26 8) = 22 ∧ ¬ (U 26 8) = 23 ∧ ¬ (U 26 8) = 24 ∧ ¬ (U 26 8) = 25 → ∃ (r40 : Int) (U40 : am_U), EvK N X (Rd_refuseHere_s0 d U1) (rI r40 U40) ∧ (r40 = 0 ∨ r40 = 1) ∧ R = rI r40 U40)) ∧ (((U1 26 7) ≠ 1) → ∃ (r41 : Int) (U41 : am_U), EvK N X (Rd_refuseHere_s0 d U1) (rI r41 U41) ∧ (r41 = 0 ∨ r41 = 1) ∧ R = rI r41 U41)) ∧ ((r1 ≠ 0) → ∃ (r42 : Int) (U42 : am_U), EvK N X (Rd_opens_s0 d x1 U1) (rI r42 U42) ∧ ((r42 = 0) → R = rI 0 U42) ∧ ((r42 ≠ 0) → ∃ (r43 : Int) (U43 : am_U), EvK N X (Rd_readSum_s0 d (w32 (x1 + 1)) U42) (rI r43 U43) ∧ ((r43 = 0) → R = rI 0 U43) ∧ ((r43 ≠ 0) → ∃ (r44 : Int) (U44 : am_U), EvK N X (Rd_takeSign_s0 d 41 U43) (rI r44 U44) ∧ ((r44 = 0) → R = rI 0 U44) ∧ ((r44 ≠ 0) → R = rI 1 U44))))) ∧ (((U 26 7) = 3) → ∃ U45 : am_U, EvK N X (Rd_next_s0 d U) (rV U45) ∧ ∃ (r46 : Int) (U46 : am_U), EvK N X (Tw_emit_s0 d (U 26 8) U45) (rI r46 U46) ∧ (r46 = 0 ∨ r46 = 1) ∧ R = rI r46 U46)) : EvK N X (Rd_readPart_s0 (d + 1) x1 U) R := by
  show Ev (am_kz N X) ((d + 1), 344, 0, [some (.inr (.inr 26)), some (.inl x1), none], [], (am_sh, am_mm U)) R
  refine ev_br (P := ¬ (U 26 7) = 3) (σ1 := ((d + 1), 344, 26, [some (.inr (.inr 26)), some (.inl x1), some (.inl (U 26 8))], [], (am_sh, am_mm U))) (σ2 := ((d + 1), 344, 13, [some (.inr (.inr 26)), some (.inl x1), some (.inl (U 26 8))], [], (am_sh, am_mm U))) 7 (fun _ => rfl) (fun hc => ?_) (fun hc => ?_)
  · have h1 := h.1 hc
    refine ev_seg (σ1 := ((d + 1), 344, 29, [some (.inr (.inr 26)), some (.inl x1), some (.inl (U 26 8))], [.inl 40, .inr (.inr 26)], (am_sh, am_mm U))) 2 (fun _ => rfl) ?_
    obtain ⟨r1, U1, h1c, h1a⟩ := h1
    refine ev_cal (σc := (Rd_isSign_s0 d 40 U)) (fun _ => rfl) h1c ?_
    show Ev (am_kz N X) ((d + 1), 344, 32, [some (.inr (.inr 26)), some (.inl x1), some (.inl (U 26 8))], [.inl r1], (am_sh, am_mm U1)) R
    refine ev_br (P := r1 = 0) (σ1 := ((d + 1), 344, 68, [some (.inr (.inr 26)), some (.inl x1), some (.inl (U 26 8))], [], (am_sh, am_mm U1))) (σ2 := ((d + 1), 344, 35, [some (.inr (.inr 26)), some (.inl x1), some (.inl (U 26 8))], [], (am_sh, am_mm U1))) 1 (fun _ => rfl) (fun hc => ?_) (fun hc => ?_)
    · have h1a1 := h1a.1 hc
      refine ev_br (P := (U1 26 7) = 1) (σ1 := ((d + 1), 344, 81, [some (.inr (.inr 26)), some (.inl x1), some (.inl (U 26 8))], [], (am_sh, am_mm U1))) (σ2 := ((d + 1), 344, 76, [some (.inr (.inr 26)), some (.inl x1), some (.inl (U 26 8))], [], (am_sh, am_mm U1))) 4 (fun _ => rfl) (fun hc => ?_) (fun hc => ?_)
      · have h1a11 := h1a1.1 hc
        refine ev_seg (σ1 := ((d + 1), 344, 82, [some (.inr (.inr 26)), some (.inl x1), some (.inl (U 26 8))], [.inl (U 26 8)], (am_sh, am_mm U1))) 1 (fun _ => rfl) ?_
        by_cases hc : (U 26 8) = 0
        · have h1a11k0 := h1a11.1 hc
          refine ev_sw (off := 118) rfl (by rw [hc]; rfl) (pt := 200) rfl ?_
          refine ev_seg (σ1 := ((d + 1), 344, 201, [some (.inr (.inr 26)), some (.inl x1), some (.inl (U 26 8))], [.inr (.inr 26)], (am_sh, am_mm U1))) 1 (fun _ => rfl) ?_
          obtain ⟨U2, h1a11k0c, h1a11k0a⟩ := h1a11k0
          refine ev_cal (σc := (Rd_next_s0 d U1)) (fun _ => rfl) h1a11k0c ?_
          show Ev (am_kz N X) ((d + 1), 344, 204, [some (.inr (.inr 26)), some (.inl x1), some (.inl (U 26 8))], [], (am_sh, am_mm U2)) R
          refine ev_seg (σ1 := ((d + 1), 344, 209, [some (.inr (.inr 26)), some (.inl x1), some (.inl (U 26 8))], [.inl (U 26 8), .inr (.inr 31)], (am_sh, am_mm U2))) 3 (fun _ => rfl) ?_
          obtain ⟨r3, U3, h1a11k0ac, h1a11k0aa⟩ := h1a11k0a
          refine ev_cal (σc := (Tw_emitWord_s0 d (U 26 8) U2)) (fun _ => rfl) h1a11k0ac ?_
          show Ev (am_kz N X) ((d + 1), 344, 212, [some (.inr (.inr 26)), some (.inl x1), some (.inl (U 26 8))], [.inl r3], (am_sh, am_mm U3)) R
          rw [h1a11k0aa.2]
          exact ev_retz rfl rfl h1a11k0aa.1
        have nh1a110 := hc
        clear hc
        by_cases hc : (U 26 8) = 1
        · have h1a11k1 := h1a11.2.1 hc
          refine ev_sw (off := 118) rfl (by rw [hc]; rfl) (pt := 200) rfl ?_
          refine ev_seg (σ1 := ((d + 1), 344, 201, [some (.inr (.inr 26)), some (.inl x1), some (.inl (U 26 8))], [.inr (.inr 26)], (am_sh, am_mm U1))) 1 (fun _ => rfl) ?_
          obtain ⟨U4, h1a11k1c, h1a11k1a⟩ := h1a11k1
          refine ev_cal (σc := (Rd_next_s0 d U1)) (fun _ => rfl) h1a11k1c ?_
          show Ev (am_kz N X) ((d + 1), 344, 204, [some (.inr (.inr 26)), some (.inl x1), some (.inl (U 26 8))], [], (am_sh, am_mm U4)) R
          refine ev_seg (σ1 := ((d + 1), 344, 209, [some (.inr (.inr 26)), some (.inl x1), some (.inl (U 26 8))], [.inl (U 26 8), .inr (.inr 31)], (am_sh, am_mm U4))) 3 (fun _ => rfl) ?_
          obtain ⟨r5, U5, h1a11k1ac, h1a11k1aa⟩ := h1a11k1a
          refine ev_cal (σc := (Tw_emitWord_s0 d (U 26 8) U4)) (fun _ => rfl) h1a11k1ac ?_
          show Ev (am_kz N X) ((d + 1), 344, 212, [some (.inr (.inr 26)), some (.inl x1), some (.inl (U 26 8))], [.inl r5], (am_sh, am_mm U5)) R
          rw [h1a11k1aa.2]
          exact ev_retz rfl rfl h1a11k1aa.1
        have nh1a111 := hc
        clear hc
        by_cases hc : (U 26 8) = 2
        · have h1a11k2 := h1a11.2.2.1 hc
          refine ev_sw (off := 160) rfl (by rw [hc]; rfl) (pt := 242) rfl ?_
          refine ev_seg (σ1 := ((d + 1), 344, 243, [some (.inr (.inr 26)), some (.inl x1), some (.inl (U 26 8))], [.inr (.inr 26)], (am_sh, am_mm U1))) 1 (fun _ => rfl) ?_
          obtain ⟨r6, U6, h1a11k2c, h1a11k2a⟩ := h1a11k2
          refine ev_cal (σc := (Rd_refuseHere_s0 d U1)) (fun _ => rfl) h1a11k2c ?_
          show Ev (am_kz N X) ((d + 1), 344, 246, [some (.inr (.inr 26)), some (.inl x1), some (.inl (U 26 8))], [.inl r6], (am_sh, am_mm U6)) R
          rw [h1a11k2a.2]
          exact ev_retz rfl rfl h1a11k2a.1
        have nh1a112 := hc
        clear hc
        by_cases hc : (U 26 8) = 3
        · have h1a11k3 := h1a11.2.2.2.1 hc
          refine ev_sw (off := 118) rfl (by rw [hc]; rfl) (pt := 200) rfl ?_
          refine ev_seg (σ1 := ((d + 1), 344, 201, [some (.inr (.inr 26)), some (.inl x1), some (.inl (U 26 8))], [.inr (.inr 26)], (am_sh, am_mm U1))) 1 (fun _ => rfl) ?_
          obtain ⟨U7, h1a11k3c, h1a11k3a⟩ := h1a11k3
          refine ev_cal (σc := (Rd_next_s0 d U1)) (fun _ => rfl) h1a11k3c ?_
          show Ev (am_kz N X) ((d + 1), 344, 204, [some (.inr (.inr 26)), some (.inl x1), some (.inl (U 26 8))], [], (am_sh, am_mm U7)) R
          refine ev_seg (σ1 := ((d + 1), 344, 209, [some (.inr (.inr 26)), some (.inl x1), some (.inl (U 26 8))], [.inl (U 26 8), .inr (.inr 31)], (am_sh, am_mm U7))) 3 (fun _ => rfl) ?_
          obtain ⟨r8, U8, h1a11k3ac, h1a11k3aa⟩ := h1a11k3a
          refine ev_cal (σc := (Tw_emitWord_s0 d (U 26 8) U7)) (fun _ => rfl) h1a11k3ac ?_
          show Ev (am_kz N X) ((d + 1), 344, 212, [some (.inr (.inr 26)), some (.inl x1), some (.inl (U 26 8))], [.inl r8], (am_sh, am_mm U8)) R
          rw [h1a11k3aa.2]
          exact ev_retz rfl rfl h1a11k3aa.1
        have nh1a113 := hc
        clear hc
        by_cases hc : (U 26 8) = 4
        · have h1a11k4 := h1a11.2.2.2.2.1 hc
          refine ev_sw (off := 160) rfl (by rw [hc]; rfl) (pt := 242) rfl ?_
          refine ev_seg (σ1 := ((d + 1), 344, 243, [some (.inr (.inr 26)), some (.inl x1), some (.inl (U 26 8))], [.inr (.inr 26)], (am_sh, am_mm U1))) 1 (fun _ => rfl) ?_
          obtain ⟨r9, U9, h1a11k4c, h1a11k4a⟩ := h1a11k4
          refine ev_cal (σc := (Rd_refuseHere_s0 d U1)) (fun _ => rfl) h1a11k4c ?_
          show Ev (am_kz N X) ((d + 1), 344, 246, [some (.inr (.inr 26)), some (.inl x1), some (.inl (U 26 8))], [.inl r9], (am_sh, am_mm U9)) R
          rw [h1a11k4a.2]
          exact ev_retz rfl rfl h1a11k4a.1
        have nh1a114 := hc
        clear hc
        by_cases hc : (U 26 8) = 5
        · have h1a11k5 := h1a11.2.2.2.2.2.1 hc
          refine ev_sw (off := 160) rfl (by rw [hc]; rfl) (pt := 242) rfl ?_
          refine ev_seg (σ1 := ((d + 1), 344, 243, [some (.inr (.inr 26)), some (.inl x1), some (.inl (U 26 8))], [.inr (.inr 26)], (am_sh, am_mm U1))) 1 (fun _ => rfl) ?_
          obtain ⟨r10, U10, h1a11k5c, h1a11k5a⟩ := h1a11k5
          refine ev_cal (σc := (Rd_refuseHere_s0 d U1)) (fun _ => rfl) h1a11k5c ?_
          show Ev (am_kz N X) ((d + 1), 344, 246, [some (.inr (.inr 26)), some (.inl x1), some (.inl (U 26 8))], [.inl r10], (am_sh, am_mm U10)) R
          rw [h1a11k5a.2]
          exact ev_retz rfl rfl h1a11k5a.1
        have nh1a115 := hc
        clear hc
        by_cases hc : (U 26 8) = 6
        · have h1a11k6 := h1a11.2.2.2.2.2.2.1 hc
          refine ev_sw (off := 160) rfl (by rw [hc]; rfl) (pt := 242) rfl ?_
          refine ev_seg (σ1 := ((d + 1), 344, 243, [some (.inr (.inr 26)), some (.inl x1), some (.inl (U 26 8))], [.inr (.inr 26)], (am_sh, am_mm U1))) 1 (fun _ => rfl) ?_
          obtain ⟨r11, U11, h1a11k6c, h1a11k6a⟩ := h1a11k6
          refine ev_cal (σc := (Rd_refuseHere_s0 d U1)) (fun _ => rfl) h1a11k6c ?_
          show Ev (am_kz N X) ((d + 1), 344, 246, [some (.inr (.inr 26)), some (.inl x1), some (.inl (U 26 8))], [.inl r11], (am_sh, am_mm U11)) R
          rw [h1a11k6a.2]
          exact ev_retz rfl rfl h1a11k6a.1
        have nh1a116 := hc
        clear hc
        by_cases hc : (U 26 8) = 7
        · have h1a11k7 := h1a11.2.2.2.2.2.2.2.1 hc
          refine ev_sw (off := 160) rfl (by rw [hc]; rfl) (pt := 242) rfl ?_
          refine ev_seg (σ1 := ((d + 1), 344, 243, [some (.inr (.inr 26)), some (.inl x1), some (.inl (U 26 8))], [.inr (.inr 26)], (am_sh, am_mm U1))) 1 (fun _ => rfl) ?_
          obtain ⟨r12, U12, h1a11k7c, h1a11k7a⟩ := h1a11k7
          refine ev_cal (σc := (Rd_refuseHere_s0 d U1)) (fun _ => rfl) h1a11k7c ?_
          show Ev (am_kz N X) ((d + 1), 344, 246, [some (.inr (.inr 26)), some (.inl x1), some (.inl (U 26 8))], [.inl r12], (am_sh, am_mm U12)) R
          rw [h1a11k7a.2]
          exact ev_retz rfl rfl h1a11k7a.1
        have nh1a117 := hc
        clear hc
        by_cases hc : (U 26 8) = 8
        · have h1a11k8 := h1a11.2.2.2.2.2.2.2.2.1 hc
          refine ev_sw (off := 160) rfl (by rw [hc]; rfl) (pt := 242) rfl ?_
          refine ev_seg (σ1 := ((d + 1), 344, 243, [some (.inr (.inr 26)), some (.inl x1), some (.inl (U 26 8))], [.inr (.inr 26)], (am_sh, am_mm U1))) 1 (fun _ => rfl) ?_
          obtain ⟨r13, U13, h1a11k8c, h1a11k8a⟩ := h1a11k8
          refine ev_cal (σc := (Rd_refuseHere_s0 d U1)) (fun _ => rfl) h1a11k8c ?_
          show Ev (am_kz N X) ((d + 1), 344, 246, [some (.inr (.inr 26)), some (.inl x1), some (.inl (U 26 8))], [.inl r13], (am_sh, am_mm U13)) R
          rw [h1a11k8a.2]
          exact ev_retz rfl rfl h1a11k8a.1
        have nh1a118 := hc
        clear hc
        by_cases hc : (U 26 8) = 9
        · have h1a11k9 := h1a11.2.2.2.2.2.2.2.2.2.1 hc
          refine ev_sw (off := 160) rfl (by rw [hc]; rfl) (pt := 242) rfl ?_
          refine ev_seg (σ1 := ((d + 1), 344, 243, [some (.inr (.inr 26)), some (.inl x1), some (.inl (U 26 8))], [.inr (.inr 26)], (am_sh, am_mm U1))) 1 (fun _ => rfl) ?_
          obtain ⟨r14, U14, h1a11k9c, h1a11k9a⟩ := h1a11k9
          refine ev_cal (σc := (Rd_refuseHere_s0 d U1)) (fun _ => rfl) h1a11k9c ?_
          show Ev (am_kz N X) ((d + 1), 344, 246, [some (.inr (.inr 26)), some (.inl x1), some (.inl (U 26 8))], [.inl r14], (am_sh, am_mm U14)) R
          rw [h1a11k9a.2]
          exact ev_retz rfl rfl h1a11k9a.1
        have nh1a119 := hc
        clear hc
        by_cases hc : (U 26 8) = 10
        · have h1a11k10 := h1a11.2.2.2.2.2.2.2.2.2.2.1 hc
          refine ev_sw (off := 160) rfl (by rw [hc]; rfl) (pt := 242) rfl ?_
          refine ev_seg (σ1 := ((d + 1), 344, 243, [some (.inr (.inr 26)), some (.inl x1), some (.inl (U 26 8))], [.inr (.inr 26)], (am_sh, am_mm U1))) 1 (fun _ => rfl) ?_
          obtain ⟨r15, U15, h1a11k10c, h1a11k10a⟩ := h1a11k10
          refine ev_cal (σc := (Rd_refuseHere_s0 d U1)) (fun _ => rfl) h1a11k10c ?_
          show Ev (am_kz N X) ((d + 1), 344, 246, [some (.inr (.inr 26)), some (.inl x1), some (.inl (U 26 8))], [.inl r15], (am_sh, am_mm U15)) R
          rw [h1a11k10a.2]
          exact ev_retz rfl rfl h1a11k10a.1
        have nh1a1110 := hc
        clear hc
        by_cases hc : (U 26 8) = 11
        · have h1a11k11 := h1a11.2.2.2.2.2.2.2.2.2.2.2.1 hc
          refine ev_sw (off := 160) rfl (by rw [hc]; rfl) (pt := 242) rfl ?_
          refine ev_seg (σ1 := ((d + 1), 344, 243, [some (.inr (.inr 26)), some (.inl x1), some (.inl (U 26 8))], [.inr (.inr 26)], (am_sh, am_mm U1))) 1 (fun _ => rfl) ?_
          obtain ⟨r16, U16, h1a11k11c, h1a11k11a⟩ := h1a11k11
          refine ev_cal (σc := (Rd_refuseHere_s0 d U1)) (fun _ => rfl) h1a11k11c ?_
          show Ev (am_kz N X) ((d + 1), 344, 246, [some (.inr (.inr 26)), some (.inl x1), some (.inl (U 26 8))], [.inl r16], (am_sh, am_mm U16)) R
          rw [h1a11k11a.2]
          exact ev_retz rfl rfl h1a11k11a.1
        have nh1a1111 := hc
        clear hc
        by_cases hc : (U 26 8) = 12
        · have h1a11k12 := h1a11.2.2.2.2.2.2.2.2.2.2.2.2.1 hc
          refine ev_sw (off := 160) rfl (by rw [hc]; rfl) (pt := 242) rfl ?_
          refine ev_seg (σ1 := ((d + 1), 344, 243, [some (.inr (.inr 26)), some (.inl x1), some (.inl (U 26 8))], [.inr (.inr 26)], (am_sh, am_mm U1))) 1 (fun _ => rfl) ?_
          obtain ⟨r17, U17, h1a11k12c, h1a11k12a⟩ := h1a11k12
          refine ev_cal (σc := (Rd_refuseHere_s0 d U1)) (fun _ => rfl) h1a11k12c ?_
          show Ev (am_kz N X) ((d + 1), 344, 246, [some (.inr (.inr 26)), some (.inl x1), some (.inl (U 26 8))], [.inl r17], (am_sh, am_mm U17)) R
          rw [h1a11k12a.2]
          exact ev_retz rfl rfl h1a11k12a.1
        have nh1a1112 := hc
        clear hc
        by_cases hc : (U 26 8) = 13
        · have h1a11k13 := h1a11.2.2.2.2.2.2.2.2.2.2.2.2.2.1 hc
          refine ev_sw (off := 160) rfl (by rw [hc]; rfl) (pt := 242) rfl ?_
          refine ev_seg (σ1 := ((d + 1), 344, 243, [some (.inr (.inr 26)), some (.inl x1), some (.inl (U 26 8))], [.inr (.inr 26)], (am_sh, am_mm U1))) 1 (fun _ => rfl) ?_
          obtain ⟨r18, U18, h1a11k13c, h1a11k13a⟩ := h1a11k13
          refine ev_cal (σc := (Rd_refuseHere_s0 d U1)) (fun _ => rfl) h1a11k13c ?_
          show Ev (am_kz N X) ((d + 1), 344, 246, [some (.inr (.inr 26)), some (.inl x1), some (.inl (U 26 8))], [.inl r18], (am_sh, am_mm U18)) R
          rw [h1a11k13a.2]
          exact ev_retz rfl rfl h1a11k13a.1
        have nh1a1113 := hc
        clear hc
        by_cases hc : (U 26 8) = 14
        · have h1a11k14 := h1a11.2.2.2.2.2.2.2.2.2.2.2.2.2.2.1 hc
          refine ev_sw (off := 118) rfl (by rw [hc]; rfl) (pt := 200) rfl ?_
          refine ev_seg (σ1 := ((d + 1), 344, 201, [some (.inr (.inr 26)), some (.inl x1), some (.inl (U 26 8))], [.inr (.inr 26)], (am_sh, am_mm U1))) 1 (fun _ => rfl) ?_
          obtain ⟨U19, h1a11k14c, h1a11k14a⟩ := h1a11k14
          refine ev_cal (σc := (Rd_next_s0 d U1)) (fun _ => rfl) h1a11k14c ?_
          show Ev (am_kz N X) ((d + 1), 344, 204, [some (.inr (.inr 26)), some (.inl x1), some (.inl (U 26 8))], [], (am_sh, am_mm U19)) R
          refine ev_seg (σ1 := ((d + 1), 344, 209, [some (.inr (.inr 26)), some (.inl x1), some (.inl (U 26 8))], [.inl (U 26 8), .inr (.inr 31)], (am_sh, am_mm U19))) 3 (fun _ => rfl) ?_
          obtain ⟨r20, U20, h1a11k14ac, h1a11k14aa⟩ := h1a11k14a
          refine ev_cal (σc := (Tw_emitWord_s0 d (U 26 8) U19)) (fun _ => rfl) h1a11k14ac ?_
          show Ev (am_kz N X) ((d + 1), 344, 212, [some (.inr (.inr 26)), some (.inl x1), some (.inl (U 26 8))], [.inl r20], (am_sh, am_mm U20)) R
          rw [h1a11k14aa.2]
          exact ev_retz rfl rfl h1a11k14aa.1
        have nh1a1114 := hc
        clear hc
        by_cases hc : (U 26 8) = 15
        · have h1a11k15 := h1a11.2.2.2.2.2.2.2.2.2.2.2.2.2.2.2.1 hc
          refine ev_sw (off := 118) rfl (by rw [hc]; rfl) (pt := 200) rfl ?_
          refine ev_seg (σ1 := ((d + 1), 344, 201, [some (.inr (.inr 26)), some (.inl x1), some (.inl (U 26 8))], [.inr (.inr 26)], (am_sh, am_mm U1))) 1 (fun _ => rfl) ?_
          obtain ⟨U21, h1a11k15c, h1a11k15a⟩ := h1a11k15
          refine ev_cal (σc := (Rd_next_s0 d U1)) (fun _ => rfl) h1a11k15c ?_
          show Ev (am_kz N X) ((d + 1), 344, 204, [some (.inr (.inr 26)), some (.inl x1), some (.inl (U 26 8))], [], (am_sh, am_mm U21)) R
          refine ev_seg (σ1 := ((d + 1), 344, 209, [some (.inr (.inr 26)), some (.inl x1), some (.inl (U 26 8))], [.inl (U 26 8), .inr (.inr 31)], (am_sh, am_mm U21))) 3 (fun _ => rfl) ?_
          obtain ⟨r22, U22, h1a11k15ac, h1a11k15aa⟩ := h1a11k15a
          refine ev_cal (σc := (Tw_emitWord_s0 d (U 26 8) U21)) (fun _ => rfl) h1a11k15ac ?_
          show Ev (am_kz N X) ((d + 1), 344, 212, [some (.inr (.inr 26)), some (.inl x1), some (.inl (U 26 8))], [.inl r22], (am_sh, am_mm U22)) R
          rw [h1a11k15aa.2]
          exact ev_retz rfl rfl h1a11k15aa.1
        have nh1a1115 := hc
        clear hc
        by_cases hc : (U 26 8) = 16
        · have h1a11k16 := h1a11.2.2.2.2.2.2.2.2.2.2.2.2.2.2.2.2.1 hc
          refine ev_sw (off := 118) rfl (by rw [hc]; rfl) (pt := 200) rfl ?_
          refine ev_seg (σ1 := ((d + 1), 344, 201, [some (.inr (.inr 26)), some (.inl x1), some (.inl (U 26 8))], [.inr (.inr 26)], (am_sh, am_mm U1))) 1 (fun _ => rfl) ?_
          obtain ⟨U23, h1a11k16c, h1a11k16a⟩ := h1a11k16
          refine ev_cal (σc := (Rd_next_s0 d U1)) (fun _ => rfl) h1a11k16c ?_
          show Ev (am_kz N X) ((d + 1), 344, 204, [some (.inr (.inr 26)), some (.inl x1), some (.inl (U 26 8))], [], (am_sh, am_mm U23)) R
          refine ev_seg (σ1 := ((d + 1), 344, 209, [some (.inr (.inr 26)), some (.inl x1), some (.inl (U 26 8))], [.inl (U 26 8), .inr (.inr 31)], (am_sh, am_mm U23))) 3 (fun _ => rfl) ?_
          obtain ⟨r24, U24, h1a11k16ac, h1a11k16aa⟩ := h1a11k16a
          refine ev_cal (σc := (Tw_emitWord_s0 d (U 26 8) U23)) (fun _ => rfl) h1a11k16ac ?_
          show Ev (am_kz N X) ((d + 1), 344, 212, [some (.inr (.inr 26)), some (.inl x1), some (.inl (U 26 8))], [.inl r24], (am_sh, am_mm U24)) R
          rw [h1a11k16aa.2]
          exact ev_retz rfl rfl h1a11k16aa.1
        have nh1a1116 := hc
        clear hc
        by_cases hc : (U 26 8) = 17
        · have h1a11k17 := h1a11.2.2.2.2.2.2.2.2.2.2.2.2.2.2.2.2.2.1 hc
          refine ev_sw (off := 160) rfl (by rw [hc]; rfl) (pt := 242) rfl ?_
          refine ev_seg (σ1 := ((d + 1), 344, 243, [some (.inr (.inr 26)), some (.inl x1), some (.inl (U 26 8))], [.inr (.inr 26)], (am_sh, am_mm U1))) 1 (fun _ => rfl) ?_
          obtain ⟨r25, U25, h1a11k17c, h1a11k17a⟩ := h1a11k17
          refine ev_cal (σc := (Rd_refuseHere_s0 d U1)) (fun _ => rfl) h1a11k17c ?_
          show Ev (am_kz N X) ((d + 1), 344, 246, [some (.inr (.inr 26)), some (.inl x1), some (.inl (U 26 8))], [.inl r25], (am_sh, am_mm U25)) R
          rw [h1a11k17a.2]
          exact ev_retz rfl rfl h1a11k17a.1
        have nh1a1117 := hc
        clear hc
        by_cases hc : (U 26 8) = 18
        · have h1a11k18 := h1a11.2.2.2.2.2.2.2.2.2.2.2.2.2.2.2.2.2.2.1 hc
          refine ev_sw (off := 160) rfl (by rw [hc]; rfl) (pt := 242) rfl ?_
          refine ev_seg (σ1 := ((d + 1), 344, 243, [some (.inr (.inr 26)), some (.inl x1), some (.inl (U 26 8))], [.inr (.inr 26)], (am_sh, am_mm U1))) 1 (fun _ => rfl) ?_
          obtain ⟨r26, U26, h1a11k18c, h1a11k18a⟩ := h1a11k18
          refine ev_cal (σc := (Rd_refuseHere_s0 d U1)) (fun _ => rfl) h1a11k18c ?_
          show Ev (am_kz N X) ((d + 1), 344, 246, [some (.inr (.inr 26)), some (.inl x1), some (.inl (U 26 8))], [.inl r26], (am_sh, am_mm U26)) R
          rw [h1a11k18a.2]
          exact ev_retz rfl rfl h1a11k18a.1
        have nh1a1118 := hc
        clear hc
        by_cases hc : (U 26 8) = 19
        · have h1a11k19 := h1a11.2.2.2.2.2.2.2.2.2.2.2.2.2.2.2.2.2.2.2.1 hc
          refine ev_sw (off := 160) rfl (by rw [hc]; rfl) (pt := 242) rfl ?_
          refine ev_seg (σ1 := ((d + 1), 344, 243, [some (.inr (.inr 26)), some (.inl x1), some (.inl (U 26 8))], [.inr (.inr 26)], (am_sh, am_mm U1))) 1 (fun _ => rfl) ?_
          obtain ⟨r27, U27, h1a11k19c, h1a11k19a⟩ := h1a11k19
          refine ev_cal (σc := (Rd_refuseHere_s0 d U1)) (fun _ => rfl) h1a11k19c ?_
          show Ev (am_kz N X) ((d + 1), 344, 246, [some (.inr (.inr 26)), some (.inl x1), some (.inl (U 26 8))], [.inl r27], (am_sh, am_mm U27)) R
          rw [h1a11k19a.2]
          exact ev_retz rfl rfl h1a11k19a.1
        have nh1a1119 := hc
        clear hc
        by_cases hc : (U 26 8) = 20
        · have h1a11k20 := h1a11.2.2.2.2.2.2.2.2.2.2.2.2.2.2.2.2.2.2.2.2.1 hc
          refine ev_sw (off := 160) rfl (by rw [hc]; rfl) (pt := 242) rfl ?_
          refine ev_seg (σ1 := ((d + 1), 344, 243, [some (.inr (.inr 26)), some (.inl x1), some (.inl (U 26 8))], [.inr (.inr 26)], (am_sh, am_mm U1))) 1 (fun _ => rfl) ?_
          obtain ⟨r28, U28, h1a11k20c, h1a11k20a⟩ := h1a11k20
          refine ev_cal (σc := (Rd_refuseHere_s0 d U1)) (fun _ => rfl) h1a11k20c ?_
          show Ev (am_kz N X) ((d + 1), 344, 246, [some (.inr (.inr 26)), some (.inl x1), some (.inl (U 26 8))], [.inl r28], (am_sh, am_mm U28)) R
          rw [h1a11k20a.2]
          exact ev_retz rfl rfl h1a11k20a.1
        have nh1a1120 := hc
        clear hc
        by_cases hc : (U 26 8) = 21
        · have h1a11k21 := h1a11.2.2.2.2.2.2.2.2.2.2.2.2.2.2.2.2.2.2.2.2.2.1 hc
          refine ev_sw (off := 160) rfl (by rw [hc]; rfl) (pt := 242) rfl ?_
          refine ev_seg (σ1 := ((d + 1), 344, 243, [some (.inr (.inr 26)), some (.inl x1), some (.inl (U 26 8))], [.inr (.inr 26)], (am_sh, am_mm U1))) 1 (fun _ => rfl) ?_
          obtain ⟨r29, U29, h1a11k21c, h1a11k21a⟩ := h1a11k21
          refine ev_cal (σc := (Rd_refuseHere_s0 d U1)) (fun _ => rfl) h1a11k21c ?_
          show Ev (am_kz N X) ((d + 1), 344, 246, [some (.inr (.inr 26)), some (.inl x1), some (.inl (U 26 8))], [.inl r29], (am_sh, am_mm U29)) R
          rw [h1a11k21a.2]
          exact ev_retz rfl rfl h1a11k21a.1
        have nh1a1121 := hc
        clear hc
        by_cases hc : (U 26 8) = 22
        · have h1a11k22 := h1a11.2.2.2.2.2.2.2.2.2.2.2.2.2.2.2.2.2.2.2.2.2.2.1 hc
          refine ev_sw (off := 160) rfl (by rw [hc]; rfl) (pt := 242) rfl ?_
          refine ev_seg (σ1 := ((d + 1), 344, 243, [some (.inr (.inr 26)), some (.inl x1), some (.inl (U 26 8))], [.inr (.inr 26)], (am_sh, am_mm U1))) 1 (fun _ => rfl) ?_
          obtain ⟨r30, U30, h1a11k22c, h1a11k22a⟩ := h1a11k22
          refine ev_cal (σc := (Rd_refuseHere_s0 d U1)) (fun _ => rfl) h1a11k22c ?_
          show Ev (am_kz N X) ((d + 1), 344, 246, [some (.inr (.inr 26)), some (.inl x1), some (.inl (U 26 8))], [.inl r30], (am_sh, am_mm U30)) R
          rw [h1a11k22a.2]
          exact ev_retz rfl rfl h1a11k22a.1
        have nh1a1122 := hc
        clear hc
        by_cases hc : (U 26 8) = 23
        · have h1a11k23 := h1a11.2.2.2.2.2.2.2.2.2.2.2.2.2.2.2.2.2.2.2.2.2.2.2.1 hc
          refine ev_sw (off := 131) rfl (by rw [hc]; rfl) (pt := 213) rfl ?_
          refine ev_seg (σ1 := ((d + 1), 344, 214, [some (.inr (.inr 26)), some (.inl x1), some (.inl (U 26 8))], [.inr (.inr 26)], (am_sh, am_mm U1))) 1 (fun _ => rfl) ?_
          obtain ⟨U31, h1a11k23c, h1a11k23a⟩ := h1a11k23
          refine ev_cal (σc := (Rd_next_s0 d U1)) (fun _ => rfl) h1a11k23c ?_
          show Ev (am_kz N X) ((d + 1), 344, 217, [some (.inr (.inr 26)), some (.inl x1), some (.inl (U 26 8))], [], (am_sh, am_mm U31)) R
          refine ev_seg (σ1 := ((d + 1), 344, 219, [some (.inr (.inr 26)), some (.inl x1), some (.inl (U 26 8))], [.inl x1, .inr (.inr 26)], (am_sh, am_mm U31))) 2 (fun _ => rfl) ?_
          obtain ⟨r32, U32, h1a11k23ac, h1a11k23aa⟩ := h1a11k23a
          refine ev_cal (σc := (Rd_readTwo_s0 d x1 U31)) (fun _ => rfl) h1a11k23ac ?_
          show Ev (am_kz N X) ((d + 1), 344, 222, [some (.inr (.inr 26)), some (.inl x1), some (.inl (U 26 8))], [.inl r32], (am_sh, am_mm U32)) R
          refine ev_br (P := r32 = 0) (σ1 := ((d + 1), 344, 240, [some (.inr (.inr 26)), some (.inl x1), some (.inl (U 26 8))], [], (am_sh, am_mm U32))) (σ2 := ((d + 1), 344, 225, [some (.inr (.inr 26)), some (.inl x1), some (.inl (U 26 8))], [], (am_sh, am_mm U32))) 1 (fun _ => rfl) (fun hc => ?_) (fun hc => ?_)
          · have h1a11k23aa1 := h1a11k23aa.1 hc
            subst h1a11k23aa1
            exact ev_end 2 (fun _ => rfl)
          · have h1a11k23aa2 := h1a11k23aa.2 hc
            refine ev_seg (σ1 := ((d + 1), 344, 230, [some (.inr (.inr 26)), some (.inl x1), some (.inl (U 26 8))], [.inl (U 26 8), .inr (.inr 31)], (am_sh, am_mm U32))) 3 (fun _ => rfl) ?_
            obtain ⟨r33, U33, h1a11k23aa2c, h1a11k23aa2a⟩ := h1a11k23aa2
            refine ev_cal (σc := (Tw_emitWord_s0 d (U 26 8) U32)) (fun _ => rfl) h1a11k23aa2c ?_
            show Ev (am_kz N X) ((d + 1), 344, 233, [some (.inr (.inr 26)), some (.inl x1), some (.inl (U 26 8))], [.inl r33], (am_sh, am_mm U33)) R
            refine ev_br (P := r33 = 0) (σ1 := ((d + 1), 344, 240, [some (.inr (.inr 26)), some (.inl x1), some (.inl (U 26 8))], [], (am_sh, am_mm U33))) (σ2 := ((d + 1), 344, 236, [some (.inr (.inr 26)), some (.inl x1), some (.inl (U 26 8))], [], (am_sh, am_mm U33))) 1 (fun _ => rfl) (fun hc => ?_) (fun hc => ?_)
            · have h1a11k23aa2a1 := h1a11k23aa2a.1 hc
              subst h1a11k23aa2a1
              exact ev_end 2 (fun _ => rfl)
            · have h1a11k23aa2a2 := h1a11k23aa2a.2 hc
              subst h1a11k23aa2a2
              exact ev_end 3 (fun _ => rfl)
        have nh1a1123 := hc
        clear hc
        by_cases hc : (U 26 8) = 24
        · have h1a11k24 := h1a11.2.2.2.2.2.2.2.2.2.2.2.2.2.2.2.2.2.2.2.2.2.2.2.2.1 hc
          refine ev_sw (off := 131) rfl (by rw [hc]; rfl) (pt := 213) rfl ?_
          refine ev_seg (σ1 := ((d + 1), 344, 214, [some (.inr (.inr 26)), some (.inl x1), some (.inl (U 26 8))], [.inr (.inr 26)], (am_sh, am_mm U1))) 1 (fun _ => rfl) ?_
          obtain ⟨U34, h1a11k24c, h1a11k24a⟩ := h1a11k24
          refine ev_cal (σc := (Rd_next_s0 d U1)) (fun _ => rfl) h1a11k24c ?_
          show Ev (am_kz N X) ((d + 1), 344, 217, [some (.inr (.inr 26)), some (.inl x1), some (.inl (U 26 8))], [], (am_sh, am_mm U34)) R
          refine ev_seg (σ1 := ((d + 1), 344, 219, [some (.inr (.inr 26)), some (.inl x1), some (.inl (U 26 8))], [.inl x1, .inr (.inr 26)], (am_sh, am_mm U34))) 2 (fun _ => rfl) ?_
          obtain ⟨r35, U35, h1a11k24ac, h1a11k24aa⟩ := h1a11k24a
          refine ev_cal (σc := (Rd_readTwo_s0 d x1 U34)) (fun _ => rfl) h1a11k24ac ?_
          show Ev (am_kz N X) ((d + 1), 344, 222, [some (.inr (.inr 26)), some (.inl x1), some (.inl (U 26 8))], [.inl r35], (am_sh, am_mm U35)) R
          refine ev_br (P := r35 = 0) (σ1 := ((d + 1), 344, 240, [some (.inr (.inr 26)), some (.inl x1), some (.inl (U 26 8))], [], (am_sh, am_mm U35))) (σ2 := ((d + 1), 344, 225, [some (.inr (.inr 26)), some (.inl x1), some (.inl (U 26 8))], [], (am_sh, am_mm U35))) 1 (fun _ => rfl) (fun hc => ?_) (fun hc => ?_)
          · have h1a11k24aa1 := h1a11k24aa.1 hc
            subst h1a11k24aa1
            exact ev_end 2 (fun _ => rfl)
          · have h1a11k24aa2 := h1a11k24aa.2 hc
            refine ev_seg (σ1 := ((d + 1), 344, 230, [some (.inr (.inr 26)), some (.inl x1), some (.inl (U 26 8))], [.inl (U 26 8), .inr (.inr 31)], (am_sh, am_mm U35))) 3 (fun _ => rfl) ?_
            obtain ⟨r36, U36, h1a11k24aa2c, h1a11k24aa2a⟩ := h1a11k24aa2
            refine ev_cal (σc := (Tw_emitWord_s0 d (U 26 8) U35)) (fun _ => rfl) h1a11k24aa2c ?_
            show Ev (am_kz N X) ((d + 1), 344, 233, [some (.inr (.inr 26)), some (.inl x1), some (.inl (U 26 8))], [.inl r36], (am_sh, am_mm U36)) R
            refine ev_br (P := r36 = 0) (σ1 := ((d + 1), 344, 240, [some (.inr (.inr 26)), some (.inl x1), some (.inl (U 26 8))], [], (am_sh, am_mm U36))) (σ2 := ((d + 1), 344, 236, [some (.inr (.inr 26)), some (.inl x1), some (.inl (U 26 8))], [], (am_sh, am_mm U36))) 1 (fun _ => rfl) (fun hc => ?_) (fun hc => ?_)
            · have h1a11k24aa2a1 := h1a11k24aa2a.1 hc
              subst h1a11k24aa2a1
              exact ev_end 2 (fun _ => rfl)
            · have h1a11k24aa2a2 := h1a11k24aa2a.2 hc
              subst h1a11k24aa2a2
              exact ev_end 3 (fun _ => rfl)
        have nh1a1124 := hc
        clear hc
        by_cases hc : (U 26 8) = 25
        · have h1a11k25 := h1a11.2.2.2.2.2.2.2.2.2.2.2.2.2.2.2.2.2.2.2.2.2.2.2.2.2.1 hc
          refine ev_sw (off := 131) rfl (by rw [hc]; rfl) (pt := 213) rfl ?_
          refine ev_seg (σ1 := ((d + 1), 344, 214, [some (.inr (.inr 26)), some (.inl x1), some (.inl (U 26 8))], [.inr (.inr 26)], (am_sh, am_mm U1))) 1 (fun _ => rfl) ?_
          obtain ⟨U37, h1a11k25c, h1a11k25a⟩ := h1a11k25
          refine ev_cal (σc := (Rd_next_s0 d U1)) (fun _ => rfl) h1a11k25c ?_
          show Ev (am_kz N X) ((d + 1), 344, 217, [some (.inr (.inr 26)), some (.inl x1), some (.inl (U 26 8))], [], (am_sh, am_mm U37)) R
          refine ev_seg (σ1 := ((d + 1), 344, 219, [some (.inr (.inr 26)), some (.inl x1), some (.inl (U 26 8))], [.inl x1, .inr (.inr 26)], (am_sh, am_mm U37))) 2 (fun _ => rfl) ?_
          obtain ⟨r38, U38, h1a11k25ac, h1a11k25aa⟩ := h1a11k25a
          refine ev_cal (σc := (Rd_readTwo_s0 d x1 U37)) (fun _ => rfl) h1a11k25ac ?_
          show Ev (am_kz N X) ((d + 1), 344, 222, [some (.inr (.inr 26)), some (.inl x1), some (.inl (U 26 8))], [.inl r38], (am_sh, am_mm U38)) R
          refine ev_br (P := r38 = 0) (σ1 := ((d + 1), 344, 240, [some (.inr (.inr 26)), some (.inl x1), some (.inl (U 26 8))], [], (am_sh, am_mm U38))) (σ2 := ((d + 1), 344, 225, [some (.inr (.inr 26)), some (.inl x1), some (.inl (U 26 8))], [], (am_sh, am_mm U38))) 1 (fun _ => rfl) (fun hc => ?_) (fun hc => ?_)
          · have h1a11k25aa1 := h1a11k25aa.1 hc
            subst h1a11k25aa1
            exact ev_end 2 (fun _ => rfl)
          · have h1a11k25aa2 := h1a11k25aa.2 hc
            refine ev_seg (σ1 := ((d + 1), 344, 230, [some (.inr (.inr 26)), some (.inl x1), some (.inl (U 26 8))], [.inl (U 26 8), .inr (.inr 31)], (am_sh, am_mm U38))) 3 (fun _ => rfl) ?_
            obtain ⟨r39, U39, h1a11k25aa2c, h1a11k25aa2a⟩ := h1a11k25aa2
            refine ev_cal (σc := (Tw_emitWord_s0 d (U 26 8) U38)) (fun _ => rfl) h1a11k25aa2c ?_
            show Ev (am_kz N X) ((d + 1), 344, 233, [some (.inr (.inr 26)), some (.inl x1), some (.inl (U 26 8))], [.inl r39], (am_sh, am_mm U39)) R
            refine ev_br (P := r39 = 0) (σ1 := ((d + 1), 344, 240, [some (.inr (.inr 26)), some (.inl x1), some (.inl (U 26 8))], [], (am_sh, am_mm U39))) (σ2 := ((d + 1), 344, 236, [some (.inr (.inr 26)), some (.inl x1), some (.inl (U 26 8))], [], (am_sh, am_mm U39))) 1 (fun _ => rfl) (fun hc => ?_) (fun hc => ?_)
            · have h1a11k25aa2a1 := h1a11k25aa2a.1 hc
              subst h1a11k25aa2a1
              exact ev_end 2 (fun _ => rfl)
            · have h1a11k25aa2a2 := h1a11k25aa2a.2 hc
              subst h1a11k25aa2a2
              exact ev_end 3 (fun _ => rfl)
        have nh1a1125 := hc
        clear hc
        have h1a11kd := h1a11.2.2.2.2.2.2.2.2.2.2.2.2.2.2.2.2.2.2.2.2.2.2.2.2.2.2 ⟨nh1a110, nh1a111, nh1a112, nh1a113, nh1a114, nh1a115, nh1a116, nh1a117, nh1a118, nh1a119, nh1a1110, nh1a1111, nh1a1112, nh1a1113, nh1a1114, nh1a1115, nh1a1116, nh1a1117, nh1a1118, nh1a1119, nh1a1120, nh1a1121, nh1a1122, nh1a1123, nh1a1124, nh1a1125⟩
        refine ev_sw (off := 160) rfl (if_pos (by omega)) (pt := 242) rfl ?_
        refine ev_seg (σ1 := ((d + 1), 344, 243, [some (.inr (.inr 26)), some (.inl x1), some (.inl (U 26 8))], [.inr (.inr 26)], (am_sh, am_mm U1))) 1 (fun _ => rfl) ?_
        obtain ⟨r40, U40, h1a11kdc, h1a11kda⟩ := h1a11kd
        refine ev_cal (σc := (Rd_refuseHere_s0 d U1)) (fun _ => rfl) h1a11kdc ?_
        show Ev (am_kz N X) ((d + 1), 344, 246, [some (.inr (.inr 26)), some (.inl x1), some (.inl (U 26 8))], [.inl r40], (am_sh, am_mm U40)) R
        rw [h1a11kda.2]
        exact ev_retz rfl rfl h1a11kda.1
      · have h1a12 := h1a1.2 hc
        refine ev_seg (σ1 := ((d + 1), 344, 77, [some (.inr (.inr 26)), some (.inl x1), some (.inl (U 26 8))], [.inr (.inr 26)], (am_sh, am_mm U1))) 1 (fun _ => rfl) ?_
        obtain ⟨r41, U41, h1a12c, h1a12a⟩ := h1a12
        refine ev_cal (σc := (Rd_refuseHere_s0 d U1)) (fun _ => rfl) h1a12c ?_
        show Ev (am_kz N X) ((d + 1), 344, 80, [some (.inr (.inr 26)), some (.inl x1), some (.inl (U 26 8))], [.inl r41], (am_sh, am_mm U41)) R
        rw [h1a12a.2]
        exact ev_retz rfl rfl h1a12a.1
    · have h1a2 := h1a.2 hc
      refine ev_seg (σ1 := ((d + 1), 344, 37, [some (.inr (.inr 26)), some (.inl x1), some (.inl (U 26 8))], [.inl x1, .inr (.inr 26)], (am_sh, am_mm U1))) 2 (fun _ => rfl) ?_
      obtain ⟨r42, U42, h1a2c, h1a2a⟩ := h1a2
      refine ev_cal (σc := (Rd_opens_s0 d x1 U1)) (fun _ => rfl) h1a2c ?_
      show Ev (am_kz N X) ((d + 1), 344, 40, [some (.inr (.inr 26)), some (.inl x1), some (.inl (U 26 8))], [.inl r42], (am_sh, am_mm U42)) R
      refine ev_br (P := r42 = 0) (σ1 := ((d + 1), 344, 66, [some (.inr (.inr 26)), some (.inl x1), some (.inl (U 26 8))], [], (am_sh, am_mm U42))) (σ2 := ((d + 1), 344, 43, [some (.inr (.inr 26)), some (.inl x1), some (.inl (U 26 8))], [], (am_sh, am_mm U42))) 1 (fun _ => rfl) (fun hc => ?_) (fun hc => ?_)
      · have h1a2a1 := h1a2a.1 hc
        subst h1a2a1
        exact ev_end 2 (fun _ => rfl)
      · have h1a2a2 := h1a2a.2 hc
        refine ev_seg (σ1 := ((d + 1), 344, 47, [some (.inr (.inr 26)), some (.inl x1), some (.inl (U 26 8))], [.inl (w32 (x1 + 1)), .inr (.inr 26)], (am_sh, am_mm U42))) 4 (fun _ => rfl) ?_
        obtain ⟨r43, U43, h1a2a2c, h1a2a2a⟩ := h1a2a2
        refine ev_cal (σc := (Rd_readSum_s0 d (w32 (x1 + 1)) U42)) (fun _ => rfl) h1a2a2c ?_
        show Ev (am_kz N X) ((d + 1), 344, 50, [some (.inr (.inr 26)), some (.inl x1), some (.inl (U 26 8))], [.inl r43], (am_sh, am_mm U43)) R
        refine ev_br (P := r43 = 0) (σ1 := ((d + 1), 344, 66, [some (.inr (.inr 26)), some (.inl x1), some (.inl (U 26 8))], [], (am_sh, am_mm U43))) (σ2 := ((d + 1), 344, 53, [some (.inr (.inr 26)), some (.inl x1), some (.inl (U 26 8))], [], (am_sh, am_mm U43))) 1 (fun _ => rfl) (fun hc => ?_) (fun hc => ?_)
        · have h1a2a2a1 := h1a2a2a.1 hc
          subst h1a2a2a1
          exact ev_end 2 (fun _ => rfl)
        · have h1a2a2a2 := h1a2a2a.2 hc
          refine ev_seg (σ1 := ((d + 1), 344, 56, [some (.inr (.inr 26)), some (.inl x1), some (.inl (U 26 8))], [.inl 41, .inr (.inr 26)], (am_sh, am_mm U43))) 2 (fun _ => rfl) ?_
          obtain ⟨r44, U44, h1a2a2a2c, h1a2a2a2a⟩ := h1a2a2a2
          refine ev_cal (σc := (Rd_takeSign_s0 d 41 U43)) (fun _ => rfl) h1a2a2a2c ?_
          show Ev (am_kz N X) ((d + 1), 344, 59, [some (.inr (.inr 26)), some (.inl x1), some (.inl (U 26 8))], [.inl r44], (am_sh, am_mm U44)) R
          refine ev_br (P := r44 = 0) (σ1 := ((d + 1), 344, 66, [some (.inr (.inr 26)), some (.inl x1), some (.inl (U 26 8))], [], (am_sh, am_mm U44))) (σ2 := ((d + 1), 344, 62, [some (.inr (.inr 26)), some (.inl x1), some (.inl (U 26 8))], [], (am_sh, am_mm U44))) 1 (fun _ => rfl) (fun hc => ?_) (fun hc => ?_)
          · have h1a2a2a2a1 := h1a2a2a2a.1 hc
            subst h1a2a2a2a1
            exact ev_end 2 (fun _ => rfl)
          · have h1a2a2a2a2 := h1a2a2a2a.2 hc
            subst h1a2a2a2a2
            exact ev_end 3 (fun _ => rfl)
  · have h2 := h.2 (Decidable.not_not.mp hc)
    refine ev_seg (σ1 := ((d + 1), 344, 14, [some (.inr (.inr 26)), some (.inl x1), some (.inl (U 26 8))], [.inr (.inr 26)], (am_sh, am_mm U))) 1 (fun _ => rfl) ?_
    obtain ⟨U45, h2c, h2a⟩ := h2
    refine ev_cal (σc := (Rd_next_s0 d U)) (fun _ => rfl) h2c ?_
    show Ev (am_kz N X) ((d + 1), 344, 17, [some (.inr (.inr 26)), some (.inl x1), some (.inl (U 26 8))], [], (am_sh, am_mm U45)) R
    refine ev_seg (σ1 := ((d + 1), 344, 22, [some (.inr (.inr 26)), some (.inl x1), some (.inl (U 26 8))], [.inl (U 26 8), .inr (.inr 31)], (am_sh, am_mm U45))) 3 (fun _ => rfl) ?_
    obtain ⟨r46, U46, h2ac, h2aa⟩ := h2a
    refine ev_cal (σc := (Tw_emit_s0 d (U 26 8) U45)) (fun _ => rfl) h2ac ?_
    show Ev (am_kz N X) ((d + 1), 344, 25, [some (.inr (.inr 26)), some (.inl x1), some (.inl (U 26 8))], [.inl r46], (am_sh, am_mm U46)) R
    rw [h2aa.2]
    exact ev_retz rfl rfl h2aa.1
set_option maxRecDepth 8000 in
theorem St_checkIndex_r0 {N : Nat} {X : Nat → Int} {d : Nat} {x0 x1 : Int} {U : am_U} {R : Option am_V × am_M} (h : ∃ (r1 : Int) (U1 : am_U), EvK N X (Pc_checkIndex_s0 d x0 x1 U) (rI r1 U1) ∧ R = rV U1) : EvK N X (St_checkIndex_s0 (d + 1) x0 x1 U) R := by
  show Ev (am_kz N X) ((d + 1), 345, 0, [some (.inl x0), some (.inl x1)], [], (am_sh, am_mm U)) R
  refine ev_seg (σ1 := ((d + 1), 345, 5, [some (.inl x0), some (.inl x1)], [.inr (.inr (-8)), .inl x1, .inl x0], (am_sh, am_mm U))) 3 (fun _ => rfl) ?_
  obtain ⟨r1, U1, hc, ha⟩ := h
  refine ev_cal (σc := (Pc_checkIndex_s0 d x0 x1 U)) (fun _ => rfl) hc ?_
  show Ev (am_kz N X) ((d + 1), 345, 8, [some (.inl x0), some (.inl x1)], [.inl r1], (am_sh, am_mm U1)) R
  subst ha
  exact ev_end 2 (fun _ => rfl)
set_option maxRecDepth 8000 in
theorem Rd_readTwo_r0 {N : Nat} {X : Nat → Int} {d : Nat} {x1 : Int} {U : am_U} {R : Option am_V × am_M} (h : ∃ (r1 : Int) (U1 : am_U), EvK N X (Rd_isSign_s0 d 40 U) (rI r1 U1) ∧ ((r1 ≠ 0) → ∃ (r2 : Int) (U2 : am_U), EvK N X (Rd_opens_s0 d x1 U1) (rI r2 U2) ∧ ((r2 = 0) → R = rI 0 U2) ∧ ((r2 ≠ 0) → ∃ (r3 : Int) (U3 : am_U), EvK N X (Rd_readSum_s0 d (w32 (x1 + 1)) U2) (rI r3 U3) ∧ ((r3 = 0) → R = rI 0 U3) ∧ ((r3 ≠ 0) → ∃ (r4 : Int) (U4 : am_U), EvK N X (Rd_takeSign_s0 d 44 U3) (rI r4 U4) ∧ ((r4 = 0) → R = rI 0 U4) ∧ ((r4 ≠ 0) → ∃ (r5 : Int) (U5 : am_U), EvK N X (Rd_readSum_s0 d (w32 (x1 + 1)) U4) (rI r5 U5) ∧ ((r5 = 0) → R = rI 0 U5) ∧ ((r5 ≠ 0) → ∃ (r6 : Int) (U6 : am_U), EvK N X (Rd_takeSign_s0 d 41 U5) (rI r6 U6) ∧ ((r6 = 0) → R = rI 0 U6) ∧ ((r6 ≠ 0) → R = rI 1 U6)))))) ∧ ((r1 = 0) → ∃ (r7 : Int) (U7 : am_U), EvK N X (Rd_refuseHere_s0 d U1) (rI r7 U7) ∧ (r7 = 0 ∨ r7 = 1) ∧ R = rI r7 U7)) : EvK N X (Rd_readTwo_s0 (d + 1) x1 U) R := by
  show Ev (am_kz N X) ((d + 1), 346, 0, [some (.inr (.inr 26)), some (.inl x1)], [], (am_sh, am_mm U)) R
  refine ev_seg (σ1 := ((d + 1), 346, 3, [some (.inr (.inr 26)), some (.inl x1)], [.inl 40, .inr (.inr 26)], (am_sh, am_mm U))) 2 (fun _ => rfl) ?_
  obtain ⟨r1, U1, hc, ha⟩ := h
  refine ev_cal (σc := (Rd_isSign_s0 d 40 U)) (fun _ => rfl) hc ?_
  show Ev (am_kz N X) ((d + 1), 346, 6, [some (.inr (.inr 26)), some (.inl x1)], [.inl r1], (am_sh, am_mm U1)) R
  refine ev_br (P := ¬ r1 = 0) (σ1 := ((d + 1), 346, 14, [some (.inr (.inr 26)), some (.inl x1)], [], (am_sh, am_mm U1))) (σ2 := ((d + 1), 346, 9, [some (.inr (.inr 26)), some (.inl x1)], [], (am_sh, am_mm U1))) 1 (fun _ => rfl) (fun hc => ?_) (fun hc => ?_)
  · have ha1 := ha.1 hc
    refine ev_seg (σ1 := ((d + 1), 346, 16, [some (.inr (.inr 26)), some (.inl x1)], [.inl x1, .inr (.inr 26)], (am_sh, am_mm U1))) 2 (fun _ => rfl) ?_
    obtain ⟨r2, U2, ha1c, ha1a⟩ := ha1
    refine ev_cal (σc := (Rd_opens_s0 d x1 U1)) (fun _ => rfl) ha1c ?_
    show Ev (am_kz N X) ((d + 1), 346, 19, [some (.inr (.inr 26)), some (.inl x1)], [.inl r2], (am_sh, am_mm U2)) R
    refine ev_br (P := r2 = 0) (σ1 := ((d + 1), 346, 64, [some (.inr (.inr 26)), some (.inl x1)], [], (am_sh, am_mm U2))) (σ2 := ((d + 1), 346, 22, [some (.inr (.inr 26)), some (.inl x1)], [], (am_sh, am_mm U2))) 1 (fun _ => rfl) (fun hc => ?_) (fun hc => ?_)
    · have ha1a1 := ha1a.1 hc
      subst ha1a1
      exact ev_end 2 (fun _ => rfl)
    · have ha1a2 := ha1a.2 hc
      refine ev_seg (σ1 := ((d + 1), 346, 26, [some (.inr (.inr 26)), some (.inl x1)], [.inl (w32 (x1 + 1)), .inr (.inr 26)], (am_sh, am_mm U2))) 4 (fun _ => rfl) ?_
      obtain ⟨r3, U3, ha1a2c, ha1a2a⟩ := ha1a2
      refine ev_cal (σc := (Rd_readSum_s0 d (w32 (x1 + 1)) U2)) (fun _ => rfl) ha1a2c ?_
      show Ev (am_kz N X) ((d + 1), 346, 29, [some (.inr (.inr 26)), some (.inl x1)], [.inl r3], (am_sh, am_mm U3)) R
      refine ev_br (P := r3 = 0) (σ1 := ((d + 1), 346, 64, [some (.inr (.inr 26)), some (.inl x1)], [], (am_sh, am_mm U3))) (σ2 := ((d + 1), 346, 32, [some (.inr (.inr 26)), some (.inl x1)], [], (am_sh, am_mm U3))) 1 (fun _ => rfl) (fun hc => ?_) (fun hc => ?_)
      · have ha1a2a1 := ha1a2a.1 hc
        subst ha1a2a1
        exact ev_end 2 (fun _ => rfl)
      · have ha1a2a2 := ha1a2a.2 hc
        refine ev_seg (σ1 := ((d + 1), 346, 35, [some (.inr (.inr 26)), some (.inl x1)], [.inl 44, .inr (.inr 26)], (am_sh, am_mm U3))) 2 (fun _ => rfl) ?_
        obtain ⟨r4, U4, ha1a2a2c, ha1a2a2a⟩ := ha1a2a2
        refine ev_cal (σc := (Rd_takeSign_s0 d 44 U3)) (fun _ => rfl) ha1a2a2c ?_
        show Ev (am_kz N X) ((d + 1), 346, 38, [some (.inr (.inr 26)), some (.inl x1)], [.inl r4], (am_sh, am_mm U4)) R
        refine ev_br (P := r4 = 0) (σ1 := ((d + 1), 346, 64, [some (.inr (.inr 26)), some (.inl x1)], [], (am_sh, am_mm U4))) (σ2 := ((d + 1), 346, 41, [some (.inr (.inr 26)), some (.inl x1)], [], (am_sh, am_mm U4))) 1 (fun _ => rfl) (fun hc => ?_) (fun hc => ?_)
        · have ha1a2a2a1 := ha1a2a2a.1 hc
          subst ha1a2a2a1
          exact ev_end 2 (fun _ => rfl)
        · have ha1a2a2a2 := ha1a2a2a.2 hc
          refine ev_seg (σ1 := ((d + 1), 346, 45, [some (.inr (.inr 26)), some (.inl x1)], [.inl (w32 (x1 + 1)), .inr (.inr 26)], (am_sh, am_mm U4))) 4 (fun _ => rfl) ?_
          obtain ⟨r5, U5, ha1a2a2a2c, ha1a2a2a2a⟩ := ha1a2a2a2
          refine ev_cal (σc := (Rd_readSum_s0 d (w32 (x1 + 1)) U4)) (fun _ => rfl) ha1a2a2a2c ?_
          show Ev (am_kz N X) ((d + 1), 346, 48, [some (.inr (.inr 26)), some (.inl x1)], [.inl r5], (am_sh, am_mm U5)) R
          refine ev_br (P := r5 = 0) (σ1 := ((d + 1), 346, 64, [some (.inr (.inr 26)), some (.inl x1)], [], (am_sh, am_mm U5))) (σ2 := ((d + 1), 346, 51, [some (.inr (.inr 26)), some (.inl x1)], [], (am_sh, am_mm U5))) 1 (fun _ => rfl) (fun hc => ?_) (fun hc => ?_)
          · have ha1a2a2a2a1 := ha1a2a2a2a.1 hc
            subst ha1a2a2a2a1
            exact ev_end 2 (fun _ => rfl)
          · have ha1a2a2a2a2 := ha1a2a2a2a.2 hc
            refine ev_seg (σ1 := ((d + 1), 346, 54, [some (.inr (.inr 26)), some (.inl x1)], [.inl 41, .inr (.inr 26)], (am_sh, am_mm U5))) 2 (fun _ => rfl) ?_
            obtain ⟨r6, U6, ha1a2a2a2a2c, ha1a2a2a2a2a⟩ := ha1a2a2a2a2
            refine ev_cal (σc := (Rd_takeSign_s0 d 41 U5)) (fun _ => rfl) ha1a2a2a2a2c ?_
            show Ev (am_kz N X) ((d + 1), 346, 57, [some (.inr (.inr 26)), some (.inl x1)], [.inl r6], (am_sh, am_mm U6)) R
            refine ev_br (P := r6 = 0) (σ1 := ((d + 1), 346, 64, [some (.inr (.inr 26)), some (.inl x1)], [], (am_sh, am_mm U6))) (σ2 := ((d + 1), 346, 60, [some (.inr (.inr 26)), some (.inl x1)], [], (am_sh, am_mm U6))) 1 (fun _ => rfl) (fun hc => ?_) (fun hc => ?_)
            · have ha1a2a2a2a2a1 := ha1a2a2a2a2a.1 hc
              subst ha1a2a2a2a2a1
              exact ev_end 2 (fun _ => rfl)
            · have ha1a2a2a2a2a2 := ha1a2a2a2a2a.2 hc
              subst ha1a2a2a2a2a2
              exact ev_end 3 (fun _ => rfl)
  · have ha2 := ha.2 (Decidable.not_not.mp hc)
    refine ev_seg (σ1 := ((d + 1), 346, 10, [some (.inr (.inr 26)), some (.inl x1)], [.inr (.inr 26)], (am_sh, am_mm U1))) 1 (fun _ => rfl) ?_
    obtain ⟨r7, U7, ha2c, ha2a⟩ := ha2
    refine ev_cal (σc := (Rd_refuseHere_s0 d U1)) (fun _ => rfl) ha2c ?_
    show Ev (am_kz N X) ((d + 1), 346, 13, [some (.inr (.inr 26)), some (.inl x1)], [.inl r7], (am_sh, am_mm U7)) R
    rw [ha2a.2]
    exact ev_retz rfl rfl ha2a.1
set_option maxRecDepth 8000 in
theorem Pc_checkIndex_r0 {N : Nat} {X : Nat → Int} {d : Nat} {x0 x1 : Int} {U : am_U} {R : Option am_V × am_M} (h : ((x0 < 0) → False) ∧ ((0 ≤ x0) → ((x0 < x1) → R = rI x0 U) ∧ ((x1 ≤ x0) → False))) : EvK N X (Pc_checkIndex_s0 d x0 x1 U) R := by
  show Ev (am_kz N X) (d, 347, 0, [some (.inl x0), some (.inl x1), some (.inr (.inr (-8)))], [], (am_sh, am_mm U)) R
  refine ev_br (P := x0 < 0) (σ1 := (d, 347, 9, [some (.inl x0), some (.inl x1), some (.inr (.inr (-8)))], [], (am_sh, am_mm U))) (σ2 := (d, 347, 4, [some (.inl x0), some (.inl x1), some (.inr (.inr (-8)))], [], (am_sh, am_mm U))) 2 (fun _ => rfl) (fun hc => ?_) (fun hc => ?_)
  · have h1 := h.1 hc
    exact absurd h1 id
  · have h2 := h.2 (Int.not_lt.mp hc)
    refine ev_br (P := x0 < x1) (σ1 := (d, 347, 16, [some (.inl x0), some (.inl x1), some (.inr (.inr (-8)))], [], (am_sh, am_mm U))) (σ2 := (d, 347, 9, [some (.inl x0), some (.inl x1), some (.inr (.inr (-8)))], [], (am_sh, am_mm U))) 3 (fun _ => rfl) (fun hc => ?_) (fun hc => ?_)
    · have h21 := h2.1 hc
      subst h21
      exact ev_end 2 (fun _ => rfl)
    · have h22 := h2.2 (Int.not_lt.mp hc)
      exact absurd h22 id
