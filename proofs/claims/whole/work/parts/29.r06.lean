set_option maxRecDepth 8000 in
theorem Tk_isDigit_r0 {N : Nat} {X : Nat → Int} {d : Nat} {x0 : Int} {U : am_U} {R : Option am_V × am_M} (h : ((x0 < 48) → R = rI 0 U) ∧ ((48 ≤ x0) → ((57 < x0) → R = rI 0 U) ∧ ((x0 ≤ 57) → R = rI 1 U))) : EvK N X (Tk_isDigit_s0 d x0 U) R := by
  show Ev (am_kz N X) (d, 288, 0, [some (.inl x0)], [], (am_sh, am_mm U)) R
  refine ev_br (P := x0 < 48) (σ1 := (d, 288, 16, [some (.inl x0)], [], (am_sh, am_mm U))) (σ2 := (d, 288, 6, [some (.inl x0)], [], (am_sh, am_mm U))) 3 (fun _ => rfl) (fun hc => ?_) (fun hc => ?_)
  · have h1 := h.1 hc
    subst h1
    exact ev_end 2 (fun _ => rfl)
  · have h2 := h.2 (Int.not_lt.mp hc)
    refine ev_br (P := 57 < x0) (σ1 := (d, 288, 16, [some (.inl x0)], [], (am_sh, am_mm U))) (σ2 := (d, 288, 12, [some (.inl x0)], [], (am_sh, am_mm U))) 3 (fun _ => rfl) (fun hc => ?_) (fun hc => ?_)
    · have h21 := h2.1 hc
      subst h21
      exact ev_end 2 (fun _ => rfl)
    · have h22 := h2.2 (Int.not_lt.mp hc)
      subst h22
      exact ev_end 3 (fun _ => rfl)
set_option maxRecDepth 8000 in
theorem St_indexOf_I_r0 {N : Nat} {X : Nat → Int} {d : Nat} {x1 : Int} {U : am_U} {R : Option am_V × am_M} (h : ∃ (r1 : Int) (U1 : am_U), EvK N X (St_indexOf_II_s0 d x1 0 U) (rI r1 U1) ∧ R = rI r1 U1) : EvK N X (St_indexOf_I_s0 (d + 1) x1 U) R := by
  show Ev (am_kz N X) ((d + 1), 290, 0, [some (.inr (.inr (-2))), some (.inl x1)], [], (am_sh, am_mm U)) R
  refine ev_seg (σ1 := ((d + 1), 290, 3, [some (.inr (.inr (-2))), some (.inl x1)], [.inl 0, .inl x1, .inr (.inr (-2))], (am_sh, am_mm U))) 3 (fun _ => rfl) ?_
  obtain ⟨r1, U1, hc, ha⟩ := h
  refine ev_cal (σc := (St_indexOf_II_s0 d x1 0 U)) (fun _ => rfl) hc ?_
  show Ev (am_kz N X) ((d + 1), 290, 6, [some (.inr (.inr (-2))), some (.inl x1)], [.inl r1], (am_sh, am_mm U1)) R
  subst ha
  exact ev_end 1 (fun _ => rfl)
set_option maxRecDepth 8000 in
theorem Tk_putBad_r0 {N : Nat} {X : Nat → Int} {d : Nat} {x1 x2 x3 : Int} {U : am_U} {R : Option am_V × am_M} (h : ∃ U1 : am_U, EvK N X (Tk_put_s0 d 5 0 x1 U) (rV U1) ∧ R = rI x3 (am_upd U1 27 2 x2)) : EvK N X (Tk_putBad_s0 (d + 1) x1 x2 x3 U) R := by
  show Ev (am_kz N X) ((d + 1), 291, 0, [some (.inr (.inr 27)), some (.inl x1), some (.inl x2), some (.inl x3)], [], (am_sh, am_mm U)) R
  refine ev_seg (σ1 := ((d + 1), 291, 4, [some (.inr (.inr 27)), some (.inl x1), some (.inl x2), some (.inl x3)], [.inl x1, .inl 0, .inl 5, .inr (.inr 27)], (am_sh, am_mm U))) 4 (fun _ => rfl) ?_
  obtain ⟨U1, hc, ha⟩ := h
  refine ev_cal (σc := (Tk_put_s0 d 5 0 x1 U)) (fun _ => rfl) hc ?_
  show Ev (am_kz N X) ((d + 1), 291, 7, [some (.inr (.inr 27)), some (.inl x1), some (.inl x2), some (.inl x3)], [], (am_sh, am_mm U1)) R
  refine ev_seg (σ1 := ((d + 1), 291, 9, [some (.inr (.inr 27)), some (.inl x1), some (.inl x2), some (.inl x3)], [.inl x2, .inr (.inr 27)], (am_sh, am_mm U1))) 2 (fun _ => rfl) ?_
  refine eu_puti 27 (n := 4) rfl (by decide) rfl rfl ?_
  show Ev (am_kz N X) ((d + 1), 291, 12, [some (.inr (.inr 27)), some (.inl x1), some (.inl x2), some (.inl x3)], [], (am_sh, am_mm (am_upd U1 27 2 x2))) R
  subst ha
  exact ev_end 2 (fun _ => rfl)
set_option maxRecDepth 8000 in
theorem Tw_hasTest_31_r0 {N : Nat} {X : Nat → Int} {d : Nat} {x1 : Int} {U : am_U} {R : Option am_V × am_M} (h : ((x1 < 0) → ((x1 ≠ 8) → R = rI 0 U) ∧ ((x1 = 8) → (0 ≤ x1 ∧ x1 < 9) ∧ (((U 42 x1.toNat) ≤ (U 41 x1.toNat)) → R = rI 0 U) ∧ (((U 41 x1.toNat) < (U 42 x1.toNat)) → R = rI 1 U))) ∧ ((0 ≤ x1) → ((x1 < (U 31 4)) → R = rI 1 U) ∧ (((U 31 4) ≤ x1) → ((x1 ≠ 8) → R = rI 0 U) ∧ ((x1 = 8) → (0 ≤ x1 ∧ x1 < 9) ∧ (((U 42 x1.toNat) ≤ (U 41 x1.toNat)) → R = rI 0 U) ∧ (((U 41 x1.toNat) < (U 42 x1.toNat)) → R = rI 1 U))))) : EvK N X (Tw_hasTest_31_s0 d x1 U) R := by
  show Ev (am_kz N X) (d, 133, 0, [some (.inr (.inr 31)), some (.inl x1)], [], (am_sh, am_mm U)) R
  refine ev_br (P := x1 < 0) (σ1 := (d, 133, 12, [some (.inr (.inr 31)), some (.inl x1)], [], (am_sh, am_mm U))) (σ2 := (d, 133, 4, [some (.inr (.inr 31)), some (.inl x1)], [], (am_sh, am_mm U))) 2 (fun _ => rfl) (fun hc => ?_) (fun hc => ?_)
  · have h1 := h.1 hc
    refine ev_br (P := ¬ x1 = 8) (σ1 := (d, 133, 37, [some (.inr (.inr 31)), some (.inl x1)], [], (am_sh, am_mm U))) (σ2 := (d, 133, 18, [some (.inr (.inr 31)), some (.inl x1)], [], (am_sh, am_mm U))) 3 (fun _ => rfl) (fun hc => ?_) (fun hc => ?_)
    · have h11 := h1.1 hc
      subst h11
      exact ev_end 2 (fun _ => rfl)
    · have h12 := h1.2 (Decidable.not_not.mp hc)
      refine ev_seg (σ1 := (d, 133, 23, [some (.inr (.inr 31)), some (.inl x1)], [.inl x1, .inr (.inr 41)], (am_sh, am_mm U))) 3 (fun _ => rfl) ?_
      refine eu_iald 41 (n := 9) rfl (by decide) rfl (fun _ => rfl) h12.1 ?_
      show Ev (am_kz N X) (d, 133, 24, [some (.inr (.inr 31)), some (.inl x1)], [.inl (U 41 x1.toNat)], (am_sh, am_mm U)) R
      have h12a := h12.2
      refine ev_seg (σ1 := (d, 133, 29, [some (.inr (.inr 31)), some (.inl x1)], [.inl x1, .inr (.inr 42), .inl (U 41 x1.toNat)], (am_sh, am_mm U))) 3 (fun _ => rfl) ?_
      refine eu_iald 42 (n := 9) rfl (by decide) rfl (fun _ => rfl) h12.1 ?_
      show Ev (am_kz N X) (d, 133, 30, [some (.inr (.inr 31)), some (.inl x1)], [.inl (U 42 x1.toNat), .inl (U 41 x1.toNat)], (am_sh, am_mm U)) R
      refine ev_br (P := (U 42 x1.toNat) ≤ (U 41 x1.toNat)) (σ1 := (d, 133, 37, [some (.inr (.inr 31)), some (.inl x1)], [], (am_sh, am_mm U))) (σ2 := (d, 133, 33, [some (.inr (.inr 31)), some (.inl x1)], [], (am_sh, am_mm U))) 1 (fun _ => rfl) (fun hc => ?_) (fun hc => ?_)
      · have h12a1 := h12a.1 hc
        subst h12a1
        exact ev_end 2 (fun _ => rfl)
      · have h12a2 := h12a.2 (Int.not_le.mp hc)
        subst h12a2
        exact ev_end 3 (fun _ => rfl)
  · have h2 := h.2 (Int.not_lt.mp hc)
    refine ev_br (P := x1 < (U 31 4)) (σ1 := (d, 133, 33, [some (.inr (.inr 31)), some (.inl x1)], [], (am_sh, am_mm U))) (σ2 := (d, 133, 12, [some (.inr (.inr 31)), some (.inl x1)], [], (am_sh, am_mm U))) 4 (fun _ => rfl) (fun hc => ?_) (fun hc => ?_)
    · have h21 := h2.1 hc
      subst h21
      exact ev_end 3 (fun _ => rfl)
    · have h22 := h2.2 (Int.not_lt.mp hc)
      refine ev_br (P := ¬ x1 = 8) (σ1 := (d, 133, 37, [some (.inr (.inr 31)), some (.inl x1)], [], (am_sh, am_mm U))) (σ2 := (d, 133, 18, [some (.inr (.inr 31)), some (.inl x1)], [], (am_sh, am_mm U))) 3 (fun _ => rfl) (fun hc => ?_) (fun hc => ?_)
      · have h221 := h22.1 hc
        subst h221
        exact ev_end 2 (fun _ => rfl)
      · have h222 := h22.2 (Decidable.not_not.mp hc)
        refine ev_seg (σ1 := (d, 133, 23, [some (.inr (.inr 31)), some (.inl x1)], [.inl x1, .inr (.inr 41)], (am_sh, am_mm U))) 3 (fun _ => rfl) ?_
        refine eu_iald 41 (n := 9) rfl (by decide) rfl (fun _ => rfl) h222.1 ?_
        show Ev (am_kz N X) (d, 133, 24, [some (.inr (.inr 31)), some (.inl x1)], [.inl (U 41 x1.toNat)], (am_sh, am_mm U)) R
        have h222a := h222.2
        refine ev_seg (σ1 := (d, 133, 29, [some (.inr (.inr 31)), some (.inl x1)], [.inl x1, .inr (.inr 42), .inl (U 41 x1.toNat)], (am_sh, am_mm U))) 3 (fun _ => rfl) ?_
        refine eu_iald 42 (n := 9) rfl (by decide) rfl (fun _ => rfl) h222.1 ?_
        show Ev (am_kz N X) (d, 133, 30, [some (.inr (.inr 31)), some (.inl x1)], [.inl (U 42 x1.toNat), .inl (U 41 x1.toNat)], (am_sh, am_mm U)) R
        refine ev_br (P := (U 42 x1.toNat) ≤ (U 41 x1.toNat)) (σ1 := (d, 133, 37, [some (.inr (.inr 31)), some (.inl x1)], [], (am_sh, am_mm U))) (σ2 := (d, 133, 33, [some (.inr (.inr 31)), some (.inl x1)], [], (am_sh, am_mm U))) 1 (fun _ => rfl) (fun hc => ?_) (fun hc => ?_)
        · have h222a1 := h222a.1 hc
          subst h222a1
          exact ev_end 2 (fun _ => rfl)
        · have h222a2 := h222a.2 (Int.not_le.mp hc)
          subst h222a2
          exact ev_end 3 (fun _ => rfl)
set_option maxRecDepth 8000 in
theorem Rd_takeNewName_r0 {N : Nat} {X : Nat → Int} {d : Nat} {U : am_U} {R : Option am_V × am_M} (h : (((U 26 7) = 2) → ∃ (r1 : Int) (U1 : am_U), EvK N X (Tw_findStreet_s0 d (U 26 8) U) (rI r1 U1) ∧ ((0 ≤ r1) → ∃ (r2 : Int) (U2 : am_U), EvK N X (Rd_refuseFor_s0 d 2 (U1 26 9) U1) (rI r2 U2) ∧ (r2 = 0 ∨ r2 = 1) ∧ R = rI r2 U2) ∧ ((r1 < 0) → ∃ (r3 : Int) (U3 : am_U), EvK N X (Tw_findHouse_s0 d (U1 26 8) U1) (rI r3 U3) ∧ ((r3 < 0) → ∃ U4 : am_U, EvK N X (Rd_next_s0 d U3) (rV U4) ∧ R = rI 1 U4) ∧ ((0 ≤ r3) → ∃ (r5 : Int) (U5 : am_U), EvK N X (Rd_refuseFor_s0 d 2 (U3 26 9) U3) (rI r5 U5) ∧ (r5 = 0 ∨ r5 = 1) ∧ R = rI r5 U5))) ∧ (((U 26 7) ≠ 2) → ∃ (r6 : Int) (U6 : am_U), EvK N X (Rd_refuseHere_s0 d U) (rI r6 U6) ∧ (r6 = 0 ∨ r6 = 1) ∧ R = rI r6 U6)) : EvK N X (Rd_takeNewName_s0 (d + 1) U) R := by
  show Ev (am_kz N X) ((d + 1), 292, 0, [some (.inr (.inr 26))], [], (am_sh, am_mm U)) R
  refine ev_br (P := (U 26 7) = 2) (σ1 := ((d + 1), 292, 13, [some (.inr (.inr 26))], [], (am_sh, am_mm U))) (σ2 := ((d + 1), 292, 8, [some (.inr (.inr 26))], [], (am_sh, am_mm U))) 4 (fun _ => rfl) (fun hc => ?_) (fun hc => ?_)
  · have h1 := h.1 hc
    refine ev_seg (σ1 := ((d + 1), 292, 21, [some (.inr (.inr 26))], [.inl (U 26 8), .inr (.inr 31)], (am_sh, am_mm U))) 4 (fun _ => rfl) ?_
    obtain ⟨r1, U1, h1c, h1a⟩ := h1
    refine ev_cal (σc := (Tw_findStreet_s0 d (U 26 8) U)) (fun _ => rfl) h1c ?_
    show Ev (am_kz N X) ((d + 1), 292, 24, [some (.inr (.inr 26))], [.inl r1], (am_sh, am_mm U1)) R
    refine ev_br (P := 0 ≤ r1) (σ1 := ((d + 1), 292, 41, [some (.inr (.inr 26))], [], (am_sh, am_mm U1))) (σ2 := ((d + 1), 292, 27, [some (.inr (.inr 26))], [], (am_sh, am_mm U1))) 1 (fun _ => rfl) (fun hc => ?_) (fun hc => ?_)
    · have h1a1 := h1a.1 hc
      refine ev_seg (σ1 := ((d + 1), 292, 47, [some (.inr (.inr 26))], [.inl (U1 26 9), .inl 2, .inr (.inr 26)], (am_sh, am_mm U1))) 4 (fun _ => rfl) ?_
      obtain ⟨r2, U2, h1a1c, h1a1a⟩ := h1a1
      refine ev_cal (σc := (Rd_refuseFor_s0 d 2 (U1 26 9) U1)) (fun _ => rfl) h1a1c ?_
      show Ev (am_kz N X) ((d + 1), 292, 50, [some (.inr (.inr 26))], [.inl r2], (am_sh, am_mm U2)) R
      rw [h1a1a.2]
      exact ev_retz rfl rfl h1a1a.1
    · have h1a2 := h1a.2 (Int.not_le.mp hc)
      refine ev_seg (σ1 := ((d + 1), 292, 35, [some (.inr (.inr 26))], [.inl (U1 26 8), .inr (.inr 31)], (am_sh, am_mm U1))) 4 (fun _ => rfl) ?_
      obtain ⟨r3, U3, h1a2c, h1a2a⟩ := h1a2
      refine ev_cal (σc := (Tw_findHouse_s0 d (U1 26 8) U1)) (fun _ => rfl) h1a2c ?_
      show Ev (am_kz N X) ((d + 1), 292, 38, [some (.inr (.inr 26))], [.inl r3], (am_sh, am_mm U3)) R
      refine ev_br (P := r3 < 0) (σ1 := ((d + 1), 292, 51, [some (.inr (.inr 26))], [], (am_sh, am_mm U3))) (σ2 := ((d + 1), 292, 41, [some (.inr (.inr 26))], [], (am_sh, am_mm U3))) 1 (fun _ => rfl) (fun hc => ?_) (fun hc => ?_)
      · have h1a2a1 := h1a2a.1 hc
        refine ev_seg (σ1 := ((d + 1), 292, 52, [some (.inr (.inr 26))], [.inr (.inr 26)], (am_sh, am_mm U3))) 1 (fun _ => rfl) ?_
        obtain ⟨U4, h1a2a1c, h1a2a1a⟩ := h1a2a1
        refine ev_cal (σc := (Rd_next_s0 d U3)) (fun _ => rfl) h1a2a1c ?_
        show Ev (am_kz N X) ((d + 1), 292, 55, [some (.inr (.inr 26))], [], (am_sh, am_mm U4)) R
        subst h1a2a1a
        exact ev_end 2 (fun _ => rfl)
      · have h1a2a2 := h1a2a.2 (Int.not_lt.mp hc)
        refine ev_seg (σ1 := ((d + 1), 292, 47, [some (.inr (.inr 26))], [.inl (U3 26 9), .inl 2, .inr (.inr 26)], (am_sh, am_mm U3))) 4 (fun _ => rfl) ?_
        obtain ⟨r5, U5, h1a2a2c, h1a2a2a⟩ := h1a2a2
        refine ev_cal (σc := (Rd_refuseFor_s0 d 2 (U3 26 9) U3)) (fun _ => rfl) h1a2a2c ?_
        show Ev (am_kz N X) ((d + 1), 292, 50, [some (.inr (.inr 26))], [.inl r5], (am_sh, am_mm U5)) R
        rw [h1a2a2a.2]
        exact ev_retz rfl rfl h1a2a2a.1
  · have h2 := h.2 hc
    refine ev_seg (σ1 := ((d + 1), 292, 9, [some (.inr (.inr 26))], [.inr (.inr 26)], (am_sh, am_mm U))) 1 (fun _ => rfl) ?_
    obtain ⟨r6, U6, h2c, h2a⟩ := h2
    refine ev_cal (σc := (Rd_refuseHere_s0 d U)) (fun _ => rfl) h2c ?_
    show Ev (am_kz N X) ((d + 1), 292, 12, [some (.inr (.inr 26))], [.inl r6], (am_sh, am_mm U6)) R
    rw [h2a.2]
    exact ev_retz rfl rfl h2a.1
set_option maxRecDepth 8000 in
theorem Tw_addStreet_r0 {N : Nat} {X : Nat → Int} {d : Nat} {x1 : Int} {U : am_U} {R : Option am_V × am_M} (h : ((4 ≤ (U 31 0)) → R = rV U) ∧ (((U 31 0) < 4) → (0 ≤ (U 31 0) ∧ (U 31 0) < 4) ∧ R = rV (am_upd (am_upd U 32 ((U 31 0).toNat) x1) 31 0 (w32 ((U 31 0) + 1))))) : EvK N X (Tw_addStreet_s0 d x1 U) R := by
  show Ev (am_kz N X) (d, 293, 0, [some (.inr (.inr 31)), some (.inl x1)], [], (am_sh, am_mm U)) R
  refine ev_br (P := 4 ≤ (U 31 0)) (σ1 := (d, 293, 28, [some (.inr (.inr 31)), some (.inl x1)], [], (am_sh, am_mm U))) (σ2 := (d, 293, 8, [some (.inr (.inr 31)), some (.inl x1)], [], (am_sh, am_mm U))) 4 (fun _ => rfl) (fun hc => ?_) (fun hc => ?_)
  · have h1 := h.1 hc
    subst h1
    exact ev_end 1 (fun _ => rfl)
  · have h2 := h.2 (Int.not_le.mp hc)
    refine ev_seg (σ1 := (d, 293, 17, [some (.inr (.inr 31)), some (.inl x1)], [.inl x1, .inl (U 31 0), .inr (.inr 32)], (am_sh, am_mm U))) 5 (fun _ => rfl) ?_
    refine eu_iast 32 (n := 4) rfl (by decide) rfl (fun _ => rfl) h2.1 ?_
    show Ev (am_kz N X) (d, 293, 18, [some (.inr (.inr 31)), some (.inl x1)], [], (am_sh, am_mm (am_upd U 32 ((U 31 0).toNat) x1))) R
    have h2a := h2.2
    refine ev_seg (σ1 := (d, 293, 25, [some (.inr (.inr 31)), some (.inl x1)], [.inl (w32 ((U 31 0) + 1)), .inr (.inr 31)], (am_sh, am_mm (am_upd U 32 ((U 31 0).toNat) x1)))) 5 (fun _ => rfl) ?_
    refine eu_puti 31 (n := 19) rfl (by decide) rfl rfl ?_
    show Ev (am_kz N X) (d, 293, 28, [some (.inr (.inr 31)), some (.inl x1)], [], (am_sh, am_mm (am_upd (am_upd U 32 ((U 31 0).toNat) x1) 31 0 (w32 ((U 31 0) + 1))))) R
    subst h2a
    exact ev_end 1 (fun _ => rfl)
set_option maxRecDepth 8000 in
theorem Rd_takeWord_r0 {N : Nat} {X : Nat → Int} {d : Nat} {x1 : Int} {U : am_U} {R : Option am_V × am_M} (h : ∃ (r1 : Int) (U1 : am_U), EvK N X (Rd_isOwn_s0 d x1 U) (rI r1 U1) ∧ ((r1 ≠ 0) → ∃ U2 : am_U, EvK N X (Rd_next_s0 d U1) (rV U2) ∧ R = rI 1 U2) ∧ ((r1 = 0) → ∃ (r3 : Int) (U3 : am_U), EvK N X (Rd_refuseHere_s0 d U1) (rI r3 U3) ∧ (r3 = 0 ∨ r3 = 1) ∧ R = rI r3 U3)) : EvK N X (Rd_takeWord_s0 (d + 1) x1 U) R := by
  show Ev (am_kz N X) ((d + 1), 294, 0, [some (.inr (.inr 26)), some (.inl x1)], [], (am_sh, am_mm U)) R
  refine ev_seg (σ1 := ((d + 1), 294, 2, [some (.inr (.inr 26)), some (.inl x1)], [.inl x1, .inr (.inr 26)], (am_sh, am_mm U))) 2 (fun _ => rfl) ?_
  obtain ⟨r1, U1, hc, ha⟩ := h
  refine ev_cal (σc := (Rd_isOwn_s0 d x1 U)) (fun _ => rfl) hc ?_
  show Ev (am_kz N X) ((d + 1), 294, 5, [some (.inr (.inr 26)), some (.inl x1)], [.inl r1], (am_sh, am_mm U1)) R
  refine ev_br (P := ¬ r1 = 0) (σ1 := ((d + 1), 294, 13, [some (.inr (.inr 26)), some (.inl x1)], [], (am_sh, am_mm U1))) (σ2 := ((d + 1), 294, 8, [some (.inr (.inr 26)), some (.inl x1)], [], (am_sh, am_mm U1))) 1 (fun _ => rfl) (fun hc => ?_) (fun hc => ?_)
  · have ha1 := ha.1 hc
    refine ev_seg (σ1 := ((d + 1), 294, 14, [some (.inr (.inr 26)), some (.inl x1)], [.inr (.inr 26)], (am_sh, am_mm U1))) 1 (fun _ => rfl) ?_
    obtain ⟨U2, ha1c, ha1a⟩ := ha1
    refine ev_cal (σc := (Rd_next_s0 d U1)) (fun _ => rfl) ha1c ?_
    show Ev (am_kz N X) ((d + 1), 294, 17, [some (.inr (.inr 26)), some (.inl x1)], [], (am_sh, am_mm U2)) R
    subst ha1a
    exact ev_end 2 (fun _ => rfl)
  · have ha2 := ha.2 (Decidable.not_not.mp hc)
    refine ev_seg (σ1 := ((d + 1), 294, 9, [some (.inr (.inr 26)), some (.inl x1)], [.inr (.inr 26)], (am_sh, am_mm U1))) 1 (fun _ => rfl) ?_
    obtain ⟨r3, U3, ha2c, ha2a⟩ := ha2
    refine ev_cal (σc := (Rd_refuseHere_s0 d U1)) (fun _ => rfl) ha2c ?_
    show Ev (am_kz N X) ((d + 1), 294, 12, [some (.inr (.inr 26)), some (.inl x1)], [.inl r3], (am_sh, am_mm U3)) R
    rw [ha2a.2]
    exact ev_retz rfl rfl ha2a.1
set_option maxRecDepth 8000 in
theorem Rd_takeStreet_r0 {N : Nat} {X : Nat → Int} {d : Nat} {U : am_U} {R : Option am_V × am_M} (h : (((U 26 7) = 2) → ∃ (r1 : Int) (U1 : am_U), EvK N X (Tw_findStreet_s0 d (U 26 8) U) (rI r1 U1) ∧ ((0 ≤ r1) → ∃ U2 : am_U, EvK N X (Rd_next_s0 d U1) (rV U2) ∧ R = rI r1 U2) ∧ ((r1 < 0) → ∃ (r3 : Int) (U3 : am_U), EvK N X (Rd_refuseFor_s0 d 3 (U1 26 9) U1) (rI r3 U3) ∧ R = rI (-1) U3)) ∧ (((U 26 7) ≠ 2) → ∃ (r4 : Int) (U4 : am_U), EvK N X (Rd_refuseHere_s0 d U) (rI r4 U4) ∧ R = rI (-1) U4)) : EvK N X (Rd_takeStreet_s0 (d + 1) U) R := by
  show Ev (am_kz N X) ((d + 1), 295, 0, [some (.inr (.inr 26)), none], [], (am_sh, am_mm U)) R
  refine ev_br (P := (U 26 7) = 2) (σ1 := ((d + 1), 295, 15, [some (.inr (.inr 26)), none], [], (am_sh, am_mm U))) (σ2 := ((d + 1), 295, 8, [some (.inr (.inr 26)), none], [], (am_sh, am_mm U))) 4 (fun _ => rfl) (fun hc => ?_) (fun hc => ?_)
  · have h1 := h.1 hc
    refine ev_seg (σ1 := ((d + 1), 295, 23, [some (.inr (.inr 26)), none], [.inl (U 26 8), .inr (.inr 31)], (am_sh, am_mm U))) 4 (fun _ => rfl) ?_
    obtain ⟨r1, U1, h1c, h1a⟩ := h1
    refine ev_cal (σc := (Tw_findStreet_s0 d (U 26 8) U)) (fun _ => rfl) h1c ?_
    show Ev (am_kz N X) ((d + 1), 295, 26, [some (.inr (.inr 26)), none], [.inl r1], (am_sh, am_mm U1)) R
    refine ev_br (P := 0 ≤ r1) (σ1 := ((d + 1), 295, 43, [some (.inr (.inr 26)), some (.inl r1)], [], (am_sh, am_mm U1))) (σ2 := ((d + 1), 295, 31, [some (.inr (.inr 26)), some (.inl r1)], [], (am_sh, am_mm U1))) 3 (fun _ => rfl) (fun hc => ?_) (fun hc => ?_)
    · have h1a1 := h1a.1 hc
      refine ev_seg (σ1 := ((d + 1), 295, 44, [some (.inr (.inr 26)), some (.inl r1)], [.inr (.inr 26)], (am_sh, am_mm U1))) 1 (fun _ => rfl) ?_
      obtain ⟨U2, h1a1c, h1a1a⟩ := h1a1
      refine ev_cal (σc := (Rd_next_s0 d U1)) (fun _ => rfl) h1a1c ?_
      show Ev (am_kz N X) ((d + 1), 295, 47, [some (.inr (.inr 26)), some (.inl r1)], [], (am_sh, am_mm U2)) R
      subst h1a1a
      exact ev_end 2 (fun _ => rfl)
    · have h1a2 := h1a.2 (Int.not_le.mp hc)
      refine ev_seg (σ1 := ((d + 1), 295, 37, [some (.inr (.inr 26)), some (.inl r1)], [.inl (U1 26 9), .inl 3, .inr (.inr 26)], (am_sh, am_mm U1))) 4 (fun _ => rfl) ?_
      obtain ⟨r3, U3, h1a2c, h1a2a⟩ := h1a2
      refine ev_cal (σc := (Rd_refuseFor_s0 d 3 (U1 26 9) U1)) (fun _ => rfl) h1a2c ?_
      show Ev (am_kz N X) ((d + 1), 295, 40, [some (.inr (.inr 26)), some (.inl r1)], [.inl r3], (am_sh, am_mm U3)) R
      subst h1a2a
      exact ev_end 3 (fun _ => rfl)
  · have h2 := h.2 hc
    refine ev_seg (σ1 := ((d + 1), 295, 9, [some (.inr (.inr 26)), none], [.inr (.inr 26)], (am_sh, am_mm U))) 1 (fun _ => rfl) ?_
    obtain ⟨r4, U4, h2c, h2a⟩ := h2
    refine ev_cal (σc := (Rd_refuseHere_s0 d U)) (fun _ => rfl) h2c ?_
    show Ev (am_kz N X) ((d + 1), 295, 12, [some (.inr (.inr 26)), none], [.inl r4], (am_sh, am_mm U4)) R
    subst h2a
    exact ev_end 3 (fun _ => rfl)
set_option maxRecDepth 8000 in
theorem Rd_takeNumber_r0 {N : Nat} {X : Nat → Int} {d : Nat} {x1 x2 : Int} {U : am_U} {R : Option am_V × am_M} (h : (((U 26 7) = 3) → (((U 26 8) < x1) → ∃ (r1 : Int) (U1 : am_U), EvK N X (Rd_refuseFor_s0 d 4 (U 26 9) U) (rI r1 U1) ∧ R = rI (-1) U1) ∧ ((x1 ≤ (U 26 8)) → (((U 26 8) ≤ x2) → ∃ U2 : am_U, EvK N X (Rd_next_s0 d U) (rV U2) ∧ R = rI (U 26 8) U2) ∧ ((x2 < (U 26 8)) → ∃ (r3 : Int) (U3 : am_U), EvK N X (Rd_refuseFor_s0 d 4 (U 26 9) U) (rI r3 U3) ∧ R = rI (-1) U3))) ∧ (((U 26 7) ≠ 3) → ∃ (r4 : Int) (U4 : am_U), EvK N X (Rd_refuseHere_s0 d U) (rI r4 U4) ∧ R = rI (-1) U4)) : EvK N X (Rd_takeNumber_s0 (d + 1) x1 x2 U) R := by
  show Ev (am_kz N X) ((d + 1), 296, 0, [some (.inr (.inr 26)), some (.inl x1), some (.inl x2), none], [], (am_sh, am_mm U)) R
  refine ev_br (P := (U 26 7) = 3) (σ1 := ((d + 1), 296, 15, [some (.inr (.inr 26)), some (.inl x1), some (.inl x2), none], [], (am_sh, am_mm U))) (σ2 := ((d + 1), 296, 8, [some (.inr (.inr 26)), some (.inl x1), some (.inl x2), none], [], (am_sh, am_mm U))) 4 (fun _ => rfl) (fun hc => ?_) (fun hc => ?_)
  · have h1 := h.1 hc
    refine ev_br (P := (U 26 8) < x1) (σ1 := ((d + 1), 296, 30, [some (.inr (.inr 26)), some (.inl x1), some (.inl x2), some (.inl (U 26 8))], [], (am_sh, am_mm U))) (σ2 := ((d + 1), 296, 25, [some (.inr (.inr 26)), some (.inl x1), some (.inl x2), some (.inl (U 26 8))], [], (am_sh, am_mm U))) 6 (fun _ => rfl) (fun hc => ?_) (fun hc => ?_)
    · have h11 := h1.1 hc
      refine ev_seg (σ1 := ((d + 1), 296, 36, [some (.inr (.inr 26)), some (.inl x1), some (.inl x2), some (.inl (U 26 8))], [.inl (U 26 9), .inl 4, .inr (.inr 26)], (am_sh, am_mm U))) 4 (fun _ => rfl) ?_
      obtain ⟨r1, U1, h11c, h11a⟩ := h11
      refine ev_cal (σc := (Rd_refuseFor_s0 d 4 (U 26 9) U)) (fun _ => rfl) h11c ?_
      show Ev (am_kz N X) ((d + 1), 296, 39, [some (.inr (.inr 26)), some (.inl x1), some (.inl x2), some (.inl (U 26 8))], [.inl r1], (am_sh, am_mm U1)) R
      subst h11a
      exact ev_end 3 (fun _ => rfl)
    · have h12 := h1.2 (Int.not_lt.mp hc)
      refine ev_br (P := (U 26 8) ≤ x2) (σ1 := ((d + 1), 296, 42, [some (.inr (.inr 26)), some (.inl x1), some (.inl x2), some (.inl (U 26 8))], [], (am_sh, am_mm U))) (σ2 := ((d + 1), 296, 30, [some (.inr (.inr 26)), some (.inl x1), some (.inl x2), some (.inl (U 26 8))], [], (am_sh, am_mm U))) 3 (fun _ => rfl) (fun hc => ?_) (fun hc => ?_)
      · have h121 := h12.1 hc
        refine ev_seg (σ1 := ((d + 1), 296, 43, [some (.inr (.inr 26)), some (.inl x1), some (.inl x2), some (.inl (U 26 8))], [.inr (.inr 26)], (am_sh, am_mm U))) 1 (fun _ => rfl) ?_
        obtain ⟨U2, h121c, h121a⟩ := h121
        refine ev_cal (σc := (Rd_next_s0 d U)) (fun _ => rfl) h121c ?_
        show Ev (am_kz N X) ((d + 1), 296, 46, [some (.inr (.inr 26)), some (.inl x1), some (.inl x2), some (.inl (U 26 8))], [], (am_sh, am_mm U2)) R
        subst h121a
        exact ev_end 2 (fun _ => rfl)
      · have h122 := h12.2 (Int.not_le.mp hc)
        refine ev_seg (σ1 := ((d + 1), 296, 36, [some (.inr (.inr 26)), some (.inl x1), some (.inl x2), some (.inl (U 26 8))], [.inl (U 26 9), .inl 4, .inr (.inr 26)], (am_sh, am_mm U))) 4 (fun _ => rfl) ?_
        obtain ⟨r3, U3, h122c, h122a⟩ := h122
        refine ev_cal (σc := (Rd_refuseFor_s0 d 4 (U 26 9) U)) (fun _ => rfl) h122c ?_
        show Ev (am_kz N X) ((d + 1), 296, 39, [some (.inr (.inr 26)), some (.inl x1), some (.inl x2), some (.inl (U 26 8))], [.inl r3], (am_sh, am_mm U3)) R
        subst h122a
        exact ev_end 3 (fun _ => rfl)
  · have h2 := h.2 hc
    refine ev_seg (σ1 := ((d + 1), 296, 9, [some (.inr (.inr 26)), some (.inl x1), some (.inl x2), none], [.inr (.inr 26)], (am_sh, am_mm U))) 1 (fun _ => rfl) ?_
    obtain ⟨r4, U4, h2c, h2a⟩ := h2
    refine ev_cal (σc := (Rd_refuseHere_s0 d U)) (fun _ => rfl) h2c ?_
    show Ev (am_kz N X) ((d + 1), 296, 12, [some (.inr (.inr 26)), some (.inl x1), some (.inl x2), none], [.inl r4], (am_sh, am_mm U4)) R
    subst h2a
    exact ev_end 3 (fun _ => rfl)
set_option maxRecDepth 8000 in
theorem Tw_addHouse_r0 {N : Nat} {X : Nat → Int} {d : Nat} {x1 x2 x3 : Int} {U : am_U} {R : Option am_V × am_M} (h : (((U 31 1) < 12) → (0 ≤ (U 31 1) ∧ (U 31 1) < 12) ∧ ∃ (r1 : Int) (U1 : am_U), EvK N X (Tw_lastOn_s0 d x2 (am_upd (am_upd (am_upd (am_upd (am_upd (am_upd U 33 ((U 31 1).toNat) x1) 34 ((U 31 1).toNat) x2) 36 ((U 31 1).toNat) x3) 35 ((U 31 1).toNat) 0) 37 ((U 31 1).toNat) 0) 38 ((U 31 1).toNat) 0)) (rI r1 U1) ∧ ((r1 < 0) → R = rV (am_upd U1 31 1 (w32 ((U1 31 1) + 1)))) ∧ ((0 ≤ r1) → (0 ≤ r1 ∧ r1 < 12) ∧ ∃ U2 : am_U, EvK N X (Tw_join_s0 d r1 (U 31 1) (am_upd (am_upd U1 31 1 (w32 ((U1 31 1) + 1))) 35 ((U 31 1).toNat) (w32 ((U1 35 r1.toNat) + 1)))) (rV U2) ∧ R = rV U2)) ∧ ((12 ≤ (U 31 1)) → R = rV U)) : EvK N X (Tw_addHouse_s0 (d + 1) x1 x2 x3 U) R := by
  show Ev (am_kz N X) ((d + 1), 297, 0, [some (.inr (.inr 31)), some (.inl x1), some (.inl x2), some (.inl x3), none, none], [], (am_sh, am_mm U)) R
  refine ev_br (P := (U 31 1) < 12) (σ1 := ((d + 1), 297, 10, [some (.inr (.inr 31)), some (.inl x1), some (.inl x2), some (.inl x3), none, none], [], (am_sh, am_mm U))) (σ2 := ((d + 1), 297, 9, [some (.inr (.inr 31)), some (.inl x1), some (.inl x2), some (.inl x3), none, none], [], (am_sh, am_mm U))) 4 (fun _ => rfl) (fun hc => ?_) (fun hc => ?_)
  · have h1 := h.1 hc
    refine ev_seg (σ1 := ((d + 1), 297, 23, [some (.inr (.inr 31)), some (.inl x1), some (.inl x2), some (.inl x3), some (.inl (U 31 1)), none], [.inl x1, .inl (U 31 1), .inr (.inr 33)], (am_sh, am_mm U))) 7 (fun _ => rfl) ?_
    refine eu_iast 33 (n := 12) rfl (by decide) rfl (fun _ => rfl) h1.1 ?_
    show Ev (am_kz N X) ((d + 1), 297, 24, [some (.inr (.inr 31)), some (.inl x1), some (.inl x2), some (.inl x3), some (.inl (U 31 1)), none], [], (am_sh, am_mm (am_upd U 33 ((U 31 1).toNat) x1))) R
    have h1a := h1.2
    refine ev_seg (σ1 := ((d + 1), 297, 31, [some (.inr (.inr 31)), some (.inl x1), some (.inl x2), some (.inl x3), some (.inl (U 31 1)), none], [.inl x2, .inl (U 31 1), .inr (.inr 34)], (am_sh, am_mm (am_upd U 33 ((U 31 1).toNat) x1)))) 4 (fun _ => rfl) ?_
    refine eu_iast 34 (n := 12) rfl (by decide) rfl (fun _ => rfl) h1.1 ?_
    show Ev (am_kz N X) ((d + 1), 297, 32, [some (.inr (.inr 31)), some (.inl x1), some (.inl x2), some (.inl x3), some (.inl (U 31 1)), none], [], (am_sh, am_mm (am_upd (am_upd U 33 ((U 31 1).toNat) x1) 34 ((U 31 1).toNat) x2))) R
    refine ev_seg (σ1 := ((d + 1), 297, 39, [some (.inr (.inr 31)), some (.inl x1), some (.inl x2), some (.inl x3), some (.inl (U 31 1)), none], [.inl x3, .inl (U 31 1), .inr (.inr 36)], (am_sh, am_mm (am_upd (am_upd U 33 ((U 31 1).toNat) x1) 34 ((U 31 1).toNat) x2)))) 4 (fun _ => rfl) ?_
    refine eu_iast 36 (n := 12) rfl (by decide) rfl (fun _ => rfl) h1.1 ?_
    show Ev (am_kz N X) ((d + 1), 297, 40, [some (.inr (.inr 31)), some (.inl x1), some (.inl x2), some (.inl x3), some (.inl (U 31 1)), none], [], (am_sh, am_mm (am_upd (am_upd (am_upd U 33 ((U 31 1).toNat) x1) 34 ((U 31 1).toNat) x2) 36 ((U 31 1).toNat) x3))) R
    refine ev_seg (σ1 := ((d + 1), 297, 47, [some (.inr (.inr 31)), some (.inl x1), some (.inl x2), some (.inl x3), some (.inl (U 31 1)), none], [.inl 0, .inl (U 31 1), .inr (.inr 35)], (am_sh, am_mm (am_upd (am_upd (am_upd U 33 ((U 31 1).toNat) x1) 34 ((U 31 1).toNat) x2) 36 ((U 31 1).toNat) x3)))) 4 (fun _ => rfl) ?_
    refine eu_iast 35 (n := 12) rfl (by decide) rfl (fun _ => rfl) h1.1 ?_
    show Ev (am_kz N X) ((d + 1), 297, 48, [some (.inr (.inr 31)), some (.inl x1), some (.inl x2), some (.inl x3), some (.inl (U 31 1)), none], [], (am_sh, am_mm (am_upd (am_upd (am_upd (am_upd U 33 ((U 31 1).toNat) x1) 34 ((U 31 1).toNat) x2) 36 ((U 31 1).toNat) x3) 35 ((U 31 1).toNat) 0))) R
    refine ev_seg (σ1 := ((d + 1), 297, 55, [some (.inr (.inr 31)), some (.inl x1), some (.inl x2), some (.inl x3), some (.inl (U 31 1)), none], [.inl 0, .inl (U 31 1), .inr (.inr 37)], (am_sh, am_mm (am_upd (am_upd (am_upd (am_upd U 33 ((U 31 1).toNat) x1) 34 ((U 31 1).toNat) x2) 36 ((U 31 1).toNat) x3) 35 ((U 31 1).toNat) 0)))) 4 (fun _ => rfl) ?_
    refine eu_iast 37 (n := 12) rfl (by decide) rfl (fun _ => rfl) h1.1 ?_
    show Ev (am_kz N X) ((d + 1), 297, 56, [some (.inr (.inr 31)), some (.inl x1), some (.inl x2), some (.inl x3), some (.inl (U 31 1)), none], [], (am_sh, am_mm (am_upd (am_upd (am_upd (am_upd (am_upd U 33 ((U 31 1).toNat) x1) 34 ((U 31 1).toNat) x2) 36 ((U 31 1).toNat) x3) 35 ((U 31 1).toNat) 0) 37 ((U 31 1).toNat) 0))) R
    refine ev_seg (σ1 := ((d + 1), 297, 63, [some (.inr (.inr 31)), some (.inl x1), some (.inl x2), some (.inl x3), some (.inl (U 31 1)), none], [.inl 0, .inl (U 31 1), .inr (.inr 38)], (am_sh, am_mm (am_upd (am_upd (am_upd (am_upd (am_upd U 33 ((U 31 1).toNat) x1) 34 ((U 31 1).toNat) x2) 36 ((U 31 1).toNat) x3) 35 ((U 31 1).toNat) 0) 37 ((U 31 1).toNat) 0)))) 4 (fun _ => rfl) ?_
    refine eu_iast 38 (n := 12) rfl (by decide) rfl (fun _ => rfl) h1.1 ?_
    show Ev (am_kz N X) ((d + 1), 297, 64, [some (.inr (.inr 31)), some (.inl x1), some (.inl x2), some (.inl x3), some (.inl (U 31 1)), none], [], (am_sh, am_mm (am_upd (am_upd (am_upd (am_upd (am_upd (am_upd U 33 ((U 31 1).toNat) x1) 34 ((U 31 1).toNat) x2) 36 ((U 31 1).toNat) x3) 35 ((U 31 1).toNat) 0) 37 ((U 31 1).toNat) 0) 38 ((U 31 1).toNat) 0))) R
    refine ev_seg (σ1 := ((d + 1), 297, 66, [some (.inr (.inr 31)), some (.inl x1), some (.inl x2), some (.inl x3), some (.inl (U 31 1)), none], [.inl x2, .inr (.inr 31)], (am_sh, am_mm (am_upd (am_upd (am_upd (am_upd (am_upd (am_upd U 33 ((U 31 1).toNat) x1) 34 ((U 31 1).toNat) x2) 36 ((U 31 1).toNat) x3) 35 ((U 31 1).toNat) 0) 37 ((U 31 1).toNat) 0) 38 ((U 31 1).toNat) 0)))) 2 (fun _ => rfl) ?_
    obtain ⟨r1, U1, h1ac, h1aa⟩ := h1a
    refine ev_cal (σc := (Tw_lastOn_s0 d x2 (am_upd (am_upd (am_upd (am_upd (am_upd (am_upd U 33 ((U 31 1).toNat) x1) 34 ((U 31 1).toNat) x2) 36 ((U 31 1).toNat) x3) 35 ((U 31 1).toNat) 0) 37 ((U 31 1).toNat) 0) 38 ((U 31 1).toNat) 0))) (fun _ => rfl) h1ac ?_
    show Ev (am_kz N X) ((d + 1), 297, 69, [some (.inr (.inr 31)), some (.inl x1), some (.inl x2), some (.inl x3), some (.inl (U 31 1)), none], [.inl r1], (am_sh, am_mm U1)) R
    refine ev_seg (σ1 := ((d + 1), 297, 78, [some (.inr (.inr 31)), some (.inl x1), some (.inl x2), some (.inl x3), some (.inl (U 31 1)), some (.inl r1)], [.inl (w32 ((U1 31 1) + 1)), .inr (.inr 31)], (am_sh, am_mm U1))) 6 (fun _ => rfl) ?_
    refine eu_puti 31 (n := 19) rfl (by decide) rfl rfl ?_
    show Ev (am_kz N X) ((d + 1), 297, 81, [some (.inr (.inr 31)), some (.inl x1), some (.inl x2), some (.inl x3), some (.inl (U 31 1)), some (.inl r1)], [], (am_sh, am_mm (am_upd U1 31 1 (w32 ((U1 31 1) + 1))))) R
    refine ev_br (P := r1 < 0) (σ1 := ((d + 1), 297, 110, [some (.inr (.inr 31)), some (.inl x1), some (.inl x2), some (.inl x3), some (.inl (U 31 1)), some (.inl r1)], [], (am_sh, am_mm (am_upd U1 31 1 (w32 ((U1 31 1) + 1)))))) (σ2 := ((d + 1), 297, 86, [some (.inr (.inr 31)), some (.inl x1), some (.inl x2), some (.inl x3), some (.inl (U 31 1)), some (.inl r1)], [], (am_sh, am_mm (am_upd U1 31 1 (w32 ((U1 31 1) + 1)))))) 2 (fun _ => rfl) (fun hc => ?_) (fun hc => ?_)
    · have h1aa1 := h1aa.1 hc
      subst h1aa1
      exact ev_end 1 (fun _ => rfl)
    · have h1aa2 := h1aa.2 (Int.not_lt.mp hc)
      refine ev_seg (σ1 := ((d + 1), 297, 98, [some (.inr (.inr 31)), some (.inl x1), some (.inl x2), some (.inl x3), some (.inl (U 31 1)), some (.inl r1)], [.inl r1, .inr (.inr 35), .inl (U 31 1), .inr (.inr 35)], (am_sh, am_mm (am_upd U1 31 1 (w32 ((U1 31 1) + 1)))))) 6 (fun _ => rfl) ?_
      refine eu_iald 35 (n := 12) rfl (by decide) rfl (fun _ => rfl) h1aa2.1 ?_
      show Ev (am_kz N X) ((d + 1), 297, 99, [some (.inr (.inr 31)), some (.inl x1), some (.inl x2), some (.inl x3), some (.inl (U 31 1)), some (.inl r1)], [.inl (U1 35 r1.toNat), .inl (U 31 1), .inr (.inr 35)], (am_sh, am_mm (am_upd U1 31 1 (w32 ((U1 31 1) + 1))))) R
      have h1aa2a := h1aa2.2
      refine ev_seg (σ1 := ((d + 1), 297, 101, [some (.inr (.inr 31)), some (.inl x1), some (.inl x2), some (.inl x3), some (.inl (U 31 1)), some (.inl r1)], [.inl (w32 ((U1 35 r1.toNat) + 1)), .inl (U 31 1), .inr (.inr 35)], (am_sh, am_mm (am_upd U1 31 1 (w32 ((U1 31 1) + 1)))))) 2 (fun _ => rfl) ?_
      refine eu_iast 35 (n := 12) rfl (by decide) rfl (fun _ => rfl) h1.1 ?_
      show Ev (am_kz N X) ((d + 1), 297, 102, [some (.inr (.inr 31)), some (.inl x1), some (.inl x2), some (.inl x3), some (.inl (U 31 1)), some (.inl r1)], [], (am_sh, am_mm (am_upd (am_upd U1 31 1 (w32 ((U1 31 1) + 1))) 35 ((U 31 1).toNat) (w32 ((U1 35 r1.toNat) + 1))))) R
      refine ev_seg (σ1 := ((d + 1), 297, 107, [some (.inr (.inr 31)), some (.inl x1), some (.inl x2), some (.inl x3), some (.inl (U 31 1)), some (.inl r1)], [.inl (U 31 1), .inl r1, .inr (.inr 31)], (am_sh, am_mm (am_upd (am_upd U1 31 1 (w32 ((U1 31 1) + 1))) 35 ((U 31 1).toNat) (w32 ((U1 35 r1.toNat) + 1)))))) 3 (fun _ => rfl) ?_
      obtain ⟨U2, h1aa2ac, h1aa2aa⟩ := h1aa2a
      refine ev_cal (σc := (Tw_join_s0 d r1 (U 31 1) (am_upd (am_upd U1 31 1 (w32 ((U1 31 1) + 1))) 35 ((U 31 1).toNat) (w32 ((U1 35 r1.toNat) + 1))))) (fun _ => rfl) h1aa2ac ?_
      show Ev (am_kz N X) ((d + 1), 297, 110, [some (.inr (.inr 31)), some (.inl x1), some (.inl x2), some (.inl x3), some (.inl (U 31 1)), some (.inl r1)], [], (am_sh, am_mm U2)) R
      subst h1aa2aa
      exact ev_end 1 (fun _ => rfl)
  · have h2 := h.2 (Int.not_lt.mp hc)
    subst h2
    exact ev_end 1 (fun _ => rfl)
set_option maxRecDepth 8000 in
theorem Rd_takeHouse_r0 {N : Nat} {X : Nat → Int} {d : Nat} {x1 : Int} {U : am_U} {R : Option am_V × am_M} (h : (((U 26 7) = 2) → ∃ (r1 : Int) (U1 : am_U), EvK N X (Tw_findHouse_s0 d (U 26 8) U) (rI r1 U1) ∧ ((r1 < 0) → ∃ (r2 : Int) (U2 : am_U), EvK N X (Rd_refuseFor_s0 d 3 (U1 26 9) U1) (rI r2 U2) ∧ R = rI (-1) U2) ∧ ((0 ≤ r1) → (((am_and (am_shr x1 r1) 1) ≠ 1) → ∃ U3 : am_U, EvK N X (Rd_next_s0 d U1) (rV U3) ∧ R = rI r1 U3) ∧ (((am_and (am_shr x1 r1) 1) = 1) → ∃ (r4 : Int) (U4 : am_U), EvK N X (Rd_refuseFor_s0 d 3 (U1 26 9) U1) (rI r4 U4) ∧ R = rI (-1) U4))) ∧ (((U 26 7) ≠ 2) → ∃ (r5 : Int) (U5 : am_U), EvK N X (Rd_refuseHere_s0 d U) (rI r5 U5) ∧ R = rI (-1) U5)) : EvK N X (Rd_takeHouse_s0 (d + 1) x1 U) R := by
  show Ev (am_kz N X) ((d + 1), 298, 0, [some (.inr (.inr 26)), some (.inl x1), none], [], (am_sh, am_mm U)) R
  refine ev_br (P := (U 26 7) = 2) (σ1 := ((d + 1), 298, 15, [some (.inr (.inr 26)), some (.inl x1), none], [], (am_sh, am_mm U))) (σ2 := ((d + 1), 298, 8, [some (.inr (.inr 26)), some (.inl x1), none], [], (am_sh, am_mm U))) 4 (fun _ => rfl) (fun hc => ?_) (fun hc => ?_)
  · have h1 := h.1 hc
    refine ev_seg (σ1 := ((d + 1), 298, 23, [some (.inr (.inr 26)), some (.inl x1), none], [.inl (U 26 8), .inr (.inr 31)], (am_sh, am_mm U))) 4 (fun _ => rfl) ?_
    obtain ⟨r1, U1, h1c, h1a⟩ := h1
    refine ev_cal (σc := (Tw_findHouse_s0 d (U 26 8) U)) (fun _ => rfl) h1c ?_
    show Ev (am_kz N X) ((d + 1), 298, 26, [some (.inr (.inr 26)), some (.inl x1), none], [.inl r1], (am_sh, am_mm U1)) R
    refine ev_br (P := r1 < 0) (σ1 := ((d + 1), 298, 40, [some (.inr (.inr 26)), some (.inl x1), some (.inl r1)], [], (am_sh, am_mm U1))) (σ2 := ((d + 1), 298, 31, [some (.inr (.inr 26)), some (.inl x1), some (.inl r1)], [], (am_sh, am_mm U1))) 3 (fun _ => rfl) (fun hc => ?_) (fun hc => ?_)
    · have h1a1 := h1a.1 hc
      refine ev_seg (σ1 := ((d + 1), 298, 46, [some (.inr (.inr 26)), some (.inl x1), some (.inl r1)], [.inl (U1 26 9), .inl 3, .inr (.inr 26)], (am_sh, am_mm U1))) 4 (fun _ => rfl) ?_
      obtain ⟨r2, U2, h1a1c, h1a1a⟩ := h1a1
      refine ev_cal (σc := (Rd_refuseFor_s0 d 3 (U1 26 9) U1)) (fun _ => rfl) h1a1c ?_
      show Ev (am_kz N X) ((d + 1), 298, 49, [some (.inr (.inr 26)), some (.inl x1), some (.inl r1)], [.inl r2], (am_sh, am_mm U2)) R
      subst h1a1a
      exact ev_end 3 (fun _ => rfl)
    · have h1a2 := h1a.2 (Int.not_lt.mp hc)
      refine ev_br (P := ¬ (am_and (am_shr x1 r1) 1) = 1) (σ1 := ((d + 1), 298, 52, [some (.inr (.inr 26)), some (.inl x1), some (.inl r1)], [], (am_sh, am_mm U1))) (σ2 := ((d + 1), 298, 40, [some (.inr (.inr 26)), some (.inl x1), some (.inl r1)], [], (am_sh, am_mm U1))) 7 (fun _ => rfl) (fun hc => ?_) (fun hc => ?_)
      · have h1a21 := h1a2.1 hc
        refine ev_seg (σ1 := ((d + 1), 298, 53, [some (.inr (.inr 26)), some (.inl x1), some (.inl r1)], [.inr (.inr 26)], (am_sh, am_mm U1))) 1 (fun _ => rfl) ?_
        obtain ⟨U3, h1a21c, h1a21a⟩ := h1a21
        refine ev_cal (σc := (Rd_next_s0 d U1)) (fun _ => rfl) h1a21c ?_
        show Ev (am_kz N X) ((d + 1), 298, 56, [some (.inr (.inr 26)), some (.inl x1), some (.inl r1)], [], (am_sh, am_mm U3)) R
        subst h1a21a
        exact ev_end 2 (fun _ => rfl)
      · have h1a22 := h1a2.2 (Decidable.not_not.mp hc)
        refine ev_seg (σ1 := ((d + 1), 298, 46, [some (.inr (.inr 26)), some (.inl x1), some (.inl r1)], [.inl (U1 26 9), .inl 3, .inr (.inr 26)], (am_sh, am_mm U1))) 4 (fun _ => rfl) ?_
        obtain ⟨r4, U4, h1a22c, h1a22a⟩ := h1a22
        refine ev_cal (σc := (Rd_refuseFor_s0 d 3 (U1 26 9) U1)) (fun _ => rfl) h1a22c ?_
        show Ev (am_kz N X) ((d + 1), 298, 49, [some (.inr (.inr 26)), some (.inl x1), some (.inl r1)], [.inl r4], (am_sh, am_mm U4)) R
        subst h1a22a
        exact ev_end 3 (fun _ => rfl)
  · have h2 := h.2 hc
    refine ev_seg (σ1 := ((d + 1), 298, 9, [some (.inr (.inr 26)), some (.inl x1), none], [.inr (.inr 26)], (am_sh, am_mm U))) 1 (fun _ => rfl) ?_
    obtain ⟨r5, U5, h2c, h2a⟩ := h2
    refine ev_cal (σc := (Rd_refuseHere_s0 d U)) (fun _ => rfl) h2c ?_
    show Ev (am_kz N X) ((d + 1), 298, 12, [some (.inr (.inr 26)), some (.inl x1), none], [.inl r5], (am_sh, am_mm U5)) R
    subst h2a
    exact ev_end 3 (fun _ => rfl)
set_option maxRecDepth 8000 in
theorem Tw_addLane_r0 {N : Nat} {X : Nat → Int} {d : Nat} {x1 x2 : Int} {U : am_U} {R : Option am_V × am_M} (h : ∃ U1 : am_U, EvK N X (Tw_join_s0 d x1 x2 U) (rV U1) ∧ R = rV (am_upd U1 31 2 (w32 ((U1 31 2) + 1)))) : EvK N X (Tw_addLane_s0 (d + 1) x1 x2 U) R := by
  show Ev (am_kz N X) ((d + 1), 299, 0, [some (.inr (.inr 31)), some (.inl x1), some (.inl x2)], [], (am_sh, am_mm U)) R
  refine ev_seg (σ1 := ((d + 1), 299, 3, [some (.inr (.inr 31)), some (.inl x1), some (.inl x2)], [.inl x2, .inl x1, .inr (.inr 31)], (am_sh, am_mm U))) 3 (fun _ => rfl) ?_
  obtain ⟨U1, hc, ha⟩ := h
  refine ev_cal (σc := (Tw_join_s0 d x1 x2 U)) (fun _ => rfl) hc ?_
  show Ev (am_kz N X) ((d + 1), 299, 6, [some (.inr (.inr 31)), some (.inl x1), some (.inl x2)], [], (am_sh, am_mm U1)) R
  refine ev_seg (σ1 := ((d + 1), 299, 13, [some (.inr (.inr 31)), some (.inl x1), some (.inl x2)], [.inl (w32 ((U1 31 2) + 1)), .inr (.inr 31)], (am_sh, am_mm U1))) 5 (fun _ => rfl) ?_
  refine eu_puti 31 (n := 19) rfl (by decide) rfl rfl ?_
  show Ev (am_kz N X) ((d + 1), 299, 16, [some (.inr (.inr 31)), some (.inl x1), some (.inl x2)], [], (am_sh, am_mm (am_upd U1 31 2 (w32 ((U1 31 2) + 1))))) R
  subst ha
  exact ev_end 1 (fun _ => rfl)
set_option maxRecDepth 8000 in
theorem Rd_isSign_r0 {N : Nat} {X : Nat → Int} {d : Nat} {x1 : Int} {U : am_U} {R : Option am_V × am_M} (h : (((U 26 7) ≠ 4) → R = rI 0 U) ∧ (((U 26 7) = 4) → (((U 26 8) ≠ x1) → R = rI 0 U) ∧ (((U 26 8) = x1) → R = rI 1 U))) : EvK N X (Rd_isSign_s0 d x1 U) R := by
  show Ev (am_kz N X) (d, 300, 0, [some (.inr (.inr 26)), some (.inl x1)], [], (am_sh, am_mm U)) R
  refine ev_br (P := ¬ (U 26 7) = 4) (σ1 := (d, 300, 20, [some (.inr (.inr 26)), some (.inl x1)], [], (am_sh, am_mm U))) (σ2 := (d, 300, 8, [some (.inr (.inr 26)), some (.inl x1)], [], (am_sh, am_mm U))) 4 (fun _ => rfl) (fun hc => ?_) (fun hc => ?_)
  · have h1 := h.1 hc
    subst h1
    exact ev_end 2 (fun _ => rfl)
  · have h2 := h.2 (Decidable.not_not.mp hc)
    refine ev_br (P := ¬ (U 26 8) = x1) (σ1 := (d, 300, 20, [some (.inr (.inr 26)), some (.inl x1)], [], (am_sh, am_mm U))) (σ2 := (d, 300, 16, [some (.inr (.inr 26)), some (.inl x1)], [], (am_sh, am_mm U))) 4 (fun _ => rfl) (fun hc => ?_) (fun hc => ?_)
    · have h21 := h2.1 hc
      subst h21
      exact ev_end 2 (fun _ => rfl)
    · have h22 := h2.2 (Decidable.not_not.mp hc)
      subst h22
      exact ev_end 3 (fun _ => rfl)
set_option maxRecDepth 8000 in
theorem Rd_isOwn_r0 {N : Nat} {X : Nat → Int} {d : Nat} {x1 : Int} {U : am_U} {R : Option am_V × am_M} (h : (((U 26 7) ≠ 1) → R = rI 0 U) ∧ (((U 26 7) = 1) → (((U 26 8) ≠ x1) → R = rI 0 U) ∧ (((U 26 8) = x1) → R = rI 1 U))) : EvK N X (Rd_isOwn_s0 d x1 U) R := by
  show Ev (am_kz N X) (d, 301, 0, [some (.inr (.inr 26)), some (.inl x1)], [], (am_sh, am_mm U)) R
  refine ev_br (P := ¬ (U 26 7) = 1) (σ1 := (d, 301, 20, [some (.inr (.inr 26)), some (.inl x1)], [], (am_sh, am_mm U))) (σ2 := (d, 301, 8, [some (.inr (.inr 26)), some (.inl x1)], [], (am_sh, am_mm U))) 4 (fun _ => rfl) (fun hc => ?_) (fun hc => ?_)
  · have h1 := h.1 hc
    subst h1
    exact ev_end 2 (fun _ => rfl)
  · have h2 := h.2 (Decidable.not_not.mp hc)
    refine ev_br (P := ¬ (U 26 8) = x1) (σ1 := (d, 301, 20, [some (.inr (.inr 26)), some (.inl x1)], [], (am_sh, am_mm U))) (σ2 := (d, 301, 16, [some (.inr (.inr 26)), some (.inl x1)], [], (am_sh, am_mm U))) 4 (fun _ => rfl) (fun hc => ?_) (fun hc => ?_)
    · have h21 := h2.1 hc
      subst h21
      exact ev_end 2 (fun _ => rfl)
    · have h22 := h2.2 (Decidable.not_not.mp hc)
      subst h22
      exact ev_end 3 (fun _ => rfl)
set_option maxRecDepth 8000 in
theorem Rd_fullHouses_r0 {N : Nat} {X : Nat → Int} {d : Nat} {U : am_U} {R : Option am_V × am_M} (h : EvK N X (Rd_fullHouses_s4 (d + 1) 0 0 U) R) : EvK N X (Rd_fullHouses_s0 (d + 1) U) R := by
  show Ev (am_kz N X) ((d + 1), 302, 0, [some (.inr (.inr 26)), none, none], [], (am_sh, am_mm U)) R
  refine ev_seg (σ1 := ((d + 1), 302, 4, [some (.inr (.inr 26)), some (.inl 0), some (.inl 0)], [], (am_sh, am_mm U))) 4 (fun _ => rfl) ?_
  exact h
set_option maxRecDepth 8000 in
theorem Rd_fullHouses_r4 {N : Nat} {X : Nat → Int} {d : Nat} {x1 x2 : Int} {U : am_U} {R : Option am_V × am_M} (h : (((U 31 1) ≤ x2) → R = rI x1 U) ∧ ((x2 < (U 31 1)) → ∃ (r1 : Int) (U1 : am_U), EvK N X (Fk_living_21_s0 d x2 U) (rI r1 U1) ∧ (0 ≤ x2 ∧ x2 < 12) ∧ ((r1 < (U1 36 x2.toNat)) → EvK N X (Rd_fullHouses_s4 (d + 1) x1 (w32 (x2 + 1)) U1) R) ∧ (((U1 36 x2.toNat) ≤ r1) → EvK N X (Rd_fullHouses_s4 (d + 1) (am_or x1 (am_shl 1 x2)) (w32 (x2 + 1)) U1) R))) : EvK N X (Rd_fullHouses_s4 (d + 1) x1 x2 U) R := by
  show Ev (am_kz N X) ((d + 1), 302, 4, [some (.inr (.inr 26)), some (.inl x1), some (.inl x2)], [], (am_sh, am_mm U)) R
  refine ev_br (P := (U 31 1) ≤ x2) (σ1 := ((d + 1), 302, 47, [some (.inr (.inr 26)), some (.inl x1), some (.inl x2)], [], (am_sh, am_mm U))) (σ2 := ((d + 1), 302, 15, [some (.inr (.inr 26)), some (.inl x1), some (.inl x2)], [], (am_sh, am_mm U))) 5 (fun _ => rfl) (fun hc => ?_) (fun hc => ?_)
  · have h1 := h.1 hc
    subst h1
    exact ev_end 2 (fun _ => rfl)
  · have h2 := h.2 (Int.not_le.mp hc)
    refine ev_seg (σ1 := ((d + 1), 302, 20, [some (.inr (.inr 26)), some (.inl x1), some (.inl x2)], [.inl x2, .inr (.inr 21)], (am_sh, am_mm U))) 3 (fun _ => rfl) ?_
    obtain ⟨r1, U1, h2c, h2a⟩ := h2
    refine ev_cal (σc := (Fk_living_21_s0 d x2 U)) (fun _ => rfl) h2c ?_
    show Ev (am_kz N X) ((d + 1), 302, 23, [some (.inr (.inr 26)), some (.inl x1), some (.inl x2)], [.inl r1], (am_sh, am_mm U1)) R
    refine ev_seg (σ1 := ((d + 1), 302, 31, [some (.inr (.inr 26)), some (.inl x1), some (.inl x2)], [.inl x2, .inr (.inr 36), .inl r1], (am_sh, am_mm U1))) 4 (fun _ => rfl) ?_
    refine eu_iald 36 (n := 12) rfl (by decide) rfl (fun _ => rfl) h2a.1 ?_
    show Ev (am_kz N X) ((d + 1), 302, 32, [some (.inr (.inr 26)), some (.inl x1), some (.inl x2)], [.inl (U1 36 x2.toNat), .inl r1], (am_sh, am_mm U1)) R
    have h2aa := h2a.2
    refine ev_br (P := r1 < (U1 36 x2.toNat)) (σ1 := ((d + 1), 302, 41, [some (.inr (.inr 26)), some (.inl x1), some (.inl x2)], [], (am_sh, am_mm U1))) (σ2 := ((d + 1), 302, 35, [some (.inr (.inr 26)), some (.inl x1), some (.inl x2)], [], (am_sh, am_mm U1))) 1 (fun _ => rfl) (fun hc => ?_) (fun hc => ?_)
    · have h2aa1 := h2aa.1 hc
      refine ev_seg (σ1 := ((d + 1), 302, 4, [some (.inr (.inr 26)), some (.inl x1), some (.inl (w32 (x2 + 1)))], [], (am_sh, am_mm U1))) 2 (fun _ => rfl) ?_
      exact h2aa1
    · have h2aa2 := h2aa.2 (Int.not_lt.mp hc)
      refine ev_seg (σ1 := ((d + 1), 302, 4, [some (.inr (.inr 26)), some (.inl (am_or x1 (am_shl 1 x2))), some (.inl (w32 (x2 + 1)))], [], (am_sh, am_mm U1))) 8 (fun _ => rfl) ?_
      exact h2aa2
set_option maxRecDepth 8000 in
theorem Rd_readBoth_r0 {N : Nat} {X : Nat → Int} {d : Nat} {x1 : Int} {U : am_U} {R : Option am_V × am_M} (h : ∃ (r1 : Int) (U1 : am_U), EvK N X (Rd_readFact_s0 d x1 U) (rI r1 U1) ∧ EvK N X (Rd_readBoth_s8 (d + 1) x1 r1 0 U1) R) : EvK N X (Rd_readBoth_s0 (d + 1) x1 U) R := by
  show Ev (am_kz N X) ((d + 1), 303, 0, [some (.inr (.inr 26)), some (.inl x1), none, none], [], (am_sh, am_mm U)) R
  refine ev_seg (σ1 := ((d + 1), 303, 2, [some (.inr (.inr 26)), some (.inl x1), none, none], [.inl x1, .inr (.inr 26)], (am_sh, am_mm U))) 2 (fun _ => rfl) ?_
  obtain ⟨r1, U1, hc, ha⟩ := h
  refine ev_cal (σc := (Rd_readFact_s0 d x1 U)) (fun _ => rfl) hc ?_
  show Ev (am_kz N X) ((d + 1), 303, 5, [some (.inr (.inr 26)), some (.inl x1), none, none], [.inl r1], (am_sh, am_mm U1)) R
  refine ev_seg (σ1 := ((d + 1), 303, 8, [some (.inr (.inr 26)), some (.inl x1), some (.inl r1), some (.inl 0)], [], (am_sh, am_mm U1))) 3 (fun _ => rfl) ?_
  exact ha
set_option maxRecDepth 8000 in
theorem Rd_readBoth_r8 {N : Nat} {X : Nat → Int} {d : Nat} {x1 x2 x3 : Int} {U : am_U} {R : Option am_V × am_M} (h : ((1600 ≤ x3) → (x2 = 0 ∨ x2 = 1) ∧ R = rI x2 U) ∧ ((x3 < 1600) → ((x2 = 0) → (x2 = 0 ∨ x2 = 1) ∧ R = rI x2 U) ∧ ((x2 ≠ 0) → ∃ (r1 : Int) (U1 : am_U), EvK N X (Rd_isOwn_s0 d 20 U) (rI r1 U1) ∧ ((r1 = 0) → (x2 = 0 ∨ x2 = 1) ∧ R = rI x2 U1) ∧ ((r1 ≠ 0) → ∃ U2 : am_U, EvK N X (Rd_next_s0 d U1) (rV U2) ∧ ∃ (r3 : Int) (U3 : am_U), EvK N X (Rd_readFact_s0 d x1 U2) (rI r3 U3) ∧ ((r3 = 0) → EvK N X (Rd_readBoth_s8 (d + 1) x1 0 (w32 (x3 + 1)) U3) R) ∧ ((r3 ≠ 0) → ∃ (r4 : Int) (U4 : am_U), EvK N X (Tw_emitWord_s0 d 20 U3) (rI r4 U4) ∧ ((r4 = 0) → EvK N X (Rd_readBoth_s8 (d + 1) x1 0 (w32 (x3 + 1)) U4) R) ∧ ((r4 ≠ 0) → EvK N X (Rd_readBoth_s8 (d + 1) x1 1 (w32 (x3 + 1)) U4) R)))))) : EvK N X (Rd_readBoth_s8 (d + 1) x1 x2 x3 U) R := by
  show Ev (am_kz N X) ((d + 1), 303, 8, [some (.inr (.inr 26)), some (.inl x1), some (.inl x2), some (.inl x3)], [], (am_sh, am_mm U)) R
  refine ev_br (P := 1600 ≤ x3) (σ1 := ((d + 1), 303, 64, [some (.inr (.inr 26)), some (.inl x1), some (.inl x2), some (.inl x3)], [], (am_sh, am_mm U))) (σ2 := ((d + 1), 303, 15, [some (.inr (.inr 26)), some (.inl x1), some (.inl x2), some (.inl x3)], [], (am_sh, am_mm U))) 3 (fun _ => rfl) (fun hc => ?_) (fun hc => ?_)
  · have h1 := h.1 hc
    refine ev_seg (σ1 := ((d + 1), 303, 65, [some (.inr (.inr 26)), some (.inl x1), some (.inl x2), some (.inl x3)], [.inl x2], (am_sh, am_mm U))) 1 (fun _ => rfl) ?_
    rw [h1.2]
    exact ev_retz rfl rfl h1.1
  · have h2 := h.2 (Int.not_le.mp hc)
    refine ev_br (P := x2 = 0) (σ1 := ((d + 1), 303, 64, [some (.inr (.inr 26)), some (.inl x1), some (.inl x2), some (.inl x3)], [], (am_sh, am_mm U))) (σ2 := ((d + 1), 303, 19, [some (.inr (.inr 26)), some (.inl x1), some (.inl x2), some (.inl x3)], [], (am_sh, am_mm U))) 2 (fun _ => rfl) (fun hc => ?_) (fun hc => ?_)
    · have h21 := h2.1 hc
      refine ev_seg (σ1 := ((d + 1), 303, 65, [some (.inr (.inr 26)), some (.inl x1), some (.inl x2), some (.inl x3)], [.inl x2], (am_sh, am_mm U))) 1 (fun _ => rfl) ?_
      rw [h21.2]
      exact ev_retz rfl rfl h21.1
    · have h22 := h2.2 hc
      refine ev_seg (σ1 := ((d + 1), 303, 22, [some (.inr (.inr 26)), some (.inl x1), some (.inl x2), some (.inl x3)], [.inl 20, .inr (.inr 26)], (am_sh, am_mm U))) 2 (fun _ => rfl) ?_
      obtain ⟨r1, U1, h22c, h22a⟩ := h22
      refine ev_cal (σc := (Rd_isOwn_s0 d 20 U)) (fun _ => rfl) h22c ?_
      show Ev (am_kz N X) ((d + 1), 303, 25, [some (.inr (.inr 26)), some (.inl x1), some (.inl x2), some (.inl x3)], [.inl r1], (am_sh, am_mm U1)) R
      refine ev_br (P := r1 = 0) (σ1 := ((d + 1), 303, 64, [some (.inr (.inr 26)), some (.inl x1), some (.inl x2), some (.inl x3)], [], (am_sh, am_mm U1))) (σ2 := ((d + 1), 303, 28, [some (.inr (.inr 26)), some (.inl x1), some (.inl x2), some (.inl x3)], [], (am_sh, am_mm U1))) 1 (fun _ => rfl) (fun hc => ?_) (fun hc => ?_)
      · have h22a1 := h22a.1 hc
        refine ev_seg (σ1 := ((d + 1), 303, 65, [some (.inr (.inr 26)), some (.inl x1), some (.inl x2), some (.inl x3)], [.inl x2], (am_sh, am_mm U1))) 1 (fun _ => rfl) ?_
        rw [h22a1.2]
        exact ev_retz rfl rfl h22a1.1
      · have h22a2 := h22a.2 hc
        refine ev_seg (σ1 := ((d + 1), 303, 29, [some (.inr (.inr 26)), some (.inl x1), some (.inl x2), some (.inl x3)], [.inr (.inr 26)], (am_sh, am_mm U1))) 1 (fun _ => rfl) ?_
        obtain ⟨U2, h22a2c, h22a2a⟩ := h22a2
        refine ev_cal (σc := (Rd_next_s0 d U1)) (fun _ => rfl) h22a2c ?_
        show Ev (am_kz N X) ((d + 1), 303, 32, [some (.inr (.inr 26)), some (.inl x1), some (.inl x2), some (.inl x3)], [], (am_sh, am_mm U2)) R
        refine ev_seg (σ1 := ((d + 1), 303, 34, [some (.inr (.inr 26)), some (.inl x1), some (.inl x2), some (.inl x3)], [.inl x1, .inr (.inr 26)], (am_sh, am_mm U2))) 2 (fun _ => rfl) ?_
        obtain ⟨r3, U3, h22a2ac, h22a2aa⟩ := h22a2a
        refine ev_cal (σc := (Rd_readFact_s0 d x1 U2)) (fun _ => rfl) h22a2ac ?_
        show Ev (am_kz N X) ((d + 1), 303, 37, [some (.inr (.inr 26)), some (.inl x1), some (.inl x2), some (.inl x3)], [.inl r3], (am_sh, am_mm U3)) R
        refine ev_br (P := r3 = 0) (σ1 := ((d + 1), 303, 56, [some (.inr (.inr 26)), some (.inl x1), some (.inl x2), some (.inl x3)], [], (am_sh, am_mm U3))) (σ2 := ((d + 1), 303, 40, [some (.inr (.inr 26)), some (.inl x1), some (.inl x2), some (.inl x3)], [], (am_sh, am_mm U3))) 1 (fun _ => rfl) (fun hc => ?_) (fun hc => ?_)
        · have h22a2aa1 := h22a2aa.1 hc
          refine ev_seg (σ1 := ((d + 1), 303, 8, [some (.inr (.inr 26)), some (.inl x1), some (.inl 0), some (.inl (w32 (x3 + 1)))], [], (am_sh, am_mm U3))) 4 (fun _ => rfl) ?_
          exact h22a2aa1
        · have h22a2aa2 := h22a2aa.2 hc
          refine ev_seg (σ1 := ((d + 1), 303, 46, [some (.inr (.inr 26)), some (.inl x1), some (.inl x2), some (.inl x3)], [.inl 20, .inr (.inr 31)], (am_sh, am_mm U3))) 3 (fun _ => rfl) ?_
          obtain ⟨r4, U4, h22a2aa2c, h22a2aa2a⟩ := h22a2aa2
          refine ev_cal (σc := (Tw_emitWord_s0 d 20 U3)) (fun _ => rfl) h22a2aa2c ?_
          show Ev (am_kz N X) ((d + 1), 303, 49, [some (.inr (.inr 26)), some (.inl x1), some (.inl x2), some (.inl x3)], [.inl r4], (am_sh, am_mm U4)) R
          refine ev_br (P := r4 = 0) (σ1 := ((d + 1), 303, 56, [some (.inr (.inr 26)), some (.inl x1), some (.inl x2), some (.inl x3)], [], (am_sh, am_mm U4))) (σ2 := ((d + 1), 303, 52, [some (.inr (.inr 26)), some (.inl x1), some (.inl x2), some (.inl x3)], [], (am_sh, am_mm U4))) 1 (fun _ => rfl) (fun hc => ?_) (fun hc => ?_)
          · have h22a2aa2a1 := h22a2aa2a.1 hc
            refine ev_seg (σ1 := ((d + 1), 303, 8, [some (.inr (.inr 26)), some (.inl x1), some (.inl 0), some (.inl (w32 (x3 + 1)))], [], (am_sh, am_mm U4))) 4 (fun _ => rfl) ?_
            exact h22a2aa2a1
          · have h22a2aa2a2 := h22a2aa2a.2 hc
            refine ev_seg (σ1 := ((d + 1), 303, 8, [some (.inr (.inr 26)), some (.inl x1), some (.inl 1), some (.inl (w32 (x3 + 1)))], [], (am_sh, am_mm U4))) 5 (fun _ => rfl) ?_
            exact h22a2aa2a2
set_option maxRecDepth 8000 in
theorem Tw_emitWord_r0 {N : Nat} {X : Nat → Int} {d : Nat} {x1 : Int} {U : am_U} {R : Option am_V × am_M} (h : ∃ (r1 : Int) (U1 : am_U), EvK N X (Tw_emit_s0 d (w32 ((-1) - x1)) U) (rI r1 U1) ∧ (r1 = 0 ∨ r1 = 1) ∧ R = rI r1 U1) : EvK N X (Tw_emitWord_s0 (d + 1) x1 U) R := by
  show Ev (am_kz N X) ((d + 1), 304, 0, [some (.inr (.inr 31)), some (.inl x1)], [], (am_sh, am_mm U)) R
  refine ev_seg (σ1 := ((d + 1), 304, 4, [some (.inr (.inr 31)), some (.inl x1)], [.inl (w32 ((-1) - x1)), .inr (.inr 31)], (am_sh, am_mm U))) 4 (fun _ => rfl) ?_
  obtain ⟨r1, U1, hc, ha⟩ := h
  refine ev_cal (σc := (Tw_emit_s0 d (w32 ((-1) - x1)) U)) (fun _ => rfl) hc ?_
  show Ev (am_kz N X) ((d + 1), 304, 7, [some (.inr (.inr 31)), some (.inl x1)], [.inl r1], (am_sh, am_mm U1)) R
  rw [ha.2]
  exact ev_retz rfl rfl ha.1
set_option maxRecDepth 8000 in
theorem Tw_addDebt_r0 {N : Nat} {X : Nat → Int} {d : Nat} {x1 x2 x3 : Int} {U : am_U} {R : Option am_V × am_M} (h : (0 ≤ x1 ∧ x1 < 12) ∧ (0 ≤ x2 ∧ x2 < 12) ∧ R = rV (am_upd (am_upd (am_upd U 38 x1.toNat (w32 ((U 38 x1.toNat) - x3))) 38 x2.toNat (w32 (((am_upd U 38 x1.toNat (w32 ((U 38 x1.toNat) - x3))) 38 x2.toNat) + x3))) 31 3 (w32 ((U 31 3) + 1)))) : EvK N X (Tw_addDebt_s0 d x1 x2 x3 U) R := by
  show Ev (am_kz N X) (d, 305, 0, [some (.inr (.inr 31)), some (.inl x1), some (.inl x2), some (.inl x3)], [], (am_sh, am_mm U)) R
  refine ev_seg (σ1 := (d, 305, 6, [some (.inr (.inr 31)), some (.inl x1), some (.inl x2), some (.inl x3)], [.inl x1, .inr (.inr 38), .inl x1, .inr (.inr 38)], (am_sh, am_mm U))) 4 (fun _ => rfl) ?_
  refine eu_iald 38 (n := 12) rfl (by decide) rfl (fun _ => rfl) h.1 ?_
  show Ev (am_kz N X) (d, 305, 7, [some (.inr (.inr 31)), some (.inl x1), some (.inl x2), some (.inl x3)], [.inl (U 38 x1.toNat), .inl x1, .inr (.inr 38)], (am_sh, am_mm U)) R
  have ha := h.2
  refine ev_seg (σ1 := (d, 305, 9, [some (.inr (.inr 31)), some (.inl x1), some (.inl x2), some (.inl x3)], [.inl (w32 ((U 38 x1.toNat) - x3)), .inl x1, .inr (.inr 38)], (am_sh, am_mm U))) 2 (fun _ => rfl) ?_
  refine eu_iast 38 (n := 12) rfl (by decide) rfl (fun _ => rfl) h.1 ?_
  show Ev (am_kz N X) (d, 305, 10, [some (.inr (.inr 31)), some (.inl x1), some (.inl x2), some (.inl x3)], [], (am_sh, am_mm (am_upd U 38 x1.toNat (w32 ((U 38 x1.toNat) - x3))))) R
  refine ev_seg (σ1 := (d, 305, 16, [some (.inr (.inr 31)), some (.inl x1), some (.inl x2), some (.inl x3)], [.inl x2, .inr (.inr 38), .inl x2, .inr (.inr 38)], (am_sh, am_mm (am_upd U 38 x1.toNat (w32 ((U 38 x1.toNat) - x3)))))) 4 (fun _ => rfl) ?_
  refine eu_iald 38 (n := 12) rfl (by decide) rfl (fun _ => rfl) ha.1 ?_
  show Ev (am_kz N X) (d, 305, 17, [some (.inr (.inr 31)), some (.inl x1), some (.inl x2), some (.inl x3)], [.inl ((am_upd U 38 x1.toNat (w32 ((U 38 x1.toNat) - x3))) 38 x2.toNat), .inl x2, .inr (.inr 38)], (am_sh, am_mm (am_upd U 38 x1.toNat (w32 ((U 38 x1.toNat) - x3))))) R
  have haa := ha.2
  refine ev_seg (σ1 := (d, 305, 19, [some (.inr (.inr 31)), some (.inl x1), some (.inl x2), some (.inl x3)], [.inl (w32 (((am_upd U 38 x1.toNat (w32 ((U 38 x1.toNat) - x3))) 38 x2.toNat) + x3)), .inl x2, .inr (.inr 38)], (am_sh, am_mm (am_upd U 38 x1.toNat (w32 ((U 38 x1.toNat) - x3)))))) 2 (fun _ => rfl) ?_
  refine eu_iast 38 (n := 12) rfl (by decide) rfl (fun _ => rfl) ha.1 ?_
  show Ev (am_kz N X) (d, 305, 20, [some (.inr (.inr 31)), some (.inl x1), some (.inl x2), some (.inl x3)], [], (am_sh, am_mm (am_upd (am_upd U 38 x1.toNat (w32 ((U 38 x1.toNat) - x3))) 38 x2.toNat (w32 (((am_upd U 38 x1.toNat (w32 ((U 38 x1.toNat) - x3))) 38 x2.toNat) + x3))))) R
  refine ev_seg (σ1 := (d, 305, 27, [some (.inr (.inr 31)), some (.inl x1), some (.inl x2), some (.inl x3)], [.inl (w32 ((U 31 3) + 1)), .inr (.inr 31)], (am_sh, am_mm (am_upd (am_upd U 38 x1.toNat (w32 ((U 38 x1.toNat) - x3))) 38 x2.toNat (w32 (((am_upd U 38 x1.toNat (w32 ((U 38 x1.toNat) - x3))) 38 x2.toNat) + x3)))))) 5 (fun _ => rfl) ?_
  refine eu_puti 31 (n := 19) rfl (by decide) rfl rfl ?_
  show Ev (am_kz N X) (d, 305, 30, [some (.inr (.inr 31)), some (.inl x1), some (.inl x2), some (.inl x3)], [], (am_sh, am_mm (am_upd (am_upd (am_upd U 38 x1.toNat (w32 ((U 38 x1.toNat) - x3))) 38 x2.toNat (w32 (((am_upd U 38 x1.toNat (w32 ((U 38 x1.toNat) - x3))) 38 x2.toNat) + x3))) 31 3 (w32 ((U 31 3) + 1))))) R
  subst haa
  exact ev_end 1 (fun _ => rfl)
set_option maxRecDepth 8000 in
theorem M_named_r0 {N : Nat} {X : Nat → Int} {d : Nat} {x1 x2 : Int} {U : am_U} {R : Option am_V × am_M} (h : EvK N X (M_named_s3 (d + 1) x1 x2 0 U) R) : EvK N X (M_named_s0 (d + 1) x1 x2 U) R := by
  show Ev (am_kz N X) ((d + 1), 307, 0, [some (.inr (.inr 86)), some (.inl x1), some (.inr (.inl x2)), none, none], [], (am_sh, am_mm U)) R
  refine ev_seg (σ1 := ((d + 1), 307, 3, [some (.inr (.inr 86)), some (.inl x1), some (.inr (.inl x2)), none, some (.inl 0)], [], (am_sh, am_mm U))) 2 (fun _ => rfl) ?_
  exact h
set_option maxRecDepth 8000 in
theorem M_named_r3 {N : Nat} {X : Nat → Int} {d : Nat} {x1 x2 x4 : Int} {U : am_U} {R : Option am_V × am_M} (h : ∃ (r1 : Int) (U1 : am_U), EvK N X (M_manyOf_s0 d (U 86 40) x1 U) (rI r1 U1) ∧ ((r1 ≤ x4) → R = rI (-1) U1) ∧ ((x4 < r1) → ∃ (r2 : Int) (U2 : am_U), EvK N X (M_nameOf_s0 d (U1 86 40) x1 x4 U1) (rJ r2 U2) ∧ ((r2 ≠ x2) → EvK N X (M_named_s3 (d + 1) x1 x2 (w32 (x4 + 1)) U2) R) ∧ ((r2 = x2) → R = rI x4 U2))) : EvK N X (M_named_s3 (d + 1) x1 x2 x4 U) R := by
  show Ev (am_kz N X) ((d + 1), 307, 3, [some (.inr (.inr 86)), some (.inl x1), some (.inr (.inl x2)), none, some (.inl x4)], [], (am_sh, am_mm U)) R
  refine ev_seg (σ1 := ((d + 1), 307, 11, [some (.inr (.inr 86)), some (.inl x1), some (.inr (.inl x2)), none, some (.inl x4)], [.inl x1, .inl (U 86 40), .inr (.inr 86), .inl x4], (am_sh, am_mm U))) 5 (fun _ => rfl) ?_
  obtain ⟨r1, U1, hc, ha⟩ := h
  refine ev_cal (σc := (M_manyOf_s0 d (U 86 40) x1 U)) (fun _ => rfl) hc ?_
  show Ev (am_kz N X) ((d + 1), 307, 14, [some (.inr (.inr 86)), some (.inl x1), some (.inr (.inl x2)), none, some (.inl x4)], [.inl r1, .inl x4], (am_sh, am_mm U1)) R
  refine ev_br (P := r1 ≤ x4) (σ1 := ((d + 1), 307, 42, [some (.inr (.inr 86)), some (.inl x1), some (.inr (.inl x2)), none, some (.inl x4)], [], (am_sh, am_mm U1))) (σ2 := ((d + 1), 307, 17, [some (.inr (.inr 86)), some (.inl x1), some (.inr (.inl x2)), none, some (.inl x4)], [], (am_sh, am_mm U1))) 1 (fun _ => rfl) (fun hc => ?_) (fun hc => ?_)
  · have ha1 := ha.1 hc
    subst ha1
    exact ev_end 2 (fun _ => rfl)
  · have ha2 := ha.2 (Int.not_le.mp hc)
    refine ev_seg (σ1 := ((d + 1), 307, 25, [some (.inr (.inr 86)), some (.inl x1), some (.inr (.inl x2)), none, some (.inl x4)], [.inl x4, .inl x1, .inl (U1 86 40), .inr (.inr 86)], (am_sh, am_mm U1))) 5 (fun _ => rfl) ?_
    obtain ⟨r2, U2, ha2c, ha2a⟩ := ha2
    refine ev_cal (σc := (M_nameOf_s0 d (U1 86 40) x1 x4 U1)) (fun _ => rfl) ha2c ?_
    show Ev (am_kz N X) ((d + 1), 307, 28, [some (.inr (.inr 86)), some (.inl x1), some (.inr (.inl x2)), none, some (.inl x4)], [.inr (.inl r2)], (am_sh, am_mm U2)) R
    refine ev_br (P := ¬ (am_lcmp r2 x2) = 0) (σ1 := ((d + 1), 307, 36, [some (.inr (.inr 86)), some (.inl x1), some (.inr (.inl x2)), none, some (.inl x4)], [], (am_sh, am_mm U2))) (σ2 := ((d + 1), 307, 33, [some (.inr (.inr 86)), some (.inl x1), some (.inr (.inl x2)), none, some (.inl x4)], [], (am_sh, am_mm U2))) 3 (fun _ => rfl) (fun hc => ?_) (fun hc => ?_)
    · have ha2a1 := ha2a.1 ((am_lc_ne r2 x2).mp hc)
      refine ev_seg (σ1 := ((d + 1), 307, 3, [some (.inr (.inr 86)), some (.inl x1), some (.inr (.inl x2)), none, some (.inl (w32 (x4 + 1)))], [], (am_sh, am_mm U2))) 2 (fun _ => rfl) ?_
      exact ha2a1
    · have ha2a2 := ha2a.2 ((am_lcn_ne r2 x2).mp hc)
      subst ha2a2
      exact ev_end 2 (fun _ => rfl)
set_option maxRecDepth 8000 in
theorem M_isOwn_r0 {N : Nat} {X : Nat → Int} {d : Nat} {x1 : Int} {U : am_U} {R : Option am_V × am_M} (h : ((x1 = 126943972648308) → EvK N X (M_isOwn_s40 d x1 U) R) ∧ ((x1 ≠ 126943972648308) → ((x1 = 448546567013) → EvK N X (M_isOwn_s40 d x1 U) R) ∧ ((x1 ≠ 448546567013) → ((x1 = 28518) → EvK N X (M_isOwn_s40 d x1 U) R) ∧ ((x1 ≠ 28518) → ((x1 = 491495845235) → EvK N X (M_isOwn_s40 d x1 U) R) ∧ ((x1 ≠ 491495845235) → ((x1 ≠ 1818324581) → ((x1 = 121450625394034) → EvK N X (M_isOwn_s82 d x1 U) R) ∧ ((x1 ≠ 121450625394034) → ((x1 = 26990) → EvK N X (M_isOwn_s82 d x1 U) R) ∧ ((x1 ≠ 26990) → ((x1 = 7102839) → EvK N X (M_isOwn_s82 d x1 U) R) ∧ ((x1 ≠ 7102839) → ((x1 = 1700881256) → EvK N X (M_isOwn_s82 d x1 U) R) ∧ ((x1 ≠ 1700881256) → ((x1 ≠ 108187867505765) → ((x1 = 131294808271214) → EvK N X (M_isOwn_s124 d x1 U) R) ∧ ((x1 ≠ 131294808271214) → ((x1 = 7824740) → EvK N X (M_isOwn_s124 d x1 U) R) ∧ ((x1 ≠ 7824740) → ((x1 = 1870095731) → EvK N X (M_isOwn_s124 d x1 U) R) ∧ ((x1 ≠ 1870095731) → ((x1 = 1718186597) → EvK N X (M_isOwn_s124 d x1 U) R) ∧ ((x1 ≠ 1718186597) → ((x1 ≠ 28005) → ((x1 = 478694368626) → EvK N X (M_isOwn_s166 d x1 U) R) ∧ ((x1 ≠ 478694368626) → ((x1 = 1835101817) → EvK N X (M_isOwn_s166 d x1 U) R) ∧ ((x1 ≠ 1835101817) → ((x1 = 126931137819237) → EvK N X (M_isOwn_s166 d x1 U) R) ∧ ((x1 ≠ 126931137819237) → ((x1 = 482955849061) → EvK N X (M_isOwn_s166 d x1 U) R) ∧ ((x1 ≠ 482955849061) → ((x1 ≠ 28530) → ((x1 = 6385252) → EvK N X (M_isOwn_s208 d x1 U) R) ∧ ((x1 ≠ 6385252) → ((x1 = 7237492) → EvK N X (M_isOwn_s208 d x1 U) R) ∧ ((x1 ≠ 7237492) → ((x1 = 6384748) → EvK N X (M_isOwn_s208 d x1 U) R) ∧ ((x1 ≠ 6384748) → ((x1 = 7170414) → EvK N X (M_isOwn_s208 d x1 U) R) ∧ ((x1 ≠ 7170414) → ((x1 ≠ 7168376) → ((x1 ≠ 6775652) → R = rI 0 U) ∧ ((x1 = 6775652) → R = rI 1 U)) ∧ ((x1 = 7168376) → EvK N X (M_isOwn_s208 d x1 U) R)))))) ∧ ((x1 = 28530) → EvK N X (M_isOwn_s166 d x1 U) R)))))) ∧ ((x1 = 28005) → EvK N X (M_isOwn_s124 d x1 U) R)))))) ∧ ((x1 = 108187867505765) → EvK N X (M_isOwn_s82 d x1 U) R)))))) ∧ ((x1 = 1818324581) → EvK N X (M_isOwn_s40 d x1 U) R)))))) : EvK N X (M_isOwn_s0 d x1 U) R := by
  show Ev (am_kz N X) (d, 306, 0, [some (.inr (.inr 86)), some (.inr (.inl x1)), none], [], (am_sh, am_mm U)) R
  refine ev_br (P := (am_lcmp x1 126943972648308) = 0) (σ1 := (d, 306, 40, [some (.inr (.inr 86)), some (.inr (.inl x1)), none], [], (am_sh, am_mm U))) (σ2 := (d, 306, 8, [some (.inr (.inr 86)), some (.inr (.inl x1)), none], [], (am_sh, am_mm U))) 4 (fun _ => rfl) (fun hc => ?_) (fun hc => ?_)
  · have h1 := h.1 ((am_lc_eq x1 126943972648308).mp hc)
    exact h1
  · have h2 := h.2 ((am_lcn_eq x1 126943972648308).mp hc)
    refine ev_br (P := (am_lcmp x1 448546567013) = 0) (σ1 := (d, 306, 40, [some (.inr (.inr 86)), some (.inr (.inl x1)), none], [], (am_sh, am_mm U))) (σ2 := (d, 306, 16, [some (.inr (.inr 86)), some (.inr (.inl x1)), none], [], (am_sh, am_mm U))) 4 (fun _ => rfl) (fun hc => ?_) (fun hc => ?_)
    · have h21 := h2.1 ((am_lc_eq x1 448546567013).mp hc)
      exact h21
    · have h22 := h2.2 ((am_lcn_eq x1 448546567013).mp hc)
      refine ev_br (P := (am_lcmp x1 28518) = 0) (σ1 := (d, 306, 40, [some (.inr (.inr 86)), some (.inr (.inl x1)), none], [], (am_sh, am_mm U))) (σ2 := (d, 306, 24, [some (.inr (.inr 86)), some (.inr (.inl x1)), none], [], (am_sh, am_mm U))) 4 (fun _ => rfl) (fun hc => ?_) (fun hc => ?_)
      · have h221 := h22.1 ((am_lc_eq x1 28518).mp hc)
        exact h221
      · have h222 := h22.2 ((am_lcn_eq x1 28518).mp hc)
        refine ev_br (P := (am_lcmp x1 491495845235) = 0) (σ1 := (d, 306, 40, [some (.inr (.inr 86)), some (.inr (.inl x1)), none], [], (am_sh, am_mm U))) (σ2 := (d, 306, 32, [some (.inr (.inr 86)), some (.inr (.inl x1)), none], [], (am_sh, am_mm U))) 4 (fun _ => rfl) (fun hc => ?_) (fun hc => ?_)
        · have h2221 := h222.1 ((am_lc_eq x1 491495845235).mp hc)
          exact h2221
        · have h2222 := h222.2 ((am_lcn_eq x1 491495845235).mp hc)
          refine ev_br (P := ¬ (am_lcmp x1 1818324581) = 0) (σ1 := (d, 306, 42, [some (.inr (.inr 86)), some (.inr (.inl x1)), none], [], (am_sh, am_mm U))) (σ2 := (d, 306, 40, [some (.inr (.inr 86)), some (.inr (.inl x1)), none], [], (am_sh, am_mm U))) 4 (fun _ => rfl) (fun hc => ?_) (fun hc => ?_)
          · have h22221 := h2222.1 ((am_lc_ne x1 1818324581).mp hc)
            refine ev_br (P := (am_lcmp x1 121450625394034) = 0) (σ1 := (d, 306, 82, [some (.inr (.inr 86)), some (.inr (.inl x1)), none], [], (am_sh, am_mm U))) (σ2 := (d, 306, 50, [some (.inr (.inr 86)), some (.inr (.inl x1)), none], [], (am_sh, am_mm U))) 4 (fun _ => rfl) (fun hc => ?_) (fun hc => ?_)
            · have h222211 := h22221.1 ((am_lc_eq x1 121450625394034).mp hc)
              exact h222211
            · have h222212 := h22221.2 ((am_lcn_eq x1 121450625394034).mp hc)
              refine ev_br (P := (am_lcmp x1 26990) = 0) (σ1 := (d, 306, 82, [some (.inr (.inr 86)), some (.inr (.inl x1)), none], [], (am_sh, am_mm U))) (σ2 := (d, 306, 58, [some (.inr (.inr 86)), some (.inr (.inl x1)), none], [], (am_sh, am_mm U))) 4 (fun _ => rfl) (fun hc => ?_) (fun hc => ?_)
              · have h2222121 := h222212.1 ((am_lc_eq x1 26990).mp hc)
                exact h2222121
              · have h2222122 := h222212.2 ((am_lcn_eq x1 26990).mp hc)
                refine ev_br (P := (am_lcmp x1 7102839) = 0) (σ1 := (d, 306, 82, [some (.inr (.inr 86)), some (.inr (.inl x1)), none], [], (am_sh, am_mm U))) (σ2 := (d, 306, 66, [some (.inr (.inr 86)), some (.inr (.inl x1)), none], [], (am_sh, am_mm U))) 4 (fun _ => rfl) (fun hc => ?_) (fun hc => ?_)
                · have h22221221 := h2222122.1 ((am_lc_eq x1 7102839).mp hc)
                  exact h22221221
                · have h22221222 := h2222122.2 ((am_lcn_eq x1 7102839).mp hc)
                  refine ev_br (P := (am_lcmp x1 1700881256) = 0) (σ1 := (d, 306, 82, [some (.inr (.inr 86)), some (.inr (.inl x1)), none], [], (am_sh, am_mm U))) (σ2 := (d, 306, 74, [some (.inr (.inr 86)), some (.inr (.inl x1)), none], [], (am_sh, am_mm U))) 4 (fun _ => rfl) (fun hc => ?_) (fun hc => ?_)
                  · have h222212221 := h22221222.1 ((am_lc_eq x1 1700881256).mp hc)
                    exact h222212221
                  · have h222212222 := h22221222.2 ((am_lcn_eq x1 1700881256).mp hc)
                    refine ev_br (P := ¬ (am_lcmp x1 108187867505765) = 0) (σ1 := (d, 306, 84, [some (.inr (.inr 86)), some (.inr (.inl x1)), none], [], (am_sh, am_mm U))) (σ2 := (d, 306, 82, [some (.inr (.inr 86)), some (.inr (.inl x1)), none], [], (am_sh, am_mm U))) 4 (fun _ => rfl) (fun hc => ?_) (fun hc => ?_)
                    · have h2222122221 := h222212222.1 ((am_lc_ne x1 108187867505765).mp hc)
                      refine ev_br (P := (am_lcmp x1 131294808271214) = 0) (σ1 := (d, 306, 124, [some (.inr (.inr 86)), some (.inr (.inl x1)), none], [], (am_sh, am_mm U))) (σ2 := (d, 306, 92, [some (.inr (.inr 86)), some (.inr (.inl x1)), none], [], (am_sh, am_mm U))) 4 (fun _ => rfl) (fun hc => ?_) (fun hc => ?_)
                      · have h22221222211 := h2222122221.1 ((am_lc_eq x1 131294808271214).mp hc)
                        exact h22221222211
                      · have h22221222212 := h2222122221.2 ((am_lcn_eq x1 131294808271214).mp hc)
                        refine ev_br (P := (am_lcmp x1 7824740) = 0) (σ1 := (d, 306, 124, [some (.inr (.inr 86)), some (.inr (.inl x1)), none], [], (am_sh, am_mm U))) (σ2 := (d, 306, 100, [some (.inr (.inr 86)), some (.inr (.inl x1)), none], [], (am_sh, am_mm U))) 4 (fun _ => rfl) (fun hc => ?_) (fun hc => ?_)
                        · have h222212222121 := h22221222212.1 ((am_lc_eq x1 7824740).mp hc)
                          exact h222212222121
                        · have h222212222122 := h22221222212.2 ((am_lcn_eq x1 7824740).mp hc)
                          refine ev_br (P := (am_lcmp x1 1870095731) = 0) (σ1 := (d, 306, 124, [some (.inr (.inr 86)), some (.inr (.inl x1)), none], [], (am_sh, am_mm U))) (σ2 := (d, 306, 108, [some (.inr (.inr 86)), some (.inr (.inl x1)), none], [], (am_sh, am_mm U))) 4 (fun _ => rfl) (fun hc => ?_) (fun hc => ?_)
                          · have h2222122221221 := h222212222122.1 ((am_lc_eq x1 1870095731).mp hc)
                            exact h2222122221221
                          · have h2222122221222 := h222212222122.2 ((am_lcn_eq x1 1870095731).mp hc)
                            refine ev_br (P := (am_lcmp x1 1718186597) = 0) (σ1 := (d, 306, 124, [some (.inr (.inr 86)), some (.inr (.inl x1)), none], [], (am_sh, am_mm U))) (σ2 := (d, 306, 116, [some (.inr (.inr 86)), some (.inr (.inl x1)), none], [], (am_sh, am_mm U))) 4 (fun _ => rfl) (fun hc => ?_) (fun hc => ?_)
                            · have h22221222212221 := h2222122221222.1 ((am_lc_eq x1 1718186597).mp hc)
                              exact h22221222212221
                            · have h22221222212222 := h2222122221222.2 ((am_lcn_eq x1 1718186597).mp hc)
                              refine ev_br (P := ¬ (am_lcmp x1 28005) = 0) (σ1 := (d, 306, 126, [some (.inr (.inr 86)), some (.inr (.inl x1)), none], [], (am_sh, am_mm U))) (σ2 := (d, 306, 124, [some (.inr (.inr 86)), some (.inr (.inl x1)), none], [], (am_sh, am_mm U))) 4 (fun _ => rfl) (fun hc => ?_) (fun hc => ?_)
                              · have h222212222122221 := h22221222212222.1 ((am_lc_ne x1 28005).mp hc)
                                refine ev_br (P := (am_lcmp x1 478694368626) = 0) (σ1 := (d, 306, 166, [some (.inr (.inr 86)), some (.inr (.inl x1)), none], [], (am_sh, am_mm U))) (σ2 := (d, 306, 134, [some (.inr (.inr 86)), some (.inr (.inl x1)), none], [], (am_sh, am_mm U))) 4 (fun _ => rfl) (fun hc => ?_) (fun hc => ?_)
                                · have h2222122221222211 := h222212222122221.1 ((am_lc_eq x1 478694368626).mp hc)
                                  exact h2222122221222211
                                · have h2222122221222212 := h222212222122221.2 ((am_lcn_eq x1 478694368626).mp hc)
                                  refine ev_br (P := (am_lcmp x1 1835101817) = 0) (σ1 := (d, 306, 166, [some (.inr (.inr 86)), some (.inr (.inl x1)), none], [], (am_sh, am_mm U))) (σ2 := (d, 306, 142, [some (.inr (.inr 86)), some (.inr (.inl x1)), none], [], (am_sh, am_mm U))) 4 (fun _ => rfl) (fun hc => ?_) (fun hc => ?_)
                                  · have h22221222212222121 := h2222122221222212.1 ((am_lc_eq x1 1835101817).mp hc)
                                    exact h22221222212222121
                                  · have h22221222212222122 := h2222122221222212.2 ((am_lcn_eq x1 1835101817).mp hc)
                                    refine ev_br (P := (am_lcmp x1 126931137819237) = 0) (σ1 := (d, 306, 166, [some (.inr (.inr 86)), some (.inr (.inl x1)), none], [], (am_sh, am_mm U))) (σ2 := (d, 306, 150, [some (.inr (.inr 86)), some (.inr (.inl x1)), none], [], (am_sh, am_mm U))) 4 (fun _ => rfl) (fun hc => ?_) (fun hc => ?_)
                                    · have h222212222122221221 := h22221222212222122.1 ((am_lc_eq x1 126931137819237).mp hc)
                                      exact h222212222122221221
                                    · have h222212222122221222 := h22221222212222122.2 ((am_lcn_eq x1 126931137819237).mp hc)
                                      refine ev_br (P := (am_lcmp x1 482955849061) = 0) (σ1 := (d, 306, 166, [some (.inr (.inr 86)), some (.inr (.inl x1)), none], [], (am_sh, am_mm U))) (σ2 := (d, 306, 158, [some (.inr (.inr 86)), some (.inr (.inl x1)), none], [], (am_sh, am_mm U))) 4 (fun _ => rfl) (fun hc => ?_) (fun hc => ?_)
                                      · have h2222122221222212221 := h222212222122221222.1 ((am_lc_eq x1 482955849061).mp hc)
                                        exact h2222122221222212221
                                      · have h2222122221222212222 := h222212222122221222.2 ((am_lcn_eq x1 482955849061).mp hc)
                                        refine ev_br (P := ¬ (am_lcmp x1 28530) = 0) (σ1 := (d, 306, 168, [some (.inr (.inr 86)), some (.inr (.inl x1)), none], [], (am_sh, am_mm U))) (σ2 := (d, 306, 166, [some (.inr (.inr 86)), some (.inr (.inl x1)), none], [], (am_sh, am_mm U))) 4 (fun _ => rfl) (fun hc => ?_) (fun hc => ?_)
                                        · have h22221222212222122221 := h2222122221222212222.1 ((am_lc_ne x1 28530).mp hc)
                                          refine ev_br (P := (am_lcmp x1 6385252) = 0) (σ1 := (d, 306, 208, [some (.inr (.inr 86)), some (.inr (.inl x1)), none], [], (am_sh, am_mm U))) (σ2 := (d, 306, 176, [some (.inr (.inr 86)), some (.inr (.inl x1)), none], [], (am_sh, am_mm U))) 4 (fun _ => rfl) (fun hc => ?_) (fun hc => ?_)
                                          · have h222212222122221222211 := h22221222212222122221.1 ((am_lc_eq x1 6385252).mp hc)
                                            exact h222212222122221222211
                                          · have h222212222122221222212 := h22221222212222122221.2 ((am_lcn_eq x1 6385252).mp hc)
                                            refine ev_br (P := (am_lcmp x1 7237492) = 0) (σ1 := (d, 306, 208, [some (.inr (.inr 86)), some (.inr (.inl x1)), none], [], (am_sh, am_mm U))) (σ2 := (d, 306, 184, [some (.inr (.inr 86)), some (.inr (.inl x1)), none], [], (am_sh, am_mm U))) 4 (fun _ => rfl) (fun hc => ?_) (fun hc => ?_)
                                            · have h2222122221222212222121 := h222212222122221222212.1 ((am_lc_eq x1 7237492).mp hc)
                                              exact h2222122221222212222121
                                            · have h2222122221222212222122 := h222212222122221222212.2 ((am_lcn_eq x1 7237492).mp hc)
                                              refine ev_br (P := (am_lcmp x1 6384748) = 0) (σ1 := (d, 306, 208, [some (.inr (.inr 86)), some (.inr (.inl x1)), none], [], (am_sh, am_mm U))) (σ2 := (d, 306, 192, [some (.inr (.inr 86)), some (.inr (.inl x1)), none], [], (am_sh, am_mm U))) 4 (fun _ => rfl) (fun hc => ?_) (fun hc => ?_)
                                              · have h22221222212222122221221 := h2222122221222212222122.1 ((am_lc_eq x1 6384748).mp hc)
                                                exact h22221222212222122221221
                                              · have h22221222212222122221222 := h2222122221222212222122.2 ((am_lcn_eq x1 6384748).mp hc)
                                                refine ev_br (P := (am_lcmp x1 7170414) = 0) (σ1 := (d, 306, 208, [some (.inr (.inr 86)), some (.inr (.inl x1)), none], [], (am_sh, am_mm U))) (σ2 := (d, 306, 200, [some (.inr (.inr 86)), some (.inr (.inl x1)), none], [], (am_sh, am_mm U))) 4 (fun _ => rfl) (fun hc => ?_) (fun hc => ?_)
                                                · have h222212222122221222212221 := h22221222212222122221222.1 ((am_lc_eq x1 7170414).mp hc)
                                                  exact h222212222122221222212221
                                                · have h222212222122221222212222 := h22221222212222122221222.2 ((am_lcn_eq x1 7170414).mp hc)
                                                  refine ev_br (P := ¬ (am_lcmp x1 7168376) = 0) (σ1 := (d, 306, 210, [some (.inr (.inr 86)), some (.inr (.inl x1)), none], [], (am_sh, am_mm U))) (σ2 := (d, 306, 208, [some (.inr (.inr 86)), some (.inr (.inl x1)), none], [], (am_sh, am_mm U))) 4 (fun _ => rfl) (fun hc => ?_) (fun hc => ?_)
                                                  · have h2222122221222212222122221 := h222212222122221222212222.1 ((am_lc_ne x1 7168376).mp hc)
                                                    refine ev_br (P := ¬ (am_lcmp x1 6775652) = 0) (σ1 := (d, 306, 220, [some (.inr (.inr 86)), some (.inr (.inl x1)), none], [], (am_sh, am_mm U))) (σ2 := (d, 306, 218, [some (.inr (.inr 86)), some (.inr (.inl x1)), none], [], (am_sh, am_mm U))) 4 (fun _ => rfl) (fun hc => ?_) (fun hc => ?_)
                                                    · have h22221222212222122221222211 := h2222122221222212222122221.1 ((am_lc_ne x1 6775652).mp hc)
                                                      subst h22221222212222122221222211
                                                      exact ev_end 2 (fun _ => rfl)
                                                    · have h22221222212222122221222212 := h2222122221222212222122221.2 ((am_lcn_ne x1 6775652).mp hc)
                                                      subst h22221222212222122221222212
                                                      exact ev_end 2 (fun _ => rfl)
                                                  · have h2222122221222212222122222 := h222212222122221222212222.2 ((am_lcn_ne x1 7168376).mp hc)
                                                    exact h2222122221222212222122222
                                        · have h22221222212222122222 := h2222122221222212222.2 ((am_lcn_ne x1 28530).mp hc)
                                          exact h22221222212222122222
                              · have h222212222122222 := h22221222212222.2 ((am_lcn_ne x1 28005).mp hc)
                                exact h222212222122222
                    · have h2222122222 := h222212222.2 ((am_lcn_ne x1 108187867505765).mp hc)
                      exact h2222122222
          · have h22222 := h2222.2 ((am_lcn_ne x1 1818324581).mp hc)
            exact h22222
set_option maxRecDepth 8000 in
theorem M_isOwn_r40 {N : Nat} {X : Nat → Int} {d : Nat} {x1 : Int} {U : am_U} {R : Option am_V × am_M} (h : R = rI 1 U) : EvK N X (M_isOwn_s40 d x1 U) R := by
  show Ev (am_kz N X) (d, 306, 40, [some (.inr (.inr 86)), some (.inr (.inl x1)), none], [], (am_sh, am_mm U)) R
  subst h
  exact ev_end 2 (fun _ => rfl)
set_option maxRecDepth 8000 in
theorem M_isOwn_r82 {N : Nat} {X : Nat → Int} {d : Nat} {x1 : Int} {U : am_U} {R : Option am_V × am_M} (h : R = rI 1 U) : EvK N X (M_isOwn_s82 d x1 U) R := by
  show Ev (am_kz N X) (d, 306, 82, [some (.inr (.inr 86)), some (.inr (.inl x1)), none], [], (am_sh, am_mm U)) R
  subst h
  exact ev_end 2 (fun _ => rfl)
set_option maxRecDepth 8000 in
theorem M_isOwn_r124 {N : Nat} {X : Nat → Int} {d : Nat} {x1 : Int} {U : am_U} {R : Option am_V × am_M} (h : R = rI 1 U) : EvK N X (M_isOwn_s124 d x1 U) R := by
  show Ev (am_kz N X) (d, 306, 124, [some (.inr (.inr 86)), some (.inr (.inl x1)), none], [], (am_sh, am_mm U)) R
  subst h
  exact ev_end 2 (fun _ => rfl)
set_option maxRecDepth 8000 in
theorem M_isOwn_r166 {N : Nat} {X : Nat → Int} {d : Nat} {x1 : Int} {U : am_U} {R : Option am_V × am_M} (h : R = rI 1 U) : EvK N X (M_isOwn_s166 d x1 U) R := by
  show Ev (am_kz N X) (d, 306, 166, [some (.inr (.inr 86)), some (.inr (.inl x1)), none], [], (am_sh, am_mm U)) R
  subst h
  exact ev_end 2 (fun _ => rfl)
set_option maxRecDepth 8000 in
theorem M_isOwn_r208 {N : Nat} {X : Nat → Int} {d : Nat} {x1 : Int} {U : am_U} {R : Option am_V × am_M} (h : R = rI 1 U) : EvK N X (M_isOwn_s208 d x1 U) R := by
  show Ev (am_kz N X) (d, 306, 208, [some (.inr (.inr 86)), some (.inr (.inl x1)), none], [], (am_sh, am_mm U)) R
  subst h
  exact ev_end 2 (fun _ => rfl)
set_option maxRecDepth 8000 in
theorem M_pushes_r0 {N : Nat} {X : Nat → Int} {d : Nat} {x1 : Int} {U : am_U} {R : Option am_V × am_M} (h : (0 ≤ (U 86 46) ∧ (U 86 46) < 20) ∧ R = rV (am_upd (am_upd (am_upd (am_upd (am_upd U 113 ((U 86 46).toNat) x1) 114 ((U 86 46).toNat) 0) 115 ((U 86 46).toNat) 1) 117 ((U 86 46).toNat) (U 86 49)) 86 46 (w32 ((U 86 46) + 1)))) : EvK N X (M_pushes_s0 d x1 U) R := by
  show Ev (am_kz N X) (d, 308, 0, [some (.inr (.inr 86)), some (.inl x1)], [], (am_sh, am_mm U)) R
  refine ev_seg (σ1 := (d, 308, 9, [some (.inr (.inr 86)), some (.inl x1)], [.inl x1, .inl (U 86 46), .inr (.inr 113)], (am_sh, am_mm U))) 5 (fun _ => rfl) ?_
  refine eu_iast 113 (n := 20) rfl (by decide) rfl (fun _ => rfl) h.1 ?_
  show Ev (am_kz N X) (d, 308, 10, [some (.inr (.inr 86)), some (.inl x1)], [], (am_sh, am_mm (am_upd U 113 ((U 86 46).toNat) x1))) R
  have ha := h.2
  refine ev_seg (σ1 := (d, 308, 19, [some (.inr (.inr 86)), some (.inl x1)], [.inl 0, .inl (U 86 46), .inr (.inr 114)], (am_sh, am_mm (am_upd U 113 ((U 86 46).toNat) x1)))) 5 (fun _ => rfl) ?_
  refine eu_iast 114 (n := 20) rfl (by decide) rfl (fun _ => rfl) h.1 ?_
  show Ev (am_kz N X) (d, 308, 20, [some (.inr (.inr 86)), some (.inl x1)], [], (am_sh, am_mm (am_upd (am_upd U 113 ((U 86 46).toNat) x1) 114 ((U 86 46).toNat) 0))) R
  refine ev_seg (σ1 := (d, 308, 29, [some (.inr (.inr 86)), some (.inl x1)], [.inl 1, .inl (U 86 46), .inr (.inr 115)], (am_sh, am_mm (am_upd (am_upd U 113 ((U 86 46).toNat) x1) 114 ((U 86 46).toNat) 0)))) 5 (fun _ => rfl) ?_
  refine eu_zast 115 (by decide) (n := 20) rfl (by decide) rfl (fun _ => rfl) h.1 ?_
  show Ev (am_kz N X) (d, 308, 30, [some (.inr (.inr 86)), some (.inl x1)], [], (am_sh, am_mm (am_upd (am_upd (am_upd U 113 ((U 86 46).toNat) x1) 114 ((U 86 46).toNat) 0) 115 ((U 86 46).toNat) 1))) R
  refine ev_seg (σ1 := (d, 308, 42, [some (.inr (.inr 86)), some (.inl x1)], [.inl (U 86 49), .inl (U 86 46), .inr (.inr 117)], (am_sh, am_mm (am_upd (am_upd (am_upd U 113 ((U 86 46).toNat) x1) 114 ((U 86 46).toNat) 0) 115 ((U 86 46).toNat) 1)))) 6 (fun _ => rfl) ?_
  refine eu_iast 117 (n := 20) rfl (by decide) rfl (fun _ => rfl) h.1 ?_
  show Ev (am_kz N X) (d, 308, 43, [some (.inr (.inr 86)), some (.inl x1)], [], (am_sh, am_mm (am_upd (am_upd (am_upd (am_upd U 113 ((U 86 46).toNat) x1) 114 ((U 86 46).toNat) 0) 115 ((U 86 46).toNat) 1) 117 ((U 86 46).toNat) (U 86 49)))) R
  refine ev_seg (σ1 := (d, 308, 50, [some (.inr (.inr 86)), some (.inl x1)], [.inl (w32 ((U 86 46) + 1)), .inr (.inr 86)], (am_sh, am_mm (am_upd (am_upd (am_upd (am_upd U 113 ((U 86 46).toNat) x1) 114 ((U 86 46).toNat) 0) 115 ((U 86 46).toNat) 1) 117 ((U 86 46).toNat) (U 86 49))))) 5 (fun _ => rfl) ?_
  refine eu_puti 86 (n := 90) rfl (by decide) rfl rfl ?_
  show Ev (am_kz N X) (d, 308, 53, [some (.inr (.inr 86)), some (.inl x1)], [], (am_sh, am_mm (am_upd (am_upd (am_upd (am_upd (am_upd U 113 ((U 86 46).toNat) x1) 114 ((U 86 46).toNat) 0) 115 ((U 86 46).toNat) 1) 117 ((U 86 46).toNat) (U 86 49)) 86 46 (w32 ((U 86 46) + 1))))) R
  subst ha
  exact ev_end 1 (fun _ => rfl)
set_option maxRecDepth 8000 in
theorem M_goesOn_r0 {N : Nat} {X : Nat → Int} {d : Nat} {U : am_U} {R : Option am_V × am_M} (h : ∃ U1 : am_U, EvK N X (M_lex_s0 d U) (rV U1) ∧ (((U1 86 8) ≤ 0) → (0 ≤ (w32 ((U1 86 46) - 1)) ∧ (w32 ((U1 86 46) - 1)) < 20) ∧ ∃ (r2 : Int) (U2 : am_U), EvK N X (M_isTest_s0 d (U1 113 ((w32 ((U1 86 46) - 1)).toNat)) U1) (rI r2 U2) ∧ ((2 ≤ (U2 114 ((w32 ((U1 86 46) - 1)).toNat))) → EvK N X (M_goesOn_s188 (d + 1) (w32 ((U1 86 46) - 1)) (U1 113 ((w32 ((U1 86 46) - 1)).toNat)) r2 U2) R) ∧ (((U2 114 ((w32 ((U1 86 46) - 1)).toNat)) < 2) → ∃ (r3 : Int) (U3 : am_U), EvK N X (M_isSign_s0 d 43 U2) (rI r3 U3) ∧ ((r3 ≠ 0) → EvK N X (M_goesOn_s87 (d + 1) (w32 ((U1 86 46) - 1)) (U1 113 ((w32 ((U1 86 46) - 1)).toNat)) r2 U3) R) ∧ ((r3 = 0) → ∃ (r4 : Int) (U4 : am_U), EvK N X (M_isSign_s0 d 45 U3) (rI r4 U4) ∧ ((r4 ≠ 0) → EvK N X (M_goesOn_s87 (d + 1) (w32 ((U1 86 46) - 1)) (U1 113 ((w32 ((U1 86 46) - 1)).toNat)) r2 U4) R) ∧ ((r4 = 0) → ∃ (r5 : Int) (U5 : am_U), EvK N X (M_isSign_s0 d 42 U4) (rI r5 U5) ∧ ((r5 ≠ 0) → EvK N X (M_goesOn_s87 (d + 1) (w32 ((U1 86 46) - 1)) (U1 113 ((w32 ((U1 86 46) - 1)).toNat)) r2 U5) R) ∧ ((r5 = 0) → ∃ (r6 : Int) (U6 : am_U), EvK N X (M_isSign_s0 d 47 U5) (rI r6 U6) ∧ ((r6 ≠ 0) → EvK N X (M_goesOn_s87 (d + 1) (w32 ((U1 86 46) - 1)) (U1 113 ((w32 ((U1 86 46) - 1)).toNat)) r2 U6) R) ∧ ((r6 = 0) → ∃ (r7 : Int) (U7 : am_U), EvK N X (M_isSign_s0 d 37 U6) (rI r7 U7) ∧ ((r7 = 0) → EvK N X (M_goesOn_s188 (d + 1) (w32 ((U1 86 46) - 1)) (U1 113 ((w32 ((U1 86 46) - 1)).toNat)) r2 U7) R) ∧ ((r7 ≠ 0) → EvK N X (M_goesOn_s87 (d + 1) (w32 ((U1 86 46) - 1)) (U1 113 ((w32 ((U1 86 46) - 1)).toNat)) r2 U7) R))))))) ∧ ((0 < (U1 86 8)) → R = rI 0 U1)) : EvK N X (M_goesOn_s0 (d + 1) U) R := by
  show Ev (am_kz N X) ((d + 1), 310, 0, [some (.inr (.inr 86)), none, none, none, none], [], (am_sh, am_mm U)) R
  refine ev_seg (σ1 := ((d + 1), 310, 1, [some (.inr (.inr 86)), none, none, none, none], [.inr (.inr 86)], (am_sh, am_mm U))) 1 (fun _ => rfl) ?_
  obtain ⟨U1, hc, ha⟩ := h
  refine ev_cal (σc := (M_lex_s0 d U)) (fun _ => rfl) hc ?_
  show Ev (am_kz N X) ((d + 1), 310, 4, [some (.inr (.inr 86)), none, none, none, none], [], (am_sh, am_mm U1)) R
  refine ev_br (P := (U1 86 8) ≤ 0) (σ1 := ((d + 1), 310, 13, [some (.inr (.inr 86)), none, none, none, none], [], (am_sh, am_mm U1))) (σ2 := ((d + 1), 310, 11, [some (.inr (.inr 86)), none, none, none, none], [], (am_sh, am_mm U1))) 3 (fun _ => rfl) (fun hc => ?_) (fun hc => ?_)
  · have ha1 := ha.1 hc
    refine ev_seg (σ1 := ((d + 1), 310, 25, [some (.inr (.inr 86)), some (.inl (w32 ((U1 86 46) - 1))), none, none, none], [.inl (w32 ((U1 86 46) - 1)), .inr (.inr 113)], (am_sh, am_mm U1))) 8 (fun _ => rfl) ?_
    refine eu_iald 113 (n := 20) rfl (by decide) rfl (fun _ => rfl) ha1.1 ?_
    show Ev (am_kz N X) ((d + 1), 310, 26, [some (.inr (.inr 86)), some (.inl (w32 ((U1 86 46) - 1))), none, none, none], [.inl (U1 113 ((w32 ((U1 86 46) - 1)).toNat))], (am_sh, am_mm U1)) R
    have ha1a := ha1.2
    refine ev_seg (σ1 := ((d + 1), 310, 28, [some (.inr (.inr 86)), some (.inl (w32 ((U1 86 46) - 1))), some (.inl (U1 113 ((w32 ((U1 86 46) - 1)).toNat))), none, none], [.inl (U1 113 ((w32 ((U1 86 46) - 1)).toNat))], (am_sh, am_mm U1))) 2 (fun _ => rfl) ?_
    obtain ⟨r2, U2, ha1ac, ha1aa⟩ := ha1a
    refine ev_cal (σc := (M_isTest_s0 d (U1 113 ((w32 ((U1 86 46) - 1)).toNat)) U1)) (fun _ => rfl) ha1ac ?_
    show Ev (am_kz N X) ((d + 1), 310, 31, [some (.inr (.inr 86)), some (.inl (w32 ((U1 86 46) - 1))), some (.inl (U1 113 ((w32 ((U1 86 46) - 1)).toNat))), none, none], [.inl r2], (am_sh, am_mm U2)) R
    refine ev_seg (σ1 := ((d + 1), 310, 37, [some (.inr (.inr 86)), some (.inl (w32 ((U1 86 46) - 1))), some (.inl (U1 113 ((w32 ((U1 86 46) - 1)).toNat))), some (.inl r2), none], [.inl (w32 ((U1 86 46) - 1)), .inr (.inr 114)], (am_sh, am_mm U2))) 4 (fun _ => rfl) ?_
    refine eu_iald 114 (n := 20) rfl (by decide) rfl (fun _ => rfl) ha1.1 ?_
    show Ev (am_kz N X) ((d + 1), 310, 38, [some (.inr (.inr 86)), some (.inl (w32 ((U1 86 46) - 1))), some (.inl (U1 113 ((w32 ((U1 86 46) - 1)).toNat))), some (.inl r2), none], [.inl (U2 114 ((w32 ((U1 86 46) - 1)).toNat))], (am_sh, am_mm U2)) R
    refine ev_br (P := 2 ≤ (U2 114 ((w32 ((U1 86 46) - 1)).toNat))) (σ1 := ((d + 1), 310, 188, [some (.inr (.inr 86)), some (.inl (w32 ((U1 86 46) - 1))), some (.inl (U1 113 ((w32 ((U1 86 46) - 1)).toNat))), some (.inl r2), none], [], (am_sh, am_mm U2))) (σ2 := ((d + 1), 310, 42, [some (.inr (.inr 86)), some (.inl (w32 ((U1 86 46) - 1))), some (.inl (U1 113 ((w32 ((U1 86 46) - 1)).toNat))), some (.inl r2), none], [], (am_sh, am_mm U2))) 2 (fun _ => rfl) (fun hc => ?_) (fun hc => ?_)
    · have ha1aa1 := ha1aa.1 hc
      exact ha1aa1
    · have ha1aa2 := ha1aa.2 (Int.not_le.mp hc)
      refine ev_seg (σ1 := ((d + 1), 310, 45, [some (.inr (.inr 86)), some (.inl (w32 ((U1 86 46) - 1))), some (.inl (U1 113 ((w32 ((U1 86 46) - 1)).toNat))), some (.inl r2), none], [.inl 43, .inr (.inr 86)], (am_sh, am_mm U2))) 2 (fun _ => rfl) ?_
      obtain ⟨r3, U3, ha1aa2c, ha1aa2a⟩ := ha1aa2
      refine ev_cal (σc := (M_isSign_s0 d 43 U2)) (fun _ => rfl) ha1aa2c ?_
      show Ev (am_kz N X) ((d + 1), 310, 48, [some (.inr (.inr 86)), some (.inl (w32 ((U1 86 46) - 1))), some (.inl (U1 113 ((w32 ((U1 86 46) - 1)).toNat))), some (.inl r2), none], [.inl r3], (am_sh, am_mm U3)) R
      refine ev_br (P := ¬ r3 = 0) (σ1 := ((d + 1), 310, 87, [some (.inr (.inr 86)), some (.inl (w32 ((U1 86 46) - 1))), some (.inl (U1 113 ((w32 ((U1 86 46) - 1)).toNat))), some (.inl r2), none], [], (am_sh, am_mm U3))) (σ2 := ((d + 1), 310, 51, [some (.inr (.inr 86)), some (.inl (w32 ((U1 86 46) - 1))), some (.inl (U1 113 ((w32 ((U1 86 46) - 1)).toNat))), some (.inl r2), none], [], (am_sh, am_mm U3))) 1 (fun _ => rfl) (fun hc => ?_) (fun hc => ?_)
      · have ha1aa2a1 := ha1aa2a.1 hc
        exact ha1aa2a1
      · have ha1aa2a2 := ha1aa2a.2 (Decidable.not_not.mp hc)
        refine ev_seg (σ1 := ((d + 1), 310, 54, [some (.inr (.inr 86)), some (.inl (w32 ((U1 86 46) - 1))), some (.inl (U1 113 ((w32 ((U1 86 46) - 1)).toNat))), some (.inl r2), none], [.inl 45, .inr (.inr 86)], (am_sh, am_mm U3))) 2 (fun _ => rfl) ?_
        obtain ⟨r4, U4, ha1aa2a2c, ha1aa2a2a⟩ := ha1aa2a2
        refine ev_cal (σc := (M_isSign_s0 d 45 U3)) (fun _ => rfl) ha1aa2a2c ?_
        show Ev (am_kz N X) ((d + 1), 310, 57, [some (.inr (.inr 86)), some (.inl (w32 ((U1 86 46) - 1))), some (.inl (U1 113 ((w32 ((U1 86 46) - 1)).toNat))), some (.inl r2), none], [.inl r4], (am_sh, am_mm U4)) R
        refine ev_br (P := ¬ r4 = 0) (σ1 := ((d + 1), 310, 87, [some (.inr (.inr 86)), some (.inl (w32 ((U1 86 46) - 1))), some (.inl (U1 113 ((w32 ((U1 86 46) - 1)).toNat))), some (.inl r2), none], [], (am_sh, am_mm U4))) (σ2 := ((d + 1), 310, 60, [some (.inr (.inr 86)), some (.inl (w32 ((U1 86 46) - 1))), some (.inl (U1 113 ((w32 ((U1 86 46) - 1)).toNat))), some (.inl r2), none], [], (am_sh, am_mm U4))) 1 (fun _ => rfl) (fun hc => ?_) (fun hc => ?_)
        · have ha1aa2a2a1 := ha1aa2a2a.1 hc
          exact ha1aa2a2a1
        · have ha1aa2a2a2 := ha1aa2a2a.2 (Decidable.not_not.mp hc)
          refine ev_seg (σ1 := ((d + 1), 310, 63, [some (.inr (.inr 86)), some (.inl (w32 ((U1 86 46) - 1))), some (.inl (U1 113 ((w32 ((U1 86 46) - 1)).toNat))), some (.inl r2), none], [.inl 42, .inr (.inr 86)], (am_sh, am_mm U4))) 2 (fun _ => rfl) ?_
          obtain ⟨r5, U5, ha1aa2a2a2c, ha1aa2a2a2a⟩ := ha1aa2a2a2
          refine ev_cal (σc := (M_isSign_s0 d 42 U4)) (fun _ => rfl) ha1aa2a2a2c ?_
          show Ev (am_kz N X) ((d + 1), 310, 66, [some (.inr (.inr 86)), some (.inl (w32 ((U1 86 46) - 1))), some (.inl (U1 113 ((w32 ((U1 86 46) - 1)).toNat))), some (.inl r2), none], [.inl r5], (am_sh, am_mm U5)) R
          refine ev_br (P := ¬ r5 = 0) (σ1 := ((d + 1), 310, 87, [some (.inr (.inr 86)), some (.inl (w32 ((U1 86 46) - 1))), some (.inl (U1 113 ((w32 ((U1 86 46) - 1)).toNat))), some (.inl r2), none], [], (am_sh, am_mm U5))) (σ2 := ((d + 1), 310, 69, [some (.inr (.inr 86)), some (.inl (w32 ((U1 86 46) - 1))), some (.inl (U1 113 ((w32 ((U1 86 46) - 1)).toNat))), some (.inl r2), none], [], (am_sh, am_mm U5))) 1 (fun _ => rfl) (fun hc => ?_) (fun hc => ?_)
          · have ha1aa2a2a2a1 := ha1aa2a2a2a.1 hc
            exact ha1aa2a2a2a1
          · have ha1aa2a2a2a2 := ha1aa2a2a2a.2 (Decidable.not_not.mp hc)
            refine ev_seg (σ1 := ((d + 1), 310, 72, [some (.inr (.inr 86)), some (.inl (w32 ((U1 86 46) - 1))), some (.inl (U1 113 ((w32 ((U1 86 46) - 1)).toNat))), some (.inl r2), none], [.inl 47, .inr (.inr 86)], (am_sh, am_mm U5))) 2 (fun _ => rfl) ?_
            obtain ⟨r6, U6, ha1aa2a2a2a2c, ha1aa2a2a2a2a⟩ := ha1aa2a2a2a2
            refine ev_cal (σc := (M_isSign_s0 d 47 U5)) (fun _ => rfl) ha1aa2a2a2a2c ?_
            show Ev (am_kz N X) ((d + 1), 310, 75, [some (.inr (.inr 86)), some (.inl (w32 ((U1 86 46) - 1))), some (.inl (U1 113 ((w32 ((U1 86 46) - 1)).toNat))), some (.inl r2), none], [.inl r6], (am_sh, am_mm U6)) R
            refine ev_br (P := ¬ r6 = 0) (σ1 := ((d + 1), 310, 87, [some (.inr (.inr 86)), some (.inl (w32 ((U1 86 46) - 1))), some (.inl (U1 113 ((w32 ((U1 86 46) - 1)).toNat))), some (.inl r2), none], [], (am_sh, am_mm U6))) (σ2 := ((d + 1), 310, 78, [some (.inr (.inr 86)), some (.inl (w32 ((U1 86 46) - 1))), some (.inl (U1 113 ((w32 ((U1 86 46) - 1)).toNat))), some (.inl r2), none], [], (am_sh, am_mm U6))) 1 (fun _ => rfl) (fun hc => ?_) (fun hc => ?_)
            · have ha1aa2a2a2a2a1 := ha1aa2a2a2a2a.1 hc
              exact ha1aa2a2a2a2a1
            · have ha1aa2a2a2a2a2 := ha1aa2a2a2a2a.2 (Decidable.not_not.mp hc)
              refine ev_seg (σ1 := ((d + 1), 310, 81, [some (.inr (.inr 86)), some (.inl (w32 ((U1 86 46) - 1))), some (.inl (U1 113 ((w32 ((U1 86 46) - 1)).toNat))), some (.inl r2), none], [.inl 37, .inr (.inr 86)], (am_sh, am_mm U6))) 2 (fun _ => rfl) ?_
              obtain ⟨r7, U7, ha1aa2a2a2a2a2c, ha1aa2a2a2a2a2a⟩ := ha1aa2a2a2a2a2
              refine ev_cal (σc := (M_isSign_s0 d 37 U6)) (fun _ => rfl) ha1aa2a2a2a2a2c ?_
              show Ev (am_kz N X) ((d + 1), 310, 84, [some (.inr (.inr 86)), some (.inl (w32 ((U1 86 46) - 1))), some (.inl (U1 113 ((w32 ((U1 86 46) - 1)).toNat))), some (.inl r2), none], [.inl r7], (am_sh, am_mm U7)) R
              refine ev_br (P := r7 = 0) (σ1 := ((d + 1), 310, 188, [some (.inr (.inr 86)), some (.inl (w32 ((U1 86 46) - 1))), some (.inl (U1 113 ((w32 ((U1 86 46) - 1)).toNat))), some (.inl r2), none], [], (am_sh, am_mm U7))) (σ2 := ((d + 1), 310, 87, [some (.inr (.inr 86)), some (.inl (w32 ((U1 86 46) - 1))), some (.inl (U1 113 ((w32 ((U1 86 46) - 1)).toNat))), some (.inl r2), none], [], (am_sh, am_mm U7))) 1 (fun _ => rfl) (fun hc => ?_) (fun hc => ?_)
              · have ha1aa2a2a2a2a2a1 := ha1aa2a2a2a2a2a.1 hc
                exact ha1aa2a2a2a2a2a1
              · have ha1aa2a2a2a2a2a2 := ha1aa2a2a2a2a2a.2 hc
                exact ha1aa2a2a2a2a2a2
  · have ha2 := ha.2 (Int.not_le.mp hc)
    subst ha2
    exact ev_end 2 (fun _ => rfl)
set_option maxRecDepth 8000 in
theorem M_goesOn_r188 {N : Nat} {X : Nat → Int} {d : Nat} {x1 x2 x3 : Int} {U : am_U} {R : Option am_V × am_M} (h : ((x3 = 0) → EvK N X (M_goesOn_s285 (d + 1) x1 x2 x3 U) R) ∧ ((x3 ≠ 0) → (0 ≤ x1 ∧ x1 < 20) ∧ (((U 114 x1.toNat) ≠ 0) → EvK N X (M_goesOn_s285 (d + 1) x1 x2 x3 U) R) ∧ (((U 114 x1.toNat) = 0) → ∃ (r1 : Int) (U1 : am_U), EvK N X (M_isSign_s0 d 60 U) (rI r1 U1) ∧ ((r1 ≠ 0) → EvK N X (M_goesOn_s228 (d + 1) x1 x2 x3 U1) R) ∧ ((r1 = 0) → ∃ (r2 : Int) (U2 : am_U), EvK N X (M_isSign_s0 d 62 U1) (rI r2 U2) ∧ ((r2 ≠ 0) → EvK N X (M_goesOn_s228 (d + 1) x1 x2 x3 U2) R) ∧ ((r2 = 0) → ∃ (r3 : Int) (U3 : am_U), EvK N X (M_isSign_s0 d 61 U2) (rI r3 U3) ∧ ((r3 = 0) → EvK N X (M_goesOn_s285 (d + 1) x1 x2 x3 U3) R) ∧ ((r3 ≠ 0) → EvK N X (M_goesOn_s228 (d + 1) x1 x2 x3 U3) R)))))) : EvK N X (M_goesOn_s188 (d + 1) x1 x2 x3 U) R := by
  show Ev (am_kz N X) ((d + 1), 310, 188, [some (.inr (.inr 86)), some (.inl x1), some (.inl x2), some (.inl x3), none], [], (am_sh, am_mm U)) R
  refine ev_br (P := x3 = 0) (σ1 := ((d + 1), 310, 285, [some (.inr (.inr 86)), some (.inl x1), some (.inl x2), some (.inl x3), none], [], (am_sh, am_mm U))) (σ2 := ((d + 1), 310, 192, [some (.inr (.inr 86)), some (.inl x1), some (.inl x2), some (.inl x3), none], [], (am_sh, am_mm U))) 2 (fun _ => rfl) (fun hc => ?_) (fun hc => ?_)
  · have h1 := h.1 hc
    exact h1
  · have h2 := h.2 hc
    refine ev_seg (σ1 := ((d + 1), 310, 197, [some (.inr (.inr 86)), some (.inl x1), some (.inl x2), some (.inl x3), none], [.inl x1, .inr (.inr 114)], (am_sh, am_mm U))) 3 (fun _ => rfl) ?_
    refine eu_iald 114 (n := 20) rfl (by decide) rfl (fun _ => rfl) h2.1 ?_
    show Ev (am_kz N X) ((d + 1), 310, 198, [some (.inr (.inr 86)), some (.inl x1), some (.inl x2), some (.inl x3), none], [.inl (U 114 x1.toNat)], (am_sh, am_mm U)) R
    have h2a := h2.2
    refine ev_br (P := ¬ (U 114 x1.toNat) = 0) (σ1 := ((d + 1), 310, 285, [some (.inr (.inr 86)), some (.inl x1), some (.inl x2), some (.inl x3), none], [], (am_sh, am_mm U))) (σ2 := ((d + 1), 310, 201, [some (.inr (.inr 86)), some (.inl x1), some (.inl x2), some (.inl x3), none], [], (am_sh, am_mm U))) 1 (fun _ => rfl) (fun hc => ?_) (fun hc => ?_)
    · have h2a1 := h2a.1 hc
      exact h2a1
    · have h2a2 := h2a.2 (Decidable.not_not.mp hc)
      refine ev_seg (σ1 := ((d + 1), 310, 204, [some (.inr (.inr 86)), some (.inl x1), some (.inl x2), some (.inl x3), none], [.inl 60, .inr (.inr 86)], (am_sh, am_mm U))) 2 (fun _ => rfl) ?_
      obtain ⟨r1, U1, h2a2c, h2a2a⟩ := h2a2
      refine ev_cal (σc := (M_isSign_s0 d 60 U)) (fun _ => rfl) h2a2c ?_
      show Ev (am_kz N X) ((d + 1), 310, 207, [some (.inr (.inr 86)), some (.inl x1), some (.inl x2), some (.inl x3), none], [.inl r1], (am_sh, am_mm U1)) R
      refine ev_br (P := ¬ r1 = 0) (σ1 := ((d + 1), 310, 228, [some (.inr (.inr 86)), some (.inl x1), some (.inl x2), some (.inl x3), none], [], (am_sh, am_mm U1))) (σ2 := ((d + 1), 310, 210, [some (.inr (.inr 86)), some (.inl x1), some (.inl x2), some (.inl x3), none], [], (am_sh, am_mm U1))) 1 (fun _ => rfl) (fun hc => ?_) (fun hc => ?_)
      · have h2a2a1 := h2a2a.1 hc
        exact h2a2a1
      · have h2a2a2 := h2a2a.2 (Decidable.not_not.mp hc)
        refine ev_seg (σ1 := ((d + 1), 310, 213, [some (.inr (.inr 86)), some (.inl x1), some (.inl x2), some (.inl x3), none], [.inl 62, .inr (.inr 86)], (am_sh, am_mm U1))) 2 (fun _ => rfl) ?_
        obtain ⟨r2, U2, h2a2a2c, h2a2a2a⟩ := h2a2a2
        refine ev_cal (σc := (M_isSign_s0 d 62 U1)) (fun _ => rfl) h2a2a2c ?_
        show Ev (am_kz N X) ((d + 1), 310, 216, [some (.inr (.inr 86)), some (.inl x1), some (.inl x2), some (.inl x3), none], [.inl r2], (am_sh, am_mm U2)) R
        refine ev_br (P := ¬ r2 = 0) (σ1 := ((d + 1), 310, 228, [some (.inr (.inr 86)), some (.inl x1), some (.inl x2), some (.inl x3), none], [], (am_sh, am_mm U2))) (σ2 := ((d + 1), 310, 219, [some (.inr (.inr 86)), some (.inl x1), some (.inl x2), some (.inl x3), none], [], (am_sh, am_mm U2))) 1 (fun _ => rfl) (fun hc => ?_) (fun hc => ?_)
        · have h2a2a2a1 := h2a2a2a.1 hc
          exact h2a2a2a1
        · have h2a2a2a2 := h2a2a2a.2 (Decidable.not_not.mp hc)
          refine ev_seg (σ1 := ((d + 1), 310, 222, [some (.inr (.inr 86)), some (.inl x1), some (.inl x2), some (.inl x3), none], [.inl 61, .inr (.inr 86)], (am_sh, am_mm U2))) 2 (fun _ => rfl) ?_
          obtain ⟨r3, U3, h2a2a2a2c, h2a2a2a2a⟩ := h2a2a2a2
          refine ev_cal (σc := (M_isSign_s0 d 61 U2)) (fun _ => rfl) h2a2a2a2c ?_
          show Ev (am_kz N X) ((d + 1), 310, 225, [some (.inr (.inr 86)), some (.inl x1), some (.inl x2), some (.inl x3), none], [.inl r3], (am_sh, am_mm U3)) R
          refine ev_br (P := r3 = 0) (σ1 := ((d + 1), 310, 285, [some (.inr (.inr 86)), some (.inl x1), some (.inl x2), some (.inl x3), none], [], (am_sh, am_mm U3))) (σ2 := ((d + 1), 310, 228, [some (.inr (.inr 86)), some (.inl x1), some (.inl x2), some (.inl x3), none], [], (am_sh, am_mm U3))) 1 (fun _ => rfl) (fun hc => ?_) (fun hc => ?_)
          · have h2a2a2a2a1 := h2a2a2a2a.1 hc
            exact h2a2a2a2a1
          · have h2a2a2a2a2 := h2a2a2a2a.2 hc
            exact h2a2a2a2a2
set_option maxRecDepth 8000 in
theorem M_goesOn_r87 {N : Nat} {X : Nat → Int} {d : Nat} {x1 x2 x3 : Int} {U : am_U} {R : Option am_V × am_M} (h : ∃ (r1 : Int) (U1 : am_U), EvK N X (M_isSign_s0 d 43 U) (rI r1 U1) ∧ ((r1 ≠ 0) → EvK N X (M_goesOn_s106 (d + 1) x1 x2 x3 U1) R) ∧ ((r1 = 0) → ∃ (r2 : Int) (U2 : am_U), EvK N X (M_isSign_s0 d 45 U1) (rI r2 U2) ∧ ((r2 = 0) → EvK N X (M_goesOn_s112 (d + 1) x1 x2 x3 6 U2) R) ∧ ((r2 ≠ 0) → EvK N X (M_goesOn_s106 (d + 1) x1 x2 x3 U2) R))) : EvK N X (M_goesOn_s87 (d + 1) x1 x2 x3 U) R := by
  show Ev (am_kz N X) ((d + 1), 310, 87, [some (.inr (.inr 86)), some (.inl x1), some (.inl x2), some (.inl x3), none], [], (am_sh, am_mm U)) R
  refine ev_seg (σ1 := ((d + 1), 310, 91, [some (.inr (.inr 86)), some (.inl x1), some (.inl x2), some (.inl x3), none], [.inl 43, .inr (.inr 86), .inr (.inr 86)], (am_sh, am_mm U))) 3 (fun _ => rfl) ?_
  obtain ⟨r1, U1, hc, ha⟩ := h
  refine ev_cal (σc := (M_isSign_s0 d 43 U)) (fun _ => rfl) hc ?_
  show Ev (am_kz N X) ((d + 1), 310, 94, [some (.inr (.inr 86)), some (.inl x1), some (.inl x2), some (.inl x3), none], [.inl r1, .inr (.inr 86)], (am_sh, am_mm U1)) R
  refine ev_br (P := ¬ r1 = 0) (σ1 := ((d + 1), 310, 106, [some (.inr (.inr 86)), some (.inl x1), some (.inl x2), some (.inl x3), none], [.inr (.inr 86)], (am_sh, am_mm U1))) (σ2 := ((d + 1), 310, 97, [some (.inr (.inr 86)), some (.inl x1), some (.inl x2), some (.inl x3), none], [.inr (.inr 86)], (am_sh, am_mm U1))) 1 (fun _ => rfl) (fun hc => ?_) (fun hc => ?_)
  · have ha1 := ha.1 hc
    exact ha1
  · have ha2 := ha.2 (Decidable.not_not.mp hc)
    refine ev_seg (σ1 := ((d + 1), 310, 100, [some (.inr (.inr 86)), some (.inl x1), some (.inl x2), some (.inl x3), none], [.inl 45, .inr (.inr 86), .inr (.inr 86)], (am_sh, am_mm U1))) 2 (fun _ => rfl) ?_
    obtain ⟨r2, U2, ha2c, ha2a⟩ := ha2
    refine ev_cal (σc := (M_isSign_s0 d 45 U1)) (fun _ => rfl) ha2c ?_
    show Ev (am_kz N X) ((d + 1), 310, 103, [some (.inr (.inr 86)), some (.inl x1), some (.inl x2), some (.inl x3), none], [.inl r2, .inr (.inr 86)], (am_sh, am_mm U2)) R
    refine ev_br (P := r2 = 0) (σ1 := ((d + 1), 310, 110, [some (.inr (.inr 86)), some (.inl x1), some (.inl x2), some (.inl x3), none], [.inr (.inr 86)], (am_sh, am_mm U2))) (σ2 := ((d + 1), 310, 106, [some (.inr (.inr 86)), some (.inl x1), some (.inl x2), some (.inl x3), none], [.inr (.inr 86)], (am_sh, am_mm U2))) 1 (fun _ => rfl) (fun hc => ?_) (fun hc => ?_)
    · have ha2a1 := ha2a.1 hc
      refine ev_seg (σ1 := ((d + 1), 310, 112, [some (.inr (.inr 86)), some (.inl x1), some (.inl x2), some (.inl x3), none], [.inl 6, .inr (.inr 86)], (am_sh, am_mm U2))) 1 (fun _ => rfl) ?_
      exact ha2a1
    · have ha2a2 := ha2a.2 hc
      exact ha2a2
set_option maxRecDepth 8000 in
theorem M_goesOn_r285 {N : Nat} {X : Nat → Int} {d : Nat} {x1 x2 x3 : Int} {U : am_U} {R : Option am_V × am_M} (h : ((x3 = 0) → EvK N X (M_goesOn_s400 (d + 1) x1 x2 x3 U) R) ∧ ((x3 ≠ 0) → ∃ (r1 : Int) (U1 : am_U), EvK N X (M_isWord_s0 d 6385252 U) (rI r1 U1) ∧ ((r1 ≠ 0) → EvK N X (M_goesOn_s309 (d + 1) x1 x2 x3 U1) R) ∧ ((r1 = 0) → ∃ (r2 : Int) (U2 : am_U), EvK N X (M_isWord_s0 d 28530 U1) (rI r2 U2) ∧ ((r2 = 0) → EvK N X (M_goesOn_s400 (d + 1) x1 x2 x3 U2) R) ∧ ((r2 ≠ 0) → EvK N X (M_goesOn_s309 (d + 1) x1 x2 x3 U2) R)))) : EvK N X (M_goesOn_s285 (d + 1) x1 x2 x3 U) R := by
  show Ev (am_kz N X) ((d + 1), 310, 285, [some (.inr (.inr 86)), some (.inl x1), some (.inl x2), some (.inl x3), none], [], (am_sh, am_mm U)) R
  refine ev_br (P := x3 = 0) (σ1 := ((d + 1), 310, 400, [some (.inr (.inr 86)), some (.inl x1), some (.inl x2), some (.inl x3), none], [], (am_sh, am_mm U))) (σ2 := ((d + 1), 310, 289, [some (.inr (.inr 86)), some (.inl x1), some (.inl x2), some (.inl x3), none], [], (am_sh, am_mm U))) 2 (fun _ => rfl) (fun hc => ?_) (fun hc => ?_)
  · have h1 := h.1 hc
    exact h1
  · have h2 := h.2 hc
    refine ev_seg (σ1 := ((d + 1), 310, 293, [some (.inr (.inr 86)), some (.inl x1), some (.inl x2), some (.inl x3), none], [.inr (.inl 6385252), .inr (.inr 86)], (am_sh, am_mm U))) 2 (fun _ => rfl) ?_
    obtain ⟨r1, U1, h2c, h2a⟩ := h2
    refine ev_cal (σc := (M_isWord_s0 d 6385252 U)) (fun _ => rfl) h2c ?_
    show Ev (am_kz N X) ((d + 1), 310, 296, [some (.inr (.inr 86)), some (.inl x1), some (.inl x2), some (.inl x3), none], [.inl r1], (am_sh, am_mm U1)) R
    refine ev_br (P := ¬ r1 = 0) (σ1 := ((d + 1), 310, 309, [some (.inr (.inr 86)), some (.inl x1), some (.inl x2), some (.inl x3), none], [], (am_sh, am_mm U1))) (σ2 := ((d + 1), 310, 299, [some (.inr (.inr 86)), some (.inl x1), some (.inl x2), some (.inl x3), none], [], (am_sh, am_mm U1))) 1 (fun _ => rfl) (fun hc => ?_) (fun hc => ?_)
    · have h2a1 := h2a.1 hc
      exact h2a1
    · have h2a2 := h2a.2 (Decidable.not_not.mp hc)
      refine ev_seg (σ1 := ((d + 1), 310, 303, [some (.inr (.inr 86)), some (.inl x1), some (.inl x2), some (.inl x3), none], [.inr (.inl 28530), .inr (.inr 86)], (am_sh, am_mm U1))) 2 (fun _ => rfl) ?_
      obtain ⟨r2, U2, h2a2c, h2a2a⟩ := h2a2
      refine ev_cal (σc := (M_isWord_s0 d 28530 U1)) (fun _ => rfl) h2a2c ?_
      show Ev (am_kz N X) ((d + 1), 310, 306, [some (.inr (.inr 86)), some (.inl x1), some (.inl x2), some (.inl x3), none], [.inl r2], (am_sh, am_mm U2)) R
      refine ev_br (P := r2 = 0) (σ1 := ((d + 1), 310, 400, [some (.inr (.inr 86)), some (.inl x1), some (.inl x2), some (.inl x3), none], [], (am_sh, am_mm U2))) (σ2 := ((d + 1), 310, 309, [some (.inr (.inr 86)), some (.inl x1), some (.inl x2), some (.inl x3), none], [], (am_sh, am_mm U2))) 1 (fun _ => rfl) (fun hc => ?_) (fun hc => ?_)
      · have h2a2a1 := h2a2a.1 hc
        exact h2a2a1
      · have h2a2a2 := h2a2a.2 hc
        exact h2a2a2
set_option maxRecDepth 8000 in
theorem M_goesOn_r228 {N : Nat} {X : Nat → Int} {d : Nat} {x1 x2 x3 : Int} {U : am_U} {R : Option am_V × am_M} (h : ∃ U1 : am_U, EvK N X (M_joins_s0 d 5 U) (rV U1) ∧ ∃ (r2 : Int) (U2 : am_U), EvK N X (M_isSign_s0 d 60 U1) (rI r2 U2) ∧ ((r2 = 0) → ∃ (r3 : Int) (U3 : am_U), EvK N X (M_isSign_s0 d 62 U2) (rI r3 U3) ∧ ((r3 = 0) → EvK N X (M_goesOn_s264 (d + 1) x1 x2 x3 19 U3) R) ∧ ((r3 ≠ 0) → EvK N X (M_goesOn_s264 (d + 1) x1 x2 x3 18 U3) R)) ∧ ((r2 ≠ 0) → EvK N X (M_goesOn_s264 (d + 1) x1 x2 x3 17 U2) R)) : EvK N X (M_goesOn_s228 (d + 1) x1 x2 x3 U) R := by
  show Ev (am_kz N X) ((d + 1), 310, 228, [some (.inr (.inr 86)), some (.inl x1), some (.inl x2), some (.inl x3), none], [], (am_sh, am_mm U)) R
  refine ev_seg (σ1 := ((d + 1), 310, 230, [some (.inr (.inr 86)), some (.inl x1), some (.inl x2), some (.inl x3), none], [.inl 5, .inr (.inr 86)], (am_sh, am_mm U))) 2 (fun _ => rfl) ?_
  obtain ⟨U1, hc, ha⟩ := h
  refine ev_cal (σc := (M_joins_s0 d 5 U)) (fun _ => rfl) hc ?_
  show Ev (am_kz N X) ((d + 1), 310, 233, [some (.inr (.inr 86)), some (.inl x1), some (.inl x2), some (.inl x3), none], [], (am_sh, am_mm U1)) R
  refine ev_seg (σ1 := ((d + 1), 310, 237, [some (.inr (.inr 86)), some (.inl x1), some (.inl x2), some (.inl x3), none], [.inl 60, .inr (.inr 86), .inr (.inr 86)], (am_sh, am_mm U1))) 3 (fun _ => rfl) ?_
  obtain ⟨r2, U2, hac, haa⟩ := ha
  refine ev_cal (σc := (M_isSign_s0 d 60 U1)) (fun _ => rfl) hac ?_
  show Ev (am_kz N X) ((d + 1), 310, 240, [some (.inr (.inr 86)), some (.inl x1), some (.inl x2), some (.inl x3), none], [.inl r2, .inr (.inr 86)], (am_sh, am_mm U2)) R
  refine ev_br (P := r2 = 0) (σ1 := ((d + 1), 310, 248, [some (.inr (.inr 86)), some (.inl x1), some (.inl x2), some (.inl x3), none], [.inr (.inr 86)], (am_sh, am_mm U2))) (σ2 := ((d + 1), 310, 243, [some (.inr (.inr 86)), some (.inl x1), some (.inl x2), some (.inl x3), none], [.inr (.inr 86)], (am_sh, am_mm U2))) 1 (fun _ => rfl) (fun hc => ?_) (fun hc => ?_)
  · have haa1 := haa.1 hc
    refine ev_seg (σ1 := ((d + 1), 310, 251, [some (.inr (.inr 86)), some (.inl x1), some (.inl x2), some (.inl x3), none], [.inl 62, .inr (.inr 86), .inr (.inr 86)], (am_sh, am_mm U2))) 2 (fun _ => rfl) ?_
    obtain ⟨r3, U3, haa1c, haa1a⟩ := haa1
    refine ev_cal (σc := (M_isSign_s0 d 62 U2)) (fun _ => rfl) haa1c ?_
    show Ev (am_kz N X) ((d + 1), 310, 254, [some (.inr (.inr 86)), some (.inl x1), some (.inl x2), some (.inl x3), none], [.inl r3, .inr (.inr 86)], (am_sh, am_mm U3)) R
    refine ev_br (P := r3 = 0) (σ1 := ((d + 1), 310, 262, [some (.inr (.inr 86)), some (.inl x1), some (.inl x2), some (.inl x3), none], [.inr (.inr 86)], (am_sh, am_mm U3))) (σ2 := ((d + 1), 310, 257, [some (.inr (.inr 86)), some (.inl x1), some (.inl x2), some (.inl x3), none], [.inr (.inr 86)], (am_sh, am_mm U3))) 1 (fun _ => rfl) (fun hc => ?_) (fun hc => ?_)
    · have haa1a1 := haa1a.1 hc
      refine ev_seg (σ1 := ((d + 1), 310, 264, [some (.inr (.inr 86)), some (.inl x1), some (.inl x2), some (.inl x3), none], [.inl 19, .inr (.inr 86)], (am_sh, am_mm U3))) 1 (fun _ => rfl) ?_
      exact haa1a1
    · have haa1a2 := haa1a.2 hc
      refine ev_seg (σ1 := ((d + 1), 310, 264, [some (.inr (.inr 86)), some (.inl x1), some (.inl x2), some (.inl x3), none], [.inl 18, .inr (.inr 86)], (am_sh, am_mm U3))) 2 (fun _ => rfl) ?_
      exact haa1a2
  · have haa2 := haa.2 hc
    refine ev_seg (σ1 := ((d + 1), 310, 264, [some (.inr (.inr 86)), some (.inl x1), some (.inl x2), some (.inl x3), none], [.inl 17, .inr (.inr 86)], (am_sh, am_mm U2))) 2 (fun _ => rfl) ?_
    exact haa2
set_option maxRecDepth 8000 in
theorem M_goesOn_r106 {N : Nat} {X : Nat → Int} {d : Nat} {x1 x2 x3 : Int} {U : am_U} {R : Option am_V × am_M} (h : EvK N X (M_goesOn_s112 (d + 1) x1 x2 x3 5 U) R) : EvK N X (M_goesOn_s106 (d + 1) x1 x2 x3 U) R := by
  show Ev (am_kz N X) ((d + 1), 310, 106, [some (.inr (.inr 86)), some (.inl x1), some (.inl x2), some (.inl x3), none], [.inr (.inr 86)], (am_sh, am_mm U)) R
  refine ev_seg (σ1 := ((d + 1), 310, 112, [some (.inr (.inr 86)), some (.inl x1), some (.inl x2), some (.inl x3), none], [.inl 5, .inr (.inr 86)], (am_sh, am_mm U))) 2 (fun _ => rfl) ?_
  exact h
set_option maxRecDepth 8000 in
theorem M_goesOn_r112 {N : Nat} {X : Nat → Int} {d : Nat} {x1 x2 x3 s1 : Int} {U : am_U} {R : Option am_V × am_M} (h : ∃ U1 : am_U, EvK N X (M_joins_s0 d s1 U) (rV U1) ∧ ∃ (r2 : Int) (U2 : am_U), EvK N X (M_isSign_s0 d 43 U1) (rI r2 U2) ∧ ((r2 = 0) → ∃ (r3 : Int) (U3 : am_U), EvK N X (M_isSign_s0 d 45 U2) (rI r3 U3) ∧ ((r3 = 0) → ∃ (r4 : Int) (U4 : am_U), EvK N X (M_isSign_s0 d 42 U3) (rI r4 U4) ∧ ((r4 = 0) → ∃ (r5 : Int) (U5 : am_U), EvK N X (M_isSign_s0 d 47 U4) (rI r5 U5) ∧ ((r5 = 0) → EvK N X (M_goesOn_s174 (d + 1) x1 x2 x3 14 U5) R) ∧ ((r5 ≠ 0) → EvK N X (M_goesOn_s174 (d + 1) x1 x2 x3 13 U5) R)) ∧ ((r4 ≠ 0) → EvK N X (M_goesOn_s174 (d + 1) x1 x2 x3 12 U4) R)) ∧ ((r3 ≠ 0) → EvK N X (M_goesOn_s174 (d + 1) x1 x2 x3 11 U3) R)) ∧ ((r2 ≠ 0) → EvK N X (M_goesOn_s174 (d + 1) x1 x2 x3 10 U2) R)) : EvK N X (M_goesOn_s112 (d + 1) x1 x2 x3 s1 U) R := by
  show Ev (am_kz N X) ((d + 1), 310, 112, [some (.inr (.inr 86)), some (.inl x1), some (.inl x2), some (.inl x3), none], [.inl s1, .inr (.inr 86)], (am_sh, am_mm U)) R
  obtain ⟨U1, hc, ha⟩ := h
  refine ev_cal (σc := (M_joins_s0 d s1 U)) (fun _ => rfl) hc ?_
  show Ev (am_kz N X) ((d + 1), 310, 115, [some (.inr (.inr 86)), some (.inl x1), some (.inl x2), some (.inl x3), none], [], (am_sh, am_mm U1)) R
  refine ev_seg (σ1 := ((d + 1), 310, 119, [some (.inr (.inr 86)), some (.inl x1), some (.inl x2), some (.inl x3), none], [.inl 43, .inr (.inr 86), .inr (.inr 86)], (am_sh, am_mm U1))) 3 (fun _ => rfl) ?_
  obtain ⟨r2, U2, hac, haa⟩ := ha
  refine ev_cal (σc := (M_isSign_s0 d 43 U1)) (fun _ => rfl) hac ?_
  show Ev (am_kz N X) ((d + 1), 310, 122, [some (.inr (.inr 86)), some (.inl x1), some (.inl x2), some (.inl x3), none], [.inl r2, .inr (.inr 86)], (am_sh, am_mm U2)) R
  refine ev_br (P := r2 = 0) (σ1 := ((d + 1), 310, 130, [some (.inr (.inr 86)), some (.inl x1), some (.inl x2), some (.inl x3), none], [.inr (.inr 86)], (am_sh, am_mm U2))) (σ2 := ((d + 1), 310, 125, [some (.inr (.inr 86)), some (.inl x1), some (.inl x2), some (.inl x3), none], [.inr (.inr 86)], (am_sh, am_mm U2))) 1 (fun _ => rfl) (fun hc => ?_) (fun hc => ?_)
  · have haa1 := haa.1 hc
    refine ev_seg (σ1 := ((d + 1), 310, 133, [some (.inr (.inr 86)), some (.inl x1), some (.inl x2), some (.inl x3), none], [.inl 45, .inr (.inr 86), .inr (.inr 86)], (am_sh, am_mm U2))) 2 (fun _ => rfl) ?_
    obtain ⟨r3, U3, haa1c, haa1a⟩ := haa1
    refine ev_cal (σc := (M_isSign_s0 d 45 U2)) (fun _ => rfl) haa1c ?_
    show Ev (am_kz N X) ((d + 1), 310, 136, [some (.inr (.inr 86)), some (.inl x1), some (.inl x2), some (.inl x3), none], [.inl r3, .inr (.inr 86)], (am_sh, am_mm U3)) R
    refine ev_br (P := r3 = 0) (σ1 := ((d + 1), 310, 144, [some (.inr (.inr 86)), some (.inl x1), some (.inl x2), some (.inl x3), none], [.inr (.inr 86)], (am_sh, am_mm U3))) (σ2 := ((d + 1), 310, 139, [some (.inr (.inr 86)), some (.inl x1), some (.inl x2), some (.inl x3), none], [.inr (.inr 86)], (am_sh, am_mm U3))) 1 (fun _ => rfl) (fun hc => ?_) (fun hc => ?_)
    · have haa1a1 := haa1a.1 hc
      refine ev_seg (σ1 := ((d + 1), 310, 147, [some (.inr (.inr 86)), some (.inl x1), some (.inl x2), some (.inl x3), none], [.inl 42, .inr (.inr 86), .inr (.inr 86)], (am_sh, am_mm U3))) 2 (fun _ => rfl) ?_
      obtain ⟨r4, U4, haa1a1c, haa1a1a⟩ := haa1a1
      refine ev_cal (σc := (M_isSign_s0 d 42 U3)) (fun _ => rfl) haa1a1c ?_
      show Ev (am_kz N X) ((d + 1), 310, 150, [some (.inr (.inr 86)), some (.inl x1), some (.inl x2), some (.inl x3), none], [.inl r4, .inr (.inr 86)], (am_sh, am_mm U4)) R
      refine ev_br (P := r4 = 0) (σ1 := ((d + 1), 310, 158, [some (.inr (.inr 86)), some (.inl x1), some (.inl x2), some (.inl x3), none], [.inr (.inr 86)], (am_sh, am_mm U4))) (σ2 := ((d + 1), 310, 153, [some (.inr (.inr 86)), some (.inl x1), some (.inl x2), some (.inl x3), none], [.inr (.inr 86)], (am_sh, am_mm U4))) 1 (fun _ => rfl) (fun hc => ?_) (fun hc => ?_)
      · have haa1a1a1 := haa1a1a.1 hc
        refine ev_seg (σ1 := ((d + 1), 310, 161, [some (.inr (.inr 86)), some (.inl x1), some (.inl x2), some (.inl x3), none], [.inl 47, .inr (.inr 86), .inr (.inr 86)], (am_sh, am_mm U4))) 2 (fun _ => rfl) ?_
        obtain ⟨r5, U5, haa1a1a1c, haa1a1a1a⟩ := haa1a1a1
        refine ev_cal (σc := (M_isSign_s0 d 47 U4)) (fun _ => rfl) haa1a1a1c ?_
        show Ev (am_kz N X) ((d + 1), 310, 164, [some (.inr (.inr 86)), some (.inl x1), some (.inl x2), some (.inl x3), none], [.inl r5, .inr (.inr 86)], (am_sh, am_mm U5)) R
        refine ev_br (P := r5 = 0) (σ1 := ((d + 1), 310, 172, [some (.inr (.inr 86)), some (.inl x1), some (.inl x2), some (.inl x3), none], [.inr (.inr 86)], (am_sh, am_mm U5))) (σ2 := ((d + 1), 310, 167, [some (.inr (.inr 86)), some (.inl x1), some (.inl x2), some (.inl x3), none], [.inr (.inr 86)], (am_sh, am_mm U5))) 1 (fun _ => rfl) (fun hc => ?_) (fun hc => ?_)
        · have haa1a1a1a1 := haa1a1a1a.1 hc
          refine ev_seg (σ1 := ((d + 1), 310, 174, [some (.inr (.inr 86)), some (.inl x1), some (.inl x2), some (.inl x3), none], [.inl 14, .inr (.inr 86)], (am_sh, am_mm U5))) 1 (fun _ => rfl) ?_
          exact haa1a1a1a1
        · have haa1a1a1a2 := haa1a1a1a.2 hc
          refine ev_seg (σ1 := ((d + 1), 310, 174, [some (.inr (.inr 86)), some (.inl x1), some (.inl x2), some (.inl x3), none], [.inl 13, .inr (.inr 86)], (am_sh, am_mm U5))) 2 (fun _ => rfl) ?_
          exact haa1a1a1a2
      · have haa1a1a2 := haa1a1a.2 hc
        refine ev_seg (σ1 := ((d + 1), 310, 174, [some (.inr (.inr 86)), some (.inl x1), some (.inl x2), some (.inl x3), none], [.inl 12, .inr (.inr 86)], (am_sh, am_mm U4))) 2 (fun _ => rfl) ?_
        exact haa1a1a2
    · have haa1a2 := haa1a.2 hc
      refine ev_seg (σ1 := ((d + 1), 310, 174, [some (.inr (.inr 86)), some (.inl x1), some (.inl x2), some (.inl x3), none], [.inl 11, .inr (.inr 86)], (am_sh, am_mm U3))) 2 (fun _ => rfl) ?_
      exact haa1a2
  · have haa2 := haa.2 hc
    refine ev_seg (σ1 := ((d + 1), 310, 174, [some (.inr (.inr 86)), some (.inl x1), some (.inl x2), some (.inl x3), none], [.inl 10, .inr (.inr 86)], (am_sh, am_mm U2))) 2 (fun _ => rfl) ?_
    exact haa2
set_option maxRecDepth 8000 in
theorem M_goesOn_r400 {N : Nat} {X : Nat → Int} {d : Nat} {x1 x2 x3 : Int} {U : am_U} {R : Option am_V × am_M} (h : ((x3 = 0) → EvK N X (M_goesOn_s422 (d + 1) x1 x2 x3 U) R) ∧ ((x3 ≠ 0) → (0 ≤ x1 ∧ x1 < 20) ∧ (((U 114 x1.toNat) ≠ 0) → EvK N X (M_goesOn_s422 (d + 1) x1 x2 x3 U) R) ∧ (((U 114 x1.toNat) = 0) → ∃ U1 : am_U, EvK N X (M_blame_s0 d 1 (U 86 4) U) (rV U1) ∧ EvK N X (M_goesOn_s422 (d + 1) x1 x2 x3 U1) R))) : EvK N X (M_goesOn_s400 (d + 1) x1 x2 x3 U) R := by
  show Ev (am_kz N X) ((d + 1), 310, 400, [some (.inr (.inr 86)), some (.inl x1), some (.inl x2), some (.inl x3), none], [], (am_sh, am_mm U)) R
  refine ev_br (P := x3 = 0) (σ1 := ((d + 1), 310, 422, [some (.inr (.inr 86)), some (.inl x1), some (.inl x2), some (.inl x3), none], [], (am_sh, am_mm U))) (σ2 := ((d + 1), 310, 404, [some (.inr (.inr 86)), some (.inl x1), some (.inl x2), some (.inl x3), none], [], (am_sh, am_mm U))) 2 (fun _ => rfl) (fun hc => ?_) (fun hc => ?_)
  · have h1 := h.1 hc
    exact h1
  · have h2 := h.2 hc
    refine ev_seg (σ1 := ((d + 1), 310, 409, [some (.inr (.inr 86)), some (.inl x1), some (.inl x2), some (.inl x3), none], [.inl x1, .inr (.inr 114)], (am_sh, am_mm U))) 3 (fun _ => rfl) ?_
    refine eu_iald 114 (n := 20) rfl (by decide) rfl (fun _ => rfl) h2.1 ?_
    show Ev (am_kz N X) ((d + 1), 310, 410, [some (.inr (.inr 86)), some (.inl x1), some (.inl x2), some (.inl x3), none], [.inl (U 114 x1.toNat)], (am_sh, am_mm U)) R
    have h2a := h2.2
    refine ev_br (P := ¬ (U 114 x1.toNat) = 0) (σ1 := ((d + 1), 310, 422, [some (.inr (.inr 86)), some (.inl x1), some (.inl x2), some (.inl x3), none], [], (am_sh, am_mm U))) (σ2 := ((d + 1), 310, 413, [some (.inr (.inr 86)), some (.inl x1), some (.inl x2), some (.inl x3), none], [], (am_sh, am_mm U))) 1 (fun _ => rfl) (fun hc => ?_) (fun hc => ?_)
    · have h2a1 := h2a.1 hc
      exact h2a1
    · have h2a2 := h2a.2 (Decidable.not_not.mp hc)
      refine ev_seg (σ1 := ((d + 1), 310, 419, [some (.inr (.inr 86)), some (.inl x1), some (.inl x2), some (.inl x3), none], [.inl (U 86 4), .inl 1, .inr (.inr 86)], (am_sh, am_mm U))) 4 (fun _ => rfl) ?_
      obtain ⟨U1, h2a2c, h2a2a⟩ := h2a2
      refine ev_cal (σc := (M_blame_s0 d 1 (U 86 4) U)) (fun _ => rfl) h2a2c ?_
      show Ev (am_kz N X) ((d + 1), 310, 422, [some (.inr (.inr 86)), some (.inl x1), some (.inl x2), some (.inl x3), none], [], (am_sh, am_mm U1)) R
      exact h2a2a
set_option maxRecDepth 8000 in
theorem M_goesOn_r309 {N : Nat} {X : Nat → Int} {d : Nat} {x1 x2 x3 : Int} {U : am_U} {R : Option am_V × am_M} (h : (0 ≤ x1 ∧ x1 < 20) ∧ (((U 114 x1.toNat) ≠ 0) → EvK N X (M_goesOn_s327 (d + 1) x1 x2 x3 U) R) ∧ (((U 114 x1.toNat) = 0) → ∃ U1 : am_U, EvK N X (M_blame_s0 d 1 (U 86 4) U) (rV U1) ∧ EvK N X (M_goesOn_s327 (d + 1) x1 x2 x3 U1) R)) : EvK N X (M_goesOn_s309 (d + 1) x1 x2 x3 U) R := by
  show Ev (am_kz N X) ((d + 1), 310, 309, [some (.inr (.inr 86)), some (.inl x1), some (.inl x2), some (.inl x3), none], [], (am_sh, am_mm U)) R
  refine ev_seg (σ1 := ((d + 1), 310, 314, [some (.inr (.inr 86)), some (.inl x1), some (.inl x2), some (.inl x3), none], [.inl x1, .inr (.inr 114)], (am_sh, am_mm U))) 3 (fun _ => rfl) ?_
  refine eu_iald 114 (n := 20) rfl (by decide) rfl (fun _ => rfl) h.1 ?_
  show Ev (am_kz N X) ((d + 1), 310, 315, [some (.inr (.inr 86)), some (.inl x1), some (.inl x2), some (.inl x3), none], [.inl (U 114 x1.toNat)], (am_sh, am_mm U)) R
  have ha := h.2
  refine ev_br (P := ¬ (U 114 x1.toNat) = 0) (σ1 := ((d + 1), 310, 327, [some (.inr (.inr 86)), some (.inl x1), some (.inl x2), some (.inl x3), none], [], (am_sh, am_mm U))) (σ2 := ((d + 1), 310, 318, [some (.inr (.inr 86)), some (.inl x1), some (.inl x2), some (.inl x3), none], [], (am_sh, am_mm U))) 1 (fun _ => rfl) (fun hc => ?_) (fun hc => ?_)
  · have ha1 := ha.1 hc
    exact ha1
  · have ha2 := ha.2 (Decidable.not_not.mp hc)
    refine ev_seg (σ1 := ((d + 1), 310, 324, [some (.inr (.inr 86)), some (.inl x1), some (.inl x2), some (.inl x3), none], [.inl (U 86 4), .inl 1, .inr (.inr 86)], (am_sh, am_mm U))) 4 (fun _ => rfl) ?_
    obtain ⟨U1, ha2c, ha2a⟩ := ha2
    refine ev_cal (σc := (M_blame_s0 d 1 (U 86 4) U)) (fun _ => rfl) ha2c ?_
    show Ev (am_kz N X) ((d + 1), 310, 327, [some (.inr (.inr 86)), some (.inl x1), some (.inl x2), some (.inl x3), none], [], (am_sh, am_mm U1)) R
    exact ha2a
set_option maxRecDepth 8000 in
theorem M_goesOn_r264 {N : Nat} {X : Nat → Int} {d : Nat} {x1 x2 x3 s1 : Int} {U : am_U} {R : Option am_V × am_M} (h : ∃ U1 : am_U, EvK N X (M_holdsBack_s0 d s1 U) (rV U1) ∧ (0 ≤ x1 ∧ x1 < 20) ∧ ∃ U2 : am_U, EvK N X (M_ahead_s0 d (am_upd U1 114 x1.toNat 1)) (rV U2) ∧ R = rI 1 (am_upd U2 86 50 0)) : EvK N X (M_goesOn_s264 (d + 1) x1 x2 x3 s1 U) R := by
  show Ev (am_kz N X) ((d + 1), 310, 264, [some (.inr (.inr 86)), some (.inl x1), some (.inl x2), some (.inl x3), none], [.inl s1, .inr (.inr 86)], (am_sh, am_mm U)) R
  obtain ⟨U1, hc, ha⟩ := h
  refine ev_cal (σc := (M_holdsBack_s0 d s1 U)) (fun _ => rfl) hc ?_
  show Ev (am_kz N X) ((d + 1), 310, 267, [some (.inr (.inr 86)), some (.inl x1), some (.inl x2), some (.inl x3), none], [], (am_sh, am_mm U1)) R
  refine ev_seg (σ1 := ((d + 1), 310, 273, [some (.inr (.inr 86)), some (.inl x1), some (.inl x2), some (.inl x3), none], [.inl 1, .inl x1, .inr (.inr 114)], (am_sh, am_mm U1))) 4 (fun _ => rfl) ?_
  refine eu_iast 114 (n := 20) rfl (by decide) rfl (fun _ => rfl) ha.1 ?_
  show Ev (am_kz N X) ((d + 1), 310, 274, [some (.inr (.inr 86)), some (.inl x1), some (.inl x2), some (.inl x3), none], [], (am_sh, am_mm (am_upd U1 114 x1.toNat 1))) R
  have haa := ha.2
  refine ev_seg (σ1 := ((d + 1), 310, 275, [some (.inr (.inr 86)), some (.inl x1), some (.inl x2), some (.inl x3), none], [.inr (.inr 86)], (am_sh, am_mm (am_upd U1 114 x1.toNat 1)))) 1 (fun _ => rfl) ?_
  obtain ⟨U2, haac, haaa⟩ := haa
  refine ev_cal (σc := (M_ahead_s0 d (am_upd U1 114 x1.toNat 1))) (fun _ => rfl) haac ?_
  show Ev (am_kz N X) ((d + 1), 310, 278, [some (.inr (.inr 86)), some (.inl x1), some (.inl x2), some (.inl x3), none], [], (am_sh, am_mm U2)) R
  refine ev_seg (σ1 := ((d + 1), 310, 280, [some (.inr (.inr 86)), some (.inl x1), some (.inl x2), some (.inl x3), none], [.inl 0, .inr (.inr 86)], (am_sh, am_mm U2))) 2 (fun _ => rfl) ?_
  refine eu_putz 86 (n := 90) rfl (by decide) rfl rfl (by decide) ?_
  show Ev (am_kz N X) ((d + 1), 310, 283, [some (.inr (.inr 86)), some (.inl x1), some (.inl x2), some (.inl x3), none], [], (am_sh, am_mm (am_upd U2 86 50 0))) R
  subst haaa
  exact ev_end 2 (fun _ => rfl)
set_option maxRecDepth 8000 in
theorem M_goesOn_r174 {N : Nat} {X : Nat → Int} {d : Nat} {x1 x2 x3 s1 : Int} {U : am_U} {R : Option am_V × am_M} (h : ∃ U1 : am_U, EvK N X (M_holdsBack_s0 d s1 U) (rV U1) ∧ ∃ U2 : am_U, EvK N X (M_ahead_s0 d U1) (rV U2) ∧ R = rI 1 (am_upd U2 86 50 0)) : EvK N X (M_goesOn_s174 (d + 1) x1 x2 x3 s1 U) R := by
  show Ev (am_kz N X) ((d + 1), 310, 174, [some (.inr (.inr 86)), some (.inl x1), some (.inl x2), some (.inl x3), none], [.inl s1, .inr (.inr 86)], (am_sh, am_mm U)) R
  obtain ⟨U1, hc, ha⟩ := h
  refine ev_cal (σc := (M_holdsBack_s0 d s1 U)) (fun _ => rfl) hc ?_
  show Ev (am_kz N X) ((d + 1), 310, 177, [some (.inr (.inr 86)), some (.inl x1), some (.inl x2), some (.inl x3), none], [], (am_sh, am_mm U1)) R
  refine ev_seg (σ1 := ((d + 1), 310, 178, [some (.inr (.inr 86)), some (.inl x1), some (.inl x2), some (.inl x3), none], [.inr (.inr 86)], (am_sh, am_mm U1))) 1 (fun _ => rfl) ?_
  obtain ⟨U2, hac, haa⟩ := ha
  refine ev_cal (σc := (M_ahead_s0 d U1)) (fun _ => rfl) hac ?_
  show Ev (am_kz N X) ((d + 1), 310, 181, [some (.inr (.inr 86)), some (.inl x1), some (.inl x2), some (.inl x3), none], [], (am_sh, am_mm U2)) R
  refine ev_seg (σ1 := ((d + 1), 310, 183, [some (.inr (.inr 86)), some (.inl x1), some (.inl x2), some (.inl x3), none], [.inl 0, .inr (.inr 86)], (am_sh, am_mm U2))) 2 (fun _ => rfl) ?_
  refine eu_putz 86 (n := 90) rfl (by decide) rfl rfl (by decide) ?_
  show Ev (am_kz N X) ((d + 1), 310, 186, [some (.inr (.inr 86)), some (.inl x1), some (.inl x2), some (.inl x3), none], [], (am_sh, am_mm (am_upd U2 86 50 0))) R
  subst haa
  exact ev_end 2 (fun _ => rfl)
set_option maxRecDepth 8000 in
theorem M_goesOn_r422 {N : Nat} {X : Nat → Int} {d : Nat} {x1 x2 x3 : Int} {U : am_U} {R : Option am_V × am_M} (h : ((2 ≤ x2) → ((x2 ≠ 3) → ((x2 ≠ 5) → ∃ (r1 : Int) (U1 : am_U), EvK N X (M_isSign_s0 d 41 U) (rI r1 U1) ∧ ((r1 ≠ 0) → (((U1 86 8) ≤ 0) → ∃ U2 : am_U, EvK N X (M_joins_s0 d 1 U1) (rV U2) ∧ ((x2 ≠ 4) → ∃ U3 : am_U, EvK N X (M_ahead_s0 d (am_upd (am_upd U2 86 46 (w32 ((U2 86 46) - 1))) 86 47 (w32 ((U2 86 47) - 1)))) (rV U3) ∧ R = rI 1 U3) ∧ ((x2 = 4) → (0 ≤ x1 ∧ x1 < 20) ∧ ∃ U4 : am_U, EvK N X (M_add_s0 d (U2 116 x1.toNat) 0 (am_upd (am_upd U2 86 46 (w32 ((U2 86 46) - 1))) 86 47 (w32 ((U2 86 47) - 1)))) (rV U4) ∧ ∃ U5 : am_U, EvK N X (M_ahead_s0 d U4) (rV U5) ∧ R = rI 1 U5)) ∧ ((0 < (U1 86 8)) → R = rI 0 U1)) ∧ ((r1 = 0) → ∃ U6 : am_U, EvK N X (M_blame_s0 d 1 (U1 86 4) U1) (rV U6) ∧ (((U6 86 8) ≤ 0) → ∃ U7 : am_U, EvK N X (M_joins_s0 d 1 U6) (rV U7) ∧ ((x2 ≠ 4) → ∃ U8 : am_U, EvK N X (M_ahead_s0 d (am_upd (am_upd U7 86 46 (w32 ((U7 86 46) - 1))) 86 47 (w32 ((U7 86 47) - 1)))) (rV U8) ∧ R = rI 1 U8) ∧ ((x2 = 4) → (0 ≤ x1 ∧ x1 < 20) ∧ ∃ U9 : am_U, EvK N X (M_add_s0 d (U7 116 x1.toNat) 0 (am_upd (am_upd U7 86 46 (w32 ((U7 86 46) - 1))) 86 47 (w32 ((U7 86 47) - 1)))) (rV U9) ∧ ∃ U10 : am_U, EvK N X (M_ahead_s0 d U9) (rV U10) ∧ R = rI 1 U10)) ∧ ((0 < (U6 86 8)) → R = rI 0 U6))) ∧ ((x2 = 5) → ∃ (r11 : Int) (U11 : am_U), EvK N X (M_isSign_s0 d 93 U) (rI r11 U11) ∧ ((r11 ≠ 0) → (((U11 86 8) ≤ 0) → ∃ U12 : am_U, EvK N X (M_joins_s0 d 1 U11) (rV U12) ∧ ((x2 ≠ 4) → (0 ≤ (w32 ((w32 ((U12 86 46) - 1)) - 1)) ∧ (w32 ((w32 ((U12 86 46) - 1)) - 1)) < 20) ∧ ∃ U13 : am_U, EvK N X (M_ahead_s0 d (am_upd (am_upd (am_upd U12 86 46 (w32 ((U12 86 46) - 1))) 86 47 (w32 ((U12 86 47) - 1))) 114 ((w32 ((w32 ((U12 86 46) - 1)) - 1)).toNat) 2)) (rV U13) ∧ R = rI 1 U13) ∧ ((x2 = 4) → (0 ≤ x1 ∧ x1 < 20) ∧ ∃ U14 : am_U, EvK N X (M_add_s0 d (U12 116 x1.toNat) 0 (am_upd (am_upd U12 86 46 (w32 ((U12 86 46) - 1))) 86 47 (w32 ((U12 86 47) - 1)))) (rV U14) ∧ (0 ≤ (w32 ((U14 86 46) - 1)) ∧ (w32 ((U14 86 46) - 1)) < 20) ∧ ∃ U15 : am_U, EvK N X (M_ahead_s0 d (am_upd U14 114 ((w32 ((U14 86 46) - 1)).toNat) 2)) (rV U15) ∧ R = rI 1 U15)) ∧ ((0 < (U11 86 8)) → R = rI 0 U11)) ∧ ((r11 = 0) → ∃ U16 : am_U, EvK N X (M_blame_s0 d 1 (U11 86 4) U11) (rV U16) ∧ (((U16 86 8) ≤ 0) → ∃ U17 : am_U, EvK N X (M_joins_s0 d 1 U16) (rV U17) ∧ ((x2 ≠ 4) → (0 ≤ (w32 ((w32 ((U17 86 46) - 1)) - 1)) ∧ (w32 ((w32 ((U17 86 46) - 1)) - 1)) < 20) ∧ ∃ U18 : am_U, EvK N X (M_ahead_s0 d (am_upd (am_upd (am_upd U17 86 46 (w32 ((U17 86 46) - 1))) 86 47 (w32 ((U17 86 47) - 1))) 114 ((w32 ((w32 ((U17 86 46) - 1)) - 1)).toNat) 2)) (rV U18) ∧ R = rI 1 U18) ∧ ((x2 = 4) → (0 ≤ x1 ∧ x1 < 20) ∧ ∃ U19 : am_U, EvK N X (M_add_s0 d (U17 116 x1.toNat) 0 (am_upd (am_upd U17 86 46 (w32 ((U17 86 46) - 1))) 86 47 (w32 ((U17 86 47) - 1)))) (rV U19) ∧ (0 ≤ (w32 ((U19 86 46) - 1)) ∧ (w32 ((U19 86 46) - 1)) < 20) ∧ ∃ U20 : am_U, EvK N X (M_ahead_s0 d (am_upd U19 114 ((w32 ((U19 86 46) - 1)).toNat) 2)) (rV U20) ∧ R = rI 1 U20)) ∧ ((0 < (U16 86 8)) → R = rI 0 U16)))) ∧ ((x2 = 3) → ∃ (r21 : Int) (U21 : am_U), EvK N X (M_isSign_s0 d 44 U) (rI r21 U21) ∧ ((r21 ≠ 0) → EvK N X (M_goesOn_s464 (d + 1) x1 x2 x3 U21) R) ∧ ((r21 = 0) → ∃ U22 : am_U, EvK N X (M_blame_s0 d 1 (U21 86 4) U21) (rV U22) ∧ EvK N X (M_goesOn_s464 (d + 1) x1 x2 x3 U22) R))) ∧ ((x2 < 2) → (((U 86 8) ≠ 0) → EvK N X (M_goesOn_s439 (d + 1) x1 x2 x3 U) R) ∧ (((U 86 8) = 0) → ∃ U23 : am_U, EvK N X (M_joins_s0 d 1 U) (rV U23) ∧ EvK N X (M_goesOn_s439 (d + 1) x1 x2 x3 U23) R))) : EvK N X (M_goesOn_s422 (d + 1) x1 x2 x3 U) R := by
  show Ev (am_kz N X) ((d + 1), 310, 422, [some (.inr (.inr 86)), some (.inl x1), some (.inl x2), some (.inl x3), none], [], (am_sh, am_mm U)) R
  refine ev_br (P := 2 ≤ x2) (σ1 := ((d + 1), 310, 441, [some (.inr (.inr 86)), some (.inl x1), some (.inl x2), some (.inl x3), none], [], (am_sh, am_mm U))) (σ2 := ((d + 1), 310, 427, [some (.inr (.inr 86)), some (.inl x1), some (.inl x2), some (.inl x3), none], [], (am_sh, am_mm U))) 3 (fun _ => rfl) (fun hc => ?_) (fun hc => ?_)
  · have h1 := h.1 hc
    refine ev_br (P := ¬ x2 = 3) (σ1 := ((d + 1), 310, 496, [some (.inr (.inr 86)), some (.inl x1), some (.inl x2), some (.inl x3), none], [], (am_sh, am_mm U))) (σ2 := ((d + 1), 310, 446, [some (.inr (.inr 86)), some (.inl x1), some (.inl x2), some (.inl x3), none], [], (am_sh, am_mm U))) 3 (fun _ => rfl) (fun hc => ?_) (fun hc => ?_)
    · have h11 := h1.1 hc
      refine ev_br (P := ¬ x2 = 5) (σ1 := ((d + 1), 310, 507, [some (.inr (.inr 86)), some (.inl x1), some (.inl x2), some (.inl x3), none], [.inr (.inr 86)], (am_sh, am_mm U))) (σ2 := ((d + 1), 310, 502, [some (.inr (.inr 86)), some (.inl x1), some (.inl x2), some (.inl x3), none], [.inr (.inr 86)], (am_sh, am_mm U))) 4 (fun _ => rfl) (fun hc => ?_) (fun hc => ?_)
      · have h111 := h11.1 hc
        have h11q := hc
        refine ev_seg (σ1 := ((d + 1), 310, 509, [some (.inr (.inr 86)), some (.inl x1), some (.inl x2), some (.inl x3), none], [.inl 41, .inr (.inr 86)], (am_sh, am_mm U))) 1 (fun _ => rfl) ?_
        obtain ⟨r1, U1, h111c, h111a⟩ := h111
        refine ev_cal (σc := (M_isSign_s0 d 41 U)) (fun _ => rfl) h111c ?_
        show Ev (am_kz N X) ((d + 1), 310, 512, [some (.inr (.inr 86)), some (.inl x1), some (.inl x2), some (.inl x3), none], [.inl r1], (am_sh, am_mm U1)) R
        refine ev_br (P := ¬ r1 = 0) (σ1 := ((d + 1), 310, 524, [some (.inr (.inr 86)), some (.inl x1), some (.inl x2), some (.inl x3), none], [], (am_sh, am_mm U1))) (σ2 := ((d + 1), 310, 515, [some (.inr (.inr 86)), some (.inl x1), some (.inl x2), some (.inl x3), none], [], (am_sh, am_mm U1))) 1 (fun _ => rfl) (fun hc => ?_) (fun hc => ?_)
        · have h111a1 := h111a.1 hc
          refine ev_br (P := (U1 86 8) ≤ 0) (σ1 := ((d + 1), 310, 533, [some (.inr (.inr 86)), some (.inl x1), some (.inl x2), some (.inl x3), none], [], (am_sh, am_mm U1))) (σ2 := ((d + 1), 310, 531, [some (.inr (.inr 86)), some (.inl x1), some (.inl x2), some (.inl x3), none], [], (am_sh, am_mm U1))) 3 (fun _ => rfl) (fun hc => ?_) (fun hc => ?_)
          · have h111a11 := h111a1.1 hc
            refine ev_seg (σ1 := ((d + 1), 310, 535, [some (.inr (.inr 86)), some (.inl x1), some (.inl x2), some (.inl x3), none], [.inl 1, .inr (.inr 86)], (am_sh, am_mm U1))) 2 (fun _ => rfl) ?_
            obtain ⟨U2, h111a11c, h111a11a⟩ := h111a11
            refine ev_cal (σc := (M_joins_s0 d 1 U1)) (fun _ => rfl) h111a11c ?_
            show Ev (am_kz N X) ((d + 1), 310, 538, [some (.inr (.inr 86)), some (.inl x1), some (.inl x2), some (.inl x3), none], [], (am_sh, am_mm U2)) R
            refine ev_seg (σ1 := ((d + 1), 310, 545, [some (.inr (.inr 86)), some (.inl x1), some (.inl x2), some (.inl x3), none], [.inl (w32 ((U2 86 46) - 1)), .inr (.inr 86)], (am_sh, am_mm U2))) 5 (fun _ => rfl) ?_
            refine eu_puti 86 (n := 90) rfl (by decide) rfl rfl ?_
            show Ev (am_kz N X) ((d + 1), 310, 548, [some (.inr (.inr 86)), some (.inl x1), some (.inl x2), some (.inl x3), none], [], (am_sh, am_mm (am_upd U2 86 46 (w32 ((U2 86 46) - 1))))) R
            refine ev_seg (σ1 := ((d + 1), 310, 555, [some (.inr (.inr 86)), some (.inl x1), some (.inl x2), some (.inl x3), none], [.inl (w32 ((U2 86 47) - 1)), .inr (.inr 86)], (am_sh, am_mm (am_upd U2 86 46 (w32 ((U2 86 46) - 1)))))) 5 (fun _ => rfl) ?_
            refine eu_puti 86 (n := 90) rfl (by decide) rfl rfl ?_
            show Ev (am_kz N X) ((d + 1), 310, 558, [some (.inr (.inr 86)), some (.inl x1), some (.inl x2), some (.inl x3), none], [], (am_sh, am_mm (am_upd (am_upd U2 86 46 (w32 ((U2 86 46) - 1))) 86 47 (w32 ((U2 86 47) - 1))))) R
            refine ev_br (P := ¬ x2 = 4) (σ1 := ((d + 1), 310, 574, [some (.inr (.inr 86)), some (.inl x1), some (.inl x2), some (.inl x3), none], [], (am_sh, am_mm (am_upd (am_upd U2 86 46 (w32 ((U2 86 46) - 1))) 86 47 (w32 ((U2 86 47) - 1)))))) (σ2 := ((d + 1), 310, 563, [some (.inr (.inr 86)), some (.inl x1), some (.inl x2), some (.inl x3), none], [], (am_sh, am_mm (am_upd (am_upd U2 86 46 (w32 ((U2 86 46) - 1))) 86 47 (w32 ((U2 86 47) - 1)))))) 3 (fun _ => rfl) (fun hc => ?_) (fun hc => ?_)
            · have h111a11a1 := h111a11a.1 hc
              refine ev_br (P := ¬ x2 = 5) (σ1 := ((d + 1), 310, 591, [some (.inr (.inr 86)), some (.inl x1), some (.inl x2), some (.inl x3), none], [], (am_sh, am_mm (am_upd (am_upd U2 86 46 (w32 ((U2 86 46) - 1))) 86 47 (w32 ((U2 86 47) - 1)))))) (σ2 := ((d + 1), 310, 579, [some (.inr (.inr 86)), some (.inl x1), some (.inl x2), some (.inl x3), none], [], (am_sh, am_mm (am_upd (am_upd U2 86 46 (w32 ((U2 86 46) - 1))) 86 47 (w32 ((U2 86 47) - 1)))))) 3 (fun _ => rfl) (fun hc => ?_) (fun hc => absurd h11q (fun h0 => by have h1 := (Decidable.not_not.mp hc); omega))
              refine ev_seg (σ1 := ((d + 1), 310, 592, [some (.inr (.inr 86)), some (.inl x1), some (.inl x2), some (.inl x3), none], [.inr (.inr 86)], (am_sh, am_mm (am_upd (am_upd U2 86 46 (w32 ((U2 86 46) - 1))) 86 47 (w32 ((U2 86 47) - 1)))))) 1 (fun _ => rfl) ?_
              obtain ⟨U3, h111a11a1c, h111a11a1a⟩ := h111a11a1
              refine ev_cal (σc := (M_ahead_s0 d (am_upd (am_upd U2 86 46 (w32 ((U2 86 46) - 1))) 86 47 (w32 ((U2 86 47) - 1))))) (fun _ => rfl) h111a11a1c ?_
              show Ev (am_kz N X) ((d + 1), 310, 595, [some (.inr (.inr 86)), some (.inl x1), some (.inl x2), some (.inl x3), none], [], (am_sh, am_mm U3)) R
              subst h111a11a1a
              exact ev_end 2 (fun _ => rfl)
            · have h111a11a2 := h111a11a.2 (Decidable.not_not.mp hc)
              refine ev_seg (σ1 := ((d + 1), 310, 569, [some (.inr (.inr 86)), some (.inl x1), some (.inl x2), some (.inl x3), none], [.inl x1, .inr (.inr 116), .inr (.inr 86)], (am_sh, am_mm (am_upd (am_upd U2 86 46 (w32 ((U2 86 46) - 1))) 86 47 (w32 ((U2 86 47) - 1)))))) 4 (fun _ => rfl) ?_
              refine eu_iald 116 (n := 20) rfl (by decide) rfl (fun _ => rfl) h111a11a2.1 ?_
              show Ev (am_kz N X) ((d + 1), 310, 570, [some (.inr (.inr 86)), some (.inl x1), some (.inl x2), some (.inl x3), none], [.inl (U2 116 x1.toNat), .inr (.inr 86)], (am_sh, am_mm (am_upd (am_upd U2 86 46 (w32 ((U2 86 46) - 1))) 86 47 (w32 ((U2 86 47) - 1))))) R
              have h111a11a2a := h111a11a2.2
              refine ev_seg (σ1 := ((d + 1), 310, 571, [some (.inr (.inr 86)), some (.inl x1), some (.inl x2), some (.inl x3), none], [.inl 0, .inl (U2 116 x1.toNat), .inr (.inr 86)], (am_sh, am_mm (am_upd (am_upd U2 86 46 (w32 ((U2 86 46) - 1))) 86 47 (w32 ((U2 86 47) - 1)))))) 1 (fun _ => rfl) ?_
              obtain ⟨U4, h111a11a2ac, h111a11a2aa⟩ := h111a11a2a
              refine ev_cal (σc := (M_add_s0 d (U2 116 x1.toNat) 0 (am_upd (am_upd U2 86 46 (w32 ((U2 86 46) - 1))) 86 47 (w32 ((U2 86 47) - 1))))) (fun _ => rfl) h111a11a2ac ?_
              show Ev (am_kz N X) ((d + 1), 310, 574, [some (.inr (.inr 86)), some (.inl x1), some (.inl x2), some (.inl x3), none], [], (am_sh, am_mm U4)) R
              refine ev_br (P := ¬ x2 = 5) (σ1 := ((d + 1), 310, 591, [some (.inr (.inr 86)), some (.inl x1), some (.inl x2), some (.inl x3), none], [], (am_sh, am_mm U4))) (σ2 := ((d + 1), 310, 579, [some (.inr (.inr 86)), some (.inl x1), some (.inl x2), some (.inl x3), none], [], (am_sh, am_mm U4))) 3 (fun _ => rfl) (fun hc => ?_) (fun hc => absurd h11q (fun h0 => by have h1 := (Decidable.not_not.mp hc); omega))
              refine ev_seg (σ1 := ((d + 1), 310, 592, [some (.inr (.inr 86)), some (.inl x1), some (.inl x2), some (.inl x3), none], [.inr (.inr 86)], (am_sh, am_mm U4))) 1 (fun _ => rfl) ?_
              obtain ⟨U5, h111a11a2aac, h111a11a2aaa⟩ := h111a11a2aa
              refine ev_cal (σc := (M_ahead_s0 d U4)) (fun _ => rfl) h111a11a2aac ?_
              show Ev (am_kz N X) ((d + 1), 310, 595, [some (.inr (.inr 86)), some (.inl x1), some (.inl x2), some (.inl x3), none], [], (am_sh, am_mm U5)) R
              subst h111a11a2aaa
              exact ev_end 2 (fun _ => rfl)
          · have h111a12 := h111a1.2 (Int.not_le.mp hc)
            subst h111a12
            exact ev_end 2 (fun _ => rfl)
        · have h111a2 := h111a.2 (Decidable.not_not.mp hc)
          refine ev_seg (σ1 := ((d + 1), 310, 521, [some (.inr (.inr 86)), some (.inl x1), some (.inl x2), some (.inl x3), none], [.inl (U1 86 4), .inl 1, .inr (.inr 86)], (am_sh, am_mm U1))) 4 (fun _ => rfl) ?_
          obtain ⟨U6, h111a2c, h111a2a⟩ := h111a2
          refine ev_cal (σc := (M_blame_s0 d 1 (U1 86 4) U1)) (fun _ => rfl) h111a2c ?_
          show Ev (am_kz N X) ((d + 1), 310, 524, [some (.inr (.inr 86)), some (.inl x1), some (.inl x2), some (.inl x3), none], [], (am_sh, am_mm U6)) R
          refine ev_br (P := (U6 86 8) ≤ 0) (σ1 := ((d + 1), 310, 533, [some (.inr (.inr 86)), some (.inl x1), some (.inl x2), some (.inl x3), none], [], (am_sh, am_mm U6))) (σ2 := ((d + 1), 310, 531, [some (.inr (.inr 86)), some (.inl x1), some (.inl x2), some (.inl x3), none], [], (am_sh, am_mm U6))) 3 (fun _ => rfl) (fun hc => ?_) (fun hc => ?_)
          · have h111a2a1 := h111a2a.1 hc
            refine ev_seg (σ1 := ((d + 1), 310, 535, [some (.inr (.inr 86)), some (.inl x1), some (.inl x2), some (.inl x3), none], [.inl 1, .inr (.inr 86)], (am_sh, am_mm U6))) 2 (fun _ => rfl) ?_
            obtain ⟨U7, h111a2a1c, h111a2a1a⟩ := h111a2a1
            refine ev_cal (σc := (M_joins_s0 d 1 U6)) (fun _ => rfl) h111a2a1c ?_
            show Ev (am_kz N X) ((d + 1), 310, 538, [some (.inr (.inr 86)), some (.inl x1), some (.inl x2), some (.inl x3), none], [], (am_sh, am_mm U7)) R
            refine ev_seg (σ1 := ((d + 1), 310, 545, [some (.inr (.inr 86)), some (.inl x1), some (.inl x2), some (.inl x3), none], [.inl (w32 ((U7 86 46) - 1)), .inr (.inr 86)], (am_sh, am_mm U7))) 5 (fun _ => rfl) ?_
            refine eu_puti 86 (n := 90) rfl (by decide) rfl rfl ?_
            show Ev (am_kz N X) ((d + 1), 310, 548, [some (.inr (.inr 86)), some (.inl x1), some (.inl x2), some (.inl x3), none], [], (am_sh, am_mm (am_upd U7 86 46 (w32 ((U7 86 46) - 1))))) R
            refine ev_seg (σ1 := ((d + 1), 310, 555, [some (.inr (.inr 86)), some (.inl x1), some (.inl x2), some (.inl x3), none], [.inl (w32 ((U7 86 47) - 1)), .inr (.inr 86)], (am_sh, am_mm (am_upd U7 86 46 (w32 ((U7 86 46) - 1)))))) 5 (fun _ => rfl) ?_
            refine eu_puti 86 (n := 90) rfl (by decide) rfl rfl ?_
            show Ev (am_kz N X) ((d + 1), 310, 558, [some (.inr (.inr 86)), some (.inl x1), some (.inl x2), some (.inl x3), none], [], (am_sh, am_mm (am_upd (am_upd U7 86 46 (w32 ((U7 86 46) - 1))) 86 47 (w32 ((U7 86 47) - 1))))) R
            refine ev_br (P := ¬ x2 = 4) (σ1 := ((d + 1), 310, 574, [some (.inr (.inr 86)), some (.inl x1), some (.inl x2), some (.inl x3), none], [], (am_sh, am_mm (am_upd (am_upd U7 86 46 (w32 ((U7 86 46) - 1))) 86 47 (w32 ((U7 86 47) - 1)))))) (σ2 := ((d + 1), 310, 563, [some (.inr (.inr 86)), some (.inl x1), some (.inl x2), some (.inl x3), none], [], (am_sh, am_mm (am_upd (am_upd U7 86 46 (w32 ((U7 86 46) - 1))) 86 47 (w32 ((U7 86 47) - 1)))))) 3 (fun _ => rfl) (fun hc => ?_) (fun hc => ?_)
            · have h111a2a1a1 := h111a2a1a.1 hc
              refine ev_br (P := ¬ x2 = 5) (σ1 := ((d + 1), 310, 591, [some (.inr (.inr 86)), some (.inl x1), some (.inl x2), some (.inl x3), none], [], (am_sh, am_mm (am_upd (am_upd U7 86 46 (w32 ((U7 86 46) - 1))) 86 47 (w32 ((U7 86 47) - 1)))))) (σ2 := ((d + 1), 310, 579, [some (.inr (.inr 86)), some (.inl x1), some (.inl x2), some (.inl x3), none], [], (am_sh, am_mm (am_upd (am_upd U7 86 46 (w32 ((U7 86 46) - 1))) 86 47 (w32 ((U7 86 47) - 1)))))) 3 (fun _ => rfl) (fun hc => ?_) (fun hc => absurd h11q (fun h0 => by have h1 := (Decidable.not_not.mp hc); omega))
              refine ev_seg (σ1 := ((d + 1), 310, 592, [some (.inr (.inr 86)), some (.inl x1), some (.inl x2), some (.inl x3), none], [.inr (.inr 86)], (am_sh, am_mm (am_upd (am_upd U7 86 46 (w32 ((U7 86 46) - 1))) 86 47 (w32 ((U7 86 47) - 1)))))) 1 (fun _ => rfl) ?_
              obtain ⟨U8, h111a2a1a1c, h111a2a1a1a⟩ := h111a2a1a1
              refine ev_cal (σc := (M_ahead_s0 d (am_upd (am_upd U7 86 46 (w32 ((U7 86 46) - 1))) 86 47 (w32 ((U7 86 47) - 1))))) (fun _ => rfl) h111a2a1a1c ?_
              show Ev (am_kz N X) ((d + 1), 310, 595, [some (.inr (.inr 86)), some (.inl x1), some (.inl x2), some (.inl x3), none], [], (am_sh, am_mm U8)) R
              subst h111a2a1a1a
              exact ev_end 2 (fun _ => rfl)
            · have h111a2a1a2 := h111a2a1a.2 (Decidable.not_not.mp hc)
              refine ev_seg (σ1 := ((d + 1), 310, 569, [some (.inr (.inr 86)), some (.inl x1), some (.inl x2), some (.inl x3), none], [.inl x1, .inr (.inr 116), .inr (.inr 86)], (am_sh, am_mm (am_upd (am_upd U7 86 46 (w32 ((U7 86 46) - 1))) 86 47 (w32 ((U7 86 47) - 1)))))) 4 (fun _ => rfl) ?_
              refine eu_iald 116 (n := 20) rfl (by decide) rfl (fun _ => rfl) h111a2a1a2.1 ?_
              show Ev (am_kz N X) ((d + 1), 310, 570, [some (.inr (.inr 86)), some (.inl x1), some (.inl x2), some (.inl x3), none], [.inl (U7 116 x1.toNat), .inr (.inr 86)], (am_sh, am_mm (am_upd (am_upd U7 86 46 (w32 ((U7 86 46) - 1))) 86 47 (w32 ((U7 86 47) - 1))))) R
              have h111a2a1a2a := h111a2a1a2.2
              refine ev_seg (σ1 := ((d + 1), 310, 571, [some (.inr (.inr 86)), some (.inl x1), some (.inl x2), some (.inl x3), none], [.inl 0, .inl (U7 116 x1.toNat), .inr (.inr 86)], (am_sh, am_mm (am_upd (am_upd U7 86 46 (w32 ((U7 86 46) - 1))) 86 47 (w32 ((U7 86 47) - 1)))))) 1 (fun _ => rfl) ?_
              obtain ⟨U9, h111a2a1a2ac, h111a2a1a2aa⟩ := h111a2a1a2a
              refine ev_cal (σc := (M_add_s0 d (U7 116 x1.toNat) 0 (am_upd (am_upd U7 86 46 (w32 ((U7 86 46) - 1))) 86 47 (w32 ((U7 86 47) - 1))))) (fun _ => rfl) h111a2a1a2ac ?_
              show Ev (am_kz N X) ((d + 1), 310, 574, [some (.inr (.inr 86)), some (.inl x1), some (.inl x2), some (.inl x3), none], [], (am_sh, am_mm U9)) R
              refine ev_br (P := ¬ x2 = 5) (σ1 := ((d + 1), 310, 591, [some (.inr (.inr 86)), some (.inl x1), some (.inl x2), some (.inl x3), none], [], (am_sh, am_mm U9))) (σ2 := ((d + 1), 310, 579, [some (.inr (.inr 86)), some (.inl x1), some (.inl x2), some (.inl x3), none], [], (am_sh, am_mm U9))) 3 (fun _ => rfl) (fun hc => ?_) (fun hc => absurd h11q (fun h0 => by have h1 := (Decidable.not_not.mp hc); omega))
              refine ev_seg (σ1 := ((d + 1), 310, 592, [some (.inr (.inr 86)), some (.inl x1), some (.inl x2), some (.inl x3), none], [.inr (.inr 86)], (am_sh, am_mm U9))) 1 (fun _ => rfl) ?_
              obtain ⟨U10, h111a2a1a2aac, h111a2a1a2aaa⟩ := h111a2a1a2aa
              refine ev_cal (σc := (M_ahead_s0 d U9)) (fun _ => rfl) h111a2a1a2aac ?_
              show Ev (am_kz N X) ((d + 1), 310, 595, [some (.inr (.inr 86)), some (.inl x1), some (.inl x2), some (.inl x3), none], [], (am_sh, am_mm U10)) R
              subst h111a2a1a2aaa
              exact ev_end 2 (fun _ => rfl)
          · have h111a2a2 := h111a2a.2 (Int.not_le.mp hc)
            subst h111a2a2
            exact ev_end 2 (fun _ => rfl)
      · have h112 := h11.2 (Decidable.not_not.mp hc)
        have h11q := (Decidable.not_not.mp hc)
        refine ev_seg (σ1 := ((d + 1), 310, 509, [some (.inr (.inr 86)), some (.inl x1), some (.inl x2), some (.inl x3), none], [.inl 93, .inr (.inr 86)], (am_sh, am_mm U))) 2 (fun _ => rfl) ?_
        obtain ⟨r11, U11, h112c, h112a⟩ := h112
        refine ev_cal (σc := (M_isSign_s0 d 93 U)) (fun _ => rfl) h112c ?_
        show Ev (am_kz N X) ((d + 1), 310, 512, [some (.inr (.inr 86)), some (.inl x1), some (.inl x2), some (.inl x3), none], [.inl r11], (am_sh, am_mm U11)) R
        refine ev_br (P := ¬ r11 = 0) (σ1 := ((d + 1), 310, 524, [some (.inr (.inr 86)), some (.inl x1), some (.inl x2), some (.inl x3), none], [], (am_sh, am_mm U11))) (σ2 := ((d + 1), 310, 515, [some (.inr (.inr 86)), some (.inl x1), some (.inl x2), some (.inl x3), none], [], (am_sh, am_mm U11))) 1 (fun _ => rfl) (fun hc => ?_) (fun hc => ?_)
        · have h112a1 := h112a.1 hc
          refine ev_br (P := (U11 86 8) ≤ 0) (σ1 := ((d + 1), 310, 533, [some (.inr (.inr 86)), some (.inl x1), some (.inl x2), some (.inl x3), none], [], (am_sh, am_mm U11))) (σ2 := ((d + 1), 310, 531, [some (.inr (.inr 86)), some (.inl x1), some (.inl x2), some (.inl x3), none], [], (am_sh, am_mm U11))) 3 (fun _ => rfl) (fun hc => ?_) (fun hc => ?_)
          · have h112a11 := h112a1.1 hc
            refine ev_seg (σ1 := ((d + 1), 310, 535, [some (.inr (.inr 86)), some (.inl x1), some (.inl x2), some (.inl x3), none], [.inl 1, .inr (.inr 86)], (am_sh, am_mm U11))) 2 (fun _ => rfl) ?_
            obtain ⟨U12, h112a11c, h112a11a⟩ := h112a11
            refine ev_cal (σc := (M_joins_s0 d 1 U11)) (fun _ => rfl) h112a11c ?_
            show Ev (am_kz N X) ((d + 1), 310, 538, [some (.inr (.inr 86)), some (.inl x1), some (.inl x2), some (.inl x3), none], [], (am_sh, am_mm U12)) R
            refine ev_seg (σ1 := ((d + 1), 310, 545, [some (.inr (.inr 86)), some (.inl x1), some (.inl x2), some (.inl x3), none], [.inl (w32 ((U12 86 46) - 1)), .inr (.inr 86)], (am_sh, am_mm U12))) 5 (fun _ => rfl) ?_
            refine eu_puti 86 (n := 90) rfl (by decide) rfl rfl ?_
            show Ev (am_kz N X) ((d + 1), 310, 548, [some (.inr (.inr 86)), some (.inl x1), some (.inl x2), some (.inl x3), none], [], (am_sh, am_mm (am_upd U12 86 46 (w32 ((U12 86 46) - 1))))) R
            refine ev_seg (σ1 := ((d + 1), 310, 555, [some (.inr (.inr 86)), some (.inl x1), some (.inl x2), some (.inl x3), none], [.inl (w32 ((U12 86 47) - 1)), .inr (.inr 86)], (am_sh, am_mm (am_upd U12 86 46 (w32 ((U12 86 46) - 1)))))) 5 (fun _ => rfl) ?_
            refine eu_puti 86 (n := 90) rfl (by decide) rfl rfl ?_
            show Ev (am_kz N X) ((d + 1), 310, 558, [some (.inr (.inr 86)), some (.inl x1), some (.inl x2), some (.inl x3), none], [], (am_sh, am_mm (am_upd (am_upd U12 86 46 (w32 ((U12 86 46) - 1))) 86 47 (w32 ((U12 86 47) - 1))))) R
            refine ev_br (P := ¬ x2 = 4) (σ1 := ((d + 1), 310, 574, [some (.inr (.inr 86)), some (.inl x1), some (.inl x2), some (.inl x3), none], [], (am_sh, am_mm (am_upd (am_upd U12 86 46 (w32 ((U12 86 46) - 1))) 86 47 (w32 ((U12 86 47) - 1)))))) (σ2 := ((d + 1), 310, 563, [some (.inr (.inr 86)), some (.inl x1), some (.inl x2), some (.inl x3), none], [], (am_sh, am_mm (am_upd (am_upd U12 86 46 (w32 ((U12 86 46) - 1))) 86 47 (w32 ((U12 86 47) - 1)))))) 3 (fun _ => rfl) (fun hc => ?_) (fun hc => ?_)
            · have h112a11a1 := h112a11a.1 hc
              refine ev_br (P := ¬ x2 = 5) (σ1 := ((d + 1), 310, 591, [some (.inr (.inr 86)), some (.inl x1), some (.inl x2), some (.inl x3), none], [], (am_sh, am_mm (am_upd (am_upd U12 86 46 (w32 ((U12 86 46) - 1))) 86 47 (w32 ((U12 86 47) - 1)))))) (σ2 := ((d + 1), 310, 579, [some (.inr (.inr 86)), some (.inl x1), some (.inl x2), some (.inl x3), none], [], (am_sh, am_mm (am_upd (am_upd U12 86 46 (w32 ((U12 86 46) - 1))) 86 47 (w32 ((U12 86 47) - 1)))))) 3 (fun _ => rfl) (fun hc => absurd h11q (fun h0 => by have h1 := hc; omega)) (fun hc => ?_)
              refine ev_seg (σ1 := ((d + 1), 310, 590, [some (.inr (.inr 86)), some (.inl x1), some (.inl x2), some (.inl x3), none], [.inl 2, .inl (w32 ((w32 ((U12 86 46) - 1)) - 1)), .inr (.inr 114)], (am_sh, am_mm (am_upd (am_upd U12 86 46 (w32 ((U12 86 46) - 1))) 86 47 (w32 ((U12 86 47) - 1)))))) 7 (fun _ => rfl) ?_
              refine eu_iast 114 (n := 20) rfl (by decide) rfl (fun _ => rfl) h112a11a1.1 ?_
              show Ev (am_kz N X) ((d + 1), 310, 591, [some (.inr (.inr 86)), some (.inl x1), some (.inl x2), some (.inl x3), none], [], (am_sh, am_mm (am_upd (am_upd (am_upd U12 86 46 (w32 ((U12 86 46) - 1))) 86 47 (w32 ((U12 86 47) - 1))) 114 ((w32 ((w32 ((U12 86 46) - 1)) - 1)).toNat) 2))) R
              have h112a11a1a := h112a11a1.2
              refine ev_seg (σ1 := ((d + 1), 310, 592, [some (.inr (.inr 86)), some (.inl x1), some (.inl x2), some (.inl x3), none], [.inr (.inr 86)], (am_sh, am_mm (am_upd (am_upd (am_upd U12 86 46 (w32 ((U12 86 46) - 1))) 86 47 (w32 ((U12 86 47) - 1))) 114 ((w32 ((w32 ((U12 86 46) - 1)) - 1)).toNat) 2)))) 1 (fun _ => rfl) ?_
              obtain ⟨U13, h112a11a1ac, h112a11a1aa⟩ := h112a11a1a
              refine ev_cal (σc := (M_ahead_s0 d (am_upd (am_upd (am_upd U12 86 46 (w32 ((U12 86 46) - 1))) 86 47 (w32 ((U12 86 47) - 1))) 114 ((w32 ((w32 ((U12 86 46) - 1)) - 1)).toNat) 2))) (fun _ => rfl) h112a11a1ac ?_
              show Ev (am_kz N X) ((d + 1), 310, 595, [some (.inr (.inr 86)), some (.inl x1), some (.inl x2), some (.inl x3), none], [], (am_sh, am_mm U13)) R
              subst h112a11a1aa
              exact ev_end 2 (fun _ => rfl)
            · have h112a11a2 := h112a11a.2 (Decidable.not_not.mp hc)
              refine ev_seg (σ1 := ((d + 1), 310, 569, [some (.inr (.inr 86)), some (.inl x1), some (.inl x2), some (.inl x3), none], [.inl x1, .inr (.inr 116), .inr (.inr 86)], (am_sh, am_mm (am_upd (am_upd U12 86 46 (w32 ((U12 86 46) - 1))) 86 47 (w32 ((U12 86 47) - 1)))))) 4 (fun _ => rfl) ?_
              refine eu_iald 116 (n := 20) rfl (by decide) rfl (fun _ => rfl) h112a11a2.1 ?_
              show Ev (am_kz N X) ((d + 1), 310, 570, [some (.inr (.inr 86)), some (.inl x1), some (.inl x2), some (.inl x3), none], [.inl (U12 116 x1.toNat), .inr (.inr 86)], (am_sh, am_mm (am_upd (am_upd U12 86 46 (w32 ((U12 86 46) - 1))) 86 47 (w32 ((U12 86 47) - 1))))) R
              have h112a11a2a := h112a11a2.2
              refine ev_seg (σ1 := ((d + 1), 310, 571, [some (.inr (.inr 86)), some (.inl x1), some (.inl x2), some (.inl x3), none], [.inl 0, .inl (U12 116 x1.toNat), .inr (.inr 86)], (am_sh, am_mm (am_upd (am_upd U12 86 46 (w32 ((U12 86 46) - 1))) 86 47 (w32 ((U12 86 47) - 1)))))) 1 (fun _ => rfl) ?_
              obtain ⟨U14, h112a11a2ac, h112a11a2aa⟩ := h112a11a2a
              refine ev_cal (σc := (M_add_s0 d (U12 116 x1.toNat) 0 (am_upd (am_upd U12 86 46 (w32 ((U12 86 46) - 1))) 86 47 (w32 ((U12 86 47) - 1))))) (fun _ => rfl) h112a11a2ac ?_
              show Ev (am_kz N X) ((d + 1), 310, 574, [some (.inr (.inr 86)), some (.inl x1), some (.inl x2), some (.inl x3), none], [], (am_sh, am_mm U14)) R
              refine ev_br (P := ¬ x2 = 5) (σ1 := ((d + 1), 310, 591, [some (.inr (.inr 86)), some (.inl x1), some (.inl x2), some (.inl x3), none], [], (am_sh, am_mm U14))) (σ2 := ((d + 1), 310, 579, [some (.inr (.inr 86)), some (.inl x1), some (.inl x2), some (.inl x3), none], [], (am_sh, am_mm U14))) 3 (fun _ => rfl) (fun hc => absurd h11q (fun h0 => by have h1 := hc; omega)) (fun hc => ?_)
              refine ev_seg (σ1 := ((d + 1), 310, 590, [some (.inr (.inr 86)), some (.inl x1), some (.inl x2), some (.inl x3), none], [.inl 2, .inl (w32 ((U14 86 46) - 1)), .inr (.inr 114)], (am_sh, am_mm U14))) 7 (fun _ => rfl) ?_
              refine eu_iast 114 (n := 20) rfl (by decide) rfl (fun _ => rfl) h112a11a2aa.1 ?_
              show Ev (am_kz N X) ((d + 1), 310, 591, [some (.inr (.inr 86)), some (.inl x1), some (.inl x2), some (.inl x3), none], [], (am_sh, am_mm (am_upd U14 114 ((w32 ((U14 86 46) - 1)).toNat) 2))) R
              have h112a11a2aaa := h112a11a2aa.2
              refine ev_seg (σ1 := ((d + 1), 310, 592, [some (.inr (.inr 86)), some (.inl x1), some (.inl x2), some (.inl x3), none], [.inr (.inr 86)], (am_sh, am_mm (am_upd U14 114 ((w32 ((U14 86 46) - 1)).toNat) 2)))) 1 (fun _ => rfl) ?_
              obtain ⟨U15, h112a11a2aaac, h112a11a2aaaa⟩ := h112a11a2aaa
              refine ev_cal (σc := (M_ahead_s0 d (am_upd U14 114 ((w32 ((U14 86 46) - 1)).toNat) 2))) (fun _ => rfl) h112a11a2aaac ?_
              show Ev (am_kz N X) ((d + 1), 310, 595, [some (.inr (.inr 86)), some (.inl x1), some (.inl x2), some (.inl x3), none], [], (am_sh, am_mm U15)) R
              subst h112a11a2aaaa
              exact ev_end 2 (fun _ => rfl)
          · have h112a12 := h112a1.2 (Int.not_le.mp hc)
            subst h112a12
            exact ev_end 2 (fun _ => rfl)
        · have h112a2 := h112a.2 (Decidable.not_not.mp hc)
          refine ev_seg (σ1 := ((d + 1), 310, 521, [some (.inr (.inr 86)), some (.inl x1), some (.inl x2), some (.inl x3), none], [.inl (U11 86 4), .inl 1, .inr (.inr 86)], (am_sh, am_mm U11))) 4 (fun _ => rfl) ?_
          obtain ⟨U16, h112a2c, h112a2a⟩ := h112a2
          refine ev_cal (σc := (M_blame_s0 d 1 (U11 86 4) U11)) (fun _ => rfl) h112a2c ?_
          show Ev (am_kz N X) ((d + 1), 310, 524, [some (.inr (.inr 86)), some (.inl x1), some (.inl x2), some (.inl x3), none], [], (am_sh, am_mm U16)) R
          refine ev_br (P := (U16 86 8) ≤ 0) (σ1 := ((d + 1), 310, 533, [some (.inr (.inr 86)), some (.inl x1), some (.inl x2), some (.inl x3), none], [], (am_sh, am_mm U16))) (σ2 := ((d + 1), 310, 531, [some (.inr (.inr 86)), some (.inl x1), some (.inl x2), some (.inl x3), none], [], (am_sh, am_mm U16))) 3 (fun _ => rfl) (fun hc => ?_) (fun hc => ?_)
          · have h112a2a1 := h112a2a.1 hc
            refine ev_seg (σ1 := ((d + 1), 310, 535, [some (.inr (.inr 86)), some (.inl x1), some (.inl x2), some (.inl x3), none], [.inl 1, .inr (.inr 86)], (am_sh, am_mm U16))) 2 (fun _ => rfl) ?_
            obtain ⟨U17, h112a2a1c, h112a2a1a⟩ := h112a2a1
            refine ev_cal (σc := (M_joins_s0 d 1 U16)) (fun _ => rfl) h112a2a1c ?_
            show Ev (am_kz N X) ((d + 1), 310, 538, [some (.inr (.inr 86)), some (.inl x1), some (.inl x2), some (.inl x3), none], [], (am_sh, am_mm U17)) R
            refine ev_seg (σ1 := ((d + 1), 310, 545, [some (.inr (.inr 86)), some (.inl x1), some (.inl x2), some (.inl x3), none], [.inl (w32 ((U17 86 46) - 1)), .inr (.inr 86)], (am_sh, am_mm U17))) 5 (fun _ => rfl) ?_
            refine eu_puti 86 (n := 90) rfl (by decide) rfl rfl ?_
            show Ev (am_kz N X) ((d + 1), 310, 548, [some (.inr (.inr 86)), some (.inl x1), some (.inl x2), some (.inl x3), none], [], (am_sh, am_mm (am_upd U17 86 46 (w32 ((U17 86 46) - 1))))) R
            refine ev_seg (σ1 := ((d + 1), 310, 555, [some (.inr (.inr 86)), some (.inl x1), some (.inl x2), some (.inl x3), none], [.inl (w32 ((U17 86 47) - 1)), .inr (.inr 86)], (am_sh, am_mm (am_upd U17 86 46 (w32 ((U17 86 46) - 1)))))) 5 (fun _ => rfl) ?_
            refine eu_puti 86 (n := 90) rfl (by decide) rfl rfl ?_
            show Ev (am_kz N X) ((d + 1), 310, 558, [some (.inr (.inr 86)), some (.inl x1), some (.inl x2), some (.inl x3), none], [], (am_sh, am_mm (am_upd (am_upd U17 86 46 (w32 ((U17 86 46) - 1))) 86 47 (w32 ((U17 86 47) - 1))))) R
            refine ev_br (P := ¬ x2 = 4) (σ1 := ((d + 1), 310, 574, [some (.inr (.inr 86)), some (.inl x1), some (.inl x2), some (.inl x3), none], [], (am_sh, am_mm (am_upd (am_upd U17 86 46 (w32 ((U17 86 46) - 1))) 86 47 (w32 ((U17 86 47) - 1)))))) (σ2 := ((d + 1), 310, 563, [some (.inr (.inr 86)), some (.inl x1), some (.inl x2), some (.inl x3), none], [], (am_sh, am_mm (am_upd (am_upd U17 86 46 (w32 ((U17 86 46) - 1))) 86 47 (w32 ((U17 86 47) - 1)))))) 3 (fun _ => rfl) (fun hc => ?_) (fun hc => ?_)
            · have h112a2a1a1 := h112a2a1a.1 hc
              refine ev_br (P := ¬ x2 = 5) (σ1 := ((d + 1), 310, 591, [some (.inr (.inr 86)), some (.inl x1), some (.inl x2), some (.inl x3), none], [], (am_sh, am_mm (am_upd (am_upd U17 86 46 (w32 ((U17 86 46) - 1))) 86 47 (w32 ((U17 86 47) - 1)))))) (σ2 := ((d + 1), 310, 579, [some (.inr (.inr 86)), some (.inl x1), some (.inl x2), some (.inl x3), none], [], (am_sh, am_mm (am_upd (am_upd U17 86 46 (w32 ((U17 86 46) - 1))) 86 47 (w32 ((U17 86 47) - 1)))))) 3 (fun _ => rfl) (fun hc => absurd h11q (fun h0 => by have h1 := hc; omega)) (fun hc => ?_)
              refine ev_seg (σ1 := ((d + 1), 310, 590, [some (.inr (.inr 86)), some (.inl x1), some (.inl x2), some (.inl x3), none], [.inl 2, .inl (w32 ((w32 ((U17 86 46) - 1)) - 1)), .inr (.inr 114)], (am_sh, am_mm (am_upd (am_upd U17 86 46 (w32 ((U17 86 46) - 1))) 86 47 (w32 ((U17 86 47) - 1)))))) 7 (fun _ => rfl) ?_
              refine eu_iast 114 (n := 20) rfl (by decide) rfl (fun _ => rfl) h112a2a1a1.1 ?_
              show Ev (am_kz N X) ((d + 1), 310, 591, [some (.inr (.inr 86)), some (.inl x1), some (.inl x2), some (.inl x3), none], [], (am_sh, am_mm (am_upd (am_upd (am_upd U17 86 46 (w32 ((U17 86 46) - 1))) 86 47 (w32 ((U17 86 47) - 1))) 114 ((w32 ((w32 ((U17 86 46) - 1)) - 1)).toNat) 2))) R
              have h112a2a1a1a := h112a2a1a1.2
              refine ev_seg (σ1 := ((d + 1), 310, 592, [some (.inr (.inr 86)), some (.inl x1), some (.inl x2), some (.inl x3), none], [.inr (.inr 86)], (am_sh, am_mm (am_upd (am_upd (am_upd U17 86 46 (w32 ((U17 86 46) - 1))) 86 47 (w32 ((U17 86 47) - 1))) 114 ((w32 ((w32 ((U17 86 46) - 1)) - 1)).toNat) 2)))) 1 (fun _ => rfl) ?_
              obtain ⟨U18, h112a2a1a1ac, h112a2a1a1aa⟩ := h112a2a1a1a
              refine ev_cal (σc := (M_ahead_s0 d (am_upd (am_upd (am_upd U17 86 46 (w32 ((U17 86 46) - 1))) 86 47 (w32 ((U17 86 47) - 1))) 114 ((w32 ((w32 ((U17 86 46) - 1)) - 1)).toNat) 2))) (fun _ => rfl) h112a2a1a1ac ?_
              show Ev (am_kz N X) ((d + 1), 310, 595, [some (.inr (.inr 86)), some (.inl x1), some (.inl x2), some (.inl x3), none], [], (am_sh, am_mm U18)) R
              subst h112a2a1a1aa
              exact ev_end 2 (fun _ => rfl)
            · have h112a2a1a2 := h112a2a1a.2 (Decidable.not_not.mp hc)
              refine ev_seg (σ1 := ((d + 1), 310, 569, [some (.inr (.inr 86)), some (.inl x1), some (.inl x2), some (.inl x3), none], [.inl x1, .inr (.inr 116), .inr (.inr 86)], (am_sh, am_mm (am_upd (am_upd U17 86 46 (w32 ((U17 86 46) - 1))) 86 47 (w32 ((U17 86 47) - 1)))))) 4 (fun _ => rfl) ?_
              refine eu_iald 116 (n := 20) rfl (by decide) rfl (fun _ => rfl) h112a2a1a2.1 ?_
              show Ev (am_kz N X) ((d + 1), 310, 570, [some (.inr (.inr 86)), some (.inl x1), some (.inl x2), some (.inl x3), none], [.inl (U17 116 x1.toNat), .inr (.inr 86)], (am_sh, am_mm (am_upd (am_upd U17 86 46 (w32 ((U17 86 46) - 1))) 86 47 (w32 ((U17 86 47) - 1))))) R
              have h112a2a1a2a := h112a2a1a2.2
              refine ev_seg (σ1 := ((d + 1), 310, 571, [some (.inr (.inr 86)), some (.inl x1), some (.inl x2), some (.inl x3), none], [.inl 0, .inl (U17 116 x1.toNat), .inr (.inr 86)], (am_sh, am_mm (am_upd (am_upd U17 86 46 (w32 ((U17 86 46) - 1))) 86 47 (w32 ((U17 86 47) - 1)))))) 1 (fun _ => rfl) ?_
              obtain ⟨U19, h112a2a1a2ac, h112a2a1a2aa⟩ := h112a2a1a2a
              refine ev_cal (σc := (M_add_s0 d (U17 116 x1.toNat) 0 (am_upd (am_upd U17 86 46 (w32 ((U17 86 46) - 1))) 86 47 (w32 ((U17 86 47) - 1))))) (fun _ => rfl) h112a2a1a2ac ?_
              show Ev (am_kz N X) ((d + 1), 310, 574, [some (.inr (.inr 86)), some (.inl x1), some (.inl x2), some (.inl x3), none], [], (am_sh, am_mm U19)) R
              refine ev_br (P := ¬ x2 = 5) (σ1 := ((d + 1), 310, 591, [some (.inr (.inr 86)), some (.inl x1), some (.inl x2), some (.inl x3), none], [], (am_sh, am_mm U19))) (σ2 := ((d + 1), 310, 579, [some (.inr (.inr 86)), some (.inl x1), some (.inl x2), some (.inl x3), none], [], (am_sh, am_mm U19))) 3 (fun _ => rfl) (fun hc => absurd h11q (fun h0 => by have h1 := hc; omega)) (fun hc => ?_)
              refine ev_seg (σ1 := ((d + 1), 310, 590, [some (.inr (.inr 86)), some (.inl x1), some (.inl x2), some (.inl x3), none], [.inl 2, .inl (w32 ((U19 86 46) - 1)), .inr (.inr 114)], (am_sh, am_mm U19))) 7 (fun _ => rfl) ?_
              refine eu_iast 114 (n := 20) rfl (by decide) rfl (fun _ => rfl) h112a2a1a2aa.1 ?_
              show Ev (am_kz N X) ((d + 1), 310, 591, [some (.inr (.inr 86)), some (.inl x1), some (.inl x2), some (.inl x3), none], [], (am_sh, am_mm (am_upd U19 114 ((w32 ((U19 86 46) - 1)).toNat) 2))) R
              have h112a2a1a2aaa := h112a2a1a2aa.2
              refine ev_seg (σ1 := ((d + 1), 310, 592, [some (.inr (.inr 86)), some (.inl x1), some (.inl x2), some (.inl x3), none], [.inr (.inr 86)], (am_sh, am_mm (am_upd U19 114 ((w32 ((U19 86 46) - 1)).toNat) 2)))) 1 (fun _ => rfl) ?_
              obtain ⟨U20, h112a2a1a2aaac, h112a2a1a2aaaa⟩ := h112a2a1a2aaa
              refine ev_cal (σc := (M_ahead_s0 d (am_upd U19 114 ((w32 ((U19 86 46) - 1)).toNat) 2))) (fun _ => rfl) h112a2a1a2aaac ?_
              show Ev (am_kz N X) ((d + 1), 310, 595, [some (.inr (.inr 86)), some (.inl x1), some (.inl x2), some (.inl x3), none], [], (am_sh, am_mm U20)) R
              subst h112a2a1a2aaaa
              exact ev_end 2 (fun _ => rfl)
          · have h112a2a2 := h112a2a.2 (Int.not_le.mp hc)
            subst h112a2a2
            exact ev_end 2 (fun _ => rfl)
    · have h12 := h1.2 (Decidable.not_not.mp hc)
      refine ev_seg (σ1 := ((d + 1), 310, 449, [some (.inr (.inr 86)), some (.inl x1), some (.inl x2), some (.inl x3), none], [.inl 44, .inr (.inr 86)], (am_sh, am_mm U))) 2 (fun _ => rfl) ?_
      obtain ⟨r21, U21, h12c, h12a⟩ := h12
      refine ev_cal (σc := (M_isSign_s0 d 44 U)) (fun _ => rfl) h12c ?_
      show Ev (am_kz N X) ((d + 1), 310, 452, [some (.inr (.inr 86)), some (.inl x1), some (.inl x2), some (.inl x3), none], [.inl r21], (am_sh, am_mm U21)) R
      refine ev_br (P := ¬ r21 = 0) (σ1 := ((d + 1), 310, 464, [some (.inr (.inr 86)), some (.inl x1), some (.inl x2), some (.inl x3), none], [], (am_sh, am_mm U21))) (σ2 := ((d + 1), 310, 455, [some (.inr (.inr 86)), some (.inl x1), some (.inl x2), some (.inl x3), none], [], (am_sh, am_mm U21))) 1 (fun _ => rfl) (fun hc => ?_) (fun hc => ?_)
      · have h12a1 := h12a.1 hc
        exact h12a1
      · have h12a2 := h12a.2 (Decidable.not_not.mp hc)
        refine ev_seg (σ1 := ((d + 1), 310, 461, [some (.inr (.inr 86)), some (.inl x1), some (.inl x2), some (.inl x3), none], [.inl (U21 86 4), .inl 1, .inr (.inr 86)], (am_sh, am_mm U21))) 4 (fun _ => rfl) ?_
        obtain ⟨U22, h12a2c, h12a2a⟩ := h12a2
        refine ev_cal (σc := (M_blame_s0 d 1 (U21 86 4) U21)) (fun _ => rfl) h12a2c ?_
        show Ev (am_kz N X) ((d + 1), 310, 464, [some (.inr (.inr 86)), some (.inl x1), some (.inl x2), some (.inl x3), none], [], (am_sh, am_mm U22)) R
        exact h12a2a
  · have h2 := h.2 (Int.not_le.mp hc)
    refine ev_br (P := ¬ (U 86 8) = 0) (σ1 := ((d + 1), 310, 439, [some (.inr (.inr 86)), some (.inl x1), some (.inl x2), some (.inl x3), none], [], (am_sh, am_mm U))) (σ2 := ((d + 1), 310, 434, [some (.inr (.inr 86)), some (.inl x1), some (.inl x2), some (.inl x3), none], [], (am_sh, am_mm U))) 3 (fun _ => rfl) (fun hc => ?_) (fun hc => ?_)
    · have h21 := h2.1 hc
      exact h21
    · have h22 := h2.2 (Decidable.not_not.mp hc)
      refine ev_seg (σ1 := ((d + 1), 310, 436, [some (.inr (.inr 86)), some (.inl x1), some (.inl x2), some (.inl x3), none], [.inl 1, .inr (.inr 86)], (am_sh, am_mm U))) 2 (fun _ => rfl) ?_
      obtain ⟨U23, h22c, h22a⟩ := h22
      refine ev_cal (σc := (M_joins_s0 d 1 U)) (fun _ => rfl) h22c ?_
      show Ev (am_kz N X) ((d + 1), 310, 439, [some (.inr (.inr 86)), some (.inl x1), some (.inl x2), some (.inl x3), none], [], (am_sh, am_mm U23)) R
      exact h22a
set_option maxRecDepth 8000 in
theorem M_goesOn_r327 {N : Nat} {X : Nat → Int} {d : Nat} {x1 x2 x3 : Int} {U : am_U} {R : Option am_V × am_M} (h : (((U 86 8) ≤ 0) → ∃ (r1 : Int) (U1 : am_U), EvK N X (M_isWord_s0 d 6385252 U) (rI r1 U1) ∧ ((r1 = 0) → EvK N X (M_goesOn_s356 (d + 1) x1 x2 x3 r1 1 U1) R) ∧ ((r1 ≠ 0) → EvK N X (M_goesOn_s356 (d + 1) x1 x2 x3 r1 2 U1) R)) ∧ ((0 < (U 86 8)) → R = rI 0 U)) : EvK N X (M_goesOn_s327 (d + 1) x1 x2 x3 U) R := by
  show Ev (am_kz N X) ((d + 1), 310, 327, [some (.inr (.inr 86)), some (.inl x1), some (.inl x2), some (.inl x3), none], [], (am_sh, am_mm U)) R
  refine ev_br (P := (U 86 8) ≤ 0) (σ1 := ((d + 1), 310, 336, [some (.inr (.inr 86)), some (.inl x1), some (.inl x2), some (.inl x3), none], [], (am_sh, am_mm U))) (σ2 := ((d + 1), 310, 334, [some (.inr (.inr 86)), some (.inl x1), some (.inl x2), some (.inl x3), none], [], (am_sh, am_mm U))) 3 (fun _ => rfl) (fun hc => ?_) (fun hc => ?_)
  · have h1 := h.1 hc
    refine ev_seg (σ1 := ((d + 1), 310, 340, [some (.inr (.inr 86)), some (.inl x1), some (.inl x2), some (.inl x3), none], [.inr (.inl 6385252), .inr (.inr 86)], (am_sh, am_mm U))) 2 (fun _ => rfl) ?_
    obtain ⟨r1, U1, h1c, h1a⟩ := h1
    refine ev_cal (σc := (M_isWord_s0 d 6385252 U)) (fun _ => rfl) h1c ?_
    show Ev (am_kz N X) ((d + 1), 310, 343, [some (.inr (.inr 86)), some (.inl x1), some (.inl x2), some (.inl x3), none], [.inl r1], (am_sh, am_mm U1)) R
    refine ev_br (P := r1 = 0) (σ1 := ((d + 1), 310, 355, [some (.inr (.inr 86)), some (.inl x1), some (.inl x2), some (.inl x3), some (.inl r1)], [.inr (.inr 86)], (am_sh, am_mm U1))) (σ2 := ((d + 1), 310, 351, [some (.inr (.inr 86)), some (.inl x1), some (.inl x2), some (.inl x3), some (.inl r1)], [.inr (.inr 86)], (am_sh, am_mm U1))) 4 (fun _ => rfl) (fun hc => ?_) (fun hc => ?_)
    · have h1a1 := h1a.1 hc
      refine ev_seg (σ1 := ((d + 1), 310, 356, [some (.inr (.inr 86)), some (.inl x1), some (.inl x2), some (.inl x3), some (.inl r1)], [.inl 1, .inr (.inr 86)], (am_sh, am_mm U1))) 1 (fun _ => rfl) ?_
      exact h1a1
    · have h1a2 := h1a.2 hc
      refine ev_seg (σ1 := ((d + 1), 310, 356, [some (.inr (.inr 86)), some (.inl x1), some (.inl x2), some (.inl x3), some (.inl r1)], [.inl 2, .inr (.inr 86)], (am_sh, am_mm U1))) 2 (fun _ => rfl) ?_
      exact h1a2
  · have h2 := h.2 (Int.not_le.mp hc)
    subst h2
    exact ev_end 2 (fun _ => rfl)
set_option maxRecDepth 8000 in
theorem M_goesOn_r464 {N : Nat} {X : Nat → Int} {d : Nat} {x1 x2 x3 : Int} {U : am_U} {R : Option am_V × am_M} (h : (((U 86 8) ≤ 0) → ∃ U1 : am_U, EvK N X (M_joins_s0 d 1 U) (rV U1) ∧ (0 ≤ x1 ∧ x1 < 20) ∧ ∃ U2 : am_U, EvK N X (M_ahead_s0 d (am_upd U1 113 x1.toNat 4)) (rV U2) ∧ R = rI 1 (am_upd U2 86 50 0)) ∧ ((0 < (U 86 8)) → R = rI 0 U)) : EvK N X (M_goesOn_s464 (d + 1) x1 x2 x3 U) R := by
  show Ev (am_kz N X) ((d + 1), 310, 464, [some (.inr (.inr 86)), some (.inl x1), some (.inl x2), some (.inl x3), none], [], (am_sh, am_mm U)) R
  refine ev_br (P := (U 86 8) ≤ 0) (σ1 := ((d + 1), 310, 473, [some (.inr (.inr 86)), some (.inl x1), some (.inl x2), some (.inl x3), none], [], (am_sh, am_mm U))) (σ2 := ((d + 1), 310, 471, [some (.inr (.inr 86)), some (.inl x1), some (.inl x2), some (.inl x3), none], [], (am_sh, am_mm U))) 3 (fun _ => rfl) (fun hc => ?_) (fun hc => ?_)
  · have h1 := h.1 hc
    refine ev_seg (σ1 := ((d + 1), 310, 475, [some (.inr (.inr 86)), some (.inl x1), some (.inl x2), some (.inl x3), none], [.inl 1, .inr (.inr 86)], (am_sh, am_mm U))) 2 (fun _ => rfl) ?_
    obtain ⟨U1, h1c, h1a⟩ := h1
    refine ev_cal (σc := (M_joins_s0 d 1 U)) (fun _ => rfl) h1c ?_
    show Ev (am_kz N X) ((d + 1), 310, 478, [some (.inr (.inr 86)), some (.inl x1), some (.inl x2), some (.inl x3), none], [], (am_sh, am_mm U1)) R
    refine ev_seg (σ1 := ((d + 1), 310, 484, [some (.inr (.inr 86)), some (.inl x1), some (.inl x2), some (.inl x3), none], [.inl 4, .inl x1, .inr (.inr 113)], (am_sh, am_mm U1))) 4 (fun _ => rfl) ?_
    refine eu_iast 113 (n := 20) rfl (by decide) rfl (fun _ => rfl) h1a.1 ?_
    show Ev (am_kz N X) ((d + 1), 310, 485, [some (.inr (.inr 86)), some (.inl x1), some (.inl x2), some (.inl x3), none], [], (am_sh, am_mm (am_upd U1 113 x1.toNat 4))) R
    have h1aa := h1a.2
    refine ev_seg (σ1 := ((d + 1), 310, 486, [some (.inr (.inr 86)), some (.inl x1), some (.inl x2), some (.inl x3), none], [.inr (.inr 86)], (am_sh, am_mm (am_upd U1 113 x1.toNat 4)))) 1 (fun _ => rfl) ?_
    obtain ⟨U2, h1aac, h1aaa⟩ := h1aa
    refine ev_cal (σc := (M_ahead_s0 d (am_upd U1 113 x1.toNat 4))) (fun _ => rfl) h1aac ?_
    show Ev (am_kz N X) ((d + 1), 310, 489, [some (.inr (.inr 86)), some (.inl x1), some (.inl x2), some (.inl x3), none], [], (am_sh, am_mm U2)) R
    refine ev_seg (σ1 := ((d + 1), 310, 491, [some (.inr (.inr 86)), some (.inl x1), some (.inl x2), some (.inl x3), none], [.inl 0, .inr (.inr 86)], (am_sh, am_mm U2))) 2 (fun _ => rfl) ?_
    refine eu_putz 86 (n := 90) rfl (by decide) rfl rfl (by decide) ?_
    show Ev (am_kz N X) ((d + 1), 310, 494, [some (.inr (.inr 86)), some (.inl x1), some (.inl x2), some (.inl x3), none], [], (am_sh, am_mm (am_upd U2 86 50 0))) R
    subst h1aaa
    exact ev_end 2 (fun _ => rfl)
  · have h2 := h.2 (Int.not_le.mp hc)
    subst h2
    exact ev_end 2 (fun _ => rfl)
set_option maxRecDepth 8000 in
theorem M_goesOn_r439 {N : Nat} {X : Nat → Int} {d : Nat} {x1 x2 x3 : Int} {U : am_U} {R : Option am_V × am_M} (h : R = rI 0 U) : EvK N X (M_goesOn_s439 (d + 1) x1 x2 x3 U) R := by
  show Ev (am_kz N X) ((d + 1), 310, 439, [some (.inr (.inr 86)), some (.inl x1), some (.inl x2), some (.inl x3), none], [], (am_sh, am_mm U)) R
  subst h
  exact ev_end 2 (fun _ => rfl)
set_option maxRecDepth 8000 in
theorem M_goesOn_r356 {N : Nat} {X : Nat → Int} {d : Nat} {x1 x2 x3 x4 s1 : Int} {U : am_U} {R : Option am_V × am_M} (h : ∃ U1 : am_U, EvK N X (M_joins_s0 d s1 U) (rV U1) ∧ ((x4 = 0) → EvK N X (M_goesOn_s372 (d + 1) x1 x2 x3 x4 21 U1) R) ∧ ((x4 ≠ 0) → EvK N X (M_goesOn_s372 (d + 1) x1 x2 x3 x4 20 U1) R)) : EvK N X (M_goesOn_s356 (d + 1) x1 x2 x3 x4 s1 U) R := by
  show Ev (am_kz N X) ((d + 1), 310, 356, [some (.inr (.inr 86)), some (.inl x1), some (.inl x2), some (.inl x3), some (.inl x4)], [.inl s1, .inr (.inr 86)], (am_sh, am_mm U)) R
  obtain ⟨U1, hc, ha⟩ := h
  refine ev_cal (σc := (M_joins_s0 d s1 U)) (fun _ => rfl) hc ?_
  show Ev (am_kz N X) ((d + 1), 310, 359, [some (.inr (.inr 86)), some (.inl x1), some (.inl x2), some (.inl x3), some (.inl x4)], [], (am_sh, am_mm U1)) R
  refine ev_br (P := x4 = 0) (σ1 := ((d + 1), 310, 370, [some (.inr (.inr 86)), some (.inl x1), some (.inl x2), some (.inl x3), some (.inl x4)], [.inr (.inr 86)], (am_sh, am_mm U1))) (σ2 := ((d + 1), 310, 365, [some (.inr (.inr 86)), some (.inl x1), some (.inl x2), some (.inl x3), some (.inl x4)], [.inr (.inr 86)], (am_sh, am_mm U1))) 3 (fun _ => rfl) (fun hc => ?_) (fun hc => ?_)
  · have ha1 := ha.1 hc
    refine ev_seg (σ1 := ((d + 1), 310, 372, [some (.inr (.inr 86)), some (.inl x1), some (.inl x2), some (.inl x3), some (.inl x4)], [.inl 21, .inr (.inr 86)], (am_sh, am_mm U1))) 1 (fun _ => rfl) ?_
    exact ha1
  · have ha2 := ha.2 hc
    refine ev_seg (σ1 := ((d + 1), 310, 372, [some (.inr (.inr 86)), some (.inl x1), some (.inl x2), some (.inl x3), some (.inl x4)], [.inl 20, .inr (.inr 86)], (am_sh, am_mm U1))) 2 (fun _ => rfl) ?_
    exact ha2
set_option maxRecDepth 8000 in
theorem M_goesOn_r372 {N : Nat} {X : Nat → Int} {d : Nat} {x1 x2 x3 x4 s1 : Int} {U : am_U} {R : Option am_V × am_M} (h : ∃ U1 : am_U, EvK N X (M_holdsBack_s0 d s1 U) (rV U1) ∧ (0 ≤ x1 ∧ x1 < 20) ∧ ∃ U2 : am_U, EvK N X (M_ahead_s0 d (am_upd (am_upd U1 114 x1.toNat 0) 115 x1.toNat 1)) (rV U2) ∧ R = rI 1 (am_upd U2 86 50 0)) : EvK N X (M_goesOn_s372 (d + 1) x1 x2 x3 x4 s1 U) R := by
  show Ev (am_kz N X) ((d + 1), 310, 372, [some (.inr (.inr 86)), some (.inl x1), some (.inl x2), some (.inl x3), some (.inl x4)], [.inl s1, .inr (.inr 86)], (am_sh, am_mm U)) R
  obtain ⟨U1, hc, ha⟩ := h
  refine ev_cal (σc := (M_holdsBack_s0 d s1 U)) (fun _ => rfl) hc ?_
  show Ev (am_kz N X) ((d + 1), 310, 375, [some (.inr (.inr 86)), some (.inl x1), some (.inl x2), some (.inl x3), some (.inl x4)], [], (am_sh, am_mm U1)) R
  refine ev_seg (σ1 := ((d + 1), 310, 381, [some (.inr (.inr 86)), some (.inl x1), some (.inl x2), some (.inl x3), some (.inl x4)], [.inl 0, .inl x1, .inr (.inr 114)], (am_sh, am_mm U1))) 4 (fun _ => rfl) ?_
  refine eu_iast 114 (n := 20) rfl (by decide) rfl (fun _ => rfl) ha.1 ?_
  show Ev (am_kz N X) ((d + 1), 310, 382, [some (.inr (.inr 86)), some (.inl x1), some (.inl x2), some (.inl x3), some (.inl x4)], [], (am_sh, am_mm (am_upd U1 114 x1.toNat 0))) R
  have haa := ha.2
  refine ev_seg (σ1 := ((d + 1), 310, 388, [some (.inr (.inr 86)), some (.inl x1), some (.inl x2), some (.inl x3), some (.inl x4)], [.inl 1, .inl x1, .inr (.inr 115)], (am_sh, am_mm (am_upd U1 114 x1.toNat 0)))) 4 (fun _ => rfl) ?_
  refine eu_zast 115 (by decide) (n := 20) rfl (by decide) rfl (fun _ => rfl) ha.1 ?_
  show Ev (am_kz N X) ((d + 1), 310, 389, [some (.inr (.inr 86)), some (.inl x1), some (.inl x2), some (.inl x3), some (.inl x4)], [], (am_sh, am_mm (am_upd (am_upd U1 114 x1.toNat 0) 115 x1.toNat 1))) R
  refine ev_seg (σ1 := ((d + 1), 310, 390, [some (.inr (.inr 86)), some (.inl x1), some (.inl x2), some (.inl x3), some (.inl x4)], [.inr (.inr 86)], (am_sh, am_mm (am_upd (am_upd U1 114 x1.toNat 0) 115 x1.toNat 1)))) 1 (fun _ => rfl) ?_
  obtain ⟨U2, haac, haaa⟩ := haa
  refine ev_cal (σc := (M_ahead_s0 d (am_upd (am_upd U1 114 x1.toNat 0) 115 x1.toNat 1))) (fun _ => rfl) haac ?_
  show Ev (am_kz N X) ((d + 1), 310, 393, [some (.inr (.inr 86)), some (.inl x1), some (.inl x2), some (.inl x3), some (.inl x4)], [], (am_sh, am_mm U2)) R
  refine ev_seg (σ1 := ((d + 1), 310, 395, [some (.inr (.inr 86)), some (.inl x1), some (.inl x2), some (.inl x3), some (.inl x4)], [.inl 0, .inr (.inr 86)], (am_sh, am_mm U2))) 2 (fun _ => rfl) ?_
  refine eu_putz 86 (n := 90) rfl (by decide) rfl rfl (by decide) ?_
  show Ev (am_kz N X) ((d + 1), 310, 398, [some (.inr (.inr 86)), some (.inl x1), some (.inl x2), some (.inl x3), some (.inl x4)], [], (am_sh, am_mm (am_upd U2 86 50 0))) R
  subst haaa
  exact ev_end 2 (fun _ => rfl)
set_option maxRecDepth 8000 in
theorem M_operand_r0 {N : Nat} {X : Nat → Int} {d : Nat} {U : am_U} {R : Option am_V × am_M} (h : ∃ U1 : am_U, EvK N X (M_lex_s0 d U) (rV U1) ∧ (((U1 86 8) ≤ 0) → (0 ≤ (w32 ((U1 86 46) - 1)) ∧ (w32 ((U1 86 46) - 1)) < 20) ∧ ∃ (r2 : Int) (U2 : am_U), EvK N X (M_isTest_s0 d (U1 113 ((w32 ((U1 86 46) - 1)).toNat)) U1) (rI r2 U2) ∧ ((r2 = 0) → EvK N X (M_operand_s45 (d + 1) (w32 ((U1 86 46) - 1)) U2) R) ∧ ((r2 ≠ 0) → (((U2 115 ((w32 ((U1 86 46) - 1)).toNat)) = 0) → EvK N X (M_operand_s45 (d + 1) (w32 ((U1 86 46) - 1)) U2) R) ∧ (((U2 115 ((w32 ((U1 86 46) - 1)).toNat)) ≠ 0) → EvK N X (M_operand_s46 (d + 1) (w32 ((U1 86 46) - 1)) 1 U2) R))) ∧ ((0 < (U1 86 8)) → R = rI 1 U1)) : EvK N X (M_operand_s0 (d + 1) U) R := by
  show Ev (am_kz N X) ((d + 1), 309, 0, [some (.inr (.inr 86)), none, none, none], [], (am_sh, am_mm U)) R
  refine ev_seg (σ1 := ((d + 1), 309, 1, [some (.inr (.inr 86)), none, none, none], [.inr (.inr 86)], (am_sh, am_mm U))) 1 (fun _ => rfl) ?_
  obtain ⟨U1, hc, ha⟩ := h
  refine ev_cal (σc := (M_lex_s0 d U)) (fun _ => rfl) hc ?_
  show Ev (am_kz N X) ((d + 1), 309, 4, [some (.inr (.inr 86)), none, none, none], [], (am_sh, am_mm U1)) R
  refine ev_br (P := (U1 86 8) ≤ 0) (σ1 := ((d + 1), 309, 13, [some (.inr (.inr 86)), none, none, none], [], (am_sh, am_mm U1))) (σ2 := ((d + 1), 309, 11, [some (.inr (.inr 86)), none, none, none], [], (am_sh, am_mm U1))) 3 (fun _ => rfl) (fun hc => ?_) (fun hc => ?_)
  · have ha1 := ha.1 hc
    refine ev_seg (σ1 := ((d + 1), 309, 25, [some (.inr (.inr 86)), some (.inl (w32 ((U1 86 46) - 1))), none, none], [.inl (w32 ((U1 86 46) - 1)), .inr (.inr 113)], (am_sh, am_mm U1))) 8 (fun _ => rfl) ?_
    refine eu_iald 113 (n := 20) rfl (by decide) rfl (fun _ => rfl) ha1.1 ?_
    show Ev (am_kz N X) ((d + 1), 309, 26, [some (.inr (.inr 86)), some (.inl (w32 ((U1 86 46) - 1))), none, none], [.inl (U1 113 ((w32 ((U1 86 46) - 1)).toNat))], (am_sh, am_mm U1)) R
    have ha1a := ha1.2
    obtain ⟨r2, U2, ha1ac, ha1aa⟩ := ha1a
    refine ev_cal (σc := (M_isTest_s0 d (U1 113 ((w32 ((U1 86 46) - 1)).toNat)) U1)) (fun _ => rfl) ha1ac ?_
    show Ev (am_kz N X) ((d + 1), 309, 29, [some (.inr (.inr 86)), some (.inl (w32 ((U1 86 46) - 1))), none, none], [.inl r2], (am_sh, am_mm U2)) R
    refine ev_br (P := r2 = 0) (σ1 := ((d + 1), 309, 45, [some (.inr (.inr 86)), some (.inl (w32 ((U1 86 46) - 1))), none, none], [], (am_sh, am_mm U2))) (σ2 := ((d + 1), 309, 32, [some (.inr (.inr 86)), some (.inl (w32 ((U1 86 46) - 1))), none, none], [], (am_sh, am_mm U2))) 1 (fun _ => rfl) (fun hc => ?_) (fun hc => ?_)
    · have ha1aa1 := ha1aa.1 hc
      exact ha1aa1
    · have ha1aa2 := ha1aa.2 hc
      refine ev_seg (σ1 := ((d + 1), 309, 37, [some (.inr (.inr 86)), some (.inl (w32 ((U1 86 46) - 1))), none, none], [.inl (w32 ((U1 86 46) - 1)), .inr (.inr 115)], (am_sh, am_mm U2))) 3 (fun _ => rfl) ?_
      refine eu_zald 115 (n := 20) rfl (by decide) rfl (fun _ => rfl) ha1.1 ?_
      show Ev (am_kz N X) ((d + 1), 309, 38, [some (.inr (.inr 86)), some (.inl (w32 ((U1 86 46) - 1))), none, none], [.inl (U2 115 ((w32 ((U1 86 46) - 1)).toNat))], (am_sh, am_mm U2)) R
      refine ev_br (P := (U2 115 ((w32 ((U1 86 46) - 1)).toNat)) = 0) (σ1 := ((d + 1), 309, 45, [some (.inr (.inr 86)), some (.inl (w32 ((U1 86 46) - 1))), none, none], [], (am_sh, am_mm U2))) (σ2 := ((d + 1), 309, 41, [some (.inr (.inr 86)), some (.inl (w32 ((U1 86 46) - 1))), none, none], [], (am_sh, am_mm U2))) 1 (fun _ => rfl) (fun hc => ?_) (fun hc => ?_)
      · have ha1aa21 := ha1aa2.1 hc
        exact ha1aa21
      · have ha1aa22 := ha1aa2.2 hc
        refine ev_seg (σ1 := ((d + 1), 309, 46, [some (.inr (.inr 86)), some (.inl (w32 ((U1 86 46) - 1))), none, none], [.inl 1], (am_sh, am_mm U2))) 2 (fun _ => rfl) ?_
        exact ha1aa22
  · have ha2 := ha.2 (Int.not_le.mp hc)
    subst ha2
    exact ev_end 2 (fun _ => rfl)
set_option maxRecDepth 8000 in
theorem M_operand_r45 {N : Nat} {X : Nat → Int} {d : Nat} {x1 : Int} {U : am_U} {R : Option am_V × am_M} (h : EvK N X (M_operand_s46 (d + 1) x1 0 U) R) : EvK N X (M_operand_s45 (d + 1) x1 U) R := by
  show Ev (am_kz N X) ((d + 1), 309, 45, [some (.inr (.inr 86)), some (.inl x1), none, none], [], (am_sh, am_mm U)) R
  refine ev_seg (σ1 := ((d + 1), 309, 46, [some (.inr (.inr 86)), some (.inl x1), none, none], [.inl 0], (am_sh, am_mm U))) 1 (fun _ => rfl) ?_
  exact h
set_option maxRecDepth 8000 in
theorem M_operand_r46 {N : Nat} {X : Nat → Int} {d : Nat} {x1 s0 : Int} {U : am_U} {R : Option am_V × am_M} (h : ((s0 = 0) → EvK N X (M_operand_s110 (d + 1) x1 s0 U) R) ∧ ((s0 ≠ 0) → ∃ (r1 : Int) (U1 : am_U), EvK N X (M_isWord_s0 d 7237492 U) (rI r1 U1) ∧ ((r1 = 0) → EvK N X (M_operand_s110 (d + 1) x1 s0 U1) R) ∧ ((r1 ≠ 0) → (((U1 86 47) ≠ 7) → EvK N X (M_operand_s79 (d + 1) x1 s0 U1) R) ∧ (((U1 86 47) = 7) → ∃ U2 : am_U, EvK N X (M_blame_s0 d 5 (U1 86 4) U1) (rV U2) ∧ EvK N X (M_operand_s79 (d + 1) x1 s0 U2) R)))) : EvK N X (M_operand_s46 (d + 1) x1 s0 U) R := by
  show Ev (am_kz N X) ((d + 1), 309, 46, [some (.inr (.inr 86)), some (.inl x1), none, none], [.inl s0], (am_sh, am_mm U)) R
  refine ev_br (P := s0 = 0) (σ1 := ((d + 1), 309, 110, [some (.inr (.inr 86)), some (.inl x1), some (.inl s0), none], [], (am_sh, am_mm U))) (σ2 := ((d + 1), 309, 51, [some (.inr (.inr 86)), some (.inl x1), some (.inl s0), none], [], (am_sh, am_mm U))) 3 (fun _ => rfl) (fun hc => ?_) (fun hc => ?_)
  · have h1 := h.1 hc
    exact h1
  · have h2 := h.2 hc
    refine ev_seg (σ1 := ((d + 1), 309, 55, [some (.inr (.inr 86)), some (.inl x1), some (.inl s0), none], [.inr (.inl 7237492), .inr (.inr 86)], (am_sh, am_mm U))) 2 (fun _ => rfl) ?_
    obtain ⟨r1, U1, h2c, h2a⟩ := h2
    refine ev_cal (σc := (M_isWord_s0 d 7237492 U)) (fun _ => rfl) h2c ?_
    show Ev (am_kz N X) ((d + 1), 309, 58, [some (.inr (.inr 86)), some (.inl x1), some (.inl s0), none], [.inl r1], (am_sh, am_mm U1)) R
    refine ev_br (P := r1 = 0) (σ1 := ((d + 1), 309, 110, [some (.inr (.inr 86)), some (.inl x1), some (.inl s0), none], [], (am_sh, am_mm U1))) (σ2 := ((d + 1), 309, 61, [some (.inr (.inr 86)), some (.inl x1), some (.inl s0), none], [], (am_sh, am_mm U1))) 1 (fun _ => rfl) (fun hc => ?_) (fun hc => ?_)
    · have h2a1 := h2a.1 hc
      exact h2a1
    · have h2a2 := h2a.2 hc
      refine ev_br (P := ¬ (U1 86 47) = 7) (σ1 := ((d + 1), 309, 79, [some (.inr (.inr 86)), some (.inl x1), some (.inl s0), none], [], (am_sh, am_mm U1))) (σ2 := ((d + 1), 309, 70, [some (.inr (.inr 86)), some (.inl x1), some (.inl s0), none], [], (am_sh, am_mm U1))) 4 (fun _ => rfl) (fun hc => ?_) (fun hc => ?_)
      · have h2a21 := h2a2.1 hc
        exact h2a21
      · have h2a22 := h2a2.2 (Decidable.not_not.mp hc)
        refine ev_seg (σ1 := ((d + 1), 309, 76, [some (.inr (.inr 86)), some (.inl x1), some (.inl s0), none], [.inl (U1 86 4), .inl 5, .inr (.inr 86)], (am_sh, am_mm U1))) 4 (fun _ => rfl) ?_
        obtain ⟨U2, h2a22c, h2a22a⟩ := h2a22
        refine ev_cal (σc := (M_blame_s0 d 5 (U1 86 4) U1)) (fun _ => rfl) h2a22c ?_
        show Ev (am_kz N X) ((d + 1), 309, 79, [some (.inr (.inr 86)), some (.inl x1), some (.inl s0), none], [], (am_sh, am_mm U2)) R
        exact h2a22a
set_option maxRecDepth 8000 in
theorem M_operand_r110 {N : Nat} {X : Nat → Int} {d : Nat} {x1 x2 : Int} {U : am_U} {R : Option am_V × am_M} (h : (0 ≤ x1 ∧ x1 < 20) ∧ ((x2 = 0) → EvK N X (M_operand_s137 (d + 1) x1 x2 (am_upd U 115 x1.toNat 0)) R) ∧ ((x2 ≠ 0) → ∃ (r1 : Int) (U1 : am_U), EvK N X (M_isSign_s0 d 91 (am_upd U 115 x1.toNat 0)) (rI r1 U1) ∧ ((r1 = 0) → EvK N X (M_operand_s137 (d + 1) x1 x2 U1) R) ∧ ((r1 ≠ 0) → ∃ U2 : am_U, EvK N X (M_opens_s0 d 5 U1) (rV U2) ∧ R = rI 0 U2))) : EvK N X (M_operand_s110 (d + 1) x1 x2 U) R := by
  show Ev (am_kz N X) ((d + 1), 309, 110, [some (.inr (.inr 86)), some (.inl x1), some (.inl x2), none], [], (am_sh, am_mm U)) R
  refine ev_seg (σ1 := ((d + 1), 309, 116, [some (.inr (.inr 86)), some (.inl x1), some (.inl x2), none], [.inl 0, .inl x1, .inr (.inr 115)], (am_sh, am_mm U))) 4 (fun _ => rfl) ?_
  refine eu_zast 115 (by decide) (n := 20) rfl (by decide) rfl (fun _ => rfl) h.1 ?_
  show Ev (am_kz N X) ((d + 1), 309, 117, [some (.inr (.inr 86)), some (.inl x1), some (.inl x2), none], [], (am_sh, am_mm (am_upd U 115 x1.toNat 0))) R
  have ha := h.2
  refine ev_br (P := x2 = 0) (σ1 := ((d + 1), 309, 137, [some (.inr (.inr 86)), some (.inl x1), some (.inl x2), none], [], (am_sh, am_mm (am_upd U 115 x1.toNat 0)))) (σ2 := ((d + 1), 309, 121, [some (.inr (.inr 86)), some (.inl x1), some (.inl x2), none], [], (am_sh, am_mm (am_upd U 115 x1.toNat 0)))) 2 (fun _ => rfl) (fun hc => ?_) (fun hc => ?_)
  · have ha1 := ha.1 hc
    exact ha1
  · have ha2 := ha.2 hc
    refine ev_seg (σ1 := ((d + 1), 309, 124, [some (.inr (.inr 86)), some (.inl x1), some (.inl x2), none], [.inl 91, .inr (.inr 86)], (am_sh, am_mm (am_upd U 115 x1.toNat 0)))) 2 (fun _ => rfl) ?_
    obtain ⟨r1, U1, ha2c, ha2a⟩ := ha2
    refine ev_cal (σc := (M_isSign_s0 d 91 (am_upd U 115 x1.toNat 0))) (fun _ => rfl) ha2c ?_
    show Ev (am_kz N X) ((d + 1), 309, 127, [some (.inr (.inr 86)), some (.inl x1), some (.inl x2), none], [.inl r1], (am_sh, am_mm U1)) R
    refine ev_br (P := r1 = 0) (σ1 := ((d + 1), 309, 137, [some (.inr (.inr 86)), some (.inl x1), some (.inl x2), none], [], (am_sh, am_mm U1))) (σ2 := ((d + 1), 309, 130, [some (.inr (.inr 86)), some (.inl x1), some (.inl x2), none], [], (am_sh, am_mm U1))) 1 (fun _ => rfl) (fun hc => ?_) (fun hc => ?_)
    · have ha2a1 := ha2a.1 hc
      exact ha2a1
    · have ha2a2 := ha2a.2 hc
      refine ev_seg (σ1 := ((d + 1), 309, 132, [some (.inr (.inr 86)), some (.inl x1), some (.inl x2), none], [.inl 5, .inr (.inr 86)], (am_sh, am_mm U1))) 2 (fun _ => rfl) ?_
      obtain ⟨U2, ha2a2c, ha2a2a⟩ := ha2a2
      refine ev_cal (σc := (M_opens_s0 d 5 U1)) (fun _ => rfl) ha2a2c ?_
      show Ev (am_kz N X) ((d + 1), 309, 135, [some (.inr (.inr 86)), some (.inl x1), some (.inl x2), none], [], (am_sh, am_mm U2)) R
      subst ha2a2a
      exact ev_end 2 (fun _ => rfl)
set_option maxRecDepth 8000 in
theorem M_operand_r79 {N : Nat} {X : Nat → Int} {d : Nat} {x1 x2 : Int} {U : am_U} {R : Option am_V × am_M} (h : (((U 86 8) ≤ 0) → ∃ U1 : am_U, EvK N X (M_holdsBack_s0 d 22 (am_upd U 86 47 (w32 ((U 86 47) + 1)))) (rV U1) ∧ ∃ U2 : am_U, EvK N X (M_ahead_s0 d U1) (rV U2) ∧ R = rI 0 U2) ∧ ((0 < (U 86 8)) → R = rI 1 U)) : EvK N X (M_operand_s79 (d + 1) x1 x2 U) R := by
  show Ev (am_kz N X) ((d + 1), 309, 79, [some (.inr (.inr 86)), some (.inl x1), some (.inl x2), none], [], (am_sh, am_mm U)) R
  refine ev_br (P := (U 86 8) ≤ 0) (σ1 := ((d + 1), 309, 88, [some (.inr (.inr 86)), some (.inl x1), some (.inl x2), none], [], (am_sh, am_mm U))) (σ2 := ((d + 1), 309, 86, [some (.inr (.inr 86)), some (.inl x1), some (.inl x2), none], [], (am_sh, am_mm U))) 3 (fun _ => rfl) (fun hc => ?_) (fun hc => ?_)
  · have h1 := h.1 hc
    refine ev_seg (σ1 := ((d + 1), 309, 95, [some (.inr (.inr 86)), some (.inl x1), some (.inl x2), none], [.inl (w32 ((U 86 47) + 1)), .inr (.inr 86)], (am_sh, am_mm U))) 5 (fun _ => rfl) ?_
    refine eu_puti 86 (n := 90) rfl (by decide) rfl rfl ?_
    show Ev (am_kz N X) ((d + 1), 309, 98, [some (.inr (.inr 86)), some (.inl x1), some (.inl x2), none], [], (am_sh, am_mm (am_upd U 86 47 (w32 ((U 86 47) + 1))))) R
    refine ev_seg (σ1 := ((d + 1), 309, 101, [some (.inr (.inr 86)), some (.inl x1), some (.inl x2), none], [.inl 22, .inr (.inr 86)], (am_sh, am_mm (am_upd U 86 47 (w32 ((U 86 47) + 1)))))) 2 (fun _ => rfl) ?_
    obtain ⟨U1, h1c, h1a⟩ := h1
    refine ev_cal (σc := (M_holdsBack_s0 d 22 (am_upd U 86 47 (w32 ((U 86 47) + 1))))) (fun _ => rfl) h1c ?_
    show Ev (am_kz N X) ((d + 1), 309, 104, [some (.inr (.inr 86)), some (.inl x1), some (.inl x2), none], [], (am_sh, am_mm U1)) R
    refine ev_seg (σ1 := ((d + 1), 309, 105, [some (.inr (.inr 86)), some (.inl x1), some (.inl x2), none], [.inr (.inr 86)], (am_sh, am_mm U1))) 1 (fun _ => rfl) ?_
    obtain ⟨U2, h1ac, h1aa⟩ := h1a
    refine ev_cal (σc := (M_ahead_s0 d U1)) (fun _ => rfl) h1ac ?_
    show Ev (am_kz N X) ((d + 1), 309, 108, [some (.inr (.inr 86)), some (.inl x1), some (.inl x2), none], [], (am_sh, am_mm U2)) R
    subst h1aa
    exact ev_end 2 (fun _ => rfl)
  · have h2 := h.2 (Int.not_le.mp hc)
    subst h2
    exact ev_end 2 (fun _ => rfl)
set_option maxRecDepth 8000 in
theorem M_operand_r137 {N : Nat} {X : Nat → Int} {d : Nat} {x1 x2 : Int} {U : am_U} {R : Option am_V × am_M} (h : ((x2 = 0) → EvK N X (M_operand_s171 (d + 1) x1 x2 U) R) ∧ ((x2 ≠ 0) → ∃ (r1 : Int) (U1 : am_U), EvK N X (M_isWord_s0 d 6384748 U) (rI r1 U1) ∧ ((r1 = 0) → EvK N X (M_operand_s171 (d + 1) x1 x2 U1) R) ∧ ((r1 ≠ 0) → ∃ U2 : am_U, EvK N X (M_add_s0 d 9 0 U1) (rV U2) ∧ (0 ≤ x1 ∧ x1 < 20) ∧ ∃ U3 : am_U, EvK N X (M_ahead_s0 d (am_upd U2 114 x1.toNat 2)) (rV U3) ∧ R = rI 1 U3))) : EvK N X (M_operand_s137 (d + 1) x1 x2 U) R := by
  show Ev (am_kz N X) ((d + 1), 309, 137, [some (.inr (.inr 86)), some (.inl x1), some (.inl x2), none], [], (am_sh, am_mm U)) R
  refine ev_br (P := x2 = 0) (σ1 := ((d + 1), 309, 171, [some (.inr (.inr 86)), some (.inl x1), some (.inl x2), none], [], (am_sh, am_mm U))) (σ2 := ((d + 1), 309, 141, [some (.inr (.inr 86)), some (.inl x1), some (.inl x2), none], [], (am_sh, am_mm U))) 2 (fun _ => rfl) (fun hc => ?_) (fun hc => ?_)
  · have h1 := h.1 hc
    exact h1
  · have h2 := h.2 hc
    refine ev_seg (σ1 := ((d + 1), 309, 145, [some (.inr (.inr 86)), some (.inl x1), some (.inl x2), none], [.inr (.inl 6384748), .inr (.inr 86)], (am_sh, am_mm U))) 2 (fun _ => rfl) ?_
    obtain ⟨r1, U1, h2c, h2a⟩ := h2
    refine ev_cal (σc := (M_isWord_s0 d 6384748 U)) (fun _ => rfl) h2c ?_
    show Ev (am_kz N X) ((d + 1), 309, 148, [some (.inr (.inr 86)), some (.inl x1), some (.inl x2), none], [.inl r1], (am_sh, am_mm U1)) R
    refine ev_br (P := r1 = 0) (σ1 := ((d + 1), 309, 171, [some (.inr (.inr 86)), some (.inl x1), some (.inl x2), none], [], (am_sh, am_mm U1))) (σ2 := ((d + 1), 309, 151, [some (.inr (.inr 86)), some (.inl x1), some (.inl x2), none], [], (am_sh, am_mm U1))) 1 (fun _ => rfl) (fun hc => ?_) (fun hc => ?_)
    · have h2a1 := h2a.1 hc
      exact h2a1
    · have h2a2 := h2a.2 hc
      refine ev_seg (σ1 := ((d + 1), 309, 155, [some (.inr (.inr 86)), some (.inl x1), some (.inl x2), none], [.inl 0, .inl 9, .inr (.inr 86)], (am_sh, am_mm U1))) 3 (fun _ => rfl) ?_
      obtain ⟨U2, h2a2c, h2a2a⟩ := h2a2
      refine ev_cal (σc := (M_add_s0 d 9 0 U1)) (fun _ => rfl) h2a2c ?_
      show Ev (am_kz N X) ((d + 1), 309, 158, [some (.inr (.inr 86)), some (.inl x1), some (.inl x2), none], [], (am_sh, am_mm U2)) R
      refine ev_seg (σ1 := ((d + 1), 309, 164, [some (.inr (.inr 86)), some (.inl x1), some (.inl x2), none], [.inl 2, .inl x1, .inr (.inr 114)], (am_sh, am_mm U2))) 4 (fun _ => rfl) ?_
      refine eu_iast 114 (n := 20) rfl (by decide) rfl (fun _ => rfl) h2a2a.1 ?_
      show Ev (am_kz N X) ((d + 1), 309, 165, [some (.inr (.inr 86)), some (.inl x1), some (.inl x2), none], [], (am_sh, am_mm (am_upd U2 114 x1.toNat 2))) R
      have h2a2aa := h2a2a.2
      refine ev_seg (σ1 := ((d + 1), 309, 166, [some (.inr (.inr 86)), some (.inl x1), some (.inl x2), none], [.inr (.inr 86)], (am_sh, am_mm (am_upd U2 114 x1.toNat 2)))) 1 (fun _ => rfl) ?_
      obtain ⟨U3, h2a2aac, h2a2aaa⟩ := h2a2aa
      refine ev_cal (σc := (M_ahead_s0 d (am_upd U2 114 x1.toNat 2))) (fun _ => rfl) h2a2aac ?_
      show Ev (am_kz N X) ((d + 1), 309, 169, [some (.inr (.inr 86)), some (.inl x1), some (.inl x2), none], [], (am_sh, am_mm U3)) R
      subst h2a2aaa
      exact ev_end 2 (fun _ => rfl)
set_option maxRecDepth 8000 in
theorem M_operand_r171 {N : Nat} {X : Nat → Int} {d : Nat} {x1 x2 : Int} {U : am_U} {R : Option am_V × am_M} (h : ((x2 = 0) → EvK N X (M_operand_s229 (d + 1) x1 x2 U) R) ∧ ((x2 ≠ 0) → ∃ (r1 : Int) (U1 : am_U), EvK N X (M_isWord_s0 d 126931137819237 U) (rI r1 U1) ∧ ((r1 ≠ 0) → EvK N X (M_operand_s195 (d + 1) x1 x2 U1) R) ∧ ((r1 = 0) → ∃ (r2 : Int) (U2 : am_U), EvK N X (M_isWord_s0 d 482955849061 U1) (rI r2 U2) ∧ ((r2 = 0) → EvK N X (M_operand_s229 (d + 1) x1 x2 U2) R) ∧ ((r2 ≠ 0) → EvK N X (M_operand_s195 (d + 1) x1 x2 U2) R)))) : EvK N X (M_operand_s171 (d + 1) x1 x2 U) R := by
  show Ev (am_kz N X) ((d + 1), 309, 171, [some (.inr (.inr 86)), some (.inl x1), some (.inl x2), none], [], (am_sh, am_mm U)) R
  refine ev_br (P := x2 = 0) (σ1 := ((d + 1), 309, 229, [some (.inr (.inr 86)), some (.inl x1), some (.inl x2), none], [], (am_sh, am_mm U))) (σ2 := ((d + 1), 309, 175, [some (.inr (.inr 86)), some (.inl x1), some (.inl x2), none], [], (am_sh, am_mm U))) 2 (fun _ => rfl) (fun hc => ?_) (fun hc => ?_)
  · have h1 := h.1 hc
    exact h1
  · have h2 := h.2 hc
    refine ev_seg (σ1 := ((d + 1), 309, 179, [some (.inr (.inr 86)), some (.inl x1), some (.inl x2), none], [.inr (.inl 126931137819237), .inr (.inr 86)], (am_sh, am_mm U))) 2 (fun _ => rfl) ?_
    obtain ⟨r1, U1, h2c, h2a⟩ := h2
    refine ev_cal (σc := (M_isWord_s0 d 126931137819237 U)) (fun _ => rfl) h2c ?_
    show Ev (am_kz N X) ((d + 1), 309, 182, [some (.inr (.inr 86)), some (.inl x1), some (.inl x2), none], [.inl r1], (am_sh, am_mm U1)) R
    refine ev_br (P := ¬ r1 = 0) (σ1 := ((d + 1), 309, 195, [some (.inr (.inr 86)), some (.inl x1), some (.inl x2), none], [], (am_sh, am_mm U1))) (σ2 := ((d + 1), 309, 185, [some (.inr (.inr 86)), some (.inl x1), some (.inl x2), none], [], (am_sh, am_mm U1))) 1 (fun _ => rfl) (fun hc => ?_) (fun hc => ?_)
    · have h2a1 := h2a.1 hc
      exact h2a1
    · have h2a2 := h2a.2 (Decidable.not_not.mp hc)
      refine ev_seg (σ1 := ((d + 1), 309, 189, [some (.inr (.inr 86)), some (.inl x1), some (.inl x2), none], [.inr (.inl 482955849061), .inr (.inr 86)], (am_sh, am_mm U1))) 2 (fun _ => rfl) ?_
      obtain ⟨r2, U2, h2a2c, h2a2a⟩ := h2a2
      refine ev_cal (σc := (M_isWord_s0 d 482955849061 U1)) (fun _ => rfl) h2a2c ?_
      show Ev (am_kz N X) ((d + 1), 309, 192, [some (.inr (.inr 86)), some (.inl x1), some (.inl x2), none], [.inl r2], (am_sh, am_mm U2)) R
      refine ev_br (P := r2 = 0) (σ1 := ((d + 1), 309, 229, [some (.inr (.inr 86)), some (.inl x1), some (.inl x2), none], [], (am_sh, am_mm U2))) (σ2 := ((d + 1), 309, 195, [some (.inr (.inr 86)), some (.inl x1), some (.inl x2), none], [], (am_sh, am_mm U2))) 1 (fun _ => rfl) (fun hc => ?_) (fun hc => ?_)
      · have h2a2a1 := h2a2a.1 hc
        exact h2a2a1
      · have h2a2a2 := h2a2a.2 hc
        exact h2a2a2
set_option maxRecDepth 8000 in
theorem M_operand_r229 {N : Nat} {X : Nat → Int} {d : Nat} {x1 x2 : Int} {U : am_U} {R : Option am_V × am_M} (h : ∃ (r1 : Int) (U1 : am_U), EvK N X (M_isSign_s0 d 40 U) (rI r1 U1) ∧ ((r1 = 0) → ∃ (r2 : Int) (U2 : am_U), EvK N X (M_isWord_s0 d 7170414 U1) (rI r2 U2) ∧ ((r2 ≠ 0) → EvK N X (M_operand_s275 (d + 1) x1 x2 U2) R) ∧ ((r2 = 0) → ∃ (r3 : Int) (U3 : am_U), EvK N X (M_isWord_s0 d 7168376 U2) (rI r3 U3) ∧ ((r3 ≠ 0) → EvK N X (M_operand_s275 (d + 1) x1 x2 U3) R) ∧ ((r3 = 0) → ∃ (r4 : Int) (U4 : am_U), EvK N X (M_isWord_s0 d 6775652 U3) (rI r4 U4) ∧ ((r4 = 0) → (((U4 86 3) ≠ 2) → ∃ (r5 : Int) (U5 : am_U), EvK N X (M_isWord_s0 d 28005 U4) (rI r5 U5) ∧ ((r5 = 0) → ∃ (r6 : Int) (U6 : am_U), EvK N X (M_isWord_s0 d 478694368626 U5) (rI r6 U6) ∧ ((r6 = 0) → ∃ (r7 : Int) (U7 : am_U), EvK N X (M_isWord_s0 d 491495845235 U6) (rI r7 U7) ∧ ((r7 = 0) → ∃ (r8 : Int) (U8 : am_U), EvK N X (M_isWord_s0 d 1835101817 U7) (rI r8 U8) ∧ ((r8 = 0) → ∃ (r9 : Int) (U9 : am_U), EvK N X (M_isWord_s0 d 448546567013 U8) (rI r9 U9) ∧ ((r9 = 0) → ∃ (r10 : Int) (U10 : am_U), EvK N X (M_isWord_s0 d 126943972648308 U9) (rI r10 U10) ∧ ((r10 = 0) → EvK N X (M_operand_s458 (d + 1) x1 x2 (-1) U10) R) ∧ ((r10 ≠ 0) → EvK N X (M_operand_s458 (d + 1) x1 x2 6 U10) R)) ∧ ((r9 ≠ 0) → EvK N X (M_operand_s458 (d + 1) x1 x2 5 U9) R)) ∧ ((r8 ≠ 0) → EvK N X (M_operand_s458 (d + 1) x1 x2 4 U8) R)) ∧ ((r7 ≠ 0) → EvK N X (M_operand_s458 (d + 1) x1 x2 3 U7) R)) ∧ ((r6 ≠ 0) → EvK N X (M_operand_s458 (d + 1) x1 x2 2 U6) R)) ∧ ((r5 ≠ 0) → EvK N X (M_operand_s458 (d + 1) x1 x2 1 U5) R)) ∧ (((U4 86 3) = 2) → EvK N X (M_operand_s458 (d + 1) x1 x2 0 U4) R)) ∧ ((r4 ≠ 0) → EvK N X (M_operand_s275 (d + 1) x1 x2 U4) R)))) ∧ ((r1 ≠ 0) → ∃ U11 : am_U, EvK N X (M_opens_s0 d 2 U1) (rV U11) ∧ R = rI 0 U11)) : EvK N X (M_operand_s229 (d + 1) x1 x2 U) R := by
  show Ev (am_kz N X) ((d + 1), 309, 229, [some (.inr (.inr 86)), some (.inl x1), some (.inl x2), none], [], (am_sh, am_mm U)) R
  refine ev_seg (σ1 := ((d + 1), 309, 232, [some (.inr (.inr 86)), some (.inl x1), some (.inl x2), none], [.inl 40, .inr (.inr 86)], (am_sh, am_mm U))) 2 (fun _ => rfl) ?_
  obtain ⟨r1, U1, hc, ha⟩ := h
  refine ev_cal (σc := (M_isSign_s0 d 40 U)) (fun _ => rfl) hc ?_
  show Ev (am_kz N X) ((d + 1), 309, 235, [some (.inr (.inr 86)), some (.inl x1), some (.inl x2), none], [.inl r1], (am_sh, am_mm U1)) R
  refine ev_br (P := r1 = 0) (σ1 := ((d + 1), 309, 245, [some (.inr (.inr 86)), some (.inl x1), some (.inl x2), none], [], (am_sh, am_mm U1))) (σ2 := ((d + 1), 309, 238, [some (.inr (.inr 86)), some (.inl x1), some (.inl x2), none], [], (am_sh, am_mm U1))) 1 (fun _ => rfl) (fun hc => ?_) (fun hc => ?_)
  · have ha1 := ha.1 hc
    refine ev_seg (σ1 := ((d + 1), 309, 249, [some (.inr (.inr 86)), some (.inl x1), some (.inl x2), none], [.inr (.inl 7170414), .inr (.inr 86)], (am_sh, am_mm U1))) 2 (fun _ => rfl) ?_
    obtain ⟨r2, U2, ha1c, ha1a⟩ := ha1
    refine ev_cal (σc := (M_isWord_s0 d 7170414 U1)) (fun _ => rfl) ha1c ?_
    show Ev (am_kz N X) ((d + 1), 309, 252, [some (.inr (.inr 86)), some (.inl x1), some (.inl x2), none], [.inl r2], (am_sh, am_mm U2)) R
    refine ev_br (P := ¬ r2 = 0) (σ1 := ((d + 1), 309, 275, [some (.inr (.inr 86)), some (.inl x1), some (.inl x2), none], [], (am_sh, am_mm U2))) (σ2 := ((d + 1), 309, 255, [some (.inr (.inr 86)), some (.inl x1), some (.inl x2), none], [], (am_sh, am_mm U2))) 1 (fun _ => rfl) (fun hc => ?_) (fun hc => ?_)
    · have ha1a1 := ha1a.1 hc
      exact ha1a1
    · have ha1a2 := ha1a.2 (Decidable.not_not.mp hc)
      refine ev_seg (σ1 := ((d + 1), 309, 259, [some (.inr (.inr 86)), some (.inl x1), some (.inl x2), none], [.inr (.inl 7168376), .inr (.inr 86)], (am_sh, am_mm U2))) 2 (fun _ => rfl) ?_
      obtain ⟨r3, U3, ha1a2c, ha1a2a⟩ := ha1a2
      refine ev_cal (σc := (M_isWord_s0 d 7168376 U2)) (fun _ => rfl) ha1a2c ?_
      show Ev (am_kz N X) ((d + 1), 309, 262, [some (.inr (.inr 86)), some (.inl x1), some (.inl x2), none], [.inl r3], (am_sh, am_mm U3)) R
      refine ev_br (P := ¬ r3 = 0) (σ1 := ((d + 1), 309, 275, [some (.inr (.inr 86)), some (.inl x1), some (.inl x2), none], [], (am_sh, am_mm U3))) (σ2 := ((d + 1), 309, 265, [some (.inr (.inr 86)), some (.inl x1), some (.inl x2), none], [], (am_sh, am_mm U3))) 1 (fun _ => rfl) (fun hc => ?_) (fun hc => ?_)
      · have ha1a2a1 := ha1a2a.1 hc
        exact ha1a2a1
      · have ha1a2a2 := ha1a2a.2 (Decidable.not_not.mp hc)
        refine ev_seg (σ1 := ((d + 1), 309, 269, [some (.inr (.inr 86)), some (.inl x1), some (.inl x2), none], [.inr (.inl 6775652), .inr (.inr 86)], (am_sh, am_mm U3))) 2 (fun _ => rfl) ?_
        obtain ⟨r4, U4, ha1a2a2c, ha1a2a2a⟩ := ha1a2a2
        refine ev_cal (σc := (M_isWord_s0 d 6775652 U3)) (fun _ => rfl) ha1a2a2c ?_
        show Ev (am_kz N X) ((d + 1), 309, 272, [some (.inr (.inr 86)), some (.inl x1), some (.inl x2), none], [.inl r4], (am_sh, am_mm U4)) R
        refine ev_br (P := r4 = 0) (σ1 := ((d + 1), 309, 360, [some (.inr (.inr 86)), some (.inl x1), some (.inl x2), none], [], (am_sh, am_mm U4))) (σ2 := ((d + 1), 309, 275, [some (.inr (.inr 86)), some (.inl x1), some (.inl x2), none], [], (am_sh, am_mm U4))) 1 (fun _ => rfl) (fun hc => ?_) (fun hc => ?_)
        · have ha1a2a2a1 := ha1a2a2a.1 hc
          refine ev_br (P := ¬ (U4 86 3) = 2) (σ1 := ((d + 1), 309, 372, [some (.inr (.inr 86)), some (.inl x1), some (.inl x2), none], [], (am_sh, am_mm U4))) (σ2 := ((d + 1), 309, 368, [some (.inr (.inr 86)), some (.inl x1), some (.inl x2), none], [], (am_sh, am_mm U4))) 4 (fun _ => rfl) (fun hc => ?_) (fun hc => ?_)
          · have ha1a2a2a11 := ha1a2a2a1.1 hc
            refine ev_seg (σ1 := ((d + 1), 309, 376, [some (.inr (.inr 86)), some (.inl x1), some (.inl x2), none], [.inr (.inl 28005), .inr (.inr 86)], (am_sh, am_mm U4))) 2 (fun _ => rfl) ?_
            obtain ⟨r5, U5, ha1a2a2a11c, ha1a2a2a11a⟩ := ha1a2a2a11
            refine ev_cal (σc := (M_isWord_s0 d 28005 U4)) (fun _ => rfl) ha1a2a2a11c ?_
            show Ev (am_kz N X) ((d + 1), 309, 379, [some (.inr (.inr 86)), some (.inl x1), some (.inl x2), none], [.inl r5], (am_sh, am_mm U5)) R
            refine ev_br (P := r5 = 0) (σ1 := ((d + 1), 309, 386, [some (.inr (.inr 86)), some (.inl x1), some (.inl x2), none], [], (am_sh, am_mm U5))) (σ2 := ((d + 1), 309, 382, [some (.inr (.inr 86)), some (.inl x1), some (.inl x2), none], [], (am_sh, am_mm U5))) 1 (fun _ => rfl) (fun hc => ?_) (fun hc => ?_)
            · have ha1a2a2a11a1 := ha1a2a2a11a.1 hc
              refine ev_seg (σ1 := ((d + 1), 309, 390, [some (.inr (.inr 86)), some (.inl x1), some (.inl x2), none], [.inr (.inl 478694368626), .inr (.inr 86)], (am_sh, am_mm U5))) 2 (fun _ => rfl) ?_
              obtain ⟨r6, U6, ha1a2a2a11a1c, ha1a2a2a11a1a⟩ := ha1a2a2a11a1
              refine ev_cal (σc := (M_isWord_s0 d 478694368626 U5)) (fun _ => rfl) ha1a2a2a11a1c ?_
              show Ev (am_kz N X) ((d + 1), 309, 393, [some (.inr (.inr 86)), some (.inl x1), some (.inl x2), none], [.inl r6], (am_sh, am_mm U6)) R
              refine ev_br (P := r6 = 0) (σ1 := ((d + 1), 309, 400, [some (.inr (.inr 86)), some (.inl x1), some (.inl x2), none], [], (am_sh, am_mm U6))) (σ2 := ((d + 1), 309, 396, [some (.inr (.inr 86)), some (.inl x1), some (.inl x2), none], [], (am_sh, am_mm U6))) 1 (fun _ => rfl) (fun hc => ?_) (fun hc => ?_)
              · have ha1a2a2a11a1a1 := ha1a2a2a11a1a.1 hc
                refine ev_seg (σ1 := ((d + 1), 309, 404, [some (.inr (.inr 86)), some (.inl x1), some (.inl x2), none], [.inr (.inl 491495845235), .inr (.inr 86)], (am_sh, am_mm U6))) 2 (fun _ => rfl) ?_
                obtain ⟨r7, U7, ha1a2a2a11a1a1c, ha1a2a2a11a1a1a⟩ := ha1a2a2a11a1a1
                refine ev_cal (σc := (M_isWord_s0 d 491495845235 U6)) (fun _ => rfl) ha1a2a2a11a1a1c ?_
                show Ev (am_kz N X) ((d + 1), 309, 407, [some (.inr (.inr 86)), some (.inl x1), some (.inl x2), none], [.inl r7], (am_sh, am_mm U7)) R
                refine ev_br (P := r7 = 0) (σ1 := ((d + 1), 309, 414, [some (.inr (.inr 86)), some (.inl x1), some (.inl x2), none], [], (am_sh, am_mm U7))) (σ2 := ((d + 1), 309, 410, [some (.inr (.inr 86)), some (.inl x1), some (.inl x2), none], [], (am_sh, am_mm U7))) 1 (fun _ => rfl) (fun hc => ?_) (fun hc => ?_)
                · have ha1a2a2a11a1a1a1 := ha1a2a2a11a1a1a.1 hc
                  refine ev_seg (σ1 := ((d + 1), 309, 418, [some (.inr (.inr 86)), some (.inl x1), some (.inl x2), none], [.inr (.inl 1835101817), .inr (.inr 86)], (am_sh, am_mm U7))) 2 (fun _ => rfl) ?_
                  obtain ⟨r8, U8, ha1a2a2a11a1a1a1c, ha1a2a2a11a1a1a1a⟩ := ha1a2a2a11a1a1a1
                  refine ev_cal (σc := (M_isWord_s0 d 1835101817 U7)) (fun _ => rfl) ha1a2a2a11a1a1a1c ?_
                  show Ev (am_kz N X) ((d + 1), 309, 421, [some (.inr (.inr 86)), some (.inl x1), some (.inl x2), none], [.inl r8], (am_sh, am_mm U8)) R
                  refine ev_br (P := r8 = 0) (σ1 := ((d + 1), 309, 428, [some (.inr (.inr 86)), some (.inl x1), some (.inl x2), none], [], (am_sh, am_mm U8))) (σ2 := ((d + 1), 309, 424, [some (.inr (.inr 86)), some (.inl x1), some (.inl x2), none], [], (am_sh, am_mm U8))) 1 (fun _ => rfl) (fun hc => ?_) (fun hc => ?_)
                  · have ha1a2a2a11a1a1a1a1 := ha1a2a2a11a1a1a1a.1 hc
                    refine ev_seg (σ1 := ((d + 1), 309, 432, [some (.inr (.inr 86)), some (.inl x1), some (.inl x2), none], [.inr (.inl 448546567013), .inr (.inr 86)], (am_sh, am_mm U8))) 2 (fun _ => rfl) ?_
                    obtain ⟨r9, U9, ha1a2a2a11a1a1a1a1c, ha1a2a2a11a1a1a1a1a⟩ := ha1a2a2a11a1a1a1a1
                    refine ev_cal (σc := (M_isWord_s0 d 448546567013 U8)) (fun _ => rfl) ha1a2a2a11a1a1a1a1c ?_
                    show Ev (am_kz N X) ((d + 1), 309, 435, [some (.inr (.inr 86)), some (.inl x1), some (.inl x2), none], [.inl r9], (am_sh, am_mm U9)) R
                    refine ev_br (P := r9 = 0) (σ1 := ((d + 1), 309, 442, [some (.inr (.inr 86)), some (.inl x1), some (.inl x2), none], [], (am_sh, am_mm U9))) (σ2 := ((d + 1), 309, 438, [some (.inr (.inr 86)), some (.inl x1), some (.inl x2), none], [], (am_sh, am_mm U9))) 1 (fun _ => rfl) (fun hc => ?_) (fun hc => ?_)
                    · have ha1a2a2a11a1a1a1a1a1 := ha1a2a2a11a1a1a1a1a.1 hc
                      refine ev_seg (σ1 := ((d + 1), 309, 446, [some (.inr (.inr 86)), some (.inl x1), some (.inl x2), none], [.inr (.inl 126943972648308), .inr (.inr 86)], (am_sh, am_mm U9))) 2 (fun _ => rfl) ?_
                      obtain ⟨r10, U10, ha1a2a2a11a1a1a1a1a1c, ha1a2a2a11a1a1a1a1a1a⟩ := ha1a2a2a11a1a1a1a1a1
                      refine ev_cal (σc := (M_isWord_s0 d 126943972648308 U9)) (fun _ => rfl) ha1a2a2a11a1a1a1a1a1c ?_
                      show Ev (am_kz N X) ((d + 1), 309, 449, [some (.inr (.inr 86)), some (.inl x1), some (.inl x2), none], [.inl r10], (am_sh, am_mm U10)) R
                      refine ev_br (P := r10 = 0) (σ1 := ((d + 1), 309, 457, [some (.inr (.inr 86)), some (.inl x1), some (.inl x2), none], [], (am_sh, am_mm U10))) (σ2 := ((d + 1), 309, 452, [some (.inr (.inr 86)), some (.inl x1), some (.inl x2), none], [], (am_sh, am_mm U10))) 1 (fun _ => rfl) (fun hc => ?_) (fun hc => ?_)
                      · have ha1a2a2a11a1a1a1a1a1a1 := ha1a2a2a11a1a1a1a1a1a.1 hc
                        refine ev_seg (σ1 := ((d + 1), 309, 458, [some (.inr (.inr 86)), some (.inl x1), some (.inl x2), none], [.inl (-1)], (am_sh, am_mm U10))) 1 (fun _ => rfl) ?_
                        exact ha1a2a2a11a1a1a1a1a1a1
                      · have ha1a2a2a11a1a1a1a1a1a2 := ha1a2a2a11a1a1a1a1a1a.2 hc
                        refine ev_seg (σ1 := ((d + 1), 309, 458, [some (.inr (.inr 86)), some (.inl x1), some (.inl x2), none], [.inl 6], (am_sh, am_mm U10))) 2 (fun _ => rfl) ?_
                        exact ha1a2a2a11a1a1a1a1a1a2
                    · have ha1a2a2a11a1a1a1a1a2 := ha1a2a2a11a1a1a1a1a.2 hc
                      refine ev_seg (σ1 := ((d + 1), 309, 458, [some (.inr (.inr 86)), some (.inl x1), some (.inl x2), none], [.inl 5], (am_sh, am_mm U9))) 2 (fun _ => rfl) ?_
                      exact ha1a2a2a11a1a1a1a1a2
                  · have ha1a2a2a11a1a1a1a2 := ha1a2a2a11a1a1a1a.2 hc
                    refine ev_seg (σ1 := ((d + 1), 309, 458, [some (.inr (.inr 86)), some (.inl x1), some (.inl x2), none], [.inl 4], (am_sh, am_mm U8))) 2 (fun _ => rfl) ?_
                    exact ha1a2a2a11a1a1a1a2
                · have ha1a2a2a11a1a1a2 := ha1a2a2a11a1a1a.2 hc
                  refine ev_seg (σ1 := ((d + 1), 309, 458, [some (.inr (.inr 86)), some (.inl x1), some (.inl x2), none], [.inl 3], (am_sh, am_mm U7))) 2 (fun _ => rfl) ?_
                  exact ha1a2a2a11a1a1a2
              · have ha1a2a2a11a1a2 := ha1a2a2a11a1a.2 hc
                refine ev_seg (σ1 := ((d + 1), 309, 458, [some (.inr (.inr 86)), some (.inl x1), some (.inl x2), none], [.inl 2], (am_sh, am_mm U6))) 2 (fun _ => rfl) ?_
                exact ha1a2a2a11a1a2
            · have ha1a2a2a11a2 := ha1a2a2a11a.2 hc
              refine ev_seg (σ1 := ((d + 1), 309, 458, [some (.inr (.inr 86)), some (.inl x1), some (.inl x2), none], [.inl 1], (am_sh, am_mm U5))) 2 (fun _ => rfl) ?_
              exact ha1a2a2a11a2
          · have ha1a2a2a12 := ha1a2a2a1.2 (Decidable.not_not.mp hc)
            refine ev_seg (σ1 := ((d + 1), 309, 458, [some (.inr (.inr 86)), some (.inl x1), some (.inl x2), none], [.inl 0], (am_sh, am_mm U4))) 2 (fun _ => rfl) ?_
            exact ha1a2a2a12
        · have ha1a2a2a2 := ha1a2a2a.2 hc
          exact ha1a2a2a2
  · have ha2 := ha.2 hc
    refine ev_seg (σ1 := ((d + 1), 309, 240, [some (.inr (.inr 86)), some (.inl x1), some (.inl x2), none], [.inl 2, .inr (.inr 86)], (am_sh, am_mm U1))) 2 (fun _ => rfl) ?_
    obtain ⟨U11, ha2c, ha2a⟩ := ha2
    refine ev_cal (σc := (M_opens_s0 d 2 U1)) (fun _ => rfl) ha2c ?_
    show Ev (am_kz N X) ((d + 1), 309, 243, [some (.inr (.inr 86)), some (.inl x1), some (.inl x2), none], [], (am_sh, am_mm U11)) R
    subst ha2a
    exact ev_end 2 (fun _ => rfl)
set_option maxRecDepth 8000 in
theorem M_operand_r195 {N : Nat} {X : Nat → Int} {d : Nat} {x1 x2 : Int} {U : am_U} {R : Option am_V × am_M} (h : ∃ (r1 : Int) (U1 : am_U), EvK N X (M_isWord_s0 d 126931137819237 U) (rI r1 U1) ∧ ((r1 = 0) → EvK N X (M_operand_s213 (d + 1) x1 x2 25 U1) R) ∧ ((r1 ≠ 0) → EvK N X (M_operand_s213 (d + 1) x1 x2 24 U1) R)) : EvK N X (M_operand_s195 (d + 1) x1 x2 U) R := by
  show Ev (am_kz N X) ((d + 1), 309, 195, [some (.inr (.inr 86)), some (.inl x1), some (.inl x2), none], [], (am_sh, am_mm U)) R
  refine ev_seg (σ1 := ((d + 1), 309, 200, [some (.inr (.inr 86)), some (.inl x1), some (.inl x2), none], [.inr (.inl 126931137819237), .inr (.inr 86), .inr (.inr 86)], (am_sh, am_mm U))) 3 (fun _ => rfl) ?_
  obtain ⟨r1, U1, hc, ha⟩ := h
  refine ev_cal (σc := (M_isWord_s0 d 126931137819237 U)) (fun _ => rfl) hc ?_
  show Ev (am_kz N X) ((d + 1), 309, 203, [some (.inr (.inr 86)), some (.inl x1), some (.inl x2), none], [.inl r1, .inr (.inr 86)], (am_sh, am_mm U1)) R
  refine ev_br (P := r1 = 0) (σ1 := ((d + 1), 309, 211, [some (.inr (.inr 86)), some (.inl x1), some (.inl x2), none], [.inr (.inr 86)], (am_sh, am_mm U1))) (σ2 := ((d + 1), 309, 206, [some (.inr (.inr 86)), some (.inl x1), some (.inl x2), none], [.inr (.inr 86)], (am_sh, am_mm U1))) 1 (fun _ => rfl) (fun hc => ?_) (fun hc => ?_)
  · have ha1 := ha.1 hc
    refine ev_seg (σ1 := ((d + 1), 309, 213, [some (.inr (.inr 86)), some (.inl x1), some (.inl x2), none], [.inl 25, .inr (.inr 86)], (am_sh, am_mm U1))) 1 (fun _ => rfl) ?_
    exact ha1
  · have ha2 := ha.2 hc
    refine ev_seg (σ1 := ((d + 1), 309, 213, [some (.inr (.inr 86)), some (.inl x1), some (.inl x2), none], [.inl 24, .inr (.inr 86)], (am_sh, am_mm U1))) 2 (fun _ => rfl) ?_
    exact ha2
set_option maxRecDepth 8000 in
theorem M_operand_r275 {N : Nat} {X : Nat → Int} {d : Nat} {x1 x2 : Int} {U : am_U} {R : Option am_V × am_M} (h : ∃ (r1 : Int) (U1 : am_U), EvK N X (M_isWord_s0 d 7170414 U) (rI r1 U1) ∧ ((r1 = 0) → ∃ (r2 : Int) (U2 : am_U), EvK N X (M_isWord_s0 d 7168376 U1) (rI r2 U2) ∧ ((r2 = 0) → EvK N X (M_operand_s307 (d + 1) x1 x2 23 U2) R) ∧ ((r2 ≠ 0) → EvK N X (M_operand_s307 (d + 1) x1 x2 16 U2) R)) ∧ ((r1 ≠ 0) → EvK N X (M_operand_s307 (d + 1) x1 x2 15 U1) R)) : EvK N X (M_operand_s275 (d + 1) x1 x2 U) R := by
  show Ev (am_kz N X) ((d + 1), 309, 275, [some (.inr (.inr 86)), some (.inl x1), some (.inl x2), none], [], (am_sh, am_mm U)) R
  refine ev_seg (σ1 := ((d + 1), 309, 279, [some (.inr (.inr 86)), some (.inl x1), some (.inl x2), none], [.inr (.inl 7170414), .inr (.inr 86)], (am_sh, am_mm U))) 2 (fun _ => rfl) ?_
  obtain ⟨r1, U1, hc, ha⟩ := h
  refine ev_cal (σc := (M_isWord_s0 d 7170414 U)) (fun _ => rfl) hc ?_
  show Ev (am_kz N X) ((d + 1), 309, 282, [some (.inr (.inr 86)), some (.inl x1), some (.inl x2), none], [.inl r1], (am_sh, am_mm U1)) R
  refine ev_br (P := r1 = 0) (σ1 := ((d + 1), 309, 290, [some (.inr (.inr 86)), some (.inl x1), some (.inl x2), none], [], (am_sh, am_mm U1))) (σ2 := ((d + 1), 309, 285, [some (.inr (.inr 86)), some (.inl x1), some (.inl x2), none], [], (am_sh, am_mm U1))) 1 (fun _ => rfl) (fun hc => ?_) (fun hc => ?_)
  · have ha1 := ha.1 hc
    refine ev_seg (σ1 := ((d + 1), 309, 294, [some (.inr (.inr 86)), some (.inl x1), some (.inl x2), none], [.inr (.inl 7168376), .inr (.inr 86)], (am_sh, am_mm U1))) 2 (fun _ => rfl) ?_
    obtain ⟨r2, U2, ha1c, ha1a⟩ := ha1
    refine ev_cal (σc := (M_isWord_s0 d 7168376 U1)) (fun _ => rfl) ha1c ?_
    show Ev (am_kz N X) ((d + 1), 309, 297, [some (.inr (.inr 86)), some (.inl x1), some (.inl x2), none], [.inl r2], (am_sh, am_mm U2)) R
    refine ev_br (P := r2 = 0) (σ1 := ((d + 1), 309, 305, [some (.inr (.inr 86)), some (.inl x1), some (.inl x2), none], [], (am_sh, am_mm U2))) (σ2 := ((d + 1), 309, 300, [some (.inr (.inr 86)), some (.inl x1), some (.inl x2), none], [], (am_sh, am_mm U2))) 1 (fun _ => rfl) (fun hc => ?_) (fun hc => ?_)
    · have ha1a1 := ha1a.1 hc
      refine ev_seg (σ1 := ((d + 1), 309, 307, [some (.inr (.inr 86)), some (.inl x1), some (.inl x2), none], [.inl 23], (am_sh, am_mm U2))) 1 (fun _ => rfl) ?_
      exact ha1a1
    · have ha1a2 := ha1a.2 hc
      refine ev_seg (σ1 := ((d + 1), 309, 307, [some (.inr (.inr 86)), some (.inl x1), some (.inl x2), none], [.inl 16], (am_sh, am_mm U2))) 2 (fun _ => rfl) ?_
      exact ha1a2
  · have ha2 := ha.2 hc
    refine ev_seg (σ1 := ((d + 1), 309, 307, [some (.inr (.inr 86)), some (.inl x1), some (.inl x2), none], [.inl 15], (am_sh, am_mm U1))) 2 (fun _ => rfl) ?_
    exact ha2
set_option maxRecDepth 8000 in
theorem M_operand_r458 {N : Nat} {X : Nat → Int} {d : Nat} {x1 x2 s0 : Int} {U : am_U} {R : Option am_V × am_M} (h : ((s0 ≠ (-1)) → (((U 86 8) ≤ 0) → ∃ U1 : am_U, EvK N X (M_add_s0 d s0 (U 86 6) U) (rV U1) ∧ ∃ U2 : am_U, EvK N X (M_ahead_s0 d U1) (rV U2) ∧ R = rI 1 U2) ∧ ((0 < (U 86 8)) → R = rI 1 U)) ∧ ((s0 = (-1)) → ∃ U3 : am_U, EvK N X (M_blame_s0 d 1 (U 86 4) U) (rV U3) ∧ (((U3 86 8) ≤ 0) → ∃ U4 : am_U, EvK N X (M_add_s0 d s0 (U3 86 6) U3) (rV U4) ∧ ∃ U5 : am_U, EvK N X (M_ahead_s0 d U4) (rV U5) ∧ R = rI 1 U5) ∧ ((0 < (U3 86 8)) → R = rI 1 U3))) : EvK N X (M_operand_s458 (d + 1) x1 x2 s0 U) R := by
  show Ev (am_kz N X) ((d + 1), 309, 458, [some (.inr (.inr 86)), some (.inl x1), some (.inl x2), none], [.inl s0], (am_sh, am_mm U)) R
  refine ev_br (P := ¬ s0 = (-1)) (σ1 := ((d + 1), 309, 473, [some (.inr (.inr 86)), some (.inl x1), some (.inl x2), some (.inl s0)], [], (am_sh, am_mm U))) (σ2 := ((d + 1), 309, 464, [some (.inr (.inr 86)), some (.inl x1), some (.inl x2), some (.inl s0)], [], (am_sh, am_mm U))) 4 (fun _ => rfl) (fun hc => ?_) (fun hc => ?_)
  · have h1 := h.1 hc
    refine ev_br (P := (U 86 8) ≤ 0) (σ1 := ((d + 1), 309, 482, [some (.inr (.inr 86)), some (.inl x1), some (.inl x2), some (.inl s0)], [], (am_sh, am_mm U))) (σ2 := ((d + 1), 309, 480, [some (.inr (.inr 86)), some (.inl x1), some (.inl x2), some (.inl s0)], [], (am_sh, am_mm U))) 3 (fun _ => rfl) (fun hc => ?_) (fun hc => ?_)
    · have h11 := h1.1 hc
      refine ev_seg (σ1 := ((d + 1), 309, 488, [some (.inr (.inr 86)), some (.inl x1), some (.inl x2), some (.inl s0)], [.inl (U 86 6), .inl s0, .inr (.inr 86)], (am_sh, am_mm U))) 4 (fun _ => rfl) ?_
      obtain ⟨U1, h11c, h11a⟩ := h11
      refine ev_cal (σc := (M_add_s0 d s0 (U 86 6) U)) (fun _ => rfl) h11c ?_
      show Ev (am_kz N X) ((d + 1), 309, 491, [some (.inr (.inr 86)), some (.inl x1), some (.inl x2), some (.inl s0)], [], (am_sh, am_mm U1)) R
      refine ev_seg (σ1 := ((d + 1), 309, 492, [some (.inr (.inr 86)), some (.inl x1), some (.inl x2), some (.inl s0)], [.inr (.inr 86)], (am_sh, am_mm U1))) 1 (fun _ => rfl) ?_
      obtain ⟨U2, h11ac, h11aa⟩ := h11a
      refine ev_cal (σc := (M_ahead_s0 d U1)) (fun _ => rfl) h11ac ?_
      show Ev (am_kz N X) ((d + 1), 309, 495, [some (.inr (.inr 86)), some (.inl x1), some (.inl x2), some (.inl s0)], [], (am_sh, am_mm U2)) R
      subst h11aa
      exact ev_end 2 (fun _ => rfl)
    · have h12 := h1.2 (Int.not_le.mp hc)
      subst h12
      exact ev_end 2 (fun _ => rfl)
  · have h2 := h.2 (Decidable.not_not.mp hc)
    refine ev_seg (σ1 := ((d + 1), 309, 470, [some (.inr (.inr 86)), some (.inl x1), some (.inl x2), some (.inl s0)], [.inl (U 86 4), .inl 1, .inr (.inr 86)], (am_sh, am_mm U))) 4 (fun _ => rfl) ?_
    obtain ⟨U3, h2c, h2a⟩ := h2
    refine ev_cal (σc := (M_blame_s0 d 1 (U 86 4) U)) (fun _ => rfl) h2c ?_
    show Ev (am_kz N X) ((d + 1), 309, 473, [some (.inr (.inr 86)), some (.inl x1), some (.inl x2), some (.inl s0)], [], (am_sh, am_mm U3)) R
    refine ev_br (P := (U3 86 8) ≤ 0) (σ1 := ((d + 1), 309, 482, [some (.inr (.inr 86)), some (.inl x1), some (.inl x2), some (.inl s0)], [], (am_sh, am_mm U3))) (σ2 := ((d + 1), 309, 480, [some (.inr (.inr 86)), some (.inl x1), some (.inl x2), some (.inl s0)], [], (am_sh, am_mm U3))) 3 (fun _ => rfl) (fun hc => ?_) (fun hc => ?_)
    · have h2a1 := h2a.1 hc
      refine ev_seg (σ1 := ((d + 1), 309, 488, [some (.inr (.inr 86)), some (.inl x1), some (.inl x2), some (.inl s0)], [.inl (U3 86 6), .inl s0, .inr (.inr 86)], (am_sh, am_mm U3))) 4 (fun _ => rfl) ?_
      obtain ⟨U4, h2a1c, h2a1a⟩ := h2a1
      refine ev_cal (σc := (M_add_s0 d s0 (U3 86 6) U3)) (fun _ => rfl) h2a1c ?_
      show Ev (am_kz N X) ((d + 1), 309, 491, [some (.inr (.inr 86)), some (.inl x1), some (.inl x2), some (.inl s0)], [], (am_sh, am_mm U4)) R
      refine ev_seg (σ1 := ((d + 1), 309, 492, [some (.inr (.inr 86)), some (.inl x1), some (.inl x2), some (.inl s0)], [.inr (.inr 86)], (am_sh, am_mm U4))) 1 (fun _ => rfl) ?_
      obtain ⟨U5, h2a1ac, h2a1aa⟩ := h2a1a
      refine ev_cal (σc := (M_ahead_s0 d U4)) (fun _ => rfl) h2a1ac ?_
      show Ev (am_kz N X) ((d + 1), 309, 495, [some (.inr (.inr 86)), some (.inl x1), some (.inl x2), some (.inl s0)], [], (am_sh, am_mm U5)) R
      subst h2a1aa
      exact ev_end 2 (fun _ => rfl)
    · have h2a2 := h2a.2 (Int.not_le.mp hc)
      subst h2a2
      exact ev_end 2 (fun _ => rfl)
set_option maxRecDepth 8000 in
theorem M_operand_r213 {N : Nat} {X : Nat → Int} {d : Nat} {x1 x2 s1 : Int} {U : am_U} {R : Option am_V × am_M} (h : ∃ U1 : am_U, EvK N X (M_holdsBack_s0 d s1 U) (rV U1) ∧ (0 ≤ x1 ∧ x1 < 20) ∧ ∃ U2 : am_U, EvK N X (M_ahead_s0 d (am_upd U1 114 x1.toNat 1)) (rV U2) ∧ R = rI 0 U2) : EvK N X (M_operand_s213 (d + 1) x1 x2 s1 U) R := by
  show Ev (am_kz N X) ((d + 1), 309, 213, [some (.inr (.inr 86)), some (.inl x1), some (.inl x2), none], [.inl s1, .inr (.inr 86)], (am_sh, am_mm U)) R
  obtain ⟨U1, hc, ha⟩ := h
  refine ev_cal (σc := (M_holdsBack_s0 d s1 U)) (fun _ => rfl) hc ?_
  show Ev (am_kz N X) ((d + 1), 309, 216, [some (.inr (.inr 86)), some (.inl x1), some (.inl x2), none], [], (am_sh, am_mm U1)) R
  refine ev_seg (σ1 := ((d + 1), 309, 222, [some (.inr (.inr 86)), some (.inl x1), some (.inl x2), none], [.inl 1, .inl x1, .inr (.inr 114)], (am_sh, am_mm U1))) 4 (fun _ => rfl) ?_
  refine eu_iast 114 (n := 20) rfl (by decide) rfl (fun _ => rfl) ha.1 ?_
  show Ev (am_kz N X) ((d + 1), 309, 223, [some (.inr (.inr 86)), some (.inl x1), some (.inl x2), none], [], (am_sh, am_mm (am_upd U1 114 x1.toNat 1))) R
  have haa := ha.2
  refine ev_seg (σ1 := ((d + 1), 309, 224, [some (.inr (.inr 86)), some (.inl x1), some (.inl x2), none], [.inr (.inr 86)], (am_sh, am_mm (am_upd U1 114 x1.toNat 1)))) 1 (fun _ => rfl) ?_
  obtain ⟨U2, haac, haaa⟩ := haa
  refine ev_cal (σc := (M_ahead_s0 d (am_upd U1 114 x1.toNat 1))) (fun _ => rfl) haac ?_
  show Ev (am_kz N X) ((d + 1), 309, 227, [some (.inr (.inr 86)), some (.inl x1), some (.inl x2), none], [], (am_sh, am_mm U2)) R
  subst haaa
  exact ev_end 2 (fun _ => rfl)
set_option maxRecDepth 8000 in
theorem M_operand_r307 {N : Nat} {X : Nat → Int} {d : Nat} {x1 x2 s0 : Int} {U : am_U} {R : Option am_V × am_M} (h : ∃ U1 : am_U, EvK N X (M_ahead_s0 d U) (rV U1) ∧ ∃ U2 : am_U, EvK N X (M_lex_s0 d U1) (rV U2) ∧ ∃ (r3 : Int) (U3 : am_U), EvK N X (M_isSign_s0 d 40 U2) (rI r3 U3) ∧ ((r3 ≠ 0) → ∃ U4 : am_U, EvK N X (M_opens_s0 d 3 U3) (rV U4) ∧ (((U4 86 8) ≠ 0) → R = rI 0 U4) ∧ (((U4 86 8) = 0) → (0 ≤ (w32 ((U4 86 46) - 1)) ∧ (w32 ((U4 86 46) - 1)) < 20) ∧ R = rI 0 (am_upd U4 116 ((w32 ((U4 86 46) - 1)).toNat) s0))) ∧ ((r3 = 0) → ∃ U5 : am_U, EvK N X (M_blame_s0 d 1 (U3 86 4) U3) (rV U5) ∧ ∃ U6 : am_U, EvK N X (M_opens_s0 d 3 U5) (rV U6) ∧ (((U6 86 8) ≠ 0) → R = rI 0 U6) ∧ (((U6 86 8) = 0) → (0 ≤ (w32 ((U6 86 46) - 1)) ∧ (w32 ((U6 86 46) - 1)) < 20) ∧ R = rI 0 (am_upd U6 116 ((w32 ((U6 86 46) - 1)).toNat) s0)))) : EvK N X (M_operand_s307 (d + 1) x1 x2 s0 U) R := by
  show Ev (am_kz N X) ((d + 1), 309, 307, [some (.inr (.inr 86)), some (.inl x1), some (.inl x2), none], [.inl s0], (am_sh, am_mm U)) R
  refine ev_seg (σ1 := ((d + 1), 309, 309, [some (.inr (.inr 86)), some (.inl x1), some (.inl x2), some (.inl s0)], [.inr (.inr 86)], (am_sh, am_mm U))) 2 (fun _ => rfl) ?_
  obtain ⟨U1, hc, ha⟩ := h
  refine ev_cal (σc := (M_ahead_s0 d U)) (fun _ => rfl) hc ?_
  show Ev (am_kz N X) ((d + 1), 309, 312, [some (.inr (.inr 86)), some (.inl x1), some (.inl x2), some (.inl s0)], [], (am_sh, am_mm U1)) R
  refine ev_seg (σ1 := ((d + 1), 309, 313, [some (.inr (.inr 86)), some (.inl x1), some (.inl x2), some (.inl s0)], [.inr (.inr 86)], (am_sh, am_mm U1))) 1 (fun _ => rfl) ?_
  obtain ⟨U2, hac, haa⟩ := ha
  refine ev_cal (σc := (M_lex_s0 d U1)) (fun _ => rfl) hac ?_
  show Ev (am_kz N X) ((d + 1), 309, 316, [some (.inr (.inr 86)), some (.inl x1), some (.inl x2), some (.inl s0)], [], (am_sh, am_mm U2)) R
  refine ev_seg (σ1 := ((d + 1), 309, 319, [some (.inr (.inr 86)), some (.inl x1), some (.inl x2), some (.inl s0)], [.inl 40, .inr (.inr 86)], (am_sh, am_mm U2))) 2 (fun _ => rfl) ?_
  obtain ⟨r3, U3, haac, haaa⟩ := haa
  refine ev_cal (σc := (M_isSign_s0 d 40 U2)) (fun _ => rfl) haac ?_
  show Ev (am_kz N X) ((d + 1), 309, 322, [some (.inr (.inr 86)), some (.inl x1), some (.inl x2), some (.inl s0)], [.inl r3], (am_sh, am_mm U3)) R
  refine ev_br (P := ¬ r3 = 0) (σ1 := ((d + 1), 309, 334, [some (.inr (.inr 86)), some (.inl x1), some (.inl x2), some (.inl s0)], [], (am_sh, am_mm U3))) (σ2 := ((d + 1), 309, 325, [some (.inr (.inr 86)), some (.inl x1), some (.inl x2), some (.inl s0)], [], (am_sh, am_mm U3))) 1 (fun _ => rfl) (fun hc => ?_) (fun hc => ?_)
  · have haaa1 := haaa.1 hc
    refine ev_seg (σ1 := ((d + 1), 309, 336, [some (.inr (.inr 86)), some (.inl x1), some (.inl x2), some (.inl s0)], [.inl 3, .inr (.inr 86)], (am_sh, am_mm U3))) 2 (fun _ => rfl) ?_
    obtain ⟨U4, haaa1c, haaa1a⟩ := haaa1
    refine ev_cal (σc := (M_opens_s0 d 3 U3)) (fun _ => rfl) haaa1c ?_
    show Ev (am_kz N X) ((d + 1), 309, 339, [some (.inr (.inr 86)), some (.inl x1), some (.inl x2), some (.inl s0)], [], (am_sh, am_mm U4)) R
    refine ev_br (P := ¬ (U4 86 8) = 0) (σ1 := ((d + 1), 309, 358, [some (.inr (.inr 86)), some (.inl x1), some (.inl x2), some (.inl s0)], [], (am_sh, am_mm U4))) (σ2 := ((d + 1), 309, 346, [some (.inr (.inr 86)), some (.inl x1), some (.inl x2), some (.inl s0)], [], (am_sh, am_mm U4))) 3 (fun _ => rfl) (fun hc => ?_) (fun hc => ?_)
    · have haaa1a1 := haaa1a.1 hc
      subst haaa1a1
      exact ev_end 2 (fun _ => rfl)
    · have haaa1a2 := haaa1a.2 (Decidable.not_not.mp hc)
      refine ev_seg (σ1 := ((d + 1), 309, 357, [some (.inr (.inr 86)), some (.inl x1), some (.inl x2), some (.inl s0)], [.inl s0, .inl (w32 ((U4 86 46) - 1)), .inr (.inr 116)], (am_sh, am_mm U4))) 7 (fun _ => rfl) ?_
      refine eu_iast 116 (n := 20) rfl (by decide) rfl (fun _ => rfl) haaa1a2.1 ?_
      show Ev (am_kz N X) ((d + 1), 309, 358, [some (.inr (.inr 86)), some (.inl x1), some (.inl x2), some (.inl s0)], [], (am_sh, am_mm (am_upd U4 116 ((w32 ((U4 86 46) - 1)).toNat) s0))) R
      have haaa1a2a := haaa1a2.2
      subst haaa1a2a
      exact ev_end 2 (fun _ => rfl)
  · have haaa2 := haaa.2 (Decidable.not_not.mp hc)
    refine ev_seg (σ1 := ((d + 1), 309, 331, [some (.inr (.inr 86)), some (.inl x1), some (.inl x2), some (.inl s0)], [.inl (U3 86 4), .inl 1, .inr (.inr 86)], (am_sh, am_mm U3))) 4 (fun _ => rfl) ?_
    obtain ⟨U5, haaa2c, haaa2a⟩ := haaa2
    refine ev_cal (σc := (M_blame_s0 d 1 (U3 86 4) U3)) (fun _ => rfl) haaa2c ?_
    show Ev (am_kz N X) ((d + 1), 309, 334, [some (.inr (.inr 86)), some (.inl x1), some (.inl x2), some (.inl s0)], [], (am_sh, am_mm U5)) R
    refine ev_seg (σ1 := ((d + 1), 309, 336, [some (.inr (.inr 86)), some (.inl x1), some (.inl x2), some (.inl s0)], [.inl 3, .inr (.inr 86)], (am_sh, am_mm U5))) 2 (fun _ => rfl) ?_
    obtain ⟨U6, haaa2ac, haaa2aa⟩ := haaa2a
    refine ev_cal (σc := (M_opens_s0 d 3 U5)) (fun _ => rfl) haaa2ac ?_
    show Ev (am_kz N X) ((d + 1), 309, 339, [some (.inr (.inr 86)), some (.inl x1), some (.inl x2), some (.inl s0)], [], (am_sh, am_mm U6)) R
    refine ev_br (P := ¬ (U6 86 8) = 0) (σ1 := ((d + 1), 309, 358, [some (.inr (.inr 86)), some (.inl x1), some (.inl x2), some (.inl s0)], [], (am_sh, am_mm U6))) (σ2 := ((d + 1), 309, 346, [some (.inr (.inr 86)), some (.inl x1), some (.inl x2), some (.inl s0)], [], (am_sh, am_mm U6))) 3 (fun _ => rfl) (fun hc => ?_) (fun hc => ?_)
    · have haaa2aa1 := haaa2aa.1 hc
      subst haaa2aa1
      exact ev_end 2 (fun _ => rfl)
    · have haaa2aa2 := haaa2aa.2 (Decidable.not_not.mp hc)
      refine ev_seg (σ1 := ((d + 1), 309, 357, [some (.inr (.inr 86)), some (.inl x1), some (.inl x2), some (.inl s0)], [.inl s0, .inl (w32 ((U6 86 46) - 1)), .inr (.inr 116)], (am_sh, am_mm U6))) 7 (fun _ => rfl) ?_
      refine eu_iast 116 (n := 20) rfl (by decide) rfl (fun _ => rfl) haaa2aa2.1 ?_
      show Ev (am_kz N X) ((d + 1), 309, 358, [some (.inr (.inr 86)), some (.inl x1), some (.inl x2), some (.inl s0)], [], (am_sh, am_mm (am_upd U6 116 ((w32 ((U6 86 46) - 1)).toNat) s0))) R
      have haaa2aa2a := haaa2aa2.2
      subst haaa2aa2a
      exact ev_end 2 (fun _ => rfl)
set_option maxRecDepth 8000 in
theorem M_holdsTry_r0 {N : Nat} {X : Nat → Int} {d : Nat} {x1 x2 x3 : Int} {U : am_U} {R : Option am_V × am_M} (h : ∃ (r1 : Int) (U1 : am_U), EvK N X (M_homeOf_s0 d 1 x2 U) (rI r1 U1) ∧ ∃ (r2 : Int) (U2 : am_U), EvK N X (M_living_s0 d 1 r1 U1) (rI r2 U2) ∧ (0 ≤ (w32 ((w32 ((w32 ((w32 ((w32 ((w32 ((w32 ((w32 ((w32 (16 * x1)) + x2)) * 17)) + x3)) + 1)) * 12)) + r1)) * 7)) + r2)) ∧ (w32 ((w32 ((w32 ((w32 ((w32 ((w32 ((w32 ((w32 ((w32 (16 * x1)) + x2)) * 17)) + x3)) + 1)) * 12)) + r1)) * 7)) + r2)) < 182784) ∧ (((U2 128 ((w32 ((w32 ((w32 ((w32 ((w32 ((w32 ((w32 ((w32 ((w32 (16 * x1)) + x2)) * 17)) + x3)) + 1)) * 12)) + r1)) * 7)) + r2)).toNat)) ≠ 0) → (((U2 128 ((w32 ((w32 ((w32 ((w32 ((w32 ((w32 ((w32 ((w32 ((w32 (16 * x1)) + x2)) * 17)) + x3)) + 1)) * 12)) + r1)) * 7)) + r2)).toNat)) ≠ 2) → R = rI 0 U2) ∧ (((U2 128 ((w32 ((w32 ((w32 ((w32 ((w32 ((w32 ((w32 ((w32 ((w32 (16 * x1)) + x2)) * 17)) + x3)) + 1)) * 12)) + r1)) * 7)) + r2)).toNat)) = 2) → R = rI 1 U2)) ∧ (((U2 128 ((w32 ((w32 ((w32 ((w32 ((w32 ((w32 ((w32 ((w32 ((w32 (16 * x1)) + x2)) * 17)) + x3)) + 1)) * 12)) + r1)) * 7)) + r2)).toNat)) = 0) → ((x3 ≠ (-1)) → ∃ (r3 : Int) (U3 : am_U), EvK N X (M_numberOf_s0 d 1 x3 U2) (rI r3 U3) ∧ ∃ (r4 : Int) (U4 : am_U), EvK N X (M_lawHolds_s0 d 1 x1 x2 r3 U3) (rI r4 U4) ∧ ((r4 = 0) → (-128 ≤ ((Int32.ofInt 1).toInt8.toInt32.toInt) ∧ ((Int32.ofInt 1).toInt8.toInt32.toInt) < 128) ∧ ((((am_upd U4 128 ((w32 ((w32 ((w32 ((w32 ((w32 ((w32 ((w32 ((w32 ((w32 (16 * x1)) + x2)) * 17)) + x3)) + 1)) * 12)) + r1)) * 7)) + r2)).toNat) ((Int32.ofInt 1).toInt8.toInt32.toInt)) 128 ((w32 ((w32 ((w32 ((w32 ((w32 ((w32 ((w32 ((w32 ((w32 (16 * x1)) + x2)) * 17)) + x3)) + 1)) * 12)) + r1)) * 7)) + r2)).toNat)) ≠ 2) → R = rI 0 (am_upd U4 128 ((w32 ((w32 ((w32 ((w32 ((w32 ((w32 ((w32 ((w32 ((w32 (16 * x1)) + x2)) * 17)) + x3)) + 1)) * 12)) + r1)) * 7)) + r2)).toNat) ((Int32.ofInt 1).toInt8.toInt32.toInt))) ∧ ((((am_upd U4 128 ((w32 ((w32 ((w32 ((w32 ((w32 ((w32 ((w32 ((w32 ((w32 (16 * x1)) + x2)) * 17)) + x3)) + 1)) * 12)) + r1)) * 7)) + r2)).toNat) ((Int32.ofInt 1).toInt8.toInt32.toInt)) 128 ((w32 ((w32 ((w32 ((w32 ((w32 ((w32 ((w32 ((w32 ((w32 (16 * x1)) + x2)) * 17)) + x3)) + 1)) * 12)) + r1)) * 7)) + r2)).toNat)) = 2) → R = rI 1 (am_upd U4 128 ((w32 ((w32 ((w32 ((w32 ((w32 ((w32 ((w32 ((w32 ((w32 (16 * x1)) + x2)) * 17)) + x3)) + 1)) * 12)) + r1)) * 7)) + r2)).toNat) ((Int32.ofInt 1).toInt8.toInt32.toInt)))) ∧ ((r4 ≠ 0) → (-128 ≤ ((Int32.ofInt 2).toInt8.toInt32.toInt) ∧ ((Int32.ofInt 2).toInt8.toInt32.toInt) < 128) ∧ ((((am_upd U4 128 ((w32 ((w32 ((w32 ((w32 ((w32 ((w32 ((w32 ((w32 ((w32 (16 * x1)) + x2)) * 17)) + x3)) + 1)) * 12)) + r1)) * 7)) + r2)).toNat) ((Int32.ofInt 2).toInt8.toInt32.toInt)) 128 ((w32 ((w32 ((w32 ((w32 ((w32 ((w32 ((w32 ((w32 ((w32 (16 * x1)) + x2)) * 17)) + x3)) + 1)) * 12)) + r1)) * 7)) + r2)).toNat)) ≠ 2) → R = rI 0 (am_upd U4 128 ((w32 ((w32 ((w32 ((w32 ((w32 ((w32 ((w32 ((w32 ((w32 (16 * x1)) + x2)) * 17)) + x3)) + 1)) * 12)) + r1)) * 7)) + r2)).toNat) ((Int32.ofInt 2).toInt8.toInt32.toInt))) ∧ ((((am_upd U4 128 ((w32 ((w32 ((w32 ((w32 ((w32 ((w32 ((w32 ((w32 ((w32 (16 * x1)) + x2)) * 17)) + x3)) + 1)) * 12)) + r1)) * 7)) + r2)).toNat) ((Int32.ofInt 2).toInt8.toInt32.toInt)) 128 ((w32 ((w32 ((w32 ((w32 ((w32 ((w32 ((w32 ((w32 ((w32 (16 * x1)) + x2)) * 17)) + x3)) + 1)) * 12)) + r1)) * 7)) + r2)).toNat)) = 2) → R = rI 1 (am_upd U4 128 ((w32 ((w32 ((w32 ((w32 ((w32 ((w32 ((w32 ((w32 ((w32 (16 * x1)) + x2)) * 17)) + x3)) + 1)) * 12)) + r1)) * 7)) + r2)).toNat) ((Int32.ofInt 2).toInt8.toInt32.toInt))))) ∧ ((x3 = (-1)) → ∃ (r5 : Int) (U5 : am_U), EvK N X (M_lawHolds_s0 d 1 x1 x2 0 U2) (rI r5 U5) ∧ ((r5 = 0) → (-128 ≤ ((Int32.ofInt 1).toInt8.toInt32.toInt) ∧ ((Int32.ofInt 1).toInt8.toInt32.toInt) < 128) ∧ ((((am_upd U5 128 ((w32 ((w32 ((w32 ((w32 ((w32 ((w32 ((w32 ((w32 ((w32 (16 * x1)) + x2)) * 17)) + x3)) + 1)) * 12)) + r1)) * 7)) + r2)).toNat) ((Int32.ofInt 1).toInt8.toInt32.toInt)) 128 ((w32 ((w32 ((w32 ((w32 ((w32 ((w32 ((w32 ((w32 ((w32 (16 * x1)) + x2)) * 17)) + x3)) + 1)) * 12)) + r1)) * 7)) + r2)).toNat)) ≠ 2) → R = rI 0 (am_upd U5 128 ((w32 ((w32 ((w32 ((w32 ((w32 ((w32 ((w32 ((w32 ((w32 (16 * x1)) + x2)) * 17)) + x3)) + 1)) * 12)) + r1)) * 7)) + r2)).toNat) ((Int32.ofInt 1).toInt8.toInt32.toInt))) ∧ ((((am_upd U5 128 ((w32 ((w32 ((w32 ((w32 ((w32 ((w32 ((w32 ((w32 ((w32 (16 * x1)) + x2)) * 17)) + x3)) + 1)) * 12)) + r1)) * 7)) + r2)).toNat) ((Int32.ofInt 1).toInt8.toInt32.toInt)) 128 ((w32 ((w32 ((w32 ((w32 ((w32 ((w32 ((w32 ((w32 ((w32 (16 * x1)) + x2)) * 17)) + x3)) + 1)) * 12)) + r1)) * 7)) + r2)).toNat)) = 2) → R = rI 1 (am_upd U5 128 ((w32 ((w32 ((w32 ((w32 ((w32 ((w32 ((w32 ((w32 ((w32 (16 * x1)) + x2)) * 17)) + x3)) + 1)) * 12)) + r1)) * 7)) + r2)).toNat) ((Int32.ofInt 1).toInt8.toInt32.toInt)))) ∧ ((r5 ≠ 0) → (-128 ≤ ((Int32.ofInt 2).toInt8.toInt32.toInt) ∧ ((Int32.ofInt 2).toInt8.toInt32.toInt) < 128) ∧ ((((am_upd U5 128 ((w32 ((w32 ((w32 ((w32 ((w32 ((w32 ((w32 ((w32 ((w32 (16 * x1)) + x2)) * 17)) + x3)) + 1)) * 12)) + r1)) * 7)) + r2)).toNat) ((Int32.ofInt 2).toInt8.toInt32.toInt)) 128 ((w32 ((w32 ((w32 ((w32 ((w32 ((w32 ((w32 ((w32 ((w32 (16 * x1)) + x2)) * 17)) + x3)) + 1)) * 12)) + r1)) * 7)) + r2)).toNat)) ≠ 2) → R = rI 0 (am_upd U5 128 ((w32 ((w32 ((w32 ((w32 ((w32 ((w32 ((w32 ((w32 ((w32 (16 * x1)) + x2)) * 17)) + x3)) + 1)) * 12)) + r1)) * 7)) + r2)).toNat) ((Int32.ofInt 2).toInt8.toInt32.toInt))) ∧ ((((am_upd U5 128 ((w32 ((w32 ((w32 ((w32 ((w32 ((w32 ((w32 ((w32 ((w32 (16 * x1)) + x2)) * 17)) + x3)) + 1)) * 12)) + r1)) * 7)) + r2)).toNat) ((Int32.ofInt 2).toInt8.toInt32.toInt)) 128 ((w32 ((w32 ((w32 ((w32 ((w32 ((w32 ((w32 ((w32 ((w32 (16 * x1)) + x2)) * 17)) + x3)) + 1)) * 12)) + r1)) * 7)) + r2)).toNat)) = 2) → R = rI 1 (am_upd U5 128 ((w32 ((w32 ((w32 ((w32 ((w32 ((w32 ((w32 ((w32 ((w32 (16 * x1)) + x2)) * 17)) + x3)) + 1)) * 12)) + r1)) * 7)) + r2)).toNat) ((Int32.ofInt 2).toInt8.toInt32.toInt))))))) : EvK N X (M_holdsTry_s0 (d + 1) x1 x2 x3 U) R := by
  show Ev (am_kz N X) ((d + 1), 311, 0, [some (.inr (.inr 86)), some (.inl x1), some (.inl x2), some (.inl x3), none, none], [], (am_sh, am_mm U)) R
  refine ev_seg (σ1 := ((d + 1), 311, 3, [some (.inr (.inr 86)), some (.inl x1), some (.inl x2), some (.inl x3), none, none], [.inl x2, .inl 1, .inr (.inr 86)], (am_sh, am_mm U))) 3 (fun _ => rfl) ?_
  obtain ⟨r1, U1, hc, ha⟩ := h
  refine ev_cal (σc := (M_homeOf_s0 d 1 x2 U)) (fun _ => rfl) hc ?_
  show Ev (am_kz N X) ((d + 1), 311, 6, [some (.inr (.inr 86)), some (.inl x1), some (.inl x2), some (.inl x3), none, none], [.inl r1], (am_sh, am_mm U1)) R
  refine ev_seg (σ1 := ((d + 1), 311, 34, [some (.inr (.inr 86)), some (.inl x1), some (.inl x2), some (.inl x3), some (.inl r1), none], [.inl r1, .inl 1, .inr (.inr 86), .inl (w32 ((w32 ((w32 ((w32 ((w32 ((w32 ((w32 ((w32 (16 * x1)) + x2)) * 17)) + x3)) + 1)) * 12)) + r1)) * 7))], (am_sh, am_mm U1))) 21 (fun _ => rfl) ?_
  obtain ⟨r2, U2, hac, haa⟩ := ha
  refine ev_cal (σc := (M_living_s0 d 1 r1 U1)) (fun _ => rfl) hac ?_
  show Ev (am_kz N X) ((d + 1), 311, 37, [some (.inr (.inr 86)), some (.inl x1), some (.inl x2), some (.inl x3), some (.inl r1), none], [.inl r2, .inl (w32 ((w32 ((w32 ((w32 ((w32 ((w32 ((w32 ((w32 (16 * x1)) + x2)) * 17)) + x3)) + 1)) * 12)) + r1)) * 7))], (am_sh, am_mm U2)) R
  refine ev_seg (σ1 := ((d + 1), 311, 46, [some (.inr (.inr 86)), some (.inl x1), some (.inl x2), some (.inl x3), some (.inl r1), some (.inl (w32 ((w32 ((w32 ((w32 ((w32 ((w32 ((w32 ((w32 ((w32 (16 * x1)) + x2)) * 17)) + x3)) + 1)) * 12)) + r1)) * 7)) + r2)))], [.inl (w32 ((w32 ((w32 ((w32 ((w32 ((w32 ((w32 ((w32 ((w32 (16 * x1)) + x2)) * 17)) + x3)) + 1)) * 12)) + r1)) * 7)) + r2)), .inr (.inr 128)], (am_sh, am_mm U2))) 5 (fun _ => rfl) ?_
  refine eu_bald 128 (n := 182784) rfl (by decide) rfl (fun _ => rfl) haa.1 ?_
  show Ev (am_kz N X) ((d + 1), 311, 47, [some (.inr (.inr 86)), some (.inl x1), some (.inl x2), some (.inl x3), some (.inl r1), some (.inl (w32 ((w32 ((w32 ((w32 ((w32 ((w32 ((w32 ((w32 ((w32 (16 * x1)) + x2)) * 17)) + x3)) + 1)) * 12)) + r1)) * 7)) + r2)))], [.inl (U2 128 ((w32 ((w32 ((w32 ((w32 ((w32 ((w32 ((w32 ((w32 ((w32 (16 * x1)) + x2)) * 17)) + x3)) + 1)) * 12)) + r1)) * 7)) + r2)).toNat))], (am_sh, am_mm U2)) R
  have haaa := haa.2
  refine ev_br (P := ¬ (U2 128 ((w32 ((w32 ((w32 ((w32 ((w32 ((w32 ((w32 ((w32 ((w32 (16 * x1)) + x2)) * 17)) + x3)) + 1)) * 12)) + r1)) * 7)) + r2)).toNat)) = 0) (σ1 := ((d + 1), 311, 89, [some (.inr (.inr 86)), some (.inl x1), some (.inl x2), some (.inl x3), some (.inl r1), some (.inl (w32 ((w32 ((w32 ((w32 ((w32 ((w32 ((w32 ((w32 ((w32 (16 * x1)) + x2)) * 17)) + x3)) + 1)) * 12)) + r1)) * 7)) + r2)))], [], (am_sh, am_mm U2))) (σ2 := ((d + 1), 311, 50, [some (.inr (.inr 86)), some (.inl x1), some (.inl x2), some (.inl x3), some (.inl r1), some (.inl (w32 ((w32 ((w32 ((w32 ((w32 ((w32 ((w32 ((w32 ((w32 (16 * x1)) + x2)) * 17)) + x3)) + 1)) * 12)) + r1)) * 7)) + r2)))], [], (am_sh, am_mm U2))) 1 (fun _ => rfl) (fun hc => ?_) (fun hc => ?_)
  · have haaa1 := haaa.1 hc
    refine ev_seg (σ1 := ((d + 1), 311, 95, [some (.inr (.inr 86)), some (.inl x1), some (.inl x2), some (.inl x3), some (.inl r1), some (.inl (w32 ((w32 ((w32 ((w32 ((w32 ((w32 ((w32 ((w32 ((w32 (16 * x1)) + x2)) * 17)) + x3)) + 1)) * 12)) + r1)) * 7)) + r2)))], [.inl (w32 ((w32 ((w32 ((w32 ((w32 ((w32 ((w32 ((w32 ((w32 (16 * x1)) + x2)) * 17)) + x3)) + 1)) * 12)) + r1)) * 7)) + r2)), .inr (.inr 128)], (am_sh, am_mm U2))) 3 (fun _ => rfl) ?_
    refine eu_bald 128 (n := 182784) rfl (by decide) rfl (fun _ => rfl) haa.1 ?_
    show Ev (am_kz N X) ((d + 1), 311, 96, [some (.inr (.inr 86)), some (.inl x1), some (.inl x2), some (.inl x3), some (.inl r1), some (.inl (w32 ((w32 ((w32 ((w32 ((w32 ((w32 ((w32 ((w32 ((w32 (16 * x1)) + x2)) * 17)) + x3)) + 1)) * 12)) + r1)) * 7)) + r2)))], [.inl (U2 128 ((w32 ((w32 ((w32 ((w32 ((w32 ((w32 ((w32 ((w32 ((w32 (16 * x1)) + x2)) * 17)) + x3)) + 1)) * 12)) + r1)) * 7)) + r2)).toNat))], (am_sh, am_mm U2)) R
    refine ev_br (P := ¬ (U2 128 ((w32 ((w32 ((w32 ((w32 ((w32 ((w32 ((w32 ((w32 ((w32 (16 * x1)) + x2)) * 17)) + x3)) + 1)) * 12)) + r1)) * 7)) + r2)).toNat)) = 2) (σ1 := ((d + 1), 311, 104, [some (.inr (.inr 86)), some (.inl x1), some (.inl x2), some (.inl x3), some (.inl r1), some (.inl (w32 ((w32 ((w32 ((w32 ((w32 ((w32 ((w32 ((w32 ((w32 (16 * x1)) + x2)) * 17)) + x3)) + 1)) * 12)) + r1)) * 7)) + r2)))], [], (am_sh, am_mm U2))) (σ2 := ((d + 1), 311, 100, [some (.inr (.inr 86)), some (.inl x1), some (.inl x2), some (.inl x3), some (.inl r1), some (.inl (w32 ((w32 ((w32 ((w32 ((w32 ((w32 ((w32 ((w32 ((w32 (16 * x1)) + x2)) * 17)) + x3)) + 1)) * 12)) + r1)) * 7)) + r2)))], [], (am_sh, am_mm U2))) 2 (fun _ => rfl) (fun hc => ?_) (fun hc => ?_)
    · have haaa11 := haaa1.1 hc
      subst haaa11
      exact ev_end 2 (fun _ => rfl)
    · have haaa12 := haaa1.2 (Decidable.not_not.mp hc)
      subst haaa12
      exact ev_end 3 (fun _ => rfl)
  · have haaa2 := haaa.2 (Decidable.not_not.mp hc)
    refine ev_br (P := ¬ x3 = (-1)) (σ1 := ((d + 1), 311, 69, [some (.inr (.inr 86)), some (.inl x1), some (.inl x2), some (.inl x3), some (.inl r1), some (.inl (w32 ((w32 ((w32 ((w32 ((w32 ((w32 ((w32 ((w32 ((w32 (16 * x1)) + x2)) * 17)) + x3)) + 1)) * 12)) + r1)) * 7)) + r2)))], [.inl x2, .inl x1, .inl 1, .inr (.inr 86), .inl (w32 ((w32 ((w32 ((w32 ((w32 ((w32 ((w32 ((w32 ((w32 (16 * x1)) + x2)) * 17)) + x3)) + 1)) * 12)) + r1)) * 7)) + r2)), .inr (.inr 128)], (am_sh, am_mm U2))) (σ2 := ((d + 1), 311, 65, [some (.inr (.inr 86)), some (.inl x1), some (.inl x2), some (.inl x3), some (.inl r1), some (.inl (w32 ((w32 ((w32 ((w32 ((w32 ((w32 ((w32 ((w32 ((w32 (16 * x1)) + x2)) * 17)) + x3)) + 1)) * 12)) + r1)) * 7)) + r2)))], [.inl x2, .inl x1, .inl 1, .inr (.inr 86), .inl (w32 ((w32 ((w32 ((w32 ((w32 ((w32 ((w32 ((w32 ((w32 (16 * x1)) + x2)) * 17)) + x3)) + 1)) * 12)) + r1)) * 7)) + r2)), .inr (.inr 128)], (am_sh, am_mm U2))) 10 (fun _ => rfl) (fun hc => ?_) (fun hc => ?_)
    · have haaa21 := haaa2.1 hc
      refine ev_seg (σ1 := ((d + 1), 311, 72, [some (.inr (.inr 86)), some (.inl x1), some (.inl x2), some (.inl x3), some (.inl r1), some (.inl (w32 ((w32 ((w32 ((w32 ((w32 ((w32 ((w32 ((w32 ((w32 (16 * x1)) + x2)) * 17)) + x3)) + 1)) * 12)) + r1)) * 7)) + r2)))], [.inl x3, .inl 1, .inr (.inr 86), .inl x2, .inl x1, .inl 1, .inr (.inr 86), .inl (w32 ((w32 ((w32 ((w32 ((w32 ((w32 ((w32 ((w32 ((w32 (16 * x1)) + x2)) * 17)) + x3)) + 1)) * 12)) + r1)) * 7)) + r2)), .inr (.inr 128)], (am_sh, am_mm U2))) 3 (fun _ => rfl) ?_
      obtain ⟨r3, U3, haaa21c, haaa21a⟩ := haaa21
      refine ev_cal (σc := (M_numberOf_s0 d 1 x3 U2)) (fun _ => rfl) haaa21c ?_
      show Ev (am_kz N X) ((d + 1), 311, 75, [some (.inr (.inr 86)), some (.inl x1), some (.inl x2), some (.inl x3), some (.inl r1), some (.inl (w32 ((w32 ((w32 ((w32 ((w32 ((w32 ((w32 ((w32 ((w32 (16 * x1)) + x2)) * 17)) + x3)) + 1)) * 12)) + r1)) * 7)) + r2)))], [.inl r3, .inl x2, .inl x1, .inl 1, .inr (.inr 86), .inl (w32 ((w32 ((w32 ((w32 ((w32 ((w32 ((w32 ((w32 ((w32 (16 * x1)) + x2)) * 17)) + x3)) + 1)) * 12)) + r1)) * 7)) + r2)), .inr (.inr 128)], (am_sh, am_mm U3)) R
      refine ev_seg (σ1 := ((d + 1), 311, 76, [some (.inr (.inr 86)), some (.inl x1), some (.inl x2), some (.inl x3), some (.inl r1), some (.inl (w32 ((w32 ((w32 ((w32 ((w32 ((w32 ((w32 ((w32 ((w32 (16 * x1)) + x2)) * 17)) + x3)) + 1)) * 12)) + r1)) * 7)) + r2)))], [.inr (.inl r3), .inl x2, .inl x1, .inl 1, .inr (.inr 86), .inl (w32 ((w32 ((w32 ((w32 ((w32 ((w32 ((w32 ((w32 ((w32 (16 * x1)) + x2)) * 17)) + x3)) + 1)) * 12)) + r1)) * 7)) + r2)), .inr (.inr 128)], (am_sh, am_mm U3))) 1 (fun _ => rfl) ?_
      obtain ⟨r4, U4, haaa21ac, haaa21aa⟩ := haaa21a
      refine ev_cal (σc := (M_lawHolds_s0 d 1 x1 x2 r3 U3)) (fun _ => rfl) haaa21ac ?_
      show Ev (am_kz N X) ((d + 1), 311, 79, [some (.inr (.inr 86)), some (.inl x1), some (.inl x2), some (.inl x3), some (.inl r1), some (.inl (w32 ((w32 ((w32 ((w32 ((w32 ((w32 ((w32 ((w32 ((w32 (16 * x1)) + x2)) * 17)) + x3)) + 1)) * 12)) + r1)) * 7)) + r2)))], [.inl r4, .inl (w32 ((w32 ((w32 ((w32 ((w32 ((w32 ((w32 ((w32 ((w32 (16 * x1)) + x2)) * 17)) + x3)) + 1)) * 12)) + r1)) * 7)) + r2)), .inr (.inr 128)], (am_sh, am_mm U4)) R
      refine ev_br (P := r4 = 0) (σ1 := ((d + 1), 311, 86, [some (.inr (.inr 86)), some (.inl x1), some (.inl x2), some (.inl x3), some (.inl r1), some (.inl (w32 ((w32 ((w32 ((w32 ((w32 ((w32 ((w32 ((w32 ((w32 (16 * x1)) + x2)) * 17)) + x3)) + 1)) * 12)) + r1)) * 7)) + r2)))], [.inl (w32 ((w32 ((w32 ((w32 ((w32 ((w32 ((w32 ((w32 ((w32 (16 * x1)) + x2)) * 17)) + x3)) + 1)) * 12)) + r1)) * 7)) + r2)), .inr (.inr 128)], (am_sh, am_mm U4))) (σ2 := ((d + 1), 311, 82, [some (.inr (.inr 86)), some (.inl x1), some (.inl x2), some (.inl x3), some (.inl r1), some (.inl (w32 ((w32 ((w32 ((w32 ((w32 ((w32 ((w32 ((w32 ((w32 (16 * x1)) + x2)) * 17)) + x3)) + 1)) * 12)) + r1)) * 7)) + r2)))], [.inl (w32 ((w32 ((w32 ((w32 ((w32 ((w32 ((w32 ((w32 ((w32 (16 * x1)) + x2)) * 17)) + x3)) + 1)) * 12)) + r1)) * 7)) + r2)), .inr (.inr 128)], (am_sh, am_mm U4))) 1 (fun _ => rfl) (fun hc => ?_) (fun hc => ?_)
      · have haaa21aa1 := haaa21aa.1 hc
        refine ev_seg (σ1 := ((d + 1), 311, 88, [some (.inr (.inr 86)), some (.inl x1), some (.inl x2), some (.inl x3), some (.inl r1), some (.inl (w32 ((w32 ((w32 ((w32 ((w32 ((w32 ((w32 ((w32 ((w32 (16 * x1)) + x2)) * 17)) + x3)) + 1)) * 12)) + r1)) * 7)) + r2)))], [.inl ((Int32.ofInt 1).toInt8.toInt32.toInt), .inl (w32 ((w32 ((w32 ((w32 ((w32 ((w32 ((w32 ((w32 ((w32 (16 * x1)) + x2)) * 17)) + x3)) + 1)) * 12)) + r1)) * 7)) + r2)), .inr (.inr 128)], (am_sh, am_mm U4))) 2 (fun _ => rfl) ?_
        refine eu_bast 128 haaa21aa1.1 (n := 182784) rfl (by decide) rfl (fun _ => rfl) haa.1 ?_
        show Ev (am_kz N X) ((d + 1), 311, 89, [some (.inr (.inr 86)), some (.inl x1), some (.inl x2), some (.inl x3), some (.inl r1), some (.inl (w32 ((w32 ((w32 ((w32 ((w32 ((w32 ((w32 ((w32 ((w32 (16 * x1)) + x2)) * 17)) + x3)) + 1)) * 12)) + r1)) * 7)) + r2)))], [], (am_sh, am_mm (am_upd U4 128 ((w32 ((w32 ((w32 ((w32 ((w32 ((w32 ((w32 ((w32 ((w32 (16 * x1)) + x2)) * 17)) + x3)) + 1)) * 12)) + r1)) * 7)) + r2)).toNat) ((Int32.ofInt 1).toInt8.toInt32.toInt)))) R
        have haaa21aa1a := haaa21aa1.2
        refine ev_seg (σ1 := ((d + 1), 311, 95, [some (.inr (.inr 86)), some (.inl x1), some (.inl x2), some (.inl x3), some (.inl r1), some (.inl (w32 ((w32 ((w32 ((w32 ((w32 ((w32 ((w32 ((w32 ((w32 (16 * x1)) + x2)) * 17)) + x3)) + 1)) * 12)) + r1)) * 7)) + r2)))], [.inl (w32 ((w32 ((w32 ((w32 ((w32 ((w32 ((w32 ((w32 ((w32 (16 * x1)) + x2)) * 17)) + x3)) + 1)) * 12)) + r1)) * 7)) + r2)), .inr (.inr 128)], (am_sh, am_mm (am_upd U4 128 ((w32 ((w32 ((w32 ((w32 ((w32 ((w32 ((w32 ((w32 ((w32 (16 * x1)) + x2)) * 17)) + x3)) + 1)) * 12)) + r1)) * 7)) + r2)).toNat) ((Int32.ofInt 1).toInt8.toInt32.toInt))))) 3 (fun _ => rfl) ?_
        refine eu_bald 128 (n := 182784) rfl (by decide) rfl (fun _ => rfl) haa.1 ?_
        show Ev (am_kz N X) ((d + 1), 311, 96, [some (.inr (.inr 86)), some (.inl x1), some (.inl x2), some (.inl x3), some (.inl r1), some (.inl (w32 ((w32 ((w32 ((w32 ((w32 ((w32 ((w32 ((w32 ((w32 (16 * x1)) + x2)) * 17)) + x3)) + 1)) * 12)) + r1)) * 7)) + r2)))], [.inl ((am_upd U4 128 ((w32 ((w32 ((w32 ((w32 ((w32 ((w32 ((w32 ((w32 ((w32 (16 * x1)) + x2)) * 17)) + x3)) + 1)) * 12)) + r1)) * 7)) + r2)).toNat) ((Int32.ofInt 1).toInt8.toInt32.toInt)) 128 ((w32 ((w32 ((w32 ((w32 ((w32 ((w32 ((w32 ((w32 ((w32 (16 * x1)) + x2)) * 17)) + x3)) + 1)) * 12)) + r1)) * 7)) + r2)).toNat))], (am_sh, am_mm (am_upd U4 128 ((w32 ((w32 ((w32 ((w32 ((w32 ((w32 ((w32 ((w32 ((w32 (16 * x1)) + x2)) * 17)) + x3)) + 1)) * 12)) + r1)) * 7)) + r2)).toNat) ((Int32.ofInt 1).toInt8.toInt32.toInt)))) R
        refine ev_br (P := ¬ ((am_upd U4 128 ((w32 ((w32 ((w32 ((w32 ((w32 ((w32 ((w32 ((w32 ((w32 (16 * x1)) + x2)) * 17)) + x3)) + 1)) * 12)) + r1)) * 7)) + r2)).toNat) ((Int32.ofInt 1).toInt8.toInt32.toInt)) 128 ((w32 ((w32 ((w32 ((w32 ((w32 ((w32 ((w32 ((w32 ((w32 (16 * x1)) + x2)) * 17)) + x3)) + 1)) * 12)) + r1)) * 7)) + r2)).toNat)) = 2) (σ1 := ((d + 1), 311, 104, [some (.inr (.inr 86)), some (.inl x1), some (.inl x2), some (.inl x3), some (.inl r1), some (.inl (w32 ((w32 ((w32 ((w32 ((w32 ((w32 ((w32 ((w32 ((w32 (16 * x1)) + x2)) * 17)) + x3)) + 1)) * 12)) + r1)) * 7)) + r2)))], [], (am_sh, am_mm (am_upd U4 128 ((w32 ((w32 ((w32 ((w32 ((w32 ((w32 ((w32 ((w32 ((w32 (16 * x1)) + x2)) * 17)) + x3)) + 1)) * 12)) + r1)) * 7)) + r2)).toNat) ((Int32.ofInt 1).toInt8.toInt32.toInt))))) (σ2 := ((d + 1), 311, 100, [some (.inr (.inr 86)), some (.inl x1), some (.inl x2), some (.inl x3), some (.inl r1), some (.inl (w32 ((w32 ((w32 ((w32 ((w32 ((w32 ((w32 ((w32 ((w32 (16 * x1)) + x2)) * 17)) + x3)) + 1)) * 12)) + r1)) * 7)) + r2)))], [], (am_sh, am_mm (am_upd U4 128 ((w32 ((w32 ((w32 ((w32 ((w32 ((w32 ((w32 ((w32 ((w32 (16 * x1)) + x2)) * 17)) + x3)) + 1)) * 12)) + r1)) * 7)) + r2)).toNat) ((Int32.ofInt 1).toInt8.toInt32.toInt))))) 2 (fun _ => rfl) (fun hc => ?_) (fun hc => ?_)
        · have haaa21aa1a1 := haaa21aa1a.1 hc
          subst haaa21aa1a1
          exact ev_end 2 (fun _ => rfl)
        · have haaa21aa1a2 := haaa21aa1a.2 (Decidable.not_not.mp hc)
          subst haaa21aa1a2
          exact ev_end 3 (fun _ => rfl)
      · have haaa21aa2 := haaa21aa.2 hc
        refine ev_seg (σ1 := ((d + 1), 311, 88, [some (.inr (.inr 86)), some (.inl x1), some (.inl x2), some (.inl x3), some (.inl r1), some (.inl (w32 ((w32 ((w32 ((w32 ((w32 ((w32 ((w32 ((w32 ((w32 (16 * x1)) + x2)) * 17)) + x3)) + 1)) * 12)) + r1)) * 7)) + r2)))], [.inl ((Int32.ofInt 2).toInt8.toInt32.toInt), .inl (w32 ((w32 ((w32 ((w32 ((w32 ((w32 ((w32 ((w32 ((w32 (16 * x1)) + x2)) * 17)) + x3)) + 1)) * 12)) + r1)) * 7)) + r2)), .inr (.inr 128)], (am_sh, am_mm U4))) 3 (fun _ => rfl) ?_
        refine eu_bast 128 haaa21aa2.1 (n := 182784) rfl (by decide) rfl (fun _ => rfl) haa.1 ?_
        show Ev (am_kz N X) ((d + 1), 311, 89, [some (.inr (.inr 86)), some (.inl x1), some (.inl x2), some (.inl x3), some (.inl r1), some (.inl (w32 ((w32 ((w32 ((w32 ((w32 ((w32 ((w32 ((w32 ((w32 (16 * x1)) + x2)) * 17)) + x3)) + 1)) * 12)) + r1)) * 7)) + r2)))], [], (am_sh, am_mm (am_upd U4 128 ((w32 ((w32 ((w32 ((w32 ((w32 ((w32 ((w32 ((w32 ((w32 (16 * x1)) + x2)) * 17)) + x3)) + 1)) * 12)) + r1)) * 7)) + r2)).toNat) ((Int32.ofInt 2).toInt8.toInt32.toInt)))) R
        have haaa21aa2a := haaa21aa2.2
        refine ev_seg (σ1 := ((d + 1), 311, 95, [some (.inr (.inr 86)), some (.inl x1), some (.inl x2), some (.inl x3), some (.inl r1), some (.inl (w32 ((w32 ((w32 ((w32 ((w32 ((w32 ((w32 ((w32 ((w32 (16 * x1)) + x2)) * 17)) + x3)) + 1)) * 12)) + r1)) * 7)) + r2)))], [.inl (w32 ((w32 ((w32 ((w32 ((w32 ((w32 ((w32 ((w32 ((w32 (16 * x1)) + x2)) * 17)) + x3)) + 1)) * 12)) + r1)) * 7)) + r2)), .inr (.inr 128)], (am_sh, am_mm (am_upd U4 128 ((w32 ((w32 ((w32 ((w32 ((w32 ((w32 ((w32 ((w32 ((w32 (16 * x1)) + x2)) * 17)) + x3)) + 1)) * 12)) + r1)) * 7)) + r2)).toNat) ((Int32.ofInt 2).toInt8.toInt32.toInt))))) 3 (fun _ => rfl) ?_
        refine eu_bald 128 (n := 182784) rfl (by decide) rfl (fun _ => rfl) haa.1 ?_
        show Ev (am_kz N X) ((d + 1), 311, 96, [some (.inr (.inr 86)), some (.inl x1), some (.inl x2), some (.inl x3), some (.inl r1), some (.inl (w32 ((w32 ((w32 ((w32 ((w32 ((w32 ((w32 ((w32 ((w32 (16 * x1)) + x2)) * 17)) + x3)) + 1)) * 12)) + r1)) * 7)) + r2)))], [.inl ((am_upd U4 128 ((w32 ((w32 ((w32 ((w32 ((w32 ((w32 ((w32 ((w32 ((w32 (16 * x1)) + x2)) * 17)) + x3)) + 1)) * 12)) + r1)) * 7)) + r2)).toNat) ((Int32.ofInt 2).toInt8.toInt32.toInt)) 128 ((w32 ((w32 ((w32 ((w32 ((w32 ((w32 ((w32 ((w32 ((w32 (16 * x1)) + x2)) * 17)) + x3)) + 1)) * 12)) + r1)) * 7)) + r2)).toNat))], (am_sh, am_mm (am_upd U4 128 ((w32 ((w32 ((w32 ((w32 ((w32 ((w32 ((w32 ((w32 ((w32 (16 * x1)) + x2)) * 17)) + x3)) + 1)) * 12)) + r1)) * 7)) + r2)).toNat) ((Int32.ofInt 2).toInt8.toInt32.toInt)))) R
        refine ev_br (P := ¬ ((am_upd U4 128 ((w32 ((w32 ((w32 ((w32 ((w32 ((w32 ((w32 ((w32 ((w32 (16 * x1)) + x2)) * 17)) + x3)) + 1)) * 12)) + r1)) * 7)) + r2)).toNat) ((Int32.ofInt 2).toInt8.toInt32.toInt)) 128 ((w32 ((w32 ((w32 ((w32 ((w32 ((w32 ((w32 ((w32 ((w32 (16 * x1)) + x2)) * 17)) + x3)) + 1)) * 12)) + r1)) * 7)) + r2)).toNat)) = 2) (σ1 := ((d + 1), 311, 104, [some (.inr (.inr 86)), some (.inl x1), some (.inl x2), some (.inl x3), some (.inl r1), some (.inl (w32 ((w32 ((w32 ((w32 ((w32 ((w32 ((w32 ((w32 ((w32 (16 * x1)) + x2)) * 17)) + x3)) + 1)) * 12)) + r1)) * 7)) + r2)))], [], (am_sh, am_mm (am_upd U4 128 ((w32 ((w32 ((w32 ((w32 ((w32 ((w32 ((w32 ((w32 ((w32 (16 * x1)) + x2)) * 17)) + x3)) + 1)) * 12)) + r1)) * 7)) + r2)).toNat) ((Int32.ofInt 2).toInt8.toInt32.toInt))))) (σ2 := ((d + 1), 311, 100, [some (.inr (.inr 86)), some (.inl x1), some (.inl x2), some (.inl x3), some (.inl r1), some (.inl (w32 ((w32 ((w32 ((w32 ((w32 ((w32 ((w32 ((w32 ((w32 (16 * x1)) + x2)) * 17)) + x3)) + 1)) * 12)) + r1)) * 7)) + r2)))], [], (am_sh, am_mm (am_upd U4 128 ((w32 ((w32 ((w32 ((w32 ((w32 ((w32 ((w32 ((w32 ((w32 (16 * x1)) + x2)) * 17)) + x3)) + 1)) * 12)) + r1)) * 7)) + r2)).toNat) ((Int32.ofInt 2).toInt8.toInt32.toInt))))) 2 (fun _ => rfl) (fun hc => ?_) (fun hc => ?_)
        · have haaa21aa2a1 := haaa21aa2a.1 hc
          subst haaa21aa2a1
          exact ev_end 2 (fun _ => rfl)
        · have haaa21aa2a2 := haaa21aa2a.2 (Decidable.not_not.mp hc)
          subst haaa21aa2a2
          exact ev_end 3 (fun _ => rfl)
    · have haaa22 := haaa2.2 (Decidable.not_not.mp hc)
      refine ev_seg (σ1 := ((d + 1), 311, 76, [some (.inr (.inr 86)), some (.inl x1), some (.inl x2), some (.inl x3), some (.inl r1), some (.inl (w32 ((w32 ((w32 ((w32 ((w32 ((w32 ((w32 ((w32 ((w32 (16 * x1)) + x2)) * 17)) + x3)) + 1)) * 12)) + r1)) * 7)) + r2)))], [.inr (.inl 0), .inl x2, .inl x1, .inl 1, .inr (.inr 86), .inl (w32 ((w32 ((w32 ((w32 ((w32 ((w32 ((w32 ((w32 ((w32 (16 * x1)) + x2)) * 17)) + x3)) + 1)) * 12)) + r1)) * 7)) + r2)), .inr (.inr 128)], (am_sh, am_mm U2))) 2 (fun _ => rfl) ?_
      obtain ⟨r5, U5, haaa22c, haaa22a⟩ := haaa22
      refine ev_cal (σc := (M_lawHolds_s0 d 1 x1 x2 0 U2)) (fun _ => rfl) haaa22c ?_
      show Ev (am_kz N X) ((d + 1), 311, 79, [some (.inr (.inr 86)), some (.inl x1), some (.inl x2), some (.inl x3), some (.inl r1), some (.inl (w32 ((w32 ((w32 ((w32 ((w32 ((w32 ((w32 ((w32 ((w32 (16 * x1)) + x2)) * 17)) + x3)) + 1)) * 12)) + r1)) * 7)) + r2)))], [.inl r5, .inl (w32 ((w32 ((w32 ((w32 ((w32 ((w32 ((w32 ((w32 ((w32 (16 * x1)) + x2)) * 17)) + x3)) + 1)) * 12)) + r1)) * 7)) + r2)), .inr (.inr 128)], (am_sh, am_mm U5)) R
      refine ev_br (P := r5 = 0) (σ1 := ((d + 1), 311, 86, [some (.inr (.inr 86)), some (.inl x1), some (.inl x2), some (.inl x3), some (.inl r1), some (.inl (w32 ((w32 ((w32 ((w32 ((w32 ((w32 ((w32 ((w32 ((w32 (16 * x1)) + x2)) * 17)) + x3)) + 1)) * 12)) + r1)) * 7)) + r2)))], [.inl (w32 ((w32 ((w32 ((w32 ((w32 ((w32 ((w32 ((w32 ((w32 (16 * x1)) + x2)) * 17)) + x3)) + 1)) * 12)) + r1)) * 7)) + r2)), .inr (.inr 128)], (am_sh, am_mm U5))) (σ2 := ((d + 1), 311, 82, [some (.inr (.inr 86)), some (.inl x1), some (.inl x2), some (.inl x3), some (.inl r1), some (.inl (w32 ((w32 ((w32 ((w32 ((w32 ((w32 ((w32 ((w32 ((w32 (16 * x1)) + x2)) * 17)) + x3)) + 1)) * 12)) + r1)) * 7)) + r2)))], [.inl (w32 ((w32 ((w32 ((w32 ((w32 ((w32 ((w32 ((w32 ((w32 (16 * x1)) + x2)) * 17)) + x3)) + 1)) * 12)) + r1)) * 7)) + r2)), .inr (.inr 128)], (am_sh, am_mm U5))) 1 (fun _ => rfl) (fun hc => ?_) (fun hc => ?_)
      · have haaa22a1 := haaa22a.1 hc
        refine ev_seg (σ1 := ((d + 1), 311, 88, [some (.inr (.inr 86)), some (.inl x1), some (.inl x2), some (.inl x3), some (.inl r1), some (.inl (w32 ((w32 ((w32 ((w32 ((w32 ((w32 ((w32 ((w32 ((w32 (16 * x1)) + x2)) * 17)) + x3)) + 1)) * 12)) + r1)) * 7)) + r2)))], [.inl ((Int32.ofInt 1).toInt8.toInt32.toInt), .inl (w32 ((w32 ((w32 ((w32 ((w32 ((w32 ((w32 ((w32 ((w32 (16 * x1)) + x2)) * 17)) + x3)) + 1)) * 12)) + r1)) * 7)) + r2)), .inr (.inr 128)], (am_sh, am_mm U5))) 2 (fun _ => rfl) ?_
        refine eu_bast 128 haaa22a1.1 (n := 182784) rfl (by decide) rfl (fun _ => rfl) haa.1 ?_
        show Ev (am_kz N X) ((d + 1), 311, 89, [some (.inr (.inr 86)), some (.inl x1), some (.inl x2), some (.inl x3), some (.inl r1), some (.inl (w32 ((w32 ((w32 ((w32 ((w32 ((w32 ((w32 ((w32 ((w32 (16 * x1)) + x2)) * 17)) + x3)) + 1)) * 12)) + r1)) * 7)) + r2)))], [], (am_sh, am_mm (am_upd U5 128 ((w32 ((w32 ((w32 ((w32 ((w32 ((w32 ((w32 ((w32 ((w32 (16 * x1)) + x2)) * 17)) + x3)) + 1)) * 12)) + r1)) * 7)) + r2)).toNat) ((Int32.ofInt 1).toInt8.toInt32.toInt)))) R
        have haaa22a1a := haaa22a1.2
        refine ev_seg (σ1 := ((d + 1), 311, 95, [some (.inr (.inr 86)), some (.inl x1), some (.inl x2), some (.inl x3), some (.inl r1), some (.inl (w32 ((w32 ((w32 ((w32 ((w32 ((w32 ((w32 ((w32 ((w32 (16 * x1)) + x2)) * 17)) + x3)) + 1)) * 12)) + r1)) * 7)) + r2)))], [.inl (w32 ((w32 ((w32 ((w32 ((w32 ((w32 ((w32 ((w32 ((w32 (16 * x1)) + x2)) * 17)) + x3)) + 1)) * 12)) + r1)) * 7)) + r2)), .inr (.inr 128)], (am_sh, am_mm (am_upd U5 128 ((w32 ((w32 ((w32 ((w32 ((w32 ((w32 ((w32 ((w32 ((w32 (16 * x1)) + x2)) * 17)) + x3)) + 1)) * 12)) + r1)) * 7)) + r2)).toNat) ((Int32.ofInt 1).toInt8.toInt32.toInt))))) 3 (fun _ => rfl) ?_
        refine eu_bald 128 (n := 182784) rfl (by decide) rfl (fun _ => rfl) haa.1 ?_
        show Ev (am_kz N X) ((d + 1), 311, 96, [some (.inr (.inr 86)), some (.inl x1), some (.inl x2), some (.inl x3), some (.inl r1), some (.inl (w32 ((w32 ((w32 ((w32 ((w32 ((w32 ((w32 ((w32 ((w32 (16 * x1)) + x2)) * 17)) + x3)) + 1)) * 12)) + r1)) * 7)) + r2)))], [.inl ((am_upd U5 128 ((w32 ((w32 ((w32 ((w32 ((w32 ((w32 ((w32 ((w32 ((w32 (16 * x1)) + x2)) * 17)) + x3)) + 1)) * 12)) + r1)) * 7)) + r2)).toNat) ((Int32.ofInt 1).toInt8.toInt32.toInt)) 128 ((w32 ((w32 ((w32 ((w32 ((w32 ((w32 ((w32 ((w32 ((w32 (16 * x1)) + x2)) * 17)) + x3)) + 1)) * 12)) + r1)) * 7)) + r2)).toNat))], (am_sh, am_mm (am_upd U5 128 ((w32 ((w32 ((w32 ((w32 ((w32 ((w32 ((w32 ((w32 ((w32 (16 * x1)) + x2)) * 17)) + x3)) + 1)) * 12)) + r1)) * 7)) + r2)).toNat) ((Int32.ofInt 1).toInt8.toInt32.toInt)))) R
        refine ev_br (P := ¬ ((am_upd U5 128 ((w32 ((w32 ((w32 ((w32 ((w32 ((w32 ((w32 ((w32 ((w32 (16 * x1)) + x2)) * 17)) + x3)) + 1)) * 12)) + r1)) * 7)) + r2)).toNat) ((Int32.ofInt 1).toInt8.toInt32.toInt)) 128 ((w32 ((w32 ((w32 ((w32 ((w32 ((w32 ((w32 ((w32 ((w32 (16 * x1)) + x2)) * 17)) + x3)) + 1)) * 12)) + r1)) * 7)) + r2)).toNat)) = 2) (σ1 := ((d + 1), 311, 104, [some (.inr (.inr 86)), some (.inl x1), some (.inl x2), some (.inl x3), some (.inl r1), some (.inl (w32 ((w32 ((w32 ((w32 ((w32 ((w32 ((w32 ((w32 ((w32 (16 * x1)) + x2)) * 17)) + x3)) + 1)) * 12)) + r1)) * 7)) + r2)))], [], (am_sh, am_mm (am_upd U5 128 ((w32 ((w32 ((w32 ((w32 ((w32 ((w32 ((w32 ((w32 ((w32 (16 * x1)) + x2)) * 17)) + x3)) + 1)) * 12)) + r1)) * 7)) + r2)).toNat) ((Int32.ofInt 1).toInt8.toInt32.toInt))))) (σ2 := ((d + 1), 311, 100, [some (.inr (.inr 86)), some (.inl x1), some (.inl x2), some (.inl x3), some (.inl r1), some (.inl (w32 ((w32 ((w32 ((w32 ((w32 ((w32 ((w32 ((w32 ((w32 (16 * x1)) + x2)) * 17)) + x3)) + 1)) * 12)) + r1)) * 7)) + r2)))], [], (am_sh, am_mm (am_upd U5 128 ((w32 ((w32 ((w32 ((w32 ((w32 ((w32 ((w32 ((w32 ((w32 (16 * x1)) + x2)) * 17)) + x3)) + 1)) * 12)) + r1)) * 7)) + r2)).toNat) ((Int32.ofInt 1).toInt8.toInt32.toInt))))) 2 (fun _ => rfl) (fun hc => ?_) (fun hc => ?_)
        · have haaa22a1a1 := haaa22a1a.1 hc
          subst haaa22a1a1
          exact ev_end 2 (fun _ => rfl)
        · have haaa22a1a2 := haaa22a1a.2 (Decidable.not_not.mp hc)
          subst haaa22a1a2
          exact ev_end 3 (fun _ => rfl)
      · have haaa22a2 := haaa22a.2 hc
        refine ev_seg (σ1 := ((d + 1), 311, 88, [some (.inr (.inr 86)), some (.inl x1), some (.inl x2), some (.inl x3), some (.inl r1), some (.inl (w32 ((w32 ((w32 ((w32 ((w32 ((w32 ((w32 ((w32 ((w32 (16 * x1)) + x2)) * 17)) + x3)) + 1)) * 12)) + r1)) * 7)) + r2)))], [.inl ((Int32.ofInt 2).toInt8.toInt32.toInt), .inl (w32 ((w32 ((w32 ((w32 ((w32 ((w32 ((w32 ((w32 ((w32 (16 * x1)) + x2)) * 17)) + x3)) + 1)) * 12)) + r1)) * 7)) + r2)), .inr (.inr 128)], (am_sh, am_mm U5))) 3 (fun _ => rfl) ?_
        refine eu_bast 128 haaa22a2.1 (n := 182784) rfl (by decide) rfl (fun _ => rfl) haa.1 ?_
        show Ev (am_kz N X) ((d + 1), 311, 89, [some (.inr (.inr 86)), some (.inl x1), some (.inl x2), some (.inl x3), some (.inl r1), some (.inl (w32 ((w32 ((w32 ((w32 ((w32 ((w32 ((w32 ((w32 ((w32 (16 * x1)) + x2)) * 17)) + x3)) + 1)) * 12)) + r1)) * 7)) + r2)))], [], (am_sh, am_mm (am_upd U5 128 ((w32 ((w32 ((w32 ((w32 ((w32 ((w32 ((w32 ((w32 ((w32 (16 * x1)) + x2)) * 17)) + x3)) + 1)) * 12)) + r1)) * 7)) + r2)).toNat) ((Int32.ofInt 2).toInt8.toInt32.toInt)))) R
        have haaa22a2a := haaa22a2.2
        refine ev_seg (σ1 := ((d + 1), 311, 95, [some (.inr (.inr 86)), some (.inl x1), some (.inl x2), some (.inl x3), some (.inl r1), some (.inl (w32 ((w32 ((w32 ((w32 ((w32 ((w32 ((w32 ((w32 ((w32 (16 * x1)) + x2)) * 17)) + x3)) + 1)) * 12)) + r1)) * 7)) + r2)))], [.inl (w32 ((w32 ((w32 ((w32 ((w32 ((w32 ((w32 ((w32 ((w32 (16 * x1)) + x2)) * 17)) + x3)) + 1)) * 12)) + r1)) * 7)) + r2)), .inr (.inr 128)], (am_sh, am_mm (am_upd U5 128 ((w32 ((w32 ((w32 ((w32 ((w32 ((w32 ((w32 ((w32 ((w32 (16 * x1)) + x2)) * 17)) + x3)) + 1)) * 12)) + r1)) * 7)) + r2)).toNat) ((Int32.ofInt 2).toInt8.toInt32.toInt))))) 3 (fun _ => rfl) ?_
        refine eu_bald 128 (n := 182784) rfl (by decide) rfl (fun _ => rfl) haa.1 ?_
        show Ev (am_kz N X) ((d + 1), 311, 96, [some (.inr (.inr 86)), some (.inl x1), some (.inl x2), some (.inl x3), some (.inl r1), some (.inl (w32 ((w32 ((w32 ((w32 ((w32 ((w32 ((w32 ((w32 ((w32 (16 * x1)) + x2)) * 17)) + x3)) + 1)) * 12)) + r1)) * 7)) + r2)))], [.inl ((am_upd U5 128 ((w32 ((w32 ((w32 ((w32 ((w32 ((w32 ((w32 ((w32 ((w32 (16 * x1)) + x2)) * 17)) + x3)) + 1)) * 12)) + r1)) * 7)) + r2)).toNat) ((Int32.ofInt 2).toInt8.toInt32.toInt)) 128 ((w32 ((w32 ((w32 ((w32 ((w32 ((w32 ((w32 ((w32 ((w32 (16 * x1)) + x2)) * 17)) + x3)) + 1)) * 12)) + r1)) * 7)) + r2)).toNat))], (am_sh, am_mm (am_upd U5 128 ((w32 ((w32 ((w32 ((w32 ((w32 ((w32 ((w32 ((w32 ((w32 (16 * x1)) + x2)) * 17)) + x3)) + 1)) * 12)) + r1)) * 7)) + r2)).toNat) ((Int32.ofInt 2).toInt8.toInt32.toInt)))) R
        refine ev_br (P := ¬ ((am_upd U5 128 ((w32 ((w32 ((w32 ((w32 ((w32 ((w32 ((w32 ((w32 ((w32 (16 * x1)) + x2)) * 17)) + x3)) + 1)) * 12)) + r1)) * 7)) + r2)).toNat) ((Int32.ofInt 2).toInt8.toInt32.toInt)) 128 ((w32 ((w32 ((w32 ((w32 ((w32 ((w32 ((w32 ((w32 ((w32 (16 * x1)) + x2)) * 17)) + x3)) + 1)) * 12)) + r1)) * 7)) + r2)).toNat)) = 2) (σ1 := ((d + 1), 311, 104, [some (.inr (.inr 86)), some (.inl x1), some (.inl x2), some (.inl x3), some (.inl r1), some (.inl (w32 ((w32 ((w32 ((w32 ((w32 ((w32 ((w32 ((w32 ((w32 (16 * x1)) + x2)) * 17)) + x3)) + 1)) * 12)) + r1)) * 7)) + r2)))], [], (am_sh, am_mm (am_upd U5 128 ((w32 ((w32 ((w32 ((w32 ((w32 ((w32 ((w32 ((w32 ((w32 (16 * x1)) + x2)) * 17)) + x3)) + 1)) * 12)) + r1)) * 7)) + r2)).toNat) ((Int32.ofInt 2).toInt8.toInt32.toInt))))) (σ2 := ((d + 1), 311, 100, [some (.inr (.inr 86)), some (.inl x1), some (.inl x2), some (.inl x3), some (.inl r1), some (.inl (w32 ((w32 ((w32 ((w32 ((w32 ((w32 ((w32 ((w32 ((w32 (16 * x1)) + x2)) * 17)) + x3)) + 1)) * 12)) + r1)) * 7)) + r2)))], [], (am_sh, am_mm (am_upd U5 128 ((w32 ((w32 ((w32 ((w32 ((w32 ((w32 ((w32 ((w32 ((w32 (16 * x1)) + x2)) * 17)) + x3)) + 1)) * 12)) + r1)) * 7)) + r2)).toNat) ((Int32.ofInt 2).toInt8.toInt32.toInt))))) 2 (fun _ => rfl) (fun hc => ?_) (fun hc => ?_)
        · have haaa22a2a1 := haaa22a2a.1 hc
          subst haaa22a2a1
          exact ev_end 2 (fun _ => rfl)
        · have haaa22a2a2 := haaa22a2a.2 (Decidable.not_not.mp hc)
          subst haaa22a2a2
          exact ev_end 3 (fun _ => rfl)
set_option maxRecDepth 8000 in
theorem M_held_r0 {N : Nat} {X : Nat → Int} {d : Nat} {x0 : Int} {U : am_U} {R : Option am_V × am_M} (h : ((x0 ≤ 1000000000) → (((-1000000000) ≤ x0) → R = rJ x0 U) ∧ ((x0 < (-1000000000)) → R = rJ (-1000000000) U)) ∧ ((1000000000 < x0) → R = rJ 1000000000 U)) : EvK N X (M_held_s0 d x0 U) R := by
  show Ev (am_kz N X) (d, 312, 0, [some (.inr (.inl x0)), none], [], (am_sh, am_mm U)) R
  refine ev_br (P := (am_lcmp x0 1000000000) ≤ 0) (σ1 := (d, 312, 14, [some (.inr (.inl x0)), none], [], (am_sh, am_mm U))) (σ2 := (d, 312, 8, [some (.inr (.inl x0)), none], [], (am_sh, am_mm U))) 4 (fun _ => rfl) (fun hc => ?_) (fun hc => ?_)
  · have h1 := h.1 ((am_lc_le x0 1000000000).mp hc)
    refine ev_br (P := 0 ≤ (am_lcmp x0 (-1000000000))) (σ1 := (d, 312, 28, [some (.inr (.inl x0)), none], [], (am_sh, am_mm U))) (σ2 := (d, 312, 22, [some (.inr (.inl x0)), none], [], (am_sh, am_mm U))) 4 (fun _ => rfl) (fun hc => ?_) (fun hc => ?_)
    · have h11 := h1.1 ((am_lc_ge x0 (-1000000000)).mp hc)
      subst h11
      exact ev_end 2 (fun _ => rfl)
    · have h12 := h1.2 ((am_lcn_ge x0 (-1000000000)).mp hc)
      subst h12
      exact ev_end 3 (fun _ => rfl)
  · have h2 := h.2 ((am_lcn_le x0 1000000000).mp hc)
    subst h2
    exact ev_end 3 (fun _ => rfl)
set_option maxRecDepth 8000 in
theorem M_floor_r0 {N : Nat} {X : Nat → Int} {d : Nat} {x0 x2 : Int} {U : am_U} {R : Option am_V × am_M} (h : ((x2 ≠ 0) → x2 ≠ 0 ∧ x2 ≠ 0 ∧ (((Int.tmod x0 x2) = 0) → R = rJ (w64 (Int.tdiv x0 x2)) U) ∧ (((Int.tmod x0 x2) ≠ 0) → ((0 ≤ x0) → ((0 ≤ x2) → R = rJ (w64 (Int.tdiv x0 x2)) U) ∧ ((x2 < 0) → R = rJ (w64 ((w64 (Int.tdiv x0 x2)) - 1)) U)) ∧ ((x0 < 0) → ((0 ≤ x2) → R = rJ (w64 ((w64 (Int.tdiv x0 x2)) - 1)) U) ∧ ((x2 < 0) → R = rJ (w64 (Int.tdiv x0 x2)) U)))) ∧ ((x2 = 0) → R = rJ 0 U)) : EvK N X (M_floor_s0 d x0 x2 U) R := by
  show Ev (am_kz N X) (d, 313, 0, [some (.inr (.inl x0)), none, some (.inr (.inl x2)), none, none, none], [], (am_sh, am_mm U)) R
  refine ev_br (P := ¬ (am_lcmp x2 0) = 0) (σ1 := (d, 313, 8, [some (.inr (.inl x0)), none, some (.inr (.inl x2)), none, none, none], [], (am_sh, am_mm U))) (σ2 := (d, 313, 6, [some (.inr (.inl x0)), none, some (.inr (.inl x2)), none, none, none], [], (am_sh, am_mm U))) 4 (fun _ => rfl) (fun hc => ?_) (fun hc => ?_)
  · have h1 := h.1 ((am_lc_ne x2 0).mp hc)
    refine ev_seg (σ1 := (d, 313, 10, [some (.inr (.inl x0)), none, some (.inr (.inl x2)), none, none, none], [.inr (.inl x2), .inr (.inl x0)], (am_sh, am_mm U))) 2 (fun _ => rfl) ?_
    refine ev_ldiv rfl h1.1 ?_
    show Ev (am_kz N X) (d, 313, 11, [some (.inr (.inl x0)), none, some (.inr (.inl x2)), none, none, none], [.inr (.inl (w64 (Int.tdiv x0 x2)))], (am_sh, am_mm U)) R
    have h1a := h1.2
    refine ev_seg (σ1 := (d, 313, 15, [some (.inr (.inl x0)), none, some (.inr (.inl x2)), none, some (.inr (.inl (w64 (Int.tdiv x0 x2)))), none], [.inr (.inl x2), .inr (.inl x0)], (am_sh, am_mm U))) 3 (fun _ => rfl) ?_
    refine ev_lrem rfl h1a.1 ?_
    show Ev (am_kz N X) (d, 313, 16, [some (.inr (.inl x0)), none, some (.inr (.inl x2)), none, some (.inr (.inl (w64 (Int.tdiv x0 x2)))), none], [.inr (.inl (Int.tmod x0 x2))], (am_sh, am_mm U)) R
    have h1aa := h1a.2
    refine ev_br (P := (am_lcmp (Int.tmod x0 x2) 0) = 0) (σ1 := (d, 313, 53, [some (.inr (.inl x0)), none, some (.inr (.inl x2)), none, some (.inr (.inl (w64 (Int.tdiv x0 x2)))), none], [], (am_sh, am_mm U))) (σ2 := (d, 313, 21, [some (.inr (.inl x0)), none, some (.inr (.inl x2)), none, some (.inr (.inl (w64 (Int.tdiv x0 x2)))), none], [], (am_sh, am_mm U))) 3 (fun _ => rfl) (fun hc => ?_) (fun hc => ?_)
    · have h1aa1 := h1aa.1 ((am_lc_eq (Int.tmod x0 x2) 0).mp hc)
      subst h1aa1
      exact ev_end 2 (fun _ => rfl)
    · have h1aa2 := h1aa.2 ((am_lcn_eq (Int.tmod x0 x2) 0).mp hc)
      refine ev_br (P := 0 ≤ (am_lcmp x0 0)) (σ1 := (d, 313, 31, [some (.inr (.inl x0)), none, some (.inr (.inl x2)), none, some (.inr (.inl (w64 (Int.tdiv x0 x2)))), none], [], (am_sh, am_mm U))) (σ2 := (d, 313, 27, [some (.inr (.inl x0)), none, some (.inr (.inl x2)), none, some (.inr (.inl (w64 (Int.tdiv x0 x2)))), none], [], (am_sh, am_mm U))) 4 (fun _ => rfl) (fun hc => ?_) (fun hc => ?_)
      · have h1aa21 := h1aa2.1 ((am_lc_ge x0 0).mp hc)
        refine ev_br (P := 0 ≤ (am_lcmp x2 0)) (σ1 := (d, 313, 42, [some (.inr (.inl x0)), none, some (.inr (.inl x2)), none, some (.inr (.inl (w64 (Int.tdiv x0 x2)))), none], [.inl 0], (am_sh, am_mm U))) (σ2 := (d, 313, 38, [some (.inr (.inl x0)), none, some (.inr (.inl x2)), none, some (.inr (.inl (w64 (Int.tdiv x0 x2)))), none], [.inl 0], (am_sh, am_mm U))) 5 (fun _ => rfl) (fun hc => ?_) (fun hc => ?_)
        · have h1aa211 := h1aa21.1 ((am_lc_ge x2 0).mp hc)
          subst h1aa211
          exact ev_end 4 (fun _ => rfl)
        · have h1aa212 := h1aa21.2 ((am_lcn_ge x2 0).mp hc)
          subst h1aa212
          exact ev_end 8 (fun _ => rfl)
      · have h1aa22 := h1aa2.2 ((am_lcn_ge x0 0).mp hc)
        refine ev_br (P := 0 ≤ (am_lcmp x2 0)) (σ1 := (d, 313, 42, [some (.inr (.inl x0)), none, some (.inr (.inl x2)), none, some (.inr (.inl (w64 (Int.tdiv x0 x2)))), none], [.inl 1], (am_sh, am_mm U))) (σ2 := (d, 313, 38, [some (.inr (.inl x0)), none, some (.inr (.inl x2)), none, some (.inr (.inl (w64 (Int.tdiv x0 x2)))), none], [.inl 1], (am_sh, am_mm U))) 6 (fun _ => rfl) (fun hc => ?_) (fun hc => ?_)
        · have h1aa221 := h1aa22.1 ((am_lc_ge x2 0).mp hc)
          subst h1aa221
          exact ev_end 7 (fun _ => rfl)
        · have h1aa222 := h1aa22.2 ((am_lcn_ge x2 0).mp hc)
          subst h1aa222
          exact ev_end 5 (fun _ => rfl)
  · have h2 := h.2 ((am_lcn_ne x2 0).mp hc)
    subst h2
    exact ev_end 2 (fun _ => rfl)
set_option maxRecDepth 8000 in
theorem Ar_fill_II_53_r0 {N : Nat} {X : Nat → Int} {d : Nat} {x1 : Int} {U : am_U} {R : Option am_V × am_M} (h : EvK N X (Ar_fill_II_53_s5 d x1 0 16 U) R) : EvK N X (Ar_fill_II_53_s0 d x1 U) R := by
  show Ev (am_kz N X) (d, 211, 0, [some (.inr (.inr 53)), some (.inl x1), none, none], [], (am_sh, am_mm U)) R
  refine ev_seg (σ1 := (d, 211, 5, [some (.inr (.inr 53)), some (.inl x1), some (.inl 0), some (.inl 16)], [], (am_sh, am_mm U))) 5 (fun _ => rfl) ?_
  exact h
set_option maxRecDepth 8000 in
theorem Ar_fill_II_53_r5 {N : Nat} {X : Nat → Int} {d : Nat} {x1 x2 x3 : Int} {U : am_U} {R : Option am_V × am_M} (h : ((x3 ≤ x2) → R = rV U) ∧ ((x2 < x3) → (0 ≤ x2 ∧ x2 < 16) ∧ EvK N X (Ar_fill_II_53_s5 d x1 (w32 (x2 + 1)) x3 (am_upd U 53 x2.toNat x1)) R)) : EvK N X (Ar_fill_II_53_s5 d x1 x2 x3 U) R := by
  show Ev (am_kz N X) (d, 211, 5, [some (.inr (.inr 53)), some (.inl x1), some (.inl x2), some (.inl x3)], [], (am_sh, am_mm U)) R
  refine ev_br (P := x3 ≤ x2) (σ1 := (d, 211, 20, [some (.inr (.inr 53)), some (.inl x1), some (.inl x2), some (.inl x3)], [], (am_sh, am_mm U))) (σ2 := (d, 211, 10, [some (.inr (.inr 53)), some (.inl x1), some (.inl x2), some (.inl x3)], [], (am_sh, am_mm U))) 3 (fun _ => rfl) (fun hc => ?_) (fun hc => ?_)
  · have h1 := h.1 hc
    subst h1
    exact ev_end 1 (fun _ => rfl)
  · have h2 := h.2 (Int.not_le.mp hc)
    refine ev_seg (σ1 := (d, 211, 13, [some (.inr (.inr 53)), some (.inl x1), some (.inl x2), some (.inl x3)], [.inl x1, .inl x2, .inr (.inr 53)], (am_sh, am_mm U))) 3 (fun _ => rfl) ?_
    refine eu_iast 53 (n := 16) rfl (by decide) rfl (fun _ => rfl) h2.1 ?_
    show Ev (am_kz N X) (d, 211, 14, [some (.inr (.inr 53)), some (.inl x1), some (.inl x2), some (.inl x3)], [], (am_sh, am_mm (am_upd U 53 x2.toNat x1))) R
    have h2a := h2.2
    refine ev_seg (σ1 := (d, 211, 5, [some (.inr (.inr 53)), some (.inl x1), some (.inl (w32 (x2 + 1))), some (.inl x3)], [], (am_sh, am_mm (am_upd U 53 x2.toNat x1)))) 2 (fun _ => rfl) ?_
    exact h2a
set_option maxRecDepth 8000 in
theorem In_numberOfTrailingZeros_r0 {N : Nat} {X : Nat → Int} {d : Nat} {x0 : Int} {U : am_U} {R : Option am_V × am_M} (h : ((0 < (am_and (am_xor x0 (-1)) (w32 (x0 - 1)))) → (((am_and (am_xor x0 (-1)) (w32 (x0 - 1))) ≤ 65536) → (((am_and (am_xor x0 (-1)) (w32 (x0 - 1))) ≤ 256) → (((am_and (am_xor x0 (-1)) (w32 (x0 - 1))) ≤ 16) → (((am_and (am_xor x0 (-1)) (w32 (x0 - 1))) ≤ 4) → R = rI (w32 (1 + (am_ushr (am_and (am_xor x0 (-1)) (w32 (x0 - 1))) 1))) U) ∧ ((4 < (am_and (am_xor x0 (-1)) (w32 (x0 - 1)))) → R = rI (w32 (3 + (am_ushr (am_ushr (am_and (am_xor x0 (-1)) (w32 (x0 - 1))) 2) 1))) U)) ∧ ((16 < (am_and (am_xor x0 (-1)) (w32 (x0 - 1)))) → (((am_ushr (am_and (am_xor x0 (-1)) (w32 (x0 - 1))) 4) ≤ 4) → R = rI (w32 (5 + (am_ushr (am_ushr (am_and (am_xor x0 (-1)) (w32 (x0 - 1))) 4) 1))) U) ∧ ((4 < (am_ushr (am_and (am_xor x0 (-1)) (w32 (x0 - 1))) 4)) → R = rI (w32 (7 + (am_ushr (am_ushr (am_ushr (am_and (am_xor x0 (-1)) (w32 (x0 - 1))) 4) 2) 1))) U))) ∧ ((256 < (am_and (am_xor x0 (-1)) (w32 (x0 - 1)))) → (((am_ushr (am_and (am_xor x0 (-1)) (w32 (x0 - 1))) 8) ≤ 16) → (((am_ushr (am_and (am_xor x0 (-1)) (w32 (x0 - 1))) 8) ≤ 4) → R = rI (w32 (9 + (am_ushr (am_ushr (am_and (am_xor x0 (-1)) (w32 (x0 - 1))) 8) 1))) U) ∧ ((4 < (am_ushr (am_and (am_xor x0 (-1)) (w32 (x0 - 1))) 8)) → R = rI (w32 (11 + (am_ushr (am_ushr (am_ushr (am_and (am_xor x0 (-1)) (w32 (x0 - 1))) 8) 2) 1))) U)) ∧ ((16 < (am_ushr (am_and (am_xor x0 (-1)) (w32 (x0 - 1))) 8)) → (((am_ushr (am_ushr (am_and (am_xor x0 (-1)) (w32 (x0 - 1))) 8) 4) ≤ 4) → R = rI (w32 (13 + (am_ushr (am_ushr (am_ushr (am_and (am_xor x0 (-1)) (w32 (x0 - 1))) 8) 4) 1))) U) ∧ ((4 < (am_ushr (am_ushr (am_and (am_xor x0 (-1)) (w32 (x0 - 1))) 8) 4)) → R = rI (w32 (15 + (am_ushr (am_ushr (am_ushr (am_ushr (am_and (am_xor x0 (-1)) (w32 (x0 - 1))) 8) 4) 2) 1))) U)))) ∧ ((65536 < (am_and (am_xor x0 (-1)) (w32 (x0 - 1)))) → (((am_ushr (am_and (am_xor x0 (-1)) (w32 (x0 - 1))) 16) ≤ 256) → (((am_ushr (am_and (am_xor x0 (-1)) (w32 (x0 - 1))) 16) ≤ 16) → (((am_ushr (am_and (am_xor x0 (-1)) (w32 (x0 - 1))) 16) ≤ 4) → R = rI (w32 (17 + (am_ushr (am_ushr (am_and (am_xor x0 (-1)) (w32 (x0 - 1))) 16) 1))) U) ∧ ((4 < (am_ushr (am_and (am_xor x0 (-1)) (w32 (x0 - 1))) 16)) → R = rI (w32 (19 + (am_ushr (am_ushr (am_ushr (am_and (am_xor x0 (-1)) (w32 (x0 - 1))) 16) 2) 1))) U)) ∧ ((16 < (am_ushr (am_and (am_xor x0 (-1)) (w32 (x0 - 1))) 16)) → (((am_ushr (am_ushr (am_and (am_xor x0 (-1)) (w32 (x0 - 1))) 16) 4) ≤ 4) → R = rI (w32 (21 + (am_ushr (am_ushr (am_ushr (am_and (am_xor x0 (-1)) (w32 (x0 - 1))) 16) 4) 1))) U) ∧ ((4 < (am_ushr (am_ushr (am_and (am_xor x0 (-1)) (w32 (x0 - 1))) 16) 4)) → R = rI (w32 (23 + (am_ushr (am_ushr (am_ushr (am_ushr (am_and (am_xor x0 (-1)) (w32 (x0 - 1))) 16) 4) 2) 1))) U))) ∧ ((256 < (am_ushr (am_and (am_xor x0 (-1)) (w32 (x0 - 1))) 16)) → (((am_ushr (am_ushr (am_and (am_xor x0 (-1)) (w32 (x0 - 1))) 16) 8) ≤ 16) → (((am_ushr (am_ushr (am_and (am_xor x0 (-1)) (w32 (x0 - 1))) 16) 8) ≤ 4) → R = rI (w32 (25 + (am_ushr (am_ushr (am_ushr (am_and (am_xor x0 (-1)) (w32 (x0 - 1))) 16) 8) 1))) U) ∧ ((4 < (am_ushr (am_ushr (am_and (am_xor x0 (-1)) (w32 (x0 - 1))) 16) 8)) → R = rI (w32 (27 + (am_ushr (am_ushr (am_ushr (am_ushr (am_and (am_xor x0 (-1)) (w32 (x0 - 1))) 16) 8) 2) 1))) U)) ∧ ((16 < (am_ushr (am_ushr (am_and (am_xor x0 (-1)) (w32 (x0 - 1))) 16) 8)) → (((am_ushr (am_ushr (am_ushr (am_and (am_xor x0 (-1)) (w32 (x0 - 1))) 16) 8) 4) ≤ 4) → R = rI (w32 (29 + (am_ushr (am_ushr (am_ushr (am_ushr (am_and (am_xor x0 (-1)) (w32 (x0 - 1))) 16) 8) 4) 1))) U) ∧ ((4 < (am_ushr (am_ushr (am_ushr (am_and (am_xor x0 (-1)) (w32 (x0 - 1))) 16) 8) 4)) → R = rI (w32 (31 + (am_ushr (am_ushr (am_ushr (am_ushr (am_ushr (am_and (am_xor x0 (-1)) (w32 (x0 - 1))) 16) 8) 4) 2) 1))) U))))) ∧ (((am_and (am_xor x0 (-1)) (w32 (x0 - 1))) ≤ 0) → R = rI (am_and (am_and (am_xor x0 (-1)) (w32 (x0 - 1))) 32) U)) : EvK N X (In_numberOfTrailingZeros_s0 d x0 U) R := by
  show Ev (am_kz N X) (d, 314, 0, [some (.inl x0), none], [], (am_sh, am_mm U)) R
  refine ev_br (P := 0 < (am_and (am_xor x0 (-1)) (w32 (x0 - 1)))) (σ1 := (d, 314, 17, [some (.inl (am_and (am_xor x0 (-1)) (w32 (x0 - 1)))), none], [], (am_sh, am_mm U))) (σ2 := (d, 314, 12, [some (.inl (am_and (am_xor x0 (-1)) (w32 (x0 - 1)))), none], [], (am_sh, am_mm U))) 10 (fun _ => rfl) (fun hc => ?_) (fun hc => ?_)
  · have h1 := h.1 hc
    refine ev_br (P := (am_and (am_xor x0 (-1)) (w32 (x0 - 1))) ≤ 65536) (σ1 := (d, 314, 34, [some (.inl (am_and (am_xor x0 (-1)) (w32 (x0 - 1)))), some (.inl 1)], [], (am_sh, am_mm U))) (σ2 := (d, 314, 26, [some (.inl (am_and (am_xor x0 (-1)) (w32 (x0 - 1)))), some (.inl 1)], [], (am_sh, am_mm U))) 5 (fun _ => rfl) (fun hc => ?_) (fun hc => ?_)
    · have h11 := h1.1 hc
      refine ev_br (P := (am_and (am_xor x0 (-1)) (w32 (x0 - 1))) ≤ 256) (σ1 := (d, 314, 49, [some (.inl (am_and (am_xor x0 (-1)) (w32 (x0 - 1)))), some (.inl 1)], [], (am_sh, am_mm U))) (σ2 := (d, 314, 41, [some (.inl (am_and (am_xor x0 (-1)) (w32 (x0 - 1)))), some (.inl 1)], [], (am_sh, am_mm U))) 3 (fun _ => rfl) (fun hc => ?_) (fun hc => ?_)
      · have h111 := h11.1 hc
        refine ev_br (P := (am_and (am_xor x0 (-1)) (w32 (x0 - 1))) ≤ 16) (σ1 := (d, 314, 62, [some (.inl (am_and (am_xor x0 (-1)) (w32 (x0 - 1)))), some (.inl 1)], [], (am_sh, am_mm U))) (σ2 := (d, 314, 55, [some (.inl (am_and (am_xor x0 (-1)) (w32 (x0 - 1)))), some (.inl 1)], [], (am_sh, am_mm U))) 3 (fun _ => rfl) (fun hc => ?_) (fun hc => ?_)
        · have h1111 := h111.1 hc
          refine ev_br (P := (am_and (am_xor x0 (-1)) (w32 (x0 - 1))) ≤ 4) (σ1 := (d, 314, 74, [some (.inl (am_and (am_xor x0 (-1)) (w32 (x0 - 1)))), some (.inl 1)], [], (am_sh, am_mm U))) (σ2 := (d, 314, 67, [some (.inl (am_and (am_xor x0 (-1)) (w32 (x0 - 1)))), some (.inl 1)], [], (am_sh, am_mm U))) 3 (fun _ => rfl) (fun hc => ?_) (fun hc => ?_)
          · have h11111 := h1111.1 hc
            subst h11111
            exact ev_end 6 (fun _ => rfl)
          · have h11112 := h1111.2 (Int.not_le.mp hc)
            subst h11112
            exact ev_end 11 (fun _ => rfl)
        · have h1112 := h111.2 (Int.not_le.mp hc)
          refine ev_br (P := (am_ushr (am_and (am_xor x0 (-1)) (w32 (x0 - 1))) 4) ≤ 4) (σ1 := (d, 314, 74, [some (.inl (am_ushr (am_and (am_xor x0 (-1)) (w32 (x0 - 1))) 4)), some (.inl 5)], [], (am_sh, am_mm U))) (σ2 := (d, 314, 67, [some (.inl (am_ushr (am_and (am_xor x0 (-1)) (w32 (x0 - 1))) 4)), some (.inl 5)], [], (am_sh, am_mm U))) 8 (fun _ => rfl) (fun hc => ?_) (fun hc => ?_)
          · have h11121 := h1112.1 hc
            subst h11121
            exact ev_end 6 (fun _ => rfl)
          · have h11122 := h1112.2 (Int.not_le.mp hc)
            subst h11122
            exact ev_end 11 (fun _ => rfl)
      · have h112 := h11.2 (Int.not_le.mp hc)
        refine ev_br (P := (am_ushr (am_and (am_xor x0 (-1)) (w32 (x0 - 1))) 8) ≤ 16) (σ1 := (d, 314, 62, [some (.inl (am_ushr (am_and (am_xor x0 (-1)) (w32 (x0 - 1))) 8)), some (.inl 9)], [], (am_sh, am_mm U))) (σ2 := (d, 314, 55, [some (.inl (am_ushr (am_and (am_xor x0 (-1)) (w32 (x0 - 1))) 8)), some (.inl 9)], [], (am_sh, am_mm U))) 8 (fun _ => rfl) (fun hc => ?_) (fun hc => ?_)
        · have h1121 := h112.1 hc
          refine ev_br (P := (am_ushr (am_and (am_xor x0 (-1)) (w32 (x0 - 1))) 8) ≤ 4) (σ1 := (d, 314, 74, [some (.inl (am_ushr (am_and (am_xor x0 (-1)) (w32 (x0 - 1))) 8)), some (.inl 9)], [], (am_sh, am_mm U))) (σ2 := (d, 314, 67, [some (.inl (am_ushr (am_and (am_xor x0 (-1)) (w32 (x0 - 1))) 8)), some (.inl 9)], [], (am_sh, am_mm U))) 3 (fun _ => rfl) (fun hc => ?_) (fun hc => ?_)
          · have h11211 := h1121.1 hc
            subst h11211
            exact ev_end 6 (fun _ => rfl)
          · have h11212 := h1121.2 (Int.not_le.mp hc)
            subst h11212
            exact ev_end 11 (fun _ => rfl)
        · have h1122 := h112.2 (Int.not_le.mp hc)
          refine ev_br (P := (am_ushr (am_ushr (am_and (am_xor x0 (-1)) (w32 (x0 - 1))) 8) 4) ≤ 4) (σ1 := (d, 314, 74, [some (.inl (am_ushr (am_ushr (am_and (am_xor x0 (-1)) (w32 (x0 - 1))) 8) 4)), some (.inl 13)], [], (am_sh, am_mm U))) (σ2 := (d, 314, 67, [some (.inl (am_ushr (am_ushr (am_and (am_xor x0 (-1)) (w32 (x0 - 1))) 8) 4)), some (.inl 13)], [], (am_sh, am_mm U))) 8 (fun _ => rfl) (fun hc => ?_) (fun hc => ?_)
          · have h11221 := h1122.1 hc
            subst h11221
            exact ev_end 6 (fun _ => rfl)
          · have h11222 := h1122.2 (Int.not_le.mp hc)
            subst h11222
            exact ev_end 11 (fun _ => rfl)
    · have h12 := h1.2 (Int.not_le.mp hc)
      refine ev_br (P := (am_ushr (am_and (am_xor x0 (-1)) (w32 (x0 - 1))) 16) ≤ 256) (σ1 := (d, 314, 49, [some (.inl (am_ushr (am_and (am_xor x0 (-1)) (w32 (x0 - 1))) 16)), some (.inl 17)], [], (am_sh, am_mm U))) (σ2 := (d, 314, 41, [some (.inl (am_ushr (am_and (am_xor x0 (-1)) (w32 (x0 - 1))) 16)), some (.inl 17)], [], (am_sh, am_mm U))) 8 (fun _ => rfl) (fun hc => ?_) (fun hc => ?_)
      · have h121 := h12.1 hc
        refine ev_br (P := (am_ushr (am_and (am_xor x0 (-1)) (w32 (x0 - 1))) 16) ≤ 16) (σ1 := (d, 314, 62, [some (.inl (am_ushr (am_and (am_xor x0 (-1)) (w32 (x0 - 1))) 16)), some (.inl 17)], [], (am_sh, am_mm U))) (σ2 := (d, 314, 55, [some (.inl (am_ushr (am_and (am_xor x0 (-1)) (w32 (x0 - 1))) 16)), some (.inl 17)], [], (am_sh, am_mm U))) 3 (fun _ => rfl) (fun hc => ?_) (fun hc => ?_)
        · have h1211 := h121.1 hc
          refine ev_br (P := (am_ushr (am_and (am_xor x0 (-1)) (w32 (x0 - 1))) 16) ≤ 4) (σ1 := (d, 314, 74, [some (.inl (am_ushr (am_and (am_xor x0 (-1)) (w32 (x0 - 1))) 16)), some (.inl 17)], [], (am_sh, am_mm U))) (σ2 := (d, 314, 67, [some (.inl (am_ushr (am_and (am_xor x0 (-1)) (w32 (x0 - 1))) 16)), some (.inl 17)], [], (am_sh, am_mm U))) 3 (fun _ => rfl) (fun hc => ?_) (fun hc => ?_)
          · have h12111 := h1211.1 hc
            subst h12111
            exact ev_end 6 (fun _ => rfl)
          · have h12112 := h1211.2 (Int.not_le.mp hc)
            subst h12112
            exact ev_end 11 (fun _ => rfl)
        · have h1212 := h121.2 (Int.not_le.mp hc)
          refine ev_br (P := (am_ushr (am_ushr (am_and (am_xor x0 (-1)) (w32 (x0 - 1))) 16) 4) ≤ 4) (σ1 := (d, 314, 74, [some (.inl (am_ushr (am_ushr (am_and (am_xor x0 (-1)) (w32 (x0 - 1))) 16) 4)), some (.inl 21)], [], (am_sh, am_mm U))) (σ2 := (d, 314, 67, [some (.inl (am_ushr (am_ushr (am_and (am_xor x0 (-1)) (w32 (x0 - 1))) 16) 4)), some (.inl 21)], [], (am_sh, am_mm U))) 8 (fun _ => rfl) (fun hc => ?_) (fun hc => ?_)
          · have h12121 := h1212.1 hc
            subst h12121
            exact ev_end 6 (fun _ => rfl)
          · have h12122 := h1212.2 (Int.not_le.mp hc)
            subst h12122
            exact ev_end 11 (fun _ => rfl)
      · have h122 := h12.2 (Int.not_le.mp hc)
        refine ev_br (P := (am_ushr (am_ushr (am_and (am_xor x0 (-1)) (w32 (x0 - 1))) 16) 8) ≤ 16) (σ1 := (d, 314, 62, [some (.inl (am_ushr (am_ushr (am_and (am_xor x0 (-1)) (w32 (x0 - 1))) 16) 8)), some (.inl 25)], [], (am_sh, am_mm U))) (σ2 := (d, 314, 55, [some (.inl (am_ushr (am_ushr (am_and (am_xor x0 (-1)) (w32 (x0 - 1))) 16) 8)), some (.inl 25)], [], (am_sh, am_mm U))) 8 (fun _ => rfl) (fun hc => ?_) (fun hc => ?_)
        · have h1221 := h122.1 hc
          refine ev_br (P := (am_ushr (am_ushr (am_and (am_xor x0 (-1)) (w32 (x0 - 1))) 16) 8) ≤ 4) (σ1 := (d, 314, 74, [some (.inl (am_ushr (am_ushr (am_and (am_xor x0 (-1)) (w32 (x0 - 1))) 16) 8)), some (.inl 25)], [], (am_sh, am_mm U))) (σ2 := (d, 314, 67, [some (.inl (am_ushr (am_ushr (am_and (am_xor x0 (-1)) (w32 (x0 - 1))) 16) 8)), some (.inl 25)], [], (am_sh, am_mm U))) 3 (fun _ => rfl) (fun hc => ?_) (fun hc => ?_)
          · have h12211 := h1221.1 hc
            subst h12211
            exact ev_end 6 (fun _ => rfl)
          · have h12212 := h1221.2 (Int.not_le.mp hc)
            subst h12212
            exact ev_end 11 (fun _ => rfl)
        · have h1222 := h122.2 (Int.not_le.mp hc)
          refine ev_br (P := (am_ushr (am_ushr (am_ushr (am_and (am_xor x0 (-1)) (w32 (x0 - 1))) 16) 8) 4) ≤ 4) (σ1 := (d, 314, 74, [some (.inl (am_ushr (am_ushr (am_ushr (am_and (am_xor x0 (-1)) (w32 (x0 - 1))) 16) 8) 4)), some (.inl 29)], [], (am_sh, am_mm U))) (σ2 := (d, 314, 67, [some (.inl (am_ushr (am_ushr (am_ushr (am_and (am_xor x0 (-1)) (w32 (x0 - 1))) 16) 8) 4)), some (.inl 29)], [], (am_sh, am_mm U))) 8 (fun _ => rfl) (fun hc => ?_) (fun hc => ?_)
          · have h12221 := h1222.1 hc
            subst h12221
            exact ev_end 6 (fun _ => rfl)
          · have h12222 := h1222.2 (Int.not_le.mp hc)
            subst h12222
            exact ev_end 11 (fun _ => rfl)
  · have h2 := h.2 (Int.not_lt.mp hc)
    subst h2
    exact ev_end 4 (fun _ => rfl)
set_option maxRecDepth 8000 in
theorem Cp_keepIfMore_r0 {N : Nat} {X : Nat → Int} {d : Nat} {x1 x2 : Int} {U : am_U} {R : Option am_V × am_M} (h : (((am_shr x1 (U 52 6)) < 0) → R = rV U) ∧ ((0 ≤ (am_shr x1 (U 52 6))) → ((4096 ≤ (am_shr x1 (U 52 6))) → R = rV U) ∧ (((am_shr x1 (U 52 6)) < 4096) → (0 ≤ (am_shr x1 (U 52 6)) ∧ (am_shr x1 (U 52 6)) < 4096) ∧ (((U 52 7) < (w32 (x2 + (U 44 ((am_shr x1 (U 52 6)).toNat))))) → ((0 : Int) ≤ 0 ∧ (0 : Int) ≤ 0 ∧ (0 : Int) ≤ 16 ∧ (0 : Int) + 16 ≤ 16 ∧ (0 : Int) + 16 ≤ 16) ∧ R = rV (am_cpy (am_upd U 52 7 (w32 (x2 + (U 44 ((am_shr x1 (U 52 6)).toNat))))) 54 55 0 0 16)) ∧ (((w32 (x2 + (U 44 ((am_shr x1 (U 52 6)).toNat)))) ≤ (U 52 7)) → R = rV U)))) : EvK N X (Cp_keepIfMore_s0 (d + 1) x1 x2 U) R := by
  show Ev (am_kz N X) ((d + 1), 315, 0, [some (.inr (.inr 52)), some (.inl x1), some (.inl x2), none], [], (am_sh, am_mm U)) R
  refine ev_br (P := (am_shr x1 (U 52 6)) < 0) (σ1 := ((d + 1), 315, 35, [some (.inr (.inr 52)), some (.inl x1), some (.inl x2), some (.inl (am_shr x1 (U 52 6)))], [], (am_sh, am_mm U))) (σ2 := ((d + 1), 315, 11, [some (.inr (.inr 52)), some (.inl x1), some (.inl x2), some (.inl (am_shr x1 (U 52 6)))], [], (am_sh, am_mm U))) 7 (fun _ => rfl) (fun hc => ?_) (fun hc => ?_)
  · have h1 := h.1 hc
    subst h1
    exact ev_end 1 (fun _ => rfl)
  · have h2 := h.2 (Int.not_lt.mp hc)
    refine ev_br (P := 4096 ≤ (am_shr x1 (U 52 6))) (σ1 := ((d + 1), 315, 35, [some (.inr (.inr 52)), some (.inl x1), some (.inl x2), some (.inl (am_shr x1 (U 52 6)))], [], (am_sh, am_mm U))) (σ2 := ((d + 1), 315, 20, [some (.inr (.inr 52)), some (.inl x1), some (.inl x2), some (.inl (am_shr x1 (U 52 6)))], [], (am_sh, am_mm U))) 5 (fun _ => rfl) (fun hc => ?_) (fun hc => ?_)
    · have h21 := h2.1 hc
      subst h21
      exact ev_end 1 (fun _ => rfl)
    · have h22 := h2.2 (Int.not_le.mp hc)
      refine ev_seg (σ1 := ((d + 1), 315, 26, [some (.inr (.inr 52)), some (.inl x1), some (.inl x2), some (.inl (am_shr x1 (U 52 6)))], [.inl (am_shr x1 (U 52 6)), .inr (.inr 44), .inl x2], (am_sh, am_mm U))) 4 (fun _ => rfl) ?_
      refine eu_iald 44 (n := 4096) rfl (by decide) rfl (fun _ => rfl) h22.1 ?_
      show Ev (am_kz N X) ((d + 1), 315, 27, [some (.inr (.inr 52)), some (.inl x1), some (.inl x2), some (.inl (am_shr x1 (U 52 6)))], [.inl (U 44 ((am_shr x1 (U 52 6)).toNat)), .inl x2], (am_sh, am_mm U)) R
      have h22a := h22.2
      refine ev_br (P := (U 52 7) < (w32 (x2 + (U 44 ((am_shr x1 (U 52 6)).toNat))))) (σ1 := ((d + 1), 315, 36, [some (.inr (.inr 52)), some (.inl x1), some (.inl x2), some (.inl (am_shr x1 (U 52 6)))], [], (am_sh, am_mm U))) (σ2 := ((d + 1), 315, 35, [some (.inr (.inr 52)), some (.inl x1), some (.inl x2), some (.inl (am_shr x1 (U 52 6)))], [], (am_sh, am_mm U))) 4 (fun _ => rfl) (fun hc => ?_) (fun hc => ?_)
      · have h22a1 := h22a.1 hc
        refine ev_seg (σ1 := ((d + 1), 315, 43, [some (.inr (.inr 52)), some (.inl x1), some (.inl x2), some (.inl (am_shr x1 (U 52 6)))], [.inl (am_shr x1 (U 52 6)), .inr (.inr 44), .inl x2, .inr (.inr 52)], (am_sh, am_mm U))) 5 (fun _ => rfl) ?_
        refine eu_iald 44 (n := 4096) rfl (by decide) rfl (fun _ => rfl) h22.1 ?_
        show Ev (am_kz N X) ((d + 1), 315, 44, [some (.inr (.inr 52)), some (.inl x1), some (.inl x2), some (.inl (am_shr x1 (U 52 6)))], [.inl (U 44 ((am_shr x1 (U 52 6)).toNat)), .inl x2, .inr (.inr 52)], (am_sh, am_mm U)) R
        refine ev_seg (σ1 := ((d + 1), 315, 45, [some (.inr (.inr 52)), some (.inl x1), some (.inl x2), some (.inl (am_shr x1 (U 52 6)))], [.inl (w32 (x2 + (U 44 ((am_shr x1 (U 52 6)).toNat)))), .inr (.inr 52)], (am_sh, am_mm U))) 1 (fun _ => rfl) ?_
        refine eu_puti 52 (n := 9) rfl (by decide) rfl rfl ?_
        show Ev (am_kz N X) ((d + 1), 315, 48, [some (.inr (.inr 52)), some (.inl x1), some (.inl x2), some (.inl (am_shr x1 (U 52 6)))], [], (am_sh, am_mm (am_upd U 52 7 (w32 (x2 + (U 44 ((am_shr x1 (U 52 6)).toNat))))))) R
        refine ev_seg (σ1 := ((d + 1), 315, 60, [some (.inr (.inr 52)), some (.inl x1), some (.inl x2), some (.inl (am_shr x1 (U 52 6)))], [.inl 16, .inl 0, .inr (.inr 55), .inl 0, .inr (.inr 54)], (am_sh, am_mm (am_upd U 52 7 (w32 (x2 + (U 44 ((am_shr x1 (U 52 6)).toNat)))))))) 7 (fun _ => rfl) ?_
        refine eu_copy 54 55 (n0 := 16) (n1 := 16) rfl (by decide) (by decide) (by decide) (by decide) rfl rfl (fun _ => rfl) (fun _ => rfl) h22a1.1 ?_
        show Ev (am_kz N X) ((d + 1), 315, 63, [some (.inr (.inr 52)), some (.inl x1), some (.inl x2), some (.inl (am_shr x1 (U 52 6)))], [], (am_sh, am_mm (am_cpy (am_upd U 52 7 (w32 (x2 + (U 44 ((am_shr x1 (U 52 6)).toNat))))) 54 55 0 0 16))) R
        have h22a1a := h22a1.2
        subst h22a1a
        exact ev_end 1 (fun _ => rfl)
      · have h22a2 := h22a.2 (Int.not_lt.mp hc)
        subst h22a2
        exact ev_end 1 (fun _ => rfl)
set_option maxRecDepth 8000 in
theorem Cp_pairOne_r0 {N : Nat} {X : Nat → Int} {d : Nat} {x1 x2 x3 : Int} {U : am_U} {R : Option am_V × am_M} (h : EvK N X (Cp_pairOne_s5 d x1 x2 x3 (w32 (x1 + 1)) U) R) : EvK N X (Cp_pairOne_s0 d x1 x2 x3 U) R := by
  show Ev (am_kz N X) (d, 316, 0, [some (.inr (.inr 52)), some (.inl x1), some (.inl x2), some (.inl x3), none, none, none], [], (am_sh, am_mm U)) R
  refine ev_seg (σ1 := (d, 316, 5, [some (.inr (.inr 52)), some (.inl x1), some (.inl x2), some (.inl x3), some (.inl (w32 (x1 + 1))), none, none], [], (am_sh, am_mm U))) 4 (fun _ => rfl) ?_
  exact h
set_option maxRecDepth 8000 in
theorem Cp_pairOne_r5 {N : Nat} {X : Nat → Int} {d : Nat} {x1 x2 x3 x4 : Int} {U : am_U} {R : Option am_V × am_M} (h : (((U 16 0) ≤ x4) → R = rI x3 U) ∧ ((x4 < (U 16 0)) → (((am_and x3 (am_xor (am_shl 1 (w32 (x4 - (U 52 6)))) (-1))) = x3) → EvK N X (Cp_pairOne_s5 d x1 x2 x3 (w32 (x4 + 1)) U) R) ∧ (((am_and x3 (am_xor (am_shl 1 (w32 (x4 - (U 52 6)))) (-1))) ≠ x3) → (0 ≤ x1 ∧ x1 < 16) ∧ (((am_and (am_shr (U 53 x1.toNat) x4) 1) ≠ 1) → EvK N X (Cp_pairOne_s5 d x1 x2 x3 (w32 (x4 + 1)) U) R) ∧ (((am_and (am_shr (U 53 x1.toNat) x4) 1) = 1) → ((4096 ≤ x2) → EvK N X (Cp_pairOne_s5 d x1 x2 x3 (w32 (x4 + 1)) U) R) ∧ ((x2 < 4096) → (0 ≤ (am_and x3 (am_xor (am_shl 1 (w32 (x4 - (U 52 6)))) (-1))) ∧ (am_and x3 (am_xor (am_shl 1 (w32 (x4 - (U 52 6)))) (-1))) < 4096) ∧ (0 ≤ x2 ∧ x2 < 4096) ∧ (((w32 (1 + (U 44 ((am_and x3 (am_xor (am_shl 1 (w32 (x4 - (U 52 6)))) (-1))).toNat)))) ≠ (U 44 x2.toNat)) → EvK N X (Cp_pairOne_s5 d x1 x2 x3 (w32 (x4 + 1)) U) R) ∧ (((w32 (1 + (U 44 ((am_and x3 (am_xor (am_shl 1 (w32 (x4 - (U 52 6)))) (-1))).toNat)))) = (U 44 x2.toNat)) → (0 ≤ x4 ∧ x4 < 16) ∧ R = rI (am_and x3 (am_xor (am_shl 1 (w32 (x4 - (U 52 6)))) (-1))) (am_upd (am_upd U 55 x1.toNat x4) 55 x4.toNat x1))))))) : EvK N X (Cp_pairOne_s5 d x1 x2 x3 x4 U) R := by
  show Ev (am_kz N X) (d, 316, 5, [some (.inr (.inr 52)), some (.inl x1), some (.inl x2), some (.inl x3), some (.inl x4), none, none], [], (am_sh, am_mm U)) R
  refine ev_br (P := (U 16 0) ≤ x4) (σ1 := (d, 316, 117, [some (.inr (.inr 52)), some (.inl x1), some (.inl x2), some (.inl x3), some (.inl x4), none, none], [], (am_sh, am_mm U))) (σ2 := (d, 316, 17, [some (.inr (.inr 52)), some (.inl x1), some (.inl x2), some (.inl x3), some (.inl x4), none, none], [], (am_sh, am_mm U))) 5 (fun _ => rfl) (fun hc => ?_) (fun hc => ?_)
  · have h1 := h.1 hc
    subst h1
    exact ev_end 2 (fun _ => rfl)
  · have h2 := h.2 (Int.not_le.mp hc)
    refine ev_br (P := (am_and x3 (am_xor (am_shl 1 (w32 (x4 - (U 52 6)))) (-1))) = x3) (σ1 := (d, 316, 57, [some (.inr (.inr 52)), some (.inl x1), some (.inl x2), some (.inl x3), some (.inl x4), some (.inl (am_and x3 (am_xor (am_shl 1 (w32 (x4 - (U 52 6)))) (-1)))), none], [], (am_sh, am_mm U))) (σ2 := (d, 316, 38, [some (.inr (.inr 52)), some (.inl x1), some (.inl x2), some (.inl x3), some (.inl x4), some (.inl (am_and x3 (am_xor (am_shl 1 (w32 (x4 - (U 52 6)))) (-1)))), none], [], (am_sh, am_mm U))) 14 (fun _ => rfl) (fun hc => ?_) (fun hc => ?_)
    · have h21 := h2.1 hc
      refine ev_seg (σ1 := (d, 316, 5, [some (.inr (.inr 52)), some (.inl x1), some (.inl x2), some (.inl x3), some (.inl (w32 (x4 + 1))), some (.inl (am_and x3 (am_xor (am_shl 1 (w32 (x4 - (U 52 6)))) (-1)))), some (.inl 0)], [], (am_sh, am_mm U))) 6 (fun _ => rfl) ?_
      exact ev_le (L := [some (.inr (.inr 52)), some (.inl x1), some (.inl x2), some (.inl x3), some (.inl (w32 (x4 + 1))), none, none]) ⟨rfl, ⟨rfl, ⟨rfl, ⟨rfl, ⟨rfl, trivial⟩⟩⟩⟩⟩ h21
    · have h22 := h2.2 hc
      refine ev_seg (σ1 := (d, 316, 43, [some (.inr (.inr 52)), some (.inl x1), some (.inl x2), some (.inl x3), some (.inl x4), some (.inl (am_and x3 (am_xor (am_shl 1 (w32 (x4 - (U 52 6)))) (-1)))), none], [.inl x1, .inr (.inr 53)], (am_sh, am_mm U))) 3 (fun _ => rfl) ?_
      refine eu_iald 53 (n := 16) rfl (by decide) rfl (fun _ => rfl) h22.1 ?_
      show Ev (am_kz N X) (d, 316, 44, [some (.inr (.inr 52)), some (.inl x1), some (.inl x2), some (.inl x3), some (.inl x4), some (.inl (am_and x3 (am_xor (am_shl 1 (w32 (x4 - (U 52 6)))) (-1)))), none], [.inl (U 53 x1.toNat)], (am_sh, am_mm U)) R
      have h22a := h22.2
      refine ev_br (P := ¬ (am_and (am_shr (U 53 x1.toNat) x4) 1) = 1) (σ1 := (d, 316, 57, [some (.inr (.inr 52)), some (.inl x1), some (.inl x2), some (.inl x3), some (.inl x4), some (.inl (am_and x3 (am_xor (am_shl 1 (w32 (x4 - (U 52 6)))) (-1)))), none], [], (am_sh, am_mm U))) (σ2 := (d, 316, 53, [some (.inr (.inr 52)), some (.inl x1), some (.inl x2), some (.inl x3), some (.inl x4), some (.inl (am_and x3 (am_xor (am_shl 1 (w32 (x4 - (U 52 6)))) (-1)))), none], [], (am_sh, am_mm U))) 6 (fun _ => rfl) (fun hc => ?_) (fun hc => ?_)
      · have h22a1 := h22a.1 hc
        refine ev_seg (σ1 := (d, 316, 5, [some (.inr (.inr 52)), some (.inl x1), some (.inl x2), some (.inl x3), some (.inl (w32 (x4 + 1))), some (.inl (am_and x3 (am_xor (am_shl 1 (w32 (x4 - (U 52 6)))) (-1)))), some (.inl 0)], [], (am_sh, am_mm U))) 6 (fun _ => rfl) ?_
        exact ev_le (L := [some (.inr (.inr 52)), some (.inl x1), some (.inl x2), some (.inl x3), some (.inl (w32 (x4 + 1))), none, none]) ⟨rfl, ⟨rfl, ⟨rfl, ⟨rfl, ⟨rfl, trivial⟩⟩⟩⟩⟩ h22a1
      · have h22a2 := h22a.2 (Decidable.not_not.mp hc)
        refine ev_br (P := 4096 ≤ x2) (σ1 := (d, 316, 111, [some (.inr (.inr 52)), some (.inl x1), some (.inl x2), some (.inl x3), some (.inl x4), some (.inl (am_and x3 (am_xor (am_shl 1 (w32 (x4 - (U 52 6)))) (-1)))), some (.inl 1)], [], (am_sh, am_mm U))) (σ2 := (d, 316, 74, [some (.inr (.inr 52)), some (.inl x1), some (.inl x2), some (.inl x3), some (.inl x4), some (.inl (am_and x3 (am_xor (am_shl 1 (w32 (x4 - (U 52 6)))) (-1)))), some (.inl 1)], [], (am_sh, am_mm U))) 10 (fun _ => rfl) (fun hc => ?_) (fun hc => ?_)
        · have h22a21 := h22a2.1 hc
          refine ev_seg (σ1 := (d, 316, 5, [some (.inr (.inr 52)), some (.inl x1), some (.inl x2), some (.inl x3), some (.inl (w32 (x4 + 1))), some (.inl (am_and x3 (am_xor (am_shl 1 (w32 (x4 - (U 52 6)))) (-1)))), some (.inl 1)], [], (am_sh, am_mm U))) 2 (fun _ => rfl) ?_
          exact ev_le (L := [some (.inr (.inr 52)), some (.inl x1), some (.inl x2), some (.inl x3), some (.inl (w32 (x4 + 1))), none, none]) ⟨rfl, ⟨rfl, ⟨rfl, ⟨rfl, ⟨rfl, trivial⟩⟩⟩⟩⟩ h22a21
        · have h22a22 := h22a2.2 (Int.not_le.mp hc)
          refine ev_seg (σ1 := (d, 316, 81, [some (.inr (.inr 52)), some (.inl x1), some (.inl x2), some (.inl x3), some (.inl x4), some (.inl (am_and x3 (am_xor (am_shl 1 (w32 (x4 - (U 52 6)))) (-1)))), some (.inl 1)], [.inl (am_and x3 (am_xor (am_shl 1 (w32 (x4 - (U 52 6)))) (-1))), .inr (.inr 44), .inl 1], (am_sh, am_mm U))) 4 (fun _ => rfl) ?_
          refine eu_iald 44 (n := 4096) rfl (by decide) rfl (fun _ => rfl) h22a22.1 ?_
          show Ev (am_kz N X) (d, 316, 82, [some (.inr (.inr 52)), some (.inl x1), some (.inl x2), some (.inl x3), some (.inl x4), some (.inl (am_and x3 (am_xor (am_shl 1 (w32 (x4 - (U 52 6)))) (-1)))), some (.inl 1)], [.inl (U 44 ((am_and x3 (am_xor (am_shl 1 (w32 (x4 - (U 52 6)))) (-1))).toNat)), .inl 1], (am_sh, am_mm U)) R
          have h22a22a := h22a22.2
          refine ev_seg (σ1 := (d, 316, 88, [some (.inr (.inr 52)), some (.inl x1), some (.inl x2), some (.inl x3), some (.inl x4), some (.inl (am_and x3 (am_xor (am_shl 1 (w32 (x4 - (U 52 6)))) (-1)))), some (.inl 1)], [.inl x2, .inr (.inr 44), .inl (w32 (1 + (U 44 ((am_and x3 (am_xor (am_shl 1 (w32 (x4 - (U 52 6)))) (-1))).toNat))))], (am_sh, am_mm U))) 4 (fun _ => rfl) ?_
          refine eu_iald 44 (n := 4096) rfl (by decide) rfl (fun _ => rfl) h22a22a.1 ?_
          show Ev (am_kz N X) (d, 316, 89, [some (.inr (.inr 52)), some (.inl x1), some (.inl x2), some (.inl x3), some (.inl x4), some (.inl (am_and x3 (am_xor (am_shl 1 (w32 (x4 - (U 52 6)))) (-1)))), some (.inl 1)], [.inl (U 44 x2.toNat), .inl (w32 (1 + (U 44 ((am_and x3 (am_xor (am_shl 1 (w32 (x4 - (U 52 6)))) (-1))).toNat))))], (am_sh, am_mm U)) R
          have h22a22aa := h22a22a.2
          refine ev_br (P := ¬ (w32 (1 + (U 44 ((am_and x3 (am_xor (am_shl 1 (w32 (x4 - (U 52 6)))) (-1))).toNat)))) = (U 44 x2.toNat)) (σ1 := (d, 316, 111, [some (.inr (.inr 52)), some (.inl x1), some (.inl x2), some (.inl x3), some (.inl x4), some (.inl (am_and x3 (am_xor (am_shl 1 (w32 (x4 - (U 52 6)))) (-1)))), some (.inl 1)], [], (am_sh, am_mm U))) (σ2 := (d, 316, 92, [some (.inr (.inr 52)), some (.inl x1), some (.inl x2), some (.inl x3), some (.inl x4), some (.inl (am_and x3 (am_xor (am_shl 1 (w32 (x4 - (U 52 6)))) (-1)))), some (.inl 1)], [], (am_sh, am_mm U))) 1 (fun _ => rfl) (fun hc => ?_) (fun hc => ?_)
          · have h22a22aa1 := h22a22aa.1 hc
            refine ev_seg (σ1 := (d, 316, 5, [some (.inr (.inr 52)), some (.inl x1), some (.inl x2), some (.inl x3), some (.inl (w32 (x4 + 1))), some (.inl (am_and x3 (am_xor (am_shl 1 (w32 (x4 - (U 52 6)))) (-1)))), some (.inl 1)], [], (am_sh, am_mm U))) 2 (fun _ => rfl) ?_
            exact ev_le (L := [some (.inr (.inr 52)), some (.inl x1), some (.inl x2), some (.inl x3), some (.inl (w32 (x4 + 1))), none, none]) ⟨rfl, ⟨rfl, ⟨rfl, ⟨rfl, ⟨rfl, trivial⟩⟩⟩⟩⟩ h22a22aa1
          · have h22a22aa2 := h22a22aa.2 (Decidable.not_not.mp hc)
            refine ev_seg (σ1 := (d, 316, 99, [some (.inr (.inr 52)), some (.inl x1), some (.inl x2), some (.inl x3), some (.inl x4), some (.inl (am_and x3 (am_xor (am_shl 1 (w32 (x4 - (U 52 6)))) (-1)))), some (.inl 1)], [.inl x4, .inl x1, .inr (.inr 55)], (am_sh, am_mm U))) 4 (fun _ => rfl) ?_
            refine eu_iast 55 (n := 16) rfl (by decide) rfl (fun _ => rfl) h22.1 ?_
            show Ev (am_kz N X) (d, 316, 100, [some (.inr (.inr 52)), some (.inl x1), some (.inl x2), some (.inl x3), some (.inl x4), some (.inl (am_and x3 (am_xor (am_shl 1 (w32 (x4 - (U 52 6)))) (-1)))), some (.inl 1)], [], (am_sh, am_mm (am_upd U 55 x1.toNat x4))) R
            refine ev_seg (σ1 := (d, 316, 107, [some (.inr (.inr 52)), some (.inl x1), some (.inl x2), some (.inl x3), some (.inl x4), some (.inl (am_and x3 (am_xor (am_shl 1 (w32 (x4 - (U 52 6)))) (-1)))), some (.inl 1)], [.inl x1, .inl x4, .inr (.inr 55)], (am_sh, am_mm (am_upd U 55 x1.toNat x4)))) 4 (fun _ => rfl) ?_
            refine eu_iast 55 (n := 16) rfl (by decide) rfl (fun _ => rfl) h22a22aa2.1 ?_
            show Ev (am_kz N X) (d, 316, 108, [some (.inr (.inr 52)), some (.inl x1), some (.inl x2), some (.inl x3), some (.inl x4), some (.inl (am_and x3 (am_xor (am_shl 1 (w32 (x4 - (U 52 6)))) (-1)))), some (.inl 1)], [], (am_sh, am_mm (am_upd (am_upd U 55 x1.toNat x4) 55 x4.toNat x1))) R
            have h22a22aa2a := h22a22aa2.2
            subst h22a22aa2a
            exact ev_end 2 (fun _ => rfl)
set_option maxRecDepth 8000 in
theorem Fk_settle_21_r0 {N : Nat} {X : Nat → Int} {d : Nat} {x1 x2 : Int} {U : am_U} {R : Option am_V × am_M} (h : ((x1 < 0) → R = rV U) ∧ ((0 ≤ x1) → ((x1 < 16) → (0 ≤ x1 ∧ x1 < 16) ∧ (((U 23 x1.toNat) < 0) → ((x2 < 0) → R = rV (am_upd U 23 x1.toNat (-1))) ∧ ((0 ≤ x2) → ((12 ≤ x2) → R = rV (am_upd U 23 x1.toNat (-1))) ∧ ((x2 < 12) → (0 ≤ x2 ∧ x2 < 12) ∧ R = rV (am_upd (am_upd (am_upd U 23 x1.toNat (-1)) 23 x1.toNat x2) 24 x2.toNat (am_or (U 24 x2.toNat) (am_shl 1 x1)))))) ∧ ((0 ≤ (U 23 x1.toNat)) → ((12 ≤ (U 23 x1.toNat)) → ((x2 < 0) → R = rV (am_upd U 23 x1.toNat (-1))) ∧ ((0 ≤ x2) → ((12 ≤ x2) → R = rV (am_upd U 23 x1.toNat (-1))) ∧ ((x2 < 12) → (0 ≤ x2 ∧ x2 < 12) ∧ R = rV (am_upd (am_upd (am_upd U 23 x1.toNat (-1)) 23 x1.toNat x2) 24 x2.toNat (am_or (U 24 x2.toNat) (am_shl 1 x1)))))) ∧ (((U 23 x1.toNat) < 12) → (0 ≤ (U 23 x1.toNat) ∧ (U 23 x1.toNat) < 12) ∧ ((x2 < 0) → R = rV (am_upd (am_upd U 24 ((U 23 x1.toNat).toNat) (am_and (U 24 ((U 23 x1.toNat).toNat)) (am_xor (am_shl 1 x1) (-1)))) 23 x1.toNat (-1))) ∧ ((0 ≤ x2) → ((12 ≤ x2) → R = rV (am_upd (am_upd U 24 ((U 23 x1.toNat).toNat) (am_and (U 24 ((U 23 x1.toNat).toNat)) (am_xor (am_shl 1 x1) (-1)))) 23 x1.toNat (-1))) ∧ ((x2 < 12) → (0 ≤ x2 ∧ x2 < 12) ∧ R = rV (am_upd (am_upd (am_upd (am_upd U 24 ((U 23 x1.toNat).toNat) (am_and (U 24 ((U 23 x1.toNat).toNat)) (am_xor (am_shl 1 x1) (-1)))) 23 x1.toNat (-1)) 23 x1.toNat x2) 24 x2.toNat (am_or ((am_upd U 24 ((U 23 x1.toNat).toNat) (am_and (U 24 ((U 23 x1.toNat).toNat)) (am_xor (am_shl 1 x1) (-1)))) 24 x2.toNat) (am_shl 1 x1)))))))) ∧ ((16 ≤ x1) → R = rV U))) : EvK N X (Fk_settle_21_s0 d x1 x2 U) R := by
  show Ev (am_kz N X) (d, 138, 0, [some (.inr (.inr 21)), some (.inl x1), some (.inl x2), none], [], (am_sh, am_mm U)) R
  refine ev_br (P := x1 < 0) (σ1 := (d, 138, 10, [some (.inr (.inr 21)), some (.inl x1), some (.inl x2), none], [], (am_sh, am_mm U))) (σ2 := (d, 138, 4, [some (.inr (.inr 21)), some (.inl x1), some (.inl x2), none], [], (am_sh, am_mm U))) 2 (fun _ => rfl) (fun hc => ?_) (fun hc => ?_)
  · have h1 := h.1 hc
    subst h1
    exact ev_end 1 (fun _ => rfl)
  · have h2 := h.2 (Int.not_lt.mp hc)
    refine ev_br (P := x1 < 16) (σ1 := (d, 138, 11, [some (.inr (.inr 21)), some (.inl x1), some (.inl x2), none], [], (am_sh, am_mm U))) (σ2 := (d, 138, 10, [some (.inr (.inr 21)), some (.inl x1), some (.inl x2), none], [], (am_sh, am_mm U))) 3 (fun _ => rfl) (fun hc => ?_) (fun hc => ?_)
    · have h21 := h2.1 hc
      refine ev_seg (σ1 := (d, 138, 16, [some (.inr (.inr 21)), some (.inl x1), some (.inl x2), none], [.inl x1, .inr (.inr 23)], (am_sh, am_mm U))) 3 (fun _ => rfl) ?_
      refine eu_iald 23 (n := 16) rfl (by decide) rfl (fun _ => rfl) h21.1 ?_
      show Ev (am_kz N X) (d, 138, 17, [some (.inr (.inr 21)), some (.inl x1), some (.inl x2), none], [.inl (U 23 x1.toNat)], (am_sh, am_mm U)) R
      have h21a := h21.2
      refine ev_br (P := (U 23 x1.toNat) < 0) (σ1 := (d, 138, 42, [some (.inr (.inr 21)), some (.inl x1), some (.inl x2), some (.inl (U 23 x1.toNat))], [], (am_sh, am_mm U))) (σ2 := (d, 138, 22, [some (.inr (.inr 21)), some (.inl x1), some (.inl x2), some (.inl (U 23 x1.toNat))], [], (am_sh, am_mm U))) 3 (fun _ => rfl) (fun hc => ?_) (fun hc => ?_)
      · have h21a1 := h21a.1 hc
        refine ev_seg (σ1 := (d, 138, 48, [some (.inr (.inr 21)), some (.inl x1), some (.inl x2), some (.inl (U 23 x1.toNat))], [.inl (-1), .inl x1, .inr (.inr 23)], (am_sh, am_mm U))) 4 (fun _ => rfl) ?_
        refine eu_iast 23 (n := 16) rfl (by decide) rfl (fun _ => rfl) h21.1 ?_
        show Ev (am_kz N X) (d, 138, 49, [some (.inr (.inr 21)), some (.inl x1), some (.inl x2), some (.inl (U 23 x1.toNat))], [], (am_sh, am_mm (am_upd U 23 x1.toNat (-1)))) R
        refine ev_br (P := x2 < 0) (σ1 := (d, 138, 78, [some (.inr (.inr 21)), some (.inl x1), some (.inl x2), some (.inl (U 23 x1.toNat))], [], (am_sh, am_mm (am_upd U 23 x1.toNat (-1))))) (σ2 := (d, 138, 53, [some (.inr (.inr 21)), some (.inl x1), some (.inl x2), some (.inl (U 23 x1.toNat))], [], (am_sh, am_mm (am_upd U 23 x1.toNat (-1))))) 2 (fun _ => rfl) (fun hc => ?_) (fun hc => ?_)
        · have h21a11 := h21a1.1 hc
          subst h21a11
          exact ev_end 1 (fun _ => rfl)
        · have h21a12 := h21a1.2 (Int.not_lt.mp hc)
          refine ev_br (P := 12 ≤ x2) (σ1 := (d, 138, 78, [some (.inr (.inr 21)), some (.inl x1), some (.inl x2), some (.inl (U 23 x1.toNat))], [], (am_sh, am_mm (am_upd U 23 x1.toNat (-1))))) (σ2 := (d, 138, 59, [some (.inr (.inr 21)), some (.inl x1), some (.inl x2), some (.inl (U 23 x1.toNat))], [], (am_sh, am_mm (am_upd U 23 x1.toNat (-1))))) 3 (fun _ => rfl) (fun hc => ?_) (fun hc => ?_)
          · have h21a121 := h21a12.1 hc
            subst h21a121
            exact ev_end 1 (fun _ => rfl)
          · have h21a122 := h21a12.2 (Int.not_le.mp hc)
            refine ev_seg (σ1 := (d, 138, 65, [some (.inr (.inr 21)), some (.inl x1), some (.inl x2), some (.inl (U 23 x1.toNat))], [.inl x2, .inl x1, .inr (.inr 23)], (am_sh, am_mm (am_upd U 23 x1.toNat (-1))))) 4 (fun _ => rfl) ?_
            refine eu_iast 23 (n := 16) rfl (by decide) rfl (fun _ => rfl) h21.1 ?_
            show Ev (am_kz N X) (d, 138, 66, [some (.inr (.inr 21)), some (.inl x1), some (.inl x2), some (.inl (U 23 x1.toNat))], [], (am_sh, am_mm (am_upd (am_upd U 23 x1.toNat (-1)) 23 x1.toNat x2))) R
            refine ev_seg (σ1 := (d, 138, 72, [some (.inr (.inr 21)), some (.inl x1), some (.inl x2), some (.inl (U 23 x1.toNat))], [.inl x2, .inr (.inr 24), .inl x2, .inr (.inr 24)], (am_sh, am_mm (am_upd (am_upd U 23 x1.toNat (-1)) 23 x1.toNat x2)))) 4 (fun _ => rfl) ?_
            refine eu_iald 24 (n := 12) rfl (by decide) rfl (fun _ => rfl) h21a122.1 ?_
            show Ev (am_kz N X) (d, 138, 73, [some (.inr (.inr 21)), some (.inl x1), some (.inl x2), some (.inl (U 23 x1.toNat))], [.inl (U 24 x2.toNat), .inl x2, .inr (.inr 24)], (am_sh, am_mm (am_upd (am_upd U 23 x1.toNat (-1)) 23 x1.toNat x2))) R
            have h21a122a := h21a122.2
            refine ev_seg (σ1 := (d, 138, 77, [some (.inr (.inr 21)), some (.inl x1), some (.inl x2), some (.inl (U 23 x1.toNat))], [.inl (am_or (U 24 x2.toNat) (am_shl 1 x1)), .inl x2, .inr (.inr 24)], (am_sh, am_mm (am_upd (am_upd U 23 x1.toNat (-1)) 23 x1.toNat x2)))) 4 (fun _ => rfl) ?_
            refine eu_iast 24 (n := 12) rfl (by decide) rfl (fun _ => rfl) h21a122.1 ?_
            show Ev (am_kz N X) (d, 138, 78, [some (.inr (.inr 21)), some (.inl x1), some (.inl x2), some (.inl (U 23 x1.toNat))], [], (am_sh, am_mm (am_upd (am_upd (am_upd U 23 x1.toNat (-1)) 23 x1.toNat x2) 24 x2.toNat (am_or (U 24 x2.toNat) (am_shl 1 x1))))) R
            subst h21a122a
            exact ev_end 1 (fun _ => rfl)
      · have h21a2 := h21a.2 (Int.not_lt.mp hc)
        refine ev_br (P := 12 ≤ (U 23 x1.toNat)) (σ1 := (d, 138, 42, [some (.inr (.inr 21)), some (.inl x1), some (.inl x2), some (.inl (U 23 x1.toNat))], [], (am_sh, am_mm U))) (σ2 := (d, 138, 28, [some (.inr (.inr 21)), some (.inl x1), some (.inl x2), some (.inl (U 23 x1.toNat))], [], (am_sh, am_mm U))) 3 (fun _ => rfl) (fun hc => ?_) (fun hc => ?_)
        · have h21a21 := h21a2.1 hc
          refine ev_seg (σ1 := (d, 138, 48, [some (.inr (.inr 21)), some (.inl x1), some (.inl x2), some (.inl (U 23 x1.toNat))], [.inl (-1), .inl x1, .inr (.inr 23)], (am_sh, am_mm U))) 4 (fun _ => rfl) ?_
          refine eu_iast 23 (n := 16) rfl (by decide) rfl (fun _ => rfl) h21.1 ?_
          show Ev (am_kz N X) (d, 138, 49, [some (.inr (.inr 21)), some (.inl x1), some (.inl x2), some (.inl (U 23 x1.toNat))], [], (am_sh, am_mm (am_upd U 23 x1.toNat (-1)))) R
          refine ev_br (P := x2 < 0) (σ1 := (d, 138, 78, [some (.inr (.inr 21)), some (.inl x1), some (.inl x2), some (.inl (U 23 x1.toNat))], [], (am_sh, am_mm (am_upd U 23 x1.toNat (-1))))) (σ2 := (d, 138, 53, [some (.inr (.inr 21)), some (.inl x1), some (.inl x2), some (.inl (U 23 x1.toNat))], [], (am_sh, am_mm (am_upd U 23 x1.toNat (-1))))) 2 (fun _ => rfl) (fun hc => ?_) (fun hc => ?_)
          · have h21a211 := h21a21.1 hc
            subst h21a211
            exact ev_end 1 (fun _ => rfl)
          · have h21a212 := h21a21.2 (Int.not_lt.mp hc)
            refine ev_br (P := 12 ≤ x2) (σ1 := (d, 138, 78, [some (.inr (.inr 21)), some (.inl x1), some (.inl x2), some (.inl (U 23 x1.toNat))], [], (am_sh, am_mm (am_upd U 23 x1.toNat (-1))))) (σ2 := (d, 138, 59, [some (.inr (.inr 21)), some (.inl x1), some (.inl x2), some (.inl (U 23 x1.toNat))], [], (am_sh, am_mm (am_upd U 23 x1.toNat (-1))))) 3 (fun _ => rfl) (fun hc => ?_) (fun hc => ?_)
            · have h21a2121 := h21a212.1 hc
              subst h21a2121
              exact ev_end 1 (fun _ => rfl)
            · have h21a2122 := h21a212.2 (Int.not_le.mp hc)
              refine ev_seg (σ1 := (d, 138, 65, [some (.inr (.inr 21)), some (.inl x1), some (.inl x2), some (.inl (U 23 x1.toNat))], [.inl x2, .inl x1, .inr (.inr 23)], (am_sh, am_mm (am_upd U 23 x1.toNat (-1))))) 4 (fun _ => rfl) ?_
              refine eu_iast 23 (n := 16) rfl (by decide) rfl (fun _ => rfl) h21.1 ?_
              show Ev (am_kz N X) (d, 138, 66, [some (.inr (.inr 21)), some (.inl x1), some (.inl x2), some (.inl (U 23 x1.toNat))], [], (am_sh, am_mm (am_upd (am_upd U 23 x1.toNat (-1)) 23 x1.toNat x2))) R
              refine ev_seg (σ1 := (d, 138, 72, [some (.inr (.inr 21)), some (.inl x1), some (.inl x2), some (.inl (U 23 x1.toNat))], [.inl x2, .inr (.inr 24), .inl x2, .inr (.inr 24)], (am_sh, am_mm (am_upd (am_upd U 23 x1.toNat (-1)) 23 x1.toNat x2)))) 4 (fun _ => rfl) ?_
              refine eu_iald 24 (n := 12) rfl (by decide) rfl (fun _ => rfl) h21a2122.1 ?_
              show Ev (am_kz N X) (d, 138, 73, [some (.inr (.inr 21)), some (.inl x1), some (.inl x2), some (.inl (U 23 x1.toNat))], [.inl (U 24 x2.toNat), .inl x2, .inr (.inr 24)], (am_sh, am_mm (am_upd (am_upd U 23 x1.toNat (-1)) 23 x1.toNat x2))) R
              have h21a2122a := h21a2122.2
              refine ev_seg (σ1 := (d, 138, 77, [some (.inr (.inr 21)), some (.inl x1), some (.inl x2), some (.inl (U 23 x1.toNat))], [.inl (am_or (U 24 x2.toNat) (am_shl 1 x1)), .inl x2, .inr (.inr 24)], (am_sh, am_mm (am_upd (am_upd U 23 x1.toNat (-1)) 23 x1.toNat x2)))) 4 (fun _ => rfl) ?_
              refine eu_iast 24 (n := 12) rfl (by decide) rfl (fun _ => rfl) h21a2122.1 ?_
              show Ev (am_kz N X) (d, 138, 78, [some (.inr (.inr 21)), some (.inl x1), some (.inl x2), some (.inl (U 23 x1.toNat))], [], (am_sh, am_mm (am_upd (am_upd (am_upd U 23 x1.toNat (-1)) 23 x1.toNat x2) 24 x2.toNat (am_or (U 24 x2.toNat) (am_shl 1 x1))))) R
              subst h21a2122a
              exact ev_end 1 (fun _ => rfl)
        · have h21a22 := h21a2.2 (Int.not_le.mp hc)
          refine ev_seg (σ1 := (d, 138, 34, [some (.inr (.inr 21)), some (.inl x1), some (.inl x2), some (.inl (U 23 x1.toNat))], [.inl (U 23 x1.toNat), .inr (.inr 24), .inl (U 23 x1.toNat), .inr (.inr 24)], (am_sh, am_mm U))) 4 (fun _ => rfl) ?_
          refine eu_iald 24 (n := 12) rfl (by decide) rfl (fun _ => rfl) h21a22.1 ?_
          show Ev (am_kz N X) (d, 138, 35, [some (.inr (.inr 21)), some (.inl x1), some (.inl x2), some (.inl (U 23 x1.toNat))], [.inl (U 24 ((U 23 x1.toNat).toNat)), .inl (U 23 x1.toNat), .inr (.inr 24)], (am_sh, am_mm U)) R
          have h21a22a := h21a22.2
          refine ev_seg (σ1 := (d, 138, 41, [some (.inr (.inr 21)), some (.inl x1), some (.inl x2), some (.inl (U 23 x1.toNat))], [.inl (am_and (U 24 ((U 23 x1.toNat).toNat)) (am_xor (am_shl 1 x1) (-1))), .inl (U 23 x1.toNat), .inr (.inr 24)], (am_sh, am_mm U))) 6 (fun _ => rfl) ?_
          refine eu_iast 24 (n := 12) rfl (by decide) rfl (fun _ => rfl) h21a22.1 ?_
          show Ev (am_kz N X) (d, 138, 42, [some (.inr (.inr 21)), some (.inl x1), some (.inl x2), some (.inl (U 23 x1.toNat))], [], (am_sh, am_mm (am_upd U 24 ((U 23 x1.toNat).toNat) (am_and (U 24 ((U 23 x1.toNat).toNat)) (am_xor (am_shl 1 x1) (-1)))))) R
          refine ev_seg (σ1 := (d, 138, 48, [some (.inr (.inr 21)), some (.inl x1), some (.inl x2), some (.inl (U 23 x1.toNat))], [.inl (-1), .inl x1, .inr (.inr 23)], (am_sh, am_mm (am_upd U 24 ((U 23 x1.toNat).toNat) (am_and (U 24 ((U 23 x1.toNat).toNat)) (am_xor (am_shl 1 x1) (-1))))))) 4 (fun _ => rfl) ?_
          refine eu_iast 23 (n := 16) rfl (by decide) rfl (fun _ => rfl) h21.1 ?_
          show Ev (am_kz N X) (d, 138, 49, [some (.inr (.inr 21)), some (.inl x1), some (.inl x2), some (.inl (U 23 x1.toNat))], [], (am_sh, am_mm (am_upd (am_upd U 24 ((U 23 x1.toNat).toNat) (am_and (U 24 ((U 23 x1.toNat).toNat)) (am_xor (am_shl 1 x1) (-1)))) 23 x1.toNat (-1)))) R
          refine ev_br (P := x2 < 0) (σ1 := (d, 138, 78, [some (.inr (.inr 21)), some (.inl x1), some (.inl x2), some (.inl (U 23 x1.toNat))], [], (am_sh, am_mm (am_upd (am_upd U 24 ((U 23 x1.toNat).toNat) (am_and (U 24 ((U 23 x1.toNat).toNat)) (am_xor (am_shl 1 x1) (-1)))) 23 x1.toNat (-1))))) (σ2 := (d, 138, 53, [some (.inr (.inr 21)), some (.inl x1), some (.inl x2), some (.inl (U 23 x1.toNat))], [], (am_sh, am_mm (am_upd (am_upd U 24 ((U 23 x1.toNat).toNat) (am_and (U 24 ((U 23 x1.toNat).toNat)) (am_xor (am_shl 1 x1) (-1)))) 23 x1.toNat (-1))))) 2 (fun _ => rfl) (fun hc => ?_) (fun hc => ?_)
          · have h21a22a1 := h21a22a.1 hc
            subst h21a22a1
            exact ev_end 1 (fun _ => rfl)
          · have h21a22a2 := h21a22a.2 (Int.not_lt.mp hc)
            refine ev_br (P := 12 ≤ x2) (σ1 := (d, 138, 78, [some (.inr (.inr 21)), some (.inl x1), some (.inl x2), some (.inl (U 23 x1.toNat))], [], (am_sh, am_mm (am_upd (am_upd U 24 ((U 23 x1.toNat).toNat) (am_and (U 24 ((U 23 x1.toNat).toNat)) (am_xor (am_shl 1 x1) (-1)))) 23 x1.toNat (-1))))) (σ2 := (d, 138, 59, [some (.inr (.inr 21)), some (.inl x1), some (.inl x2), some (.inl (U 23 x1.toNat))], [], (am_sh, am_mm (am_upd (am_upd U 24 ((U 23 x1.toNat).toNat) (am_and (U 24 ((U 23 x1.toNat).toNat)) (am_xor (am_shl 1 x1) (-1)))) 23 x1.toNat (-1))))) 3 (fun _ => rfl) (fun hc => ?_) (fun hc => ?_)
            · have h21a22a21 := h21a22a2.1 hc
              subst h21a22a21
              exact ev_end 1 (fun _ => rfl)
            · have h21a22a22 := h21a22a2.2 (Int.not_le.mp hc)
              refine ev_seg (σ1 := (d, 138, 65, [some (.inr (.inr 21)), some (.inl x1), some (.inl x2), some (.inl (U 23 x1.toNat))], [.inl x2, .inl x1, .inr (.inr 23)], (am_sh, am_mm (am_upd (am_upd U 24 ((U 23 x1.toNat).toNat) (am_and (U 24 ((U 23 x1.toNat).toNat)) (am_xor (am_shl 1 x1) (-1)))) 23 x1.toNat (-1))))) 4 (fun _ => rfl) ?_
              refine eu_iast 23 (n := 16) rfl (by decide) rfl (fun _ => rfl) h21.1 ?_
              show Ev (am_kz N X) (d, 138, 66, [some (.inr (.inr 21)), some (.inl x1), some (.inl x2), some (.inl (U 23 x1.toNat))], [], (am_sh, am_mm (am_upd (am_upd (am_upd U 24 ((U 23 x1.toNat).toNat) (am_and (U 24 ((U 23 x1.toNat).toNat)) (am_xor (am_shl 1 x1) (-1)))) 23 x1.toNat (-1)) 23 x1.toNat x2))) R
              refine ev_seg (σ1 := (d, 138, 72, [some (.inr (.inr 21)), some (.inl x1), some (.inl x2), some (.inl (U 23 x1.toNat))], [.inl x2, .inr (.inr 24), .inl x2, .inr (.inr 24)], (am_sh, am_mm (am_upd (am_upd (am_upd U 24 ((U 23 x1.toNat).toNat) (am_and (U 24 ((U 23 x1.toNat).toNat)) (am_xor (am_shl 1 x1) (-1)))) 23 x1.toNat (-1)) 23 x1.toNat x2)))) 4 (fun _ => rfl) ?_
              refine eu_iald 24 (n := 12) rfl (by decide) rfl (fun _ => rfl) h21a22a22.1 ?_
              show Ev (am_kz N X) (d, 138, 73, [some (.inr (.inr 21)), some (.inl x1), some (.inl x2), some (.inl (U 23 x1.toNat))], [.inl ((am_upd U 24 ((U 23 x1.toNat).toNat) (am_and (U 24 ((U 23 x1.toNat).toNat)) (am_xor (am_shl 1 x1) (-1)))) 24 x2.toNat), .inl x2, .inr (.inr 24)], (am_sh, am_mm (am_upd (am_upd (am_upd U 24 ((U 23 x1.toNat).toNat) (am_and (U 24 ((U 23 x1.toNat).toNat)) (am_xor (am_shl 1 x1) (-1)))) 23 x1.toNat (-1)) 23 x1.toNat x2))) R
              have h21a22a22a := h21a22a22.2
              refine ev_seg (σ1 := (d, 138, 77, [some (.inr (.inr 21)), some (.inl x1), some (.inl x2), some (.inl (U 23 x1.toNat))], [.inl (am_or ((am_upd U 24 ((U 23 x1.toNat).toNat) (am_and (U 24 ((U 23 x1.toNat).toNat)) (am_xor (am_shl 1 x1) (-1)))) 24 x2.toNat) (am_shl 1 x1)), .inl x2, .inr (.inr 24)], (am_sh, am_mm (am_upd (am_upd (am_upd U 24 ((U 23 x1.toNat).toNat) (am_and (U 24 ((U 23 x1.toNat).toNat)) (am_xor (am_shl 1 x1) (-1)))) 23 x1.toNat (-1)) 23 x1.toNat x2)))) 4 (fun _ => rfl) ?_
              refine eu_iast 24 (n := 12) rfl (by decide) rfl (fun _ => rfl) h21a22a22.1 ?_
              show Ev (am_kz N X) (d, 138, 78, [some (.inr (.inr 21)), some (.inl x1), some (.inl x2), some (.inl (U 23 x1.toNat))], [], (am_sh, am_mm (am_upd (am_upd (am_upd (am_upd U 24 ((U 23 x1.toNat).toNat) (am_and (U 24 ((U 23 x1.toNat).toNat)) (am_xor (am_shl 1 x1) (-1)))) 23 x1.toNat (-1)) 23 x1.toNat x2) 24 x2.toNat (am_or ((am_upd U 24 ((U 23 x1.toNat).toNat) (am_and (U 24 ((U 23 x1.toNat).toNat)) (am_xor (am_shl 1 x1) (-1)))) 24 x2.toNat) (am_shl 1 x1))))) R
              subst h21a22a22a
              exact ev_end 1 (fun _ => rfl)
    · have h22 := h2.2 (Int.not_lt.mp hc)
      subst h22
      exact ev_end 1 (fun _ => rfl)
set_option maxRecDepth 8000 in
theorem Tk_putWord_r0 {N : Nat} {X : Nat → Int} {d : Nat} {x2 x3 x4 : Int} {U : am_U} {R : Option am_V × am_M} (h : EvK N X (Tk_putWord_s3 (d + 1) x2 x3 x4 0 U) R) : EvK N X (Tk_putWord_s0 (d + 1) x2 x3 x4 U) R := by
  show Ev (am_kz N X) ((d + 1), 317, 0, [some (.inr (.inr 27)), some (.inr (.inr 2)), some (.inl x2), some (.inl x3), some (.inl x4), none], [], (am_sh, am_mm U)) R
  refine ev_seg (σ1 := ((d + 1), 317, 3, [some (.inr (.inr 27)), some (.inr (.inr 2)), some (.inl x2), some (.inl x3), some (.inl x4), some (.inl 0)], [], (am_sh, am_mm U))) 2 (fun _ => rfl) ?_
  exact h
set_option maxRecDepth 8000 in
theorem Tk_putWord_r3 {N : Nat} {X : Nat → Int} {d : Nat} {x2 x3 x4 x5 : Int} {U : am_U} {R : Option am_V × am_M} (h : ((25 < x5) → ∃ U1 : am_U, EvK N X (Tk_put_s0 d 2 x4 x2 U) (rV U1) ∧ R = rV U1) ∧ ((x5 ≤ 25) → ∃ (r2 : Int) (U2 : am_U), EvK N X (Tk_isOwnWord_s0 d x2 x3 x5 U) (rI r2 U2) ∧ ((r2 = 0) → EvK N X (Tk_putWord_s3 (d + 1) x2 x3 x4 (w32 (x5 + 1)) U2) R) ∧ ((r2 ≠ 0) → ∃ U3 : am_U, EvK N X (Tk_put_s0 d 1 x5 x2 U2) (rV U3) ∧ R = rV U3))) : EvK N X (Tk_putWord_s3 (d + 1) x2 x3 x4 x5 U) R := by
  show Ev (am_kz N X) ((d + 1), 317, 3, [some (.inr (.inr 27)), some (.inr (.inr 2)), some (.inl x2), some (.inl x3), some (.inl x4), some (.inl x5)], [], (am_sh, am_mm U)) R
  refine ev_br (P := 25 < x5) (σ1 := ((d + 1), 317, 36, [some (.inr (.inr 27)), some (.inr (.inr 2)), some (.inl x2), some (.inl x3), some (.inl x4), some (.inl x5)], [], (am_sh, am_mm U))) (σ2 := ((d + 1), 317, 10, [some (.inr (.inr 27)), some (.inr (.inr 2)), some (.inl x2), some (.inl x3), some (.inl x4), some (.inl x5)], [], (am_sh, am_mm U))) 3 (fun _ => rfl) (fun hc => ?_) (fun hc => ?_)
  · have h1 := h.1 hc
    refine ev_seg (σ1 := ((d + 1), 317, 41, [some (.inr (.inr 27)), some (.inr (.inr 2)), some (.inl x2), some (.inl x3), some (.inl x4), some (.inl x5)], [.inl x2, .inl x4, .inl 2, .inr (.inr 27)], (am_sh, am_mm U))) 4 (fun _ => rfl) ?_
    obtain ⟨U1, h1c, h1a⟩ := h1
    refine ev_cal (σc := (Tk_put_s0 d 2 x4 x2 U)) (fun _ => rfl) h1c ?_
    show Ev (am_kz N X) ((d + 1), 317, 44, [some (.inr (.inr 27)), some (.inr (.inr 2)), some (.inl x2), some (.inl x3), some (.inl x4), some (.inl x5)], [], (am_sh, am_mm U1)) R
    subst h1a
    exact ev_end 1 (fun _ => rfl)
  · have h2 := h.2 (Int.not_lt.mp hc)
    refine ev_seg (σ1 := ((d + 1), 317, 15, [some (.inr (.inr 27)), some (.inr (.inr 2)), some (.inl x2), some (.inl x3), some (.inl x4), some (.inl x5)], [.inl x5, .inl x3, .inl x2, .inr (.inr 2)], (am_sh, am_mm U))) 4 (fun _ => rfl) ?_
    obtain ⟨r2, U2, h2c, h2a⟩ := h2
    refine ev_cal (σc := (Tk_isOwnWord_s0 d x2 x3 x5 U)) (fun _ => rfl) h2c ?_
    show Ev (am_kz N X) ((d + 1), 317, 18, [some (.inr (.inr 27)), some (.inr (.inr 2)), some (.inl x2), some (.inl x3), some (.inl x4), some (.inl x5)], [.inl r2], (am_sh, am_mm U2)) R
    refine ev_br (P := r2 = 0) (σ1 := ((d + 1), 317, 30, [some (.inr (.inr 27)), some (.inr (.inr 2)), some (.inl x2), some (.inl x3), some (.inl x4), some (.inl x5)], [], (am_sh, am_mm U2))) (σ2 := ((d + 1), 317, 21, [some (.inr (.inr 27)), some (.inr (.inr 2)), some (.inl x2), some (.inl x3), some (.inl x4), some (.inl x5)], [], (am_sh, am_mm U2))) 1 (fun _ => rfl) (fun hc => ?_) (fun hc => ?_)
    · have h2a1 := h2a.1 hc
      refine ev_seg (σ1 := ((d + 1), 317, 3, [some (.inr (.inr 27)), some (.inr (.inr 2)), some (.inl x2), some (.inl x3), some (.inl x4), some (.inl (w32 (x5 + 1)))], [], (am_sh, am_mm U2))) 2 (fun _ => rfl) ?_
      exact h2a1
    · have h2a2 := h2a.2 hc
      refine ev_seg (σ1 := ((d + 1), 317, 26, [some (.inr (.inr 27)), some (.inr (.inr 2)), some (.inl x2), some (.inl x3), some (.inl x4), some (.inl x5)], [.inl x2, .inl x5, .inl 1, .inr (.inr 27)], (am_sh, am_mm U2))) 4 (fun _ => rfl) ?_
      obtain ⟨U3, h2a2c, h2a2a⟩ := h2a2
      refine ev_cal (σc := (Tk_put_s0 d 1 x5 x2 U2)) (fun _ => rfl) h2a2c ?_
      show Ev (am_kz N X) ((d + 1), 317, 29, [some (.inr (.inr 27)), some (.inr (.inr 2)), some (.inl x2), some (.inl x3), some (.inl x4), some (.inl x5)], [], (am_sh, am_mm U3)) R
      subst h2a2a
      exact ev_end 1 (fun _ => rfl)
set_option maxRecDepth 8000 in
theorem St_indexOf_II_r0 {N : Nat} {X : Nat → Int} {d : Nat} {x1 x2 : Int} {U : am_U} {R : Option am_V × am_M} (h : ∃ (r1 : Int) (U1 : am_U), EvK N X (St_isLatin1_m2_s0 d U) (rI r1 U1) ∧ ((r1 = 0) → ∃ (r2 : Int) (U2 : am_U), EvK N X (St_length_m2_s0 d U1) (rI r2 U2) ∧ False) ∧ ((r1 ≠ 0) → ∃ (r3 : Int) (U3 : am_U), EvK N X (St_length_m2_s0 d U1) (rI r3 U3) ∧ ∃ (r4 : Int) (U4 : am_U), EvK N X (SL_indexOf_s0 d x1 x2 r3 U3) (rI r4 U4) ∧ R = rI r4 U4)) : EvK N X (St_indexOf_II_s0 (d + 1) x1 x2 U) R := by
  show Ev (am_kz N X) ((d + 1), 318, 0, [some (.inr (.inr (-2))), some (.inl x1), some (.inl x2)], [], (am_sh, am_mm U)) R
  refine ev_seg (σ1 := ((d + 1), 318, 1, [some (.inr (.inr (-2))), some (.inl x1), some (.inl x2)], [.inr (.inr (-2))], (am_sh, am_mm U))) 1 (fun _ => rfl) ?_
  obtain ⟨r1, U1, hc, ha⟩ := h
  refine ev_cal (σc := (St_isLatin1_m2_s0 d U)) (fun _ => rfl) hc ?_
  show Ev (am_kz N X) ((d + 1), 318, 4, [some (.inr (.inr (-2))), some (.inl x1), some (.inl x2)], [.inl r1], (am_sh, am_mm U1)) R
  refine ev_br (P := r1 = 0) (σ1 := ((d + 1), 318, 23, [some (.inr (.inr (-2))), some (.inl x1), some (.inl x2)], [], (am_sh, am_mm U1))) (σ2 := ((d + 1), 318, 7, [some (.inr (.inr (-2))), some (.inl x1), some (.inl x2)], [], (am_sh, am_mm U1))) 1 (fun _ => rfl) (fun hc => ?_) (fun hc => ?_)
  · have ha1 := ha.1 hc
    refine ev_seg (σ1 := ((d + 1), 318, 30, [some (.inr (.inr (-2))), some (.inl x1), some (.inl x2)], [.inr (.inr (-2)), .inl x2, .inl x1, .inr (.inr (-6))], (am_sh, am_mm U1))) 5 (fun _ => rfl) ?_
    obtain ⟨r2, U2, ha1c, ha1a⟩ := ha1
    refine ev_cal (σc := (St_length_m2_s0 d U1)) (fun _ => rfl) ha1c ?_
    show Ev (am_kz N X) ((d + 1), 318, 33, [some (.inr (.inr (-2))), some (.inl x1), some (.inl x2)], [.inl r2, .inl x2, .inl x1, .inr (.inr (-6))], (am_sh, am_mm U2)) R
    exact absurd ha1a id
  · have ha2 := ha.2 hc
    refine ev_seg (σ1 := ((d + 1), 318, 14, [some (.inr (.inr (-2))), some (.inl x1), some (.inl x2)], [.inr (.inr (-2)), .inl x2, .inl x1, .inr (.inr (-6))], (am_sh, am_mm U1))) 5 (fun _ => rfl) ?_
    obtain ⟨r3, U3, ha2c, ha2a⟩ := ha2
    refine ev_cal (σc := (St_length_m2_s0 d U1)) (fun _ => rfl) ha2c ?_
    show Ev (am_kz N X) ((d + 1), 318, 17, [some (.inr (.inr (-2))), some (.inl x1), some (.inl x2)], [.inl r3, .inl x2, .inl x1, .inr (.inr (-6))], (am_sh, am_mm U3)) R
    obtain ⟨r4, U4, ha2ac, ha2aa⟩ := ha2a
    refine ev_cal (σc := (SL_indexOf_s0 d x1 x2 r3 U3)) (fun _ => rfl) ha2ac ?_
    show Ev (am_kz N X) ((d + 1), 318, 20, [some (.inr (.inr (-2))), some (.inl x1), some (.inl x2)], [.inl r4], (am_sh, am_mm U4)) R
    subst ha2aa
    exact ev_end 2 (fun _ => rfl)
set_option maxRecDepth 8000 in
theorem Tw_findStreet_r0 {N : Nat} {X : Nat → Int} {d : Nat} {x1 : Int} {U : am_U} {R : Option am_V × am_M} (h : EvK N X (Tw_findStreet_s2 d x1 0 U) R) : EvK N X (Tw_findStreet_s0 d x1 U) R := by
  show Ev (am_kz N X) (d, 319, 0, [some (.inr (.inr 31)), some (.inl x1), none], [], (am_sh, am_mm U)) R
  refine ev_seg (σ1 := (d, 319, 2, [some (.inr (.inr 31)), some (.inl x1), some (.inl 0)], [], (am_sh, am_mm U))) 2 (fun _ => rfl) ?_
  exact h
set_option maxRecDepth 8000 in
theorem Tw_findStreet_r2 {N : Nat} {X : Nat → Int} {d : Nat} {x1 x2 : Int} {U : am_U} {R : Option am_V × am_M} (h : (((U 31 0) ≤ x2) → R = rI (-1) U) ∧ ((x2 < (U 31 0)) → (0 ≤ x2 ∧ x2 < 4) ∧ (((U 32 x2.toNat) ≠ x1) → EvK N X (Tw_findStreet_s2 d x1 (w32 (x2 + 1)) U) R) ∧ (((U 32 x2.toNat) = x1) → R = rI x2 U))) : EvK N X (Tw_findStreet_s2 d x1 x2 U) R := by
  show Ev (am_kz N X) (d, 319, 2, [some (.inr (.inr 31)), some (.inl x1), some (.inl x2)], [], (am_sh, am_mm U)) R
  refine ev_br (P := (U 31 0) ≤ x2) (σ1 := (d, 319, 28, [some (.inr (.inr 31)), some (.inl x1), some (.inl x2)], [], (am_sh, am_mm U))) (σ2 := (d, 319, 10, [some (.inr (.inr 31)), some (.inl x1), some (.inl x2)], [], (am_sh, am_mm U))) 4 (fun _ => rfl) (fun hc => ?_) (fun hc => ?_)
  · have h1 := h.1 hc
    subst h1
    exact ev_end 2 (fun _ => rfl)
  · have h2 := h.2 (Int.not_le.mp hc)
    refine ev_seg (σ1 := (d, 319, 15, [some (.inr (.inr 31)), some (.inl x1), some (.inl x2)], [.inl x2, .inr (.inr 32)], (am_sh, am_mm U))) 3 (fun _ => rfl) ?_
    refine eu_iald 32 (n := 4) rfl (by decide) rfl (fun _ => rfl) h2.1 ?_
    show Ev (am_kz N X) (d, 319, 16, [some (.inr (.inr 31)), some (.inl x1), some (.inl x2)], [.inl (U 32 x2.toNat)], (am_sh, am_mm U)) R
    have h2a := h2.2
    refine ev_br (P := ¬ (U 32 x2.toNat) = x1) (σ1 := (d, 319, 22, [some (.inr (.inr 31)), some (.inl x1), some (.inl x2)], [], (am_sh, am_mm U))) (σ2 := (d, 319, 20, [some (.inr (.inr 31)), some (.inl x1), some (.inl x2)], [], (am_sh, am_mm U))) 2 (fun _ => rfl) (fun hc => ?_) (fun hc => ?_)
    · have h2a1 := h2a.1 hc
      refine ev_seg (σ1 := (d, 319, 2, [some (.inr (.inr 31)), some (.inl x1), some (.inl (w32 (x2 + 1)))], [], (am_sh, am_mm U))) 2 (fun _ => rfl) ?_
      exact h2a1
    · have h2a2 := h2a.2 (Decidable.not_not.mp hc)
      subst h2a2
      exact ev_end 2 (fun _ => rfl)
set_option maxRecDepth 8000 in
theorem Tw_findHouse_r0 {N : Nat} {X : Nat → Int} {d : Nat} {x1 : Int} {U : am_U} {R : Option am_V × am_M} (h : EvK N X (Tw_findHouse_s2 d x1 0 U) R) : EvK N X (Tw_findHouse_s0 d x1 U) R := by
  show Ev (am_kz N X) (d, 320, 0, [some (.inr (.inr 31)), some (.inl x1), none], [], (am_sh, am_mm U)) R
  refine ev_seg (σ1 := (d, 320, 2, [some (.inr (.inr 31)), some (.inl x1), some (.inl 0)], [], (am_sh, am_mm U))) 2 (fun _ => rfl) ?_
  exact h
set_option maxRecDepth 8000 in
theorem Tw_findHouse_r2 {N : Nat} {X : Nat → Int} {d : Nat} {x1 x2 : Int} {U : am_U} {R : Option am_V × am_M} (h : (((U 31 1) ≤ x2) → R = rI (-1) U) ∧ ((x2 < (U 31 1)) → (0 ≤ x2 ∧ x2 < 12) ∧ (((U 33 x2.toNat) ≠ x1) → EvK N X (Tw_findHouse_s2 d x1 (w32 (x2 + 1)) U) R) ∧ (((U 33 x2.toNat) = x1) → R = rI x2 U))) : EvK N X (Tw_findHouse_s2 d x1 x2 U) R := by
  show Ev (am_kz N X) (d, 320, 2, [some (.inr (.inr 31)), some (.inl x1), some (.inl x2)], [], (am_sh, am_mm U)) R
  refine ev_br (P := (U 31 1) ≤ x2) (σ1 := (d, 320, 28, [some (.inr (.inr 31)), some (.inl x1), some (.inl x2)], [], (am_sh, am_mm U))) (σ2 := (d, 320, 10, [some (.inr (.inr 31)), some (.inl x1), some (.inl x2)], [], (am_sh, am_mm U))) 4 (fun _ => rfl) (fun hc => ?_) (fun hc => ?_)
  · have h1 := h.1 hc
    subst h1
    exact ev_end 2 (fun _ => rfl)
  · have h2 := h.2 (Int.not_le.mp hc)
    refine ev_seg (σ1 := (d, 320, 15, [some (.inr (.inr 31)), some (.inl x1), some (.inl x2)], [.inl x2, .inr (.inr 33)], (am_sh, am_mm U))) 3 (fun _ => rfl) ?_
    refine eu_iald 33 (n := 12) rfl (by decide) rfl (fun _ => rfl) h2.1 ?_
    show Ev (am_kz N X) (d, 320, 16, [some (.inr (.inr 31)), some (.inl x1), some (.inl x2)], [.inl (U 33 x2.toNat)], (am_sh, am_mm U)) R
    have h2a := h2.2
    refine ev_br (P := ¬ (U 33 x2.toNat) = x1) (σ1 := (d, 320, 22, [some (.inr (.inr 31)), some (.inl x1), some (.inl x2)], [], (am_sh, am_mm U))) (σ2 := (d, 320, 20, [some (.inr (.inr 31)), some (.inl x1), some (.inl x2)], [], (am_sh, am_mm U))) 2 (fun _ => rfl) (fun hc => ?_) (fun hc => ?_)
    · have h2a1 := h2a.1 hc
      refine ev_seg (σ1 := (d, 320, 2, [some (.inr (.inr 31)), some (.inl x1), some (.inl (w32 (x2 + 1)))], [], (am_sh, am_mm U))) 2 (fun _ => rfl) ?_
      exact h2a1
    · have h2a2 := h2a.2 (Decidable.not_not.mp hc)
      subst h2a2
      exact ev_end 2 (fun _ => rfl)
set_option maxRecDepth 8000 in
theorem Tw_lastOn_r0 {N : Nat} {X : Nat → Int} {d : Nat} {x1 : Int} {U : am_U} {R : Option am_V × am_M} (h : EvK N X (Tw_lastOn_s7 d x1 (w32 ((U 31 1) - 1)) U) R) : EvK N X (Tw_lastOn_s0 d x1 U) R := by
  show Ev (am_kz N X) (d, 321, 0, [some (.inr (.inr 31)), some (.inl x1), none], [], (am_sh, am_mm U)) R
  refine ev_seg (σ1 := (d, 321, 7, [some (.inr (.inr 31)), some (.inl x1), some (.inl (w32 ((U 31 1) - 1)))], [], (am_sh, am_mm U))) 5 (fun _ => rfl) ?_
  exact h
set_option maxRecDepth 8000 in
theorem Tw_lastOn_r7 {N : Nat} {X : Nat → Int} {d : Nat} {x1 x2 : Int} {U : am_U} {R : Option am_V × am_M} (h : ((x2 < 0) → R = rI (-1) U) ∧ ((0 ≤ x2) → (0 ≤ x2 ∧ x2 < 12) ∧ (((U 34 x2.toNat) ≠ x1) → EvK N X (Tw_lastOn_s7 d x1 (w32 (x2 + (-1))) U) R) ∧ (((U 34 x2.toNat) = x1) → R = rI x2 U))) : EvK N X (Tw_lastOn_s7 d x1 x2 U) R := by
  show Ev (am_kz N X) (d, 321, 7, [some (.inr (.inr 31)), some (.inl x1), some (.inl x2)], [], (am_sh, am_mm U)) R
  refine ev_br (P := x2 < 0) (σ1 := (d, 321, 29, [some (.inr (.inr 31)), some (.inl x1), some (.inl x2)], [], (am_sh, am_mm U))) (σ2 := (d, 321, 11, [some (.inr (.inr 31)), some (.inl x1), some (.inl x2)], [], (am_sh, am_mm U))) 2 (fun _ => rfl) (fun hc => ?_) (fun hc => ?_)
  · have h1 := h.1 hc
    subst h1
    exact ev_end 2 (fun _ => rfl)
  · have h2 := h.2 (Int.not_lt.mp hc)
    refine ev_seg (σ1 := (d, 321, 16, [some (.inr (.inr 31)), some (.inl x1), some (.inl x2)], [.inl x2, .inr (.inr 34)], (am_sh, am_mm U))) 3 (fun _ => rfl) ?_
    refine eu_iald 34 (n := 12) rfl (by decide) rfl (fun _ => rfl) h2.1 ?_
    show Ev (am_kz N X) (d, 321, 17, [some (.inr (.inr 31)), some (.inl x1), some (.inl x2)], [.inl (U 34 x2.toNat)], (am_sh, am_mm U)) R
    have h2a := h2.2
    refine ev_br (P := ¬ (U 34 x2.toNat) = x1) (σ1 := (d, 321, 23, [some (.inr (.inr 31)), some (.inl x1), some (.inl x2)], [], (am_sh, am_mm U))) (σ2 := (d, 321, 21, [some (.inr (.inr 31)), some (.inl x1), some (.inl x2)], [], (am_sh, am_mm U))) 2 (fun _ => rfl) (fun hc => ?_) (fun hc => ?_)
    · have h2a1 := h2a.1 hc
      refine ev_seg (σ1 := (d, 321, 7, [some (.inr (.inr 31)), some (.inl x1), some (.inl (w32 (x2 + (-1))))], [], (am_sh, am_mm U))) 2 (fun _ => rfl) ?_
      exact h2a1
    · have h2a2 := h2a.2 (Decidable.not_not.mp hc)
      subst h2a2
      exact ev_end 2 (fun _ => rfl)
set_option maxRecDepth 8000 in
theorem Tw_join_r0 {N : Nat} {X : Nat → Int} {d : Nat} {x1 x2 : Int} {U : am_U} {R : Option am_V × am_M} (h : (0 ≤ x1 ∧ x1 < 12) ∧ (0 ≤ x2 ∧ x2 < 12) ∧ R = rV (am_upd (am_upd U 37 x1.toNat (am_or (U 37 x1.toNat) (am_shl 1 x2))) 37 x2.toNat (am_or ((am_upd U 37 x1.toNat (am_or (U 37 x1.toNat) (am_shl 1 x2))) 37 x2.toNat) (am_shl 1 x1)))) : EvK N X (Tw_join_s0 d x1 x2 U) R := by
  show Ev (am_kz N X) (d, 322, 0, [some (.inr (.inr 31)), some (.inl x1), some (.inl x2)], [], (am_sh, am_mm U)) R
  refine ev_seg (σ1 := (d, 322, 6, [some (.inr (.inr 31)), some (.inl x1), some (.inl x2)], [.inl x1, .inr (.inr 37), .inl x1, .inr (.inr 37)], (am_sh, am_mm U))) 4 (fun _ => rfl) ?_
  refine eu_iald 37 (n := 12) rfl (by decide) rfl (fun _ => rfl) h.1 ?_
  show Ev (am_kz N X) (d, 322, 7, [some (.inr (.inr 31)), some (.inl x1), some (.inl x2)], [.inl (U 37 x1.toNat), .inl x1, .inr (.inr 37)], (am_sh, am_mm U)) R
  have ha := h.2
  refine ev_seg (σ1 := (d, 322, 11, [some (.inr (.inr 31)), some (.inl x1), some (.inl x2)], [.inl (am_or (U 37 x1.toNat) (am_shl 1 x2)), .inl x1, .inr (.inr 37)], (am_sh, am_mm U))) 4 (fun _ => rfl) ?_
  refine eu_iast 37 (n := 12) rfl (by decide) rfl (fun _ => rfl) h.1 ?_
  show Ev (am_kz N X) (d, 322, 12, [some (.inr (.inr 31)), some (.inl x1), some (.inl x2)], [], (am_sh, am_mm (am_upd U 37 x1.toNat (am_or (U 37 x1.toNat) (am_shl 1 x2))))) R
  refine ev_seg (σ1 := (d, 322, 18, [some (.inr (.inr 31)), some (.inl x1), some (.inl x2)], [.inl x2, .inr (.inr 37), .inl x2, .inr (.inr 37)], (am_sh, am_mm (am_upd U 37 x1.toNat (am_or (U 37 x1.toNat) (am_shl 1 x2)))))) 4 (fun _ => rfl) ?_
  refine eu_iald 37 (n := 12) rfl (by decide) rfl (fun _ => rfl) ha.1 ?_
  show Ev (am_kz N X) (d, 322, 19, [some (.inr (.inr 31)), some (.inl x1), some (.inl x2)], [.inl ((am_upd U 37 x1.toNat (am_or (U 37 x1.toNat) (am_shl 1 x2))) 37 x2.toNat), .inl x2, .inr (.inr 37)], (am_sh, am_mm (am_upd U 37 x1.toNat (am_or (U 37 x1.toNat) (am_shl 1 x2))))) R
  have haa := ha.2
  refine ev_seg (σ1 := (d, 322, 23, [some (.inr (.inr 31)), some (.inl x1), some (.inl x2)], [.inl (am_or ((am_upd U 37 x1.toNat (am_or (U 37 x1.toNat) (am_shl 1 x2))) 37 x2.toNat) (am_shl 1 x1)), .inl x2, .inr (.inr 37)], (am_sh, am_mm (am_upd U 37 x1.toNat (am_or (U 37 x1.toNat) (am_shl 1 x2)))))) 4 (fun _ => rfl) ?_
  refine eu_iast 37 (n := 12) rfl (by decide) rfl (fun _ => rfl) ha.1 ?_
  show Ev (am_kz N X) (d, 322, 24, [some (.inr (.inr 31)), some (.inl x1), some (.inl x2)], [], (am_sh, am_mm (am_upd (am_upd U 37 x1.toNat (am_or (U 37 x1.toNat) (am_shl 1 x2))) 37 x2.toNat (am_or ((am_upd U 37 x1.toNat (am_or (U 37 x1.toNat) (am_shl 1 x2))) 37 x2.toNat) (am_shl 1 x1))))) R
  subst haa
  exact ev_end 1 (fun _ => rfl)
set_option maxRecDepth 8000 in
theorem Rd_readFact_r0 {N : Nat} {X : Nat → Int} {d : Nat} {x1 : Int} {U : am_U} {R : Option am_V × am_M} (h : ∃ (r1 : Int) (U1 : am_U), EvK N X (Rd_isOwn_s0 d 21 U) (rI r1 U1) ∧ ((r1 = 0) → ∃ (r2 : Int) (U2 : am_U), EvK N X (Rd_isSign_s0 d 91 U1) (rI r2 U2) ∧ ((r2 = 0) → ∃ (r3 : Int) (U3 : am_U), EvK N X (Rd_isOwn_s0 d 22 U2) (rI r3 U3) ∧ ((r3 = 0) → ∃ (r4 : Int) (U4 : am_U), EvK N X (Rd_isOwn_s0 d 17 U3) (rI r4 U4) ∧ ((r4 ≠ 0) → ∃ U5 : am_U, EvK N X (Rd_next_s0 d U4) (rV U5) ∧ ∃ (r6 : Int) (U6 : am_U), EvK N X (Rd_readSum_s0 d x1 U5) (rI r6 U6) ∧ ((r6 = 0) → R = rI 0 U6) ∧ ((r6 ≠ 0) → ∃ (r7 : Int) (U7 : am_U), EvK N X (Tw_emitWord_s0 d (U4 26 8) U6) (rI r7 U7) ∧ ((r7 = 0) → R = rI 0 U7) ∧ ((r7 ≠ 0) → R = rI 1 U7))) ∧ ((r4 = 0) → ∃ (r8 : Int) (U8 : am_U), EvK N X (Rd_isOwn_s0 d 18 U4) (rI r8 U8) ∧ ((r8 = 0) → ∃ (r9 : Int) (U9 : am_U), EvK N X (Rd_readSum_s0 d x1 U8) (rI r9 U9) ∧ ((r9 ≠ 0) → ∃ (r10 : Int) (U10 : am_U), EvK N X (Rd_isSign_s0 d 60 U9) (rI r10 U10) ∧ ((r10 ≠ 0) → EvK N X (Rd_readFact_s209 (d + 1) x1 (U9 26 8) U10) R) ∧ ((r10 = 0) → ∃ (r11 : Int) (U11 : am_U), EvK N X (Rd_isSign_s0 d 62 U10) (rI r11 U11) ∧ ((r11 ≠ 0) → EvK N X (Rd_readFact_s209 (d + 1) x1 (U9 26 8) U11) R) ∧ ((r11 = 0) → ∃ (r12 : Int) (U12 : am_U), EvK N X (Rd_isSign_s0 d 61 U11) (rI r12 U12) ∧ ((r12 ≠ 0) → EvK N X (Rd_readFact_s209 (d + 1) x1 (U9 26 8) U12) R) ∧ ((r12 = 0) → ∃ (r13 : Int) (U13 : am_U), EvK N X (Rd_refuseHere_s0 d U12) (rI r13 U13) ∧ (r13 = 0 ∨ r13 = 1) ∧ R = rI r13 U13)))) ∧ ((r9 = 0) → R = rI 0 U9)) ∧ ((r8 ≠ 0) → ∃ U14 : am_U, EvK N X (Rd_next_s0 d U8) (rV U14) ∧ ∃ (r15 : Int) (U15 : am_U), EvK N X (Rd_readSum_s0 d x1 U14) (rI r15 U15) ∧ ((r15 = 0) → R = rI 0 U15) ∧ ((r15 ≠ 0) → ∃ (r16 : Int) (U16 : am_U), EvK N X (Tw_emitWord_s0 d (U8 26 8) U15) (rI r16 U16) ∧ ((r16 = 0) → R = rI 0 U16) ∧ ((r16 ≠ 0) → R = rI 1 U16))))) ∧ ((r3 ≠ 0) → ∃ U17 : am_U, EvK N X (Rd_next_s0 d U3) (rV U17) ∧ ∃ (r18 : Int) (U18 : am_U), EvK N X (Tw_emitWord_s0 d 22 U17) (rI r18 U18) ∧ (r18 = 0 ∨ r18 = 1) ∧ R = rI r18 U18)) ∧ ((r2 ≠ 0) → ∃ (r19 : Int) (U19 : am_U), EvK N X (Rd_opens_s0 d x1 U2) (rI r19 U19) ∧ ((r19 = 0) → EvK N X (Rd_readFact_s85 (d + 1) x1 U19) R) ∧ ((r19 ≠ 0) → ∃ (r20 : Int) (U20 : am_U), EvK N X (Rd_readTest_s0 d (w32 (x1 + 1)) U19) (rI r20 U20) ∧ ((r20 = 0) → EvK N X (Rd_readFact_s85 (d + 1) x1 U20) R) ∧ ((r20 ≠ 0) → ∃ (r21 : Int) (U21 : am_U), EvK N X (Rd_takeSign_s0 d 93 U20) (rI r21 U21) ∧ ((r21 = 0) → EvK N X (Rd_readFact_s85 (d + 1) x1 U21) R) ∧ ((r21 ≠ 0) → R = rI 1 U21))))) ∧ ((r1 ≠ 0) → ∃ (r22 : Int) (U22 : am_U), EvK N X (Rd_opens_s0 d x1 U1) (rI r22 U22) ∧ ((r22 = 0) → EvK N X (Rd_readFact_s43 (d + 1) x1 U22) R) ∧ ((r22 ≠ 0) → ∃ (r23 : Int) (U23 : am_U), EvK N X (Rd_readFact_s0 d (w32 (x1 + 1)) U22) (rI r23 U23) ∧ ((r23 = 0) → EvK N X (Rd_readFact_s43 (d + 1) x1 U23) R) ∧ ((r23 ≠ 0) → ∃ (r24 : Int) (U24 : am_U), EvK N X (Tw_emitWord_s0 d 21 U23) (rI r24 U24) ∧ ((r24 = 0) → EvK N X (Rd_readFact_s43 (d + 1) x1 U24) R) ∧ ((r24 ≠ 0) → R = rI 1 U24))))) : EvK N X (Rd_readFact_s0 (d + 1) x1 U) R := by
  show Ev (am_kz N X) ((d + 1), 323, 0, [some (.inr (.inr 26)), some (.inl x1), none], [], (am_sh, am_mm U)) R
  refine ev_seg (σ1 := ((d + 1), 323, 3, [some (.inr (.inr 26)), some (.inl x1), none], [.inl 21, .inr (.inr 26)], (am_sh, am_mm U))) 2 (fun _ => rfl) ?_
  obtain ⟨r1, U1, hc, ha⟩ := h
  refine ev_cal (σc := (Rd_isOwn_s0 d 21 U)) (fun _ => rfl) hc ?_
  show Ev (am_kz N X) ((d + 1), 323, 6, [some (.inr (.inr 26)), some (.inl x1), none], [.inl r1], (am_sh, am_mm U1)) R
  refine ev_br (P := r1 = 0) (σ1 := ((d + 1), 323, 45, [some (.inr (.inr 26)), some (.inl x1), none], [], (am_sh, am_mm U1))) (σ2 := ((d + 1), 323, 9, [some (.inr (.inr 26)), some (.inl x1), none], [], (am_sh, am_mm U1))) 1 (fun _ => rfl) (fun hc => ?_) (fun hc => ?_)
  · have ha1 := ha.1 hc
    refine ev_seg (σ1 := ((d + 1), 323, 48, [some (.inr (.inr 26)), some (.inl x1), none], [.inl 91, .inr (.inr 26)], (am_sh, am_mm U1))) 2 (fun _ => rfl) ?_
    obtain ⟨r2, U2, ha1c, ha1a⟩ := ha1
    refine ev_cal (σc := (Rd_isSign_s0 d 91 U1)) (fun _ => rfl) ha1c ?_
    show Ev (am_kz N X) ((d + 1), 323, 51, [some (.inr (.inr 26)), some (.inl x1), none], [.inl r2], (am_sh, am_mm U2)) R
    refine ev_br (P := r2 = 0) (σ1 := ((d + 1), 323, 87, [some (.inr (.inr 26)), some (.inl x1), none], [], (am_sh, am_mm U2))) (σ2 := ((d + 1), 323, 54, [some (.inr (.inr 26)), some (.inl x1), none], [], (am_sh, am_mm U2))) 1 (fun _ => rfl) (fun hc => ?_) (fun hc => ?_)
    · have ha1a1 := ha1a.1 hc
      refine ev_seg (σ1 := ((d + 1), 323, 90, [some (.inr (.inr 26)), some (.inl x1), none], [.inl 22, .inr (.inr 26)], (am_sh, am_mm U2))) 2 (fun _ => rfl) ?_
      obtain ⟨r3, U3, ha1a1c, ha1a1a⟩ := ha1a1
      refine ev_cal (σc := (Rd_isOwn_s0 d 22 U2)) (fun _ => rfl) ha1a1c ?_
      show Ev (am_kz N X) ((d + 1), 323, 93, [some (.inr (.inr 26)), some (.inl x1), none], [.inl r3], (am_sh, am_mm U3)) R
      refine ev_br (P := r3 = 0) (σ1 := ((d + 1), 323, 110, [some (.inr (.inr 26)), some (.inl x1), none], [], (am_sh, am_mm U3))) (σ2 := ((d + 1), 323, 96, [some (.inr (.inr 26)), some (.inl x1), none], [], (am_sh, am_mm U3))) 1 (fun _ => rfl) (fun hc => ?_) (fun hc => ?_)
      · have ha1a1a1 := ha1a1a.1 hc
        refine ev_seg (σ1 := ((d + 1), 323, 113, [some (.inr (.inr 26)), some (.inl x1), none], [.inl 17, .inr (.inr 26)], (am_sh, am_mm U3))) 2 (fun _ => rfl) ?_
        obtain ⟨r4, U4, ha1a1a1c, ha1a1a1a⟩ := ha1a1a1
        refine ev_cal (σc := (Rd_isOwn_s0 d 17 U3)) (fun _ => rfl) ha1a1a1c ?_
        show Ev (am_kz N X) ((d + 1), 323, 116, [some (.inr (.inr 26)), some (.inl x1), none], [.inl r4], (am_sh, am_mm U4)) R
        refine ev_br (P := ¬ r4 = 0) (σ1 := ((d + 1), 323, 128, [some (.inr (.inr 26)), some (.inl x1), none], [], (am_sh, am_mm U4))) (σ2 := ((d + 1), 323, 119, [some (.inr (.inr 26)), some (.inl x1), none], [], (am_sh, am_mm U4))) 1 (fun _ => rfl) (fun hc => ?_) (fun hc => ?_)
        · have ha1a1a1a1 := ha1a1a1a.1 hc
          refine ev_seg (σ1 := ((d + 1), 323, 134, [some (.inr (.inr 26)), some (.inl x1), some (.inl (U4 26 8))], [.inr (.inr 26)], (am_sh, am_mm U4))) 4 (fun _ => rfl) ?_
          obtain ⟨U5, ha1a1a1a1c, ha1a1a1a1a⟩ := ha1a1a1a1
          refine ev_cal (σc := (Rd_next_s0 d U4)) (fun _ => rfl) ha1a1a1a1c ?_
          show Ev (am_kz N X) ((d + 1), 323, 137, [some (.inr (.inr 26)), some (.inl x1), some (.inl (U4 26 8))], [], (am_sh, am_mm U5)) R
          refine ev_seg (σ1 := ((d + 1), 323, 139, [some (.inr (.inr 26)), some (.inl x1), some (.inl (U4 26 8))], [.inl x1, .inr (.inr 26)], (am_sh, am_mm U5))) 2 (fun _ => rfl) ?_
          obtain ⟨r6, U6, ha1a1a1a1ac, ha1a1a1a1aa⟩ := ha1a1a1a1a
          refine ev_cal (σc := (Rd_readSum_s0 d x1 U5)) (fun _ => rfl) ha1a1a1a1ac ?_
          show Ev (am_kz N X) ((d + 1), 323, 142, [some (.inr (.inr 26)), some (.inl x1), some (.inl (U4 26 8))], [.inl r6], (am_sh, am_mm U6)) R
          refine ev_br (P := r6 = 0) (σ1 := ((d + 1), 323, 160, [some (.inr (.inr 26)), some (.inl x1), some (.inl (U4 26 8))], [], (am_sh, am_mm U6))) (σ2 := ((d + 1), 323, 145, [some (.inr (.inr 26)), some (.inl x1), some (.inl (U4 26 8))], [], (am_sh, am_mm U6))) 1 (fun _ => rfl) (fun hc => ?_) (fun hc => ?_)
          · have ha1a1a1a1aa1 := ha1a1a1a1aa.1 hc
            subst ha1a1a1a1aa1
            exact ev_end 2 (fun _ => rfl)
          · have ha1a1a1a1aa2 := ha1a1a1a1aa.2 hc
            refine ev_seg (σ1 := ((d + 1), 323, 150, [some (.inr (.inr 26)), some (.inl x1), some (.inl (U4 26 8))], [.inl (U4 26 8), .inr (.inr 31)], (am_sh, am_mm U6))) 3 (fun _ => rfl) ?_
            obtain ⟨r7, U7, ha1a1a1a1aa2c, ha1a1a1a1aa2a⟩ := ha1a1a1a1aa2
            refine ev_cal (σc := (Tw_emitWord_s0 d (U4 26 8) U6)) (fun _ => rfl) ha1a1a1a1aa2c ?_
            show Ev (am_kz N X) ((d + 1), 323, 153, [some (.inr (.inr 26)), some (.inl x1), some (.inl (U4 26 8))], [.inl r7], (am_sh, am_mm U7)) R
            refine ev_br (P := r7 = 0) (σ1 := ((d + 1), 323, 160, [some (.inr (.inr 26)), some (.inl x1), some (.inl (U4 26 8))], [], (am_sh, am_mm U7))) (σ2 := ((d + 1), 323, 156, [some (.inr (.inr 26)), some (.inl x1), some (.inl (U4 26 8))], [], (am_sh, am_mm U7))) 1 (fun _ => rfl) (fun hc => ?_) (fun hc => ?_)
            · have ha1a1a1a1aa2a1 := ha1a1a1a1aa2a.1 hc
              subst ha1a1a1a1aa2a1
              exact ev_end 2 (fun _ => rfl)
            · have ha1a1a1a1aa2a2 := ha1a1a1a1aa2a.2 hc
              subst ha1a1a1a1aa2a2
              exact ev_end 3 (fun _ => rfl)
        · have ha1a1a1a2 := ha1a1a1a.2 (Decidable.not_not.mp hc)
          refine ev_seg (σ1 := ((d + 1), 323, 122, [some (.inr (.inr 26)), some (.inl x1), none], [.inl 18, .inr (.inr 26)], (am_sh, am_mm U4))) 2 (fun _ => rfl) ?_
          obtain ⟨r8, U8, ha1a1a1a2c, ha1a1a1a2a⟩ := ha1a1a1a2
          refine ev_cal (σc := (Rd_isOwn_s0 d 18 U4)) (fun _ => rfl) ha1a1a1a2c ?_
          show Ev (am_kz N X) ((d + 1), 323, 125, [some (.inr (.inr 26)), some (.inl x1), none], [.inl r8], (am_sh, am_mm U8)) R
          refine ev_br (P := r8 = 0) (σ1 := ((d + 1), 323, 162, [some (.inr (.inr 26)), some (.inl x1), none], [], (am_sh, am_mm U8))) (σ2 := ((d + 1), 323, 128, [some (.inr (.inr 26)), some (.inl x1), none], [], (am_sh, am_mm U8))) 1 (fun _ => rfl) (fun hc => ?_) (fun hc => ?_)
          · have ha1a1a1a2a1 := ha1a1a1a2a.1 hc
            refine ev_seg (σ1 := ((d + 1), 323, 164, [some (.inr (.inr 26)), some (.inl x1), none], [.inl x1, .inr (.inr 26)], (am_sh, am_mm U8))) 2 (fun _ => rfl) ?_
            obtain ⟨r9, U9, ha1a1a1a2a1c, ha1a1a1a2a1a⟩ := ha1a1a1a2a1
            refine ev_cal (σc := (Rd_readSum_s0 d x1 U8)) (fun _ => rfl) ha1a1a1a2a1c ?_
            show Ev (am_kz N X) ((d + 1), 323, 167, [some (.inr (.inr 26)), some (.inl x1), none], [.inl r9], (am_sh, am_mm U9)) R
            refine ev_br (P := ¬ r9 = 0) (σ1 := ((d + 1), 323, 172, [some (.inr (.inr 26)), some (.inl x1), none], [], (am_sh, am_mm U9))) (σ2 := ((d + 1), 323, 170, [some (.inr (.inr 26)), some (.inl x1), none], [], (am_sh, am_mm U9))) 1 (fun _ => rfl) (fun hc => ?_) (fun hc => ?_)
            · have ha1a1a1a2a1a1 := ha1a1a1a2a1a.1 hc
              refine ev_seg (σ1 := ((d + 1), 323, 180, [some (.inr (.inr 26)), some (.inl x1), some (.inl (U9 26 8))], [.inl 60, .inr (.inr 26)], (am_sh, am_mm U9))) 5 (fun _ => rfl) ?_
              obtain ⟨r10, U10, ha1a1a1a2a1a1c, ha1a1a1a2a1a1a⟩ := ha1a1a1a2a1a1
              refine ev_cal (σc := (Rd_isSign_s0 d 60 U9)) (fun _ => rfl) ha1a1a1a2a1a1c ?_
              show Ev (am_kz N X) ((d + 1), 323, 183, [some (.inr (.inr 26)), some (.inl x1), some (.inl (U9 26 8))], [.inl r10], (am_sh, am_mm U10)) R
              refine ev_br (P := ¬ r10 = 0) (σ1 := ((d + 1), 323, 209, [some (.inr (.inr 26)), some (.inl x1), some (.inl (U9 26 8))], [], (am_sh, am_mm U10))) (σ2 := ((d + 1), 323, 186, [some (.inr (.inr 26)), some (.inl x1), some (.inl (U9 26 8))], [], (am_sh, am_mm U10))) 1 (fun _ => rfl) (fun hc => ?_) (fun hc => ?_)
              · have ha1a1a1a2a1a1a1 := ha1a1a1a2a1a1a.1 hc
                exact ha1a1a1a2a1a1a1
              · have ha1a1a1a2a1a1a2 := ha1a1a1a2a1a1a.2 (Decidable.not_not.mp hc)
                refine ev_seg (σ1 := ((d + 1), 323, 189, [some (.inr (.inr 26)), some (.inl x1), some (.inl (U9 26 8))], [.inl 62, .inr (.inr 26)], (am_sh, am_mm U10))) 2 (fun _ => rfl) ?_
                obtain ⟨r11, U11, ha1a1a1a2a1a1a2c, ha1a1a1a2a1a1a2a⟩ := ha1a1a1a2a1a1a2
                refine ev_cal (σc := (Rd_isSign_s0 d 62 U10)) (fun _ => rfl) ha1a1a1a2a1a1a2c ?_
                show Ev (am_kz N X) ((d + 1), 323, 192, [some (.inr (.inr 26)), some (.inl x1), some (.inl (U9 26 8))], [.inl r11], (am_sh, am_mm U11)) R
                refine ev_br (P := ¬ r11 = 0) (σ1 := ((d + 1), 323, 209, [some (.inr (.inr 26)), some (.inl x1), some (.inl (U9 26 8))], [], (am_sh, am_mm U11))) (σ2 := ((d + 1), 323, 195, [some (.inr (.inr 26)), some (.inl x1), some (.inl (U9 26 8))], [], (am_sh, am_mm U11))) 1 (fun _ => rfl) (fun hc => ?_) (fun hc => ?_)
                · have ha1a1a1a2a1a1a2a1 := ha1a1a1a2a1a1a2a.1 hc
                  exact ha1a1a1a2a1a1a2a1
                · have ha1a1a1a2a1a1a2a2 := ha1a1a1a2a1a1a2a.2 (Decidable.not_not.mp hc)
                  refine ev_seg (σ1 := ((d + 1), 323, 198, [some (.inr (.inr 26)), some (.inl x1), some (.inl (U9 26 8))], [.inl 61, .inr (.inr 26)], (am_sh, am_mm U11))) 2 (fun _ => rfl) ?_
                  obtain ⟨r12, U12, ha1a1a1a2a1a1a2a2c, ha1a1a1a2a1a1a2a2a⟩ := ha1a1a1a2a1a1a2a2
                  refine ev_cal (σc := (Rd_isSign_s0 d 61 U11)) (fun _ => rfl) ha1a1a1a2a1a1a2a2c ?_
                  show Ev (am_kz N X) ((d + 1), 323, 201, [some (.inr (.inr 26)), some (.inl x1), some (.inl (U9 26 8))], [.inl r12], (am_sh, am_mm U12)) R
                  refine ev_br (P := ¬ r12 = 0) (σ1 := ((d + 1), 323, 209, [some (.inr (.inr 26)), some (.inl x1), some (.inl (U9 26 8))], [], (am_sh, am_mm U12))) (σ2 := ((d + 1), 323, 204, [some (.inr (.inr 26)), some (.inl x1), some (.inl (U9 26 8))], [], (am_sh, am_mm U12))) 1 (fun _ => rfl) (fun hc => ?_) (fun hc => ?_)
                  · have ha1a1a1a2a1a1a2a2a1 := ha1a1a1a2a1a1a2a2a.1 hc
                    exact ha1a1a1a2a1a1a2a2a1
                  · have ha1a1a1a2a1a1a2a2a2 := ha1a1a1a2a1a1a2a2a.2 (Decidable.not_not.mp hc)
                    refine ev_seg (σ1 := ((d + 1), 323, 205, [some (.inr (.inr 26)), some (.inl x1), some (.inl (U9 26 8))], [.inr (.inr 26)], (am_sh, am_mm U12))) 1 (fun _ => rfl) ?_
                    obtain ⟨r13, U13, ha1a1a1a2a1a1a2a2a2c, ha1a1a1a2a1a1a2a2a2a⟩ := ha1a1a1a2a1a1a2a2a2
                    refine ev_cal (σc := (Rd_refuseHere_s0 d U12)) (fun _ => rfl) ha1a1a1a2a1a1a2a2a2c ?_
                    show Ev (am_kz N X) ((d + 1), 323, 208, [some (.inr (.inr 26)), some (.inl x1), some (.inl (U9 26 8))], [.inl r13], (am_sh, am_mm U13)) R
                    rw [ha1a1a1a2a1a1a2a2a2a.2]
                    exact ev_retz rfl rfl ha1a1a1a2a1a1a2a2a2a.1
            · have ha1a1a1a2a1a2 := ha1a1a1a2a1a.2 (Decidable.not_not.mp hc)
              subst ha1a1a1a2a1a2
              exact ev_end 2 (fun _ => rfl)
          · have ha1a1a1a2a2 := ha1a1a1a2a.2 hc
            refine ev_seg (σ1 := ((d + 1), 323, 134, [some (.inr (.inr 26)), some (.inl x1), some (.inl (U8 26 8))], [.inr (.inr 26)], (am_sh, am_mm U8))) 4 (fun _ => rfl) ?_
            obtain ⟨U14, ha1a1a1a2a2c, ha1a1a1a2a2a⟩ := ha1a1a1a2a2
            refine ev_cal (σc := (Rd_next_s0 d U8)) (fun _ => rfl) ha1a1a1a2a2c ?_
            show Ev (am_kz N X) ((d + 1), 323, 137, [some (.inr (.inr 26)), some (.inl x1), some (.inl (U8 26 8))], [], (am_sh, am_mm U14)) R
            refine ev_seg (σ1 := ((d + 1), 323, 139, [some (.inr (.inr 26)), some (.inl x1), some (.inl (U8 26 8))], [.inl x1, .inr (.inr 26)], (am_sh, am_mm U14))) 2 (fun _ => rfl) ?_
            obtain ⟨r15, U15, ha1a1a1a2a2ac, ha1a1a1a2a2aa⟩ := ha1a1a1a2a2a
            refine ev_cal (σc := (Rd_readSum_s0 d x1 U14)) (fun _ => rfl) ha1a1a1a2a2ac ?_
            show Ev (am_kz N X) ((d + 1), 323, 142, [some (.inr (.inr 26)), some (.inl x1), some (.inl (U8 26 8))], [.inl r15], (am_sh, am_mm U15)) R
            refine ev_br (P := r15 = 0) (σ1 := ((d + 1), 323, 160, [some (.inr (.inr 26)), some (.inl x1), some (.inl (U8 26 8))], [], (am_sh, am_mm U15))) (σ2 := ((d + 1), 323, 145, [some (.inr (.inr 26)), some (.inl x1), some (.inl (U8 26 8))], [], (am_sh, am_mm U15))) 1 (fun _ => rfl) (fun hc => ?_) (fun hc => ?_)
            · have ha1a1a1a2a2aa1 := ha1a1a1a2a2aa.1 hc
              subst ha1a1a1a2a2aa1
              exact ev_end 2 (fun _ => rfl)
            · have ha1a1a1a2a2aa2 := ha1a1a1a2a2aa.2 hc
              refine ev_seg (σ1 := ((d + 1), 323, 150, [some (.inr (.inr 26)), some (.inl x1), some (.inl (U8 26 8))], [.inl (U8 26 8), .inr (.inr 31)], (am_sh, am_mm U15))) 3 (fun _ => rfl) ?_
              obtain ⟨r16, U16, ha1a1a1a2a2aa2c, ha1a1a1a2a2aa2a⟩ := ha1a1a1a2a2aa2
              refine ev_cal (σc := (Tw_emitWord_s0 d (U8 26 8) U15)) (fun _ => rfl) ha1a1a1a2a2aa2c ?_
              show Ev (am_kz N X) ((d + 1), 323, 153, [some (.inr (.inr 26)), some (.inl x1), some (.inl (U8 26 8))], [.inl r16], (am_sh, am_mm U16)) R
              refine ev_br (P := r16 = 0) (σ1 := ((d + 1), 323, 160, [some (.inr (.inr 26)), some (.inl x1), some (.inl (U8 26 8))], [], (am_sh, am_mm U16))) (σ2 := ((d + 1), 323, 156, [some (.inr (.inr 26)), some (.inl x1), some (.inl (U8 26 8))], [], (am_sh, am_mm U16))) 1 (fun _ => rfl) (fun hc => ?_) (fun hc => ?_)
              · have ha1a1a1a2a2aa2a1 := ha1a1a1a2a2aa2a.1 hc
                subst ha1a1a1a2a2aa2a1
                exact ev_end 2 (fun _ => rfl)
              · have ha1a1a1a2a2aa2a2 := ha1a1a1a2a2aa2a.2 hc
                subst ha1a1a1a2a2aa2a2
                exact ev_end 3 (fun _ => rfl)
      · have ha1a1a2 := ha1a1a.2 hc
        refine ev_seg (σ1 := ((d + 1), 323, 97, [some (.inr (.inr 26)), some (.inl x1), none], [.inr (.inr 26)], (am_sh, am_mm U3))) 1 (fun _ => rfl) ?_
        obtain ⟨U17, ha1a1a2c, ha1a1a2a⟩ := ha1a1a2
        refine ev_cal (σc := (Rd_next_s0 d U3)) (fun _ => rfl) ha1a1a2c ?_
        show Ev (am_kz N X) ((d + 1), 323, 100, [some (.inr (.inr 26)), some (.inl x1), none], [], (am_sh, am_mm U17)) R
        refine ev_seg (σ1 := ((d + 1), 323, 106, [some (.inr (.inr 26)), some (.inl x1), none], [.inl 22, .inr (.inr 31)], (am_sh, am_mm U17))) 3 (fun _ => rfl) ?_
        obtain ⟨r18, U18, ha1a1a2ac, ha1a1a2aa⟩ := ha1a1a2a
        refine ev_cal (σc := (Tw_emitWord_s0 d 22 U17)) (fun _ => rfl) ha1a1a2ac ?_
        show Ev (am_kz N X) ((d + 1), 323, 109, [some (.inr (.inr 26)), some (.inl x1), none], [.inl r18], (am_sh, am_mm U18)) R
        rw [ha1a1a2aa.2]
        exact ev_retz rfl rfl ha1a1a2aa.1
    · have ha1a2 := ha1a.2 hc
      refine ev_seg (σ1 := ((d + 1), 323, 56, [some (.inr (.inr 26)), some (.inl x1), none], [.inl x1, .inr (.inr 26)], (am_sh, am_mm U2))) 2 (fun _ => rfl) ?_
      obtain ⟨r19, U19, ha1a2c, ha1a2a⟩ := ha1a2
      refine ev_cal (σc := (Rd_opens_s0 d x1 U2)) (fun _ => rfl) ha1a2c ?_
      show Ev (am_kz N X) ((d + 1), 323, 59, [some (.inr (.inr 26)), some (.inl x1), none], [.inl r19], (am_sh, am_mm U19)) R
      refine ev_br (P := r19 = 0) (σ1 := ((d + 1), 323, 85, [some (.inr (.inr 26)), some (.inl x1), none], [], (am_sh, am_mm U19))) (σ2 := ((d + 1), 323, 62, [some (.inr (.inr 26)), some (.inl x1), none], [], (am_sh, am_mm U19))) 1 (fun _ => rfl) (fun hc => ?_) (fun hc => ?_)
      · have ha1a2a1 := ha1a2a.1 hc
        exact ha1a2a1
      · have ha1a2a2 := ha1a2a.2 hc
        refine ev_seg (σ1 := ((d + 1), 323, 66, [some (.inr (.inr 26)), some (.inl x1), none], [.inl (w32 (x1 + 1)), .inr (.inr 26)], (am_sh, am_mm U19))) 4 (fun _ => rfl) ?_
        obtain ⟨r20, U20, ha1a2a2c, ha1a2a2a⟩ := ha1a2a2
        refine ev_cal (σc := (Rd_readTest_s0 d (w32 (x1 + 1)) U19)) (fun _ => rfl) ha1a2a2c ?_
        show Ev (am_kz N X) ((d + 1), 323, 69, [some (.inr (.inr 26)), some (.inl x1), none], [.inl r20], (am_sh, am_mm U20)) R
        refine ev_br (P := r20 = 0) (σ1 := ((d + 1), 323, 85, [some (.inr (.inr 26)), some (.inl x1), none], [], (am_sh, am_mm U20))) (σ2 := ((d + 1), 323, 72, [some (.inr (.inr 26)), some (.inl x1), none], [], (am_sh, am_mm U20))) 1 (fun _ => rfl) (fun hc => ?_) (fun hc => ?_)
        · have ha1a2a2a1 := ha1a2a2a.1 hc
          exact ha1a2a2a1
        · have ha1a2a2a2 := ha1a2a2a.2 hc
          refine ev_seg (σ1 := ((d + 1), 323, 75, [some (.inr (.inr 26)), some (.inl x1), none], [.inl 93, .inr (.inr 26)], (am_sh, am_mm U20))) 2 (fun _ => rfl) ?_
          obtain ⟨r21, U21, ha1a2a2a2c, ha1a2a2a2a⟩ := ha1a2a2a2
          refine ev_cal (σc := (Rd_takeSign_s0 d 93 U20)) (fun _ => rfl) ha1a2a2a2c ?_
          show Ev (am_kz N X) ((d + 1), 323, 78, [some (.inr (.inr 26)), some (.inl x1), none], [.inl r21], (am_sh, am_mm U21)) R
          refine ev_br (P := r21 = 0) (σ1 := ((d + 1), 323, 85, [some (.inr (.inr 26)), some (.inl x1), none], [], (am_sh, am_mm U21))) (σ2 := ((d + 1), 323, 81, [some (.inr (.inr 26)), some (.inl x1), none], [], (am_sh, am_mm U21))) 1 (fun _ => rfl) (fun hc => ?_) (fun hc => ?_)
          · have ha1a2a2a2a1 := ha1a2a2a2a.1 hc
            exact ha1a2a2a2a1
          · have ha1a2a2a2a2 := ha1a2a2a2a.2 hc
            subst ha1a2a2a2a2
            exact ev_end 3 (fun _ => rfl)
  · have ha2 := ha.2 hc
    refine ev_seg (σ1 := ((d + 1), 323, 11, [some (.inr (.inr 26)), some (.inl x1), none], [.inl x1, .inr (.inr 26)], (am_sh, am_mm U1))) 2 (fun _ => rfl) ?_
    obtain ⟨r22, U22, ha2c, ha2a⟩ := ha2
    refine ev_cal (σc := (Rd_opens_s0 d x1 U1)) (fun _ => rfl) ha2c ?_
    show Ev (am_kz N X) ((d + 1), 323, 14, [some (.inr (.inr 26)), some (.inl x1), none], [.inl r22], (am_sh, am_mm U22)) R
    refine ev_br (P := r22 = 0) (σ1 := ((d + 1), 323, 43, [some (.inr (.inr 26)), some (.inl x1), none], [], (am_sh, am_mm U22))) (σ2 := ((d + 1), 323, 17, [some (.inr (.inr 26)), some (.inl x1), none], [], (am_sh, am_mm U22))) 1 (fun _ => rfl) (fun hc => ?_) (fun hc => ?_)
    · have ha2a1 := ha2a.1 hc
      exact ha2a1
    · have ha2a2 := ha2a.2 hc
      refine ev_seg (σ1 := ((d + 1), 323, 21, [some (.inr (.inr 26)), some (.inl x1), none], [.inl (w32 (x1 + 1)), .inr (.inr 26)], (am_sh, am_mm U22))) 4 (fun _ => rfl) ?_
      obtain ⟨r23, U23, ha2a2c, ha2a2a⟩ := ha2a2
      refine ev_cal (σc := (Rd_readFact_s0 d (w32 (x1 + 1)) U22)) (fun _ => rfl) ha2a2c ?_
      show Ev (am_kz N X) ((d + 1), 323, 24, [some (.inr (.inr 26)), some (.inl x1), none], [.inl r23], (am_sh, am_mm U23)) R
      refine ev_br (P := r23 = 0) (σ1 := ((d + 1), 323, 43, [some (.inr (.inr 26)), some (.inl x1), none], [], (am_sh, am_mm U23))) (σ2 := ((d + 1), 323, 27, [some (.inr (.inr 26)), some (.inl x1), none], [], (am_sh, am_mm U23))) 1 (fun _ => rfl) (fun hc => ?_) (fun hc => ?_)
      · have ha2a2a1 := ha2a2a.1 hc
        exact ha2a2a1
      · have ha2a2a2 := ha2a2a.2 hc
        refine ev_seg (σ1 := ((d + 1), 323, 33, [some (.inr (.inr 26)), some (.inl x1), none], [.inl 21, .inr (.inr 31)], (am_sh, am_mm U23))) 3 (fun _ => rfl) ?_
        obtain ⟨r24, U24, ha2a2a2c, ha2a2a2a⟩ := ha2a2a2
        refine ev_cal (σc := (Tw_emitWord_s0 d 21 U23)) (fun _ => rfl) ha2a2a2c ?_
        show Ev (am_kz N X) ((d + 1), 323, 36, [some (.inr (.inr 26)), some (.inl x1), none], [.inl r24], (am_sh, am_mm U24)) R
        refine ev_br (P := r24 = 0) (σ1 := ((d + 1), 323, 43, [some (.inr (.inr 26)), some (.inl x1), none], [], (am_sh, am_mm U24))) (σ2 := ((d + 1), 323, 39, [some (.inr (.inr 26)), some (.inl x1), none], [], (am_sh, am_mm U24))) 1 (fun _ => rfl) (fun hc => ?_) (fun hc => ?_)
        · have ha2a2a2a1 := ha2a2a2a.1 hc
          exact ha2a2a2a1
        · have ha2a2a2a2 := ha2a2a2a.2 hc
          subst ha2a2a2a2
          exact ev_end 3 (fun _ => rfl)
