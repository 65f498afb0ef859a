set_option maxRecDepth 8000 in
theorem D_feed_r0 {N : Nat} {X : Nat → Int} {d : Nat} {x1 x2 x3 x4 x5 : Int} {U : am_U} {R : Option am_V × am_M} (h : (((w32 ((U 1 1) + 20)) ≤ 1600) → ∃ U1 : am_U, EvK N X (D_putFour_s0 d x1 U) (rV U1) ∧ ∃ U2 : am_U, EvK N X (D_putFour_s0 d x2 U1) (rV U2) ∧ ∃ U3 : am_U, EvK N X (D_putFour_s0 d x3 U2) (rV U3) ∧ ∃ U4 : am_U, EvK N X (D_putFour_s0 d x4 U3) (rV U4) ∧ ∃ U5 : am_U, EvK N X (D_putFour_s0 d x5 U4) (rV U5) ∧ R = rI (U5 1 1) U5) ∧ ((1600 < (w32 ((U 1 1) + 20))) → ∃ (r6 : Int) (U6 : am_U), EvK N X (D_refuse_s0 d 0 U) (rI r6 U6) ∧ R = rI (-1) U6)) : EvK N X (D_feed_s0 (d + 1) x1 x2 x3 x4 x5 U) R := by
  show Ev (am_kz N X) ((d + 1), 3, 0, [some (.inr (.inr 1)), some (.inl x1), some (.inl x2), some (.inl x3), some (.inl x4), some (.inl x5)], [], (am_sh, am_mm U)) R
  refine ev_br (P := (w32 ((U 1 1) + 20)) ≤ 1600) (σ1 := ((d + 1), 3, 21, [some (.inr (.inr 1)), some (.inl x1), some (.inl x2), some (.inl x3), some (.inl x4), some (.inl x5)], [], (am_sh, am_mm U))) (σ2 := ((d + 1), 3, 13, [some (.inr (.inr 1)), some (.inl x1), some (.inl x2), some (.inl x3), some (.inl x4), some (.inl x5)], [], (am_sh, am_mm U))) 6 (fun _ => rfl) (fun hc => ?_) (fun hc => ?_)
  · have h1 := h.1 hc
    refine ev_seg (σ1 := ((d + 1), 3, 23, [some (.inr (.inr 1)), some (.inl x1), some (.inl x2), some (.inl x3), some (.inl x4), some (.inl x5)], [.inl x1, .inr (.inr 1)], (am_sh, am_mm U))) 2 (fun _ => rfl) ?_
    obtain ⟨U1, h1c, h1a⟩ := h1
    refine ev_cal (σc := (D_putFour_s0 d x1 U)) (fun _ => rfl) h1c ?_
    show Ev (am_kz N X) ((d + 1), 3, 26, [some (.inr (.inr 1)), some (.inl x1), some (.inl x2), some (.inl x3), some (.inl x4), some (.inl x5)], [], (am_sh, am_mm U1)) R
    refine ev_seg (σ1 := ((d + 1), 3, 28, [some (.inr (.inr 1)), some (.inl x1), some (.inl x2), some (.inl x3), some (.inl x4), some (.inl x5)], [.inl x2, .inr (.inr 1)], (am_sh, am_mm U1))) 2 (fun _ => rfl) ?_
    obtain ⟨U2, h1ac, h1aa⟩ := h1a
    refine ev_cal (σc := (D_putFour_s0 d x2 U1)) (fun _ => rfl) h1ac ?_
    show Ev (am_kz N X) ((d + 1), 3, 31, [some (.inr (.inr 1)), some (.inl x1), some (.inl x2), some (.inl x3), some (.inl x4), some (.inl x5)], [], (am_sh, am_mm U2)) R
    refine ev_seg (σ1 := ((d + 1), 3, 33, [some (.inr (.inr 1)), some (.inl x1), some (.inl x2), some (.inl x3), some (.inl x4), some (.inl x5)], [.inl x3, .inr (.inr 1)], (am_sh, am_mm U2))) 2 (fun _ => rfl) ?_
    obtain ⟨U3, h1aac, h1aaa⟩ := h1aa
    refine ev_cal (σc := (D_putFour_s0 d x3 U2)) (fun _ => rfl) h1aac ?_
    show Ev (am_kz N X) ((d + 1), 3, 36, [some (.inr (.inr 1)), some (.inl x1), some (.inl x2), some (.inl x3), some (.inl x4), some (.inl x5)], [], (am_sh, am_mm U3)) R
    refine ev_seg (σ1 := ((d + 1), 3, 39, [some (.inr (.inr 1)), some (.inl x1), some (.inl x2), some (.inl x3), some (.inl x4), some (.inl x5)], [.inl x4, .inr (.inr 1)], (am_sh, am_mm U3))) 2 (fun _ => rfl) ?_
    obtain ⟨U4, h1aaac, h1aaaa⟩ := h1aaa
    refine ev_cal (σc := (D_putFour_s0 d x4 U3)) (fun _ => rfl) h1aaac ?_
    show Ev (am_kz N X) ((d + 1), 3, 42, [some (.inr (.inr 1)), some (.inl x1), some (.inl x2), some (.inl x3), some (.inl x4), some (.inl x5)], [], (am_sh, am_mm U4)) R
    refine ev_seg (σ1 := ((d + 1), 3, 45, [some (.inr (.inr 1)), some (.inl x1), some (.inl x2), some (.inl x3), some (.inl x4), some (.inl x5)], [.inl x5, .inr (.inr 1)], (am_sh, am_mm U4))) 2 (fun _ => rfl) ?_
    obtain ⟨U5, h1aaaac, h1aaaaa⟩ := h1aaaa
    refine ev_cal (σc := (D_putFour_s0 d x5 U4)) (fun _ => rfl) h1aaaac ?_
    show Ev (am_kz N X) ((d + 1), 3, 48, [some (.inr (.inr 1)), some (.inl x1), some (.inl x2), some (.inl x3), some (.inl x4), some (.inl x5)], [], (am_sh, am_mm U5)) R
    subst h1aaaaa
    exact ev_end 3 (fun _ => rfl)
  · have h2 := h.2 (Int.not_le.mp hc)
    refine ev_seg (σ1 := ((d + 1), 3, 15, [some (.inr (.inr 1)), some (.inl x1), some (.inl x2), some (.inl x3), some (.inl x4), some (.inl x5)], [.inl 0, .inr (.inr 1)], (am_sh, am_mm U))) 2 (fun _ => rfl) ?_
    obtain ⟨r6, U6, h2c, h2a⟩ := h2
    refine ev_cal (σc := (D_refuse_s0 d 0 U)) (fun _ => rfl) h2c ?_
    show Ev (am_kz N X) ((d + 1), 3, 18, [some (.inr (.inr 1)), some (.inl x1), some (.inl x2), some (.inl x3), some (.inl x4), some (.inl x5)], [.inl r6], (am_sh, am_mm U6)) R
    subst h2a
    exact ev_end 3 (fun _ => rfl)
set_option maxRecDepth 8000 in
theorem M_feed_r0 {N : Nat} {X : Nat → Int} {d : Nat} {x1 x2 x3 x4 x5 : Int} {U : am_U} {R : Option am_V × am_M} (h : (((w32 ((U 86 1) + 20)) ≤ 1600) → ∃ U1 : am_U, EvK N X (M_put_s0 d x1 U) (rV U1) ∧ ∃ U2 : am_U, EvK N X (M_put_s0 d x2 U1) (rV U2) ∧ ∃ U3 : am_U, EvK N X (M_put_s0 d x3 U2) (rV U3) ∧ ∃ U4 : am_U, EvK N X (M_put_s0 d x4 U3) (rV U4) ∧ ∃ U5 : am_U, EvK N X (M_put_s0 d x5 U4) (rV U5) ∧ R = rI (U5 86 1) U5) ∧ ((1600 < (w32 ((U 86 1) + 20))) → ∃ (r6 : Int) (U6 : am_U), EvK N X (M_refuses_s0 d 0 U) (rI r6 U6) ∧ R = rI r6 U6)) : EvK N X (M_feed_s0 (d + 1) x1 x2 x3 x4 x5 U) R := by
  show Ev (am_kz N X) ((d + 1), 4, 0, [some (.inr (.inr 86)), some (.inl x1), some (.inl x2), some (.inl x3), some (.inl x4), some (.inl x5)], [], (am_sh, am_mm U)) R
  refine ev_br (P := (w32 ((U 86 1) + 20)) ≤ 1600) (σ1 := ((d + 1), 4, 19, [some (.inr (.inr 86)), some (.inl x1), some (.inl x2), some (.inl x3), some (.inl x4), some (.inl x5)], [], (am_sh, am_mm U))) (σ2 := ((d + 1), 4, 13, [some (.inr (.inr 86)), some (.inl x1), some (.inl x2), some (.inl x3), some (.inl x4), some (.inl x5)], [], (am_sh, am_mm U))) 6 (fun _ => rfl) (fun hc => ?_) (fun hc => ?_)
  · have h1 := h.1 hc
    refine ev_seg (σ1 := ((d + 1), 4, 21, [some (.inr (.inr 86)), some (.inl x1), some (.inl x2), some (.inl x3), some (.inl x4), some (.inl x5)], [.inl x1, .inr (.inr 86)], (am_sh, am_mm U))) 2 (fun _ => rfl) ?_
    obtain ⟨U1, h1c, h1a⟩ := h1
    refine ev_cal (σc := (M_put_s0 d x1 U)) (fun _ => rfl) h1c ?_
    show Ev (am_kz N X) ((d + 1), 4, 24, [some (.inr (.inr 86)), some (.inl x1), some (.inl x2), some (.inl x3), some (.inl x4), some (.inl x5)], [], (am_sh, am_mm U1)) R
    refine ev_seg (σ1 := ((d + 1), 4, 26, [some (.inr (.inr 86)), some (.inl x1), some (.inl x2), some (.inl x3), some (.inl x4), some (.inl x5)], [.inl x2, .inr (.inr 86)], (am_sh, am_mm U1))) 2 (fun _ => rfl) ?_
    obtain ⟨U2, h1ac, h1aa⟩ := h1a
    refine ev_cal (σc := (M_put_s0 d x2 U1)) (fun _ => rfl) h1ac ?_
    show Ev (am_kz N X) ((d + 1), 4, 29, [some (.inr (.inr 86)), some (.inl x1), some (.inl x2), some (.inl x3), some (.inl x4), some (.inl x5)], [], (am_sh, am_mm U2)) R
    refine ev_seg (σ1 := ((d + 1), 4, 31, [some (.inr (.inr 86)), some (.inl x1), some (.inl x2), some (.inl x3), some (.inl x4), some (.inl x5)], [.inl x3, .inr (.inr 86)], (am_sh, am_mm U2))) 2 (fun _ => rfl) ?_
    obtain ⟨U3, h1aac, h1aaa⟩ := h1aa
    refine ev_cal (σc := (M_put_s0 d x3 U2)) (fun _ => rfl) h1aac ?_
    show Ev (am_kz N X) ((d + 1), 4, 34, [some (.inr (.inr 86)), some (.inl x1), some (.inl x2), some (.inl x3), some (.inl x4), some (.inl x5)], [], (am_sh, am_mm U3)) R
    refine ev_seg (σ1 := ((d + 1), 4, 37, [some (.inr (.inr 86)), some (.inl x1), some (.inl x2), some (.inl x3), some (.inl x4), some (.inl x5)], [.inl x4, .inr (.inr 86)], (am_sh, am_mm U3))) 2 (fun _ => rfl) ?_
    obtain ⟨U4, h1aaac, h1aaaa⟩ := h1aaa
    refine ev_cal (σc := (M_put_s0 d x4 U3)) (fun _ => rfl) h1aaac ?_
    show Ev (am_kz N X) ((d + 1), 4, 40, [some (.inr (.inr 86)), some (.inl x1), some (.inl x2), some (.inl x3), some (.inl x4), some (.inl x5)], [], (am_sh, am_mm U4)) R
    refine ev_seg (σ1 := ((d + 1), 4, 43, [some (.inr (.inr 86)), some (.inl x1), some (.inl x2), some (.inl x3), some (.inl x4), some (.inl x5)], [.inl x5, .inr (.inr 86)], (am_sh, am_mm U4))) 2 (fun _ => rfl) ?_
    obtain ⟨U5, h1aaaac, h1aaaaa⟩ := h1aaaa
    refine ev_cal (σc := (M_put_s0 d x5 U4)) (fun _ => rfl) h1aaaac ?_
    show Ev (am_kz N X) ((d + 1), 4, 46, [some (.inr (.inr 86)), some (.inl x1), some (.inl x2), some (.inl x3), some (.inl x4), some (.inl x5)], [], (am_sh, am_mm U5)) R
    subst h1aaaaa
    exact ev_end 3 (fun _ => rfl)
  · have h2 := h.2 (Int.not_le.mp hc)
    refine ev_seg (σ1 := ((d + 1), 4, 15, [some (.inr (.inr 86)), some (.inl x1), some (.inl x2), some (.inl x3), some (.inl x4), some (.inl x5)], [.inl 0, .inr (.inr 86)], (am_sh, am_mm U))) 2 (fun _ => rfl) ?_
    obtain ⟨r6, U6, h2c, h2a⟩ := h2
    refine ev_cal (σc := (M_refuses_s0 d 0 U)) (fun _ => rfl) h2c ?_
    show Ev (am_kz N X) ((d + 1), 4, 18, [some (.inr (.inr 86)), some (.inl x1), some (.inl x2), some (.inl x3), some (.inl x4), some (.inl x5)], [.inl r6], (am_sh, am_mm U6)) R
    subst h2a
    exact ev_end 1 (fun _ => rfl)
set_option maxRecDepth 8000 in
theorem D_end_r0 {N : Nat} {X : Nat → Int} {d : Nat} {x1 : Int} {U : am_U} {R : Option am_V × am_M} (h : ((x1 < 0) → ∃ (r1 : Int) (U1 : am_U), EvK N X (D_refuse_s0 d 0 U) (rI r1 U1) ∧ (r1 = 0 ∨ r1 = 1) ∧ R = rI r1 U1) ∧ ((0 ≤ x1) → ((x1 ≤ (U 1 1)) → R = rI 1 (am_upd U 1 1 x1)) ∧ (((U 1 1) < x1) → ∃ (r2 : Int) (U2 : am_U), EvK N X (D_refuse_s0 d 0 U) (rI r2 U2) ∧ (r2 = 0 ∨ r2 = 1) ∧ R = rI r2 U2))) : EvK N X (D_end_s0 (d + 1) x1 U) R := by
  show Ev (am_kz N X) ((d + 1), 5, 0, [some (.inr (.inr 1)), some (.inl x1)], [], (am_sh, am_mm U)) R
  refine ev_br (P := x1 < 0) (σ1 := ((d + 1), 5, 12, [some (.inr (.inr 1)), some (.inl x1)], [], (am_sh, am_mm U))) (σ2 := ((d + 1), 5, 4, [some (.inr (.inr 1)), some (.inl x1)], [], (am_sh, am_mm U))) 2 (fun _ => rfl) (fun hc => ?_) (fun hc => ?_)
  · have h1 := h.1 hc
    refine ev_seg (σ1 := ((d + 1), 5, 14, [some (.inr (.inr 1)), some (.inl x1)], [.inl 0, .inr (.inr 1)], (am_sh, am_mm U))) 2 (fun _ => rfl) ?_
    obtain ⟨r1, U1, h1c, h1a⟩ := h1
    refine ev_cal (σc := (D_refuse_s0 d 0 U)) (fun _ => rfl) h1c ?_
    show Ev (am_kz N X) ((d + 1), 5, 17, [some (.inr (.inr 1)), some (.inl x1)], [.inl r1], (am_sh, am_mm U1)) R
    rw [h1a.2]
    exact ev_retz rfl rfl h1a.1
  · have h2 := h.2 (Int.not_lt.mp hc)
    refine ev_br (P := x1 ≤ (U 1 1)) (σ1 := ((d + 1), 5, 18, [some (.inr (.inr 1)), some (.inl x1)], [], (am_sh, am_mm U))) (σ2 := ((d + 1), 5, 12, [some (.inr (.inr 1)), some (.inl x1)], [], (am_sh, am_mm U))) 4 (fun _ => rfl) (fun hc => ?_) (fun hc => ?_)
    · have h21 := h2.1 hc
      refine ev_seg (σ1 := ((d + 1), 5, 20, [some (.inr (.inr 1)), some (.inl x1)], [.inl x1, .inr (.inr 1)], (am_sh, am_mm U))) 2 (fun _ => rfl) ?_
      refine eu_puti 1 (n := 19) rfl (by decide) rfl rfl ?_
      show Ev (am_kz N X) ((d + 1), 5, 23, [some (.inr (.inr 1)), some (.inl x1)], [], (am_sh, am_mm (am_upd U 1 1 x1))) R
      subst h21
      exact ev_end 2 (fun _ => rfl)
    · have h22 := h2.2 (Int.not_le.mp hc)
      refine ev_seg (σ1 := ((d + 1), 5, 14, [some (.inr (.inr 1)), some (.inl x1)], [.inl 0, .inr (.inr 1)], (am_sh, am_mm U))) 2 (fun _ => rfl) ?_
      obtain ⟨r2, U2, h22c, h22a⟩ := h22
      refine ev_cal (σc := (D_refuse_s0 d 0 U)) (fun _ => rfl) h22c ?_
      show Ev (am_kz N X) ((d + 1), 5, 17, [some (.inr (.inr 1)), some (.inl x1)], [.inl r2], (am_sh, am_mm U2)) R
      rw [h22a.2]
      exact ev_retz rfl rfl h22a.1
set_option maxRecDepth 8000 in
theorem M_end_r0 {N : Nat} {X : Nat → Int} {d : Nat} {x1 : Int} {U : am_U} {R : Option am_V × am_M} (h : ((x1 < 0) → ∃ (r1 : Int) (U1 : am_U), EvK N X (M_refuses_s0 d 0 U) (rI r1 U1) ∧ ((r1 < 0) → R = rI 0 U1) ∧ ((0 ≤ r1) → R = rI 1 U1)) ∧ ((0 ≤ x1) → ((x1 ≤ (U 86 1)) → R = rI 1 (am_upd U 86 1 x1)) ∧ (((U 86 1) < x1) → ∃ (r2 : Int) (U2 : am_U), EvK N X (M_refuses_s0 d 0 U) (rI r2 U2) ∧ ((r2 < 0) → R = rI 0 U2) ∧ ((0 ≤ r2) → R = rI 1 U2)))) : EvK N X (M_end_s0 (d + 1) x1 U) R := by
  show Ev (am_kz N X) ((d + 1), 6, 0, [some (.inr (.inr 86)), some (.inl x1)], [], (am_sh, am_mm U)) R
  refine ev_br (P := x1 < 0) (σ1 := ((d + 1), 6, 12, [some (.inr (.inr 86)), some (.inl x1)], [], (am_sh, am_mm U))) (σ2 := ((d + 1), 6, 4, [some (.inr (.inr 86)), some (.inl x1)], [], (am_sh, am_mm U))) 2 (fun _ => rfl) (fun hc => ?_) (fun hc => ?_)
  · have h1 := h.1 hc
    refine ev_seg (σ1 := ((d + 1), 6, 14, [some (.inr (.inr 86)), some (.inl x1)], [.inl 0, .inr (.inr 86)], (am_sh, am_mm U))) 2 (fun _ => rfl) ?_
    obtain ⟨r1, U1, h1c, h1a⟩ := h1
    refine ev_cal (σc := (M_refuses_s0 d 0 U)) (fun _ => rfl) h1c ?_
    show Ev (am_kz N X) ((d + 1), 6, 17, [some (.inr (.inr 86)), some (.inl x1)], [.inl r1], (am_sh, am_mm U1)) R
    refine ev_br (P := r1 < 0) (σ1 := ((d + 1), 6, 24, [some (.inr (.inr 86)), some (.inl x1)], [], (am_sh, am_mm U1))) (σ2 := ((d + 1), 6, 20, [some (.inr (.inr 86)), some (.inl x1)], [], (am_sh, am_mm U1))) 1 (fun _ => rfl) (fun hc => ?_) (fun hc => ?_)
    · have h1a1 := h1a.1 hc
      subst h1a1
      exact ev_end 2 (fun _ => rfl)
    · have h1a2 := h1a.2 (Int.not_lt.mp hc)
      subst h1a2
      exact ev_end 3 (fun _ => rfl)
  · have h2 := h.2 (Int.not_lt.mp hc)
    refine ev_br (P := x1 ≤ (U 86 1)) (σ1 := ((d + 1), 6, 26, [some (.inr (.inr 86)), some (.inl x1)], [], (am_sh, am_mm U))) (σ2 := ((d + 1), 6, 12, [some (.inr (.inr 86)), some (.inl x1)], [], (am_sh, am_mm U))) 4 (fun _ => rfl) (fun hc => ?_) (fun hc => ?_)
    · have h21 := h2.1 hc
      refine ev_seg (σ1 := ((d + 1), 6, 28, [some (.inr (.inr 86)), some (.inl x1)], [.inl x1, .inr (.inr 86)], (am_sh, am_mm U))) 2 (fun _ => rfl) ?_
      refine eu_puti 86 (n := 90) rfl (by decide) rfl rfl ?_
      show Ev (am_kz N X) ((d + 1), 6, 31, [some (.inr (.inr 86)), some (.inl x1)], [], (am_sh, am_mm (am_upd U 86 1 x1))) R
      subst h21
      exact ev_end 2 (fun _ => rfl)
    · have h22 := h2.2 (Int.not_le.mp hc)
      refine ev_seg (σ1 := ((d + 1), 6, 14, [some (.inr (.inr 86)), some (.inl x1)], [.inl 0, .inr (.inr 86)], (am_sh, am_mm U))) 2 (fun _ => rfl) ?_
      obtain ⟨r2, U2, h22c, h22a⟩ := h22
      refine ev_cal (σc := (M_refuses_s0 d 0 U)) (fun _ => rfl) h22c ?_
      show Ev (am_kz N X) ((d + 1), 6, 17, [some (.inr (.inr 86)), some (.inl x1)], [.inl r2], (am_sh, am_mm U2)) R
      refine ev_br (P := r2 < 0) (σ1 := ((d + 1), 6, 24, [some (.inr (.inr 86)), some (.inl x1)], [], (am_sh, am_mm U2))) (σ2 := ((d + 1), 6, 20, [some (.inr (.inr 86)), some (.inl x1)], [], (am_sh, am_mm U2))) 1 (fun _ => rfl) (fun hc => ?_) (fun hc => ?_)
      · have h22a1 := h22a.1 hc
        subst h22a1
        exact ev_end 2 (fun _ => rfl)
      · have h22a2 := h22a.2 (Int.not_lt.mp hc)
        subst h22a2
        exact ev_end 3 (fun _ => rfl)
set_option maxRecDepth 8000 in
theorem D_town_r0 {N : Nat} {X : Nat → Int} {d : Nat} {U : am_U} {R : Option am_V × am_M} (h : ∃ (r1 : Int) (U1 : am_U), EvK N X (Rd_read_s0 d (U 1 1) U) (rI r1 U1) ∧ ((r1 ≠ 0) → ∃ U2 : am_U, EvK N X (Tw_copyFrom_s0 d (am_upd (am_upd (am_upd U1 1 1 0) 1 3 (U1 26 4)) 1 4 (U1 26 5))) (rV U2) ∧ ∃ U3 : am_U, EvK N X (Fk_copyFrom_s0 d U2) (rV U3) ∧ ∃ U4 : am_U, EvK N X (Rl_forget_s0 d U3) (rV U4) ∧ ∃ U5 : am_U, EvK N X (Hs_forget_s0 d U4) (rV U5) ∧ ∃ U6 : am_U, EvK N X (D_forgetAnswers_s0 d U5) (rV U6) ∧ R = rI (U6 26 3) U6) ∧ ((r1 = 0) → ∃ (r7 : Int) (U7 : am_U), EvK N X (D_refuse_s0 d 1 (am_upd (am_upd (am_upd U1 1 1 0) 1 3 (U1 26 4)) 1 4 (U1 26 5))) (rI r7 U7) ∧ R = rI (-1) U7)) : EvK N X (D_town_s0 (d + 1) U) R := by
  show Ev (am_kz N X) ((d + 1), 7, 0, [some (.inr (.inr 1)), none], [], (am_sh, am_mm U)) R
  refine ev_seg (σ1 := ((d + 1), 7, 12, [some (.inr (.inr 1)), none], [.inl (U 1 1), .inr (.inr 2), .inr (.inr 26)], (am_sh, am_mm U))) 6 (fun _ => rfl) ?_
  obtain ⟨r1, U1, hc, ha⟩ := h
  refine ev_cal (σc := (Rd_read_s0 d (U 1 1) U)) (fun _ => rfl) hc ?_
  show Ev (am_kz N X) ((d + 1), 7, 15, [some (.inr (.inr 1)), none], [.inl r1], (am_sh, am_mm U1)) R
  refine ev_seg (σ1 := ((d + 1), 7, 18, [some (.inr (.inr 1)), some (.inl r1)], [.inl 0, .inr (.inr 1)], (am_sh, am_mm U1))) 3 (fun _ => rfl) ?_
  refine eu_puti 1 (n := 19) rfl (by decide) rfl rfl ?_
  show Ev (am_kz N X) ((d + 1), 7, 21, [some (.inr (.inr 1)), some (.inl r1)], [], (am_sh, am_mm (am_upd U1 1 1 0))) R
  refine ev_seg (σ1 := ((d + 1), 7, 29, [some (.inr (.inr 1)), some (.inl r1)], [.inl (U1 26 4), .inr (.inr 1)], (am_sh, am_mm (am_upd U1 1 1 0)))) 4 (fun _ => rfl) ?_
  refine eu_puti 1 (n := 19) rfl (by decide) rfl rfl ?_
  show Ev (am_kz N X) ((d + 1), 7, 32, [some (.inr (.inr 1)), some (.inl r1)], [], (am_sh, am_mm (am_upd (am_upd U1 1 1 0) 1 3 (U1 26 4)))) R
  refine ev_seg (σ1 := ((d + 1), 7, 40, [some (.inr (.inr 1)), some (.inl r1)], [.inl (U1 26 5), .inr (.inr 1)], (am_sh, am_mm (am_upd (am_upd U1 1 1 0) 1 3 (U1 26 4))))) 4 (fun _ => rfl) ?_
  refine eu_puti 1 (n := 19) rfl (by decide) rfl rfl ?_
  show Ev (am_kz N X) ((d + 1), 7, 43, [some (.inr (.inr 1)), some (.inl r1)], [], (am_sh, am_mm (am_upd (am_upd (am_upd U1 1 1 0) 1 3 (U1 26 4)) 1 4 (U1 26 5)))) R
  refine ev_br (P := ¬ r1 = 0) (σ1 := ((d + 1), 7, 55, [some (.inr (.inr 1)), some (.inl r1)], [], (am_sh, am_mm (am_upd (am_upd (am_upd U1 1 1 0) 1 3 (U1 26 4)) 1 4 (U1 26 5))))) (σ2 := ((d + 1), 7, 47, [some (.inr (.inr 1)), some (.inl r1)], [], (am_sh, am_mm (am_upd (am_upd (am_upd U1 1 1 0) 1 3 (U1 26 4)) 1 4 (U1 26 5))))) 2 (fun _ => rfl) (fun hc => ?_) (fun hc => ?_)
  · have ha1 := ha.1 hc
    refine ev_seg (σ1 := ((d + 1), 7, 66, [some (.inr (.inr 1)), some (.inl r1)], [.inr (.inr 31), .inr (.inr 3)], (am_sh, am_mm (am_upd (am_upd (am_upd U1 1 1 0) 1 3 (U1 26 4)) 1 4 (U1 26 5))))) 5 (fun _ => rfl) ?_
    obtain ⟨U2, ha1c, ha1a⟩ := ha1
    refine ev_cal (σc := (Tw_copyFrom_s0 d (am_upd (am_upd (am_upd U1 1 1 0) 1 3 (U1 26 4)) 1 4 (U1 26 5)))) (fun _ => rfl) ha1c ?_
    show Ev (am_kz N X) ((d + 1), 7, 69, [some (.inr (.inr 1)), some (.inl r1)], [], (am_sh, am_mm U2)) R
    refine ev_seg (σ1 := ((d + 1), 7, 77, [some (.inr (.inr 1)), some (.inl r1)], [.inr (.inr 21), .inr (.inr 16)], (am_sh, am_mm U2))) 4 (fun _ => rfl) ?_
    obtain ⟨U3, ha1ac, ha1aa⟩ := ha1a
    refine ev_cal (σc := (Fk_copyFrom_s0 d U2)) (fun _ => rfl) ha1ac ?_
    show Ev (am_kz N X) ((d + 1), 7, 80, [some (.inr (.inr 1)), some (.inl r1)], [], (am_sh, am_mm U3)) R
    refine ev_seg (σ1 := ((d + 1), 7, 84, [some (.inr (.inr 1)), some (.inl r1)], [.inr (.inr 78)], (am_sh, am_mm U3))) 2 (fun _ => rfl) ?_
    obtain ⟨U4, ha1aac, ha1aaa⟩ := ha1aa
    refine ev_cal (σc := (Rl_forget_s0 d U3)) (fun _ => rfl) ha1aac ?_
    show Ev (am_kz N X) ((d + 1), 7, 87, [some (.inr (.inr 1)), some (.inl r1)], [], (am_sh, am_mm U4)) R
    refine ev_seg (σ1 := ((d + 1), 7, 91, [some (.inr (.inr 1)), some (.inl r1)], [.inr (.inr 56)], (am_sh, am_mm U4))) 2 (fun _ => rfl) ?_
    obtain ⟨U5, ha1aaac, ha1aaaa⟩ := ha1aaa
    refine ev_cal (σc := (Hs_forget_s0 d U4)) (fun _ => rfl) ha1aaac ?_
    show Ev (am_kz N X) ((d + 1), 7, 94, [some (.inr (.inr 1)), some (.inl r1)], [], (am_sh, am_mm U5)) R
    refine ev_seg (σ1 := ((d + 1), 7, 95, [some (.inr (.inr 1)), some (.inl r1)], [.inr (.inr 1)], (am_sh, am_mm U5))) 1 (fun _ => rfl) ?_
    obtain ⟨U6, ha1aaaac, ha1aaaaa⟩ := ha1aaaa
    refine ev_cal (σc := (D_forgetAnswers_s0 d U5)) (fun _ => rfl) ha1aaaac ?_
    show Ev (am_kz N X) ((d + 1), 7, 98, [some (.inr (.inr 1)), some (.inl r1)], [], (am_sh, am_mm U6)) R
    subst ha1aaaaa
    exact ev_end 4 (fun _ => rfl)
  · have ha2 := ha.2 (Decidable.not_not.mp hc)
    refine ev_seg (σ1 := ((d + 1), 7, 49, [some (.inr (.inr 1)), some (.inl r1)], [.inl 1, .inr (.inr 1)], (am_sh, am_mm (am_upd (am_upd (am_upd U1 1 1 0) 1 3 (U1 26 4)) 1 4 (U1 26 5))))) 2 (fun _ => rfl) ?_
    obtain ⟨r7, U7, ha2c, ha2a⟩ := ha2
    refine ev_cal (σc := (D_refuse_s0 d 1 (am_upd (am_upd (am_upd U1 1 1 0) 1 3 (U1 26 4)) 1 4 (U1 26 5)))) (fun _ => rfl) ha2c ?_
    show Ev (am_kz N X) ((d + 1), 7, 52, [some (.inr (.inr 1)), some (.inl r1)], [.inl r7], (am_sh, am_mm U7)) R
    subst ha2a
    exact ev_end 3 (fun _ => rfl)
set_option maxRecDepth 8000 in
theorem M_town_r0 {N : Nat} {X : Nat → Int} {d : Nat} {U : am_U} {R : Option am_V × am_M} (h : (0 ≤ (w32 (1 - (U 86 13))) ∧ (w32 (1 - (U 86 13))) < 2) ∧ ∃ U1 : am_U, EvK N X (M_ahead_s0 d (am_upd (am_upd (am_upd (am_upd (am_upd (am_upd (am_upd (am_upd (am_upd (am_upd (am_upd (am_upd (am_upd (am_upd (am_upd U 86 2 (U 86 1)) 86 1 0) 86 5 0) 86 8 0) 86 9 (-1)) 86 40 (w32 (1 - (U 86 13)))) 88 ((w32 (1 - (U 86 13))).toNat) 0) 90 ((w32 (1 - (U 86 13))).toNat) 0) 94 ((w32 (1 - (U 86 13))).toNat) 0) 97 ((w32 (1 - (U 86 13))).toNat) 0) 100 ((w32 (1 - (U 86 13))).toNat) 0) 104 ((w32 (1 - (U 86 13))).toNat) (-1)) 106 ((w32 (1 - (U 86 13))).toNat) 0) 110 ((w32 (1 - (U 86 13))).toNat) 0) 86 39 0)) (rV U1) ∧ EvK N X (M_town_s129 (d + 1) 0 U1) R) : EvK N X (M_town_s0 (d + 1) U) R := by
  show Ev (am_kz N X) ((d + 1), 8, 0, [some (.inr (.inr 86)), none], [], (am_sh, am_mm U)) R
  refine ev_seg (σ1 := ((d + 1), 8, 5, [some (.inr (.inr 86)), none], [.inl (U 86 1), .inr (.inr 86)], (am_sh, am_mm U))) 3 (fun _ => rfl) ?_
  refine eu_puti 86 (n := 90) rfl (by decide) rfl rfl ?_
  show Ev (am_kz N X) ((d + 1), 8, 8, [some (.inr (.inr 86)), none], [], (am_sh, am_mm (am_upd U 86 2 (U 86 1)))) R
  refine ev_seg (σ1 := ((d + 1), 8, 10, [some (.inr (.inr 86)), none], [.inl 0, .inr (.inr 86)], (am_sh, am_mm (am_upd U 86 2 (U 86 1))))) 2 (fun _ => rfl) ?_
  refine eu_puti 86 (n := 90) rfl (by decide) rfl rfl ?_
  show Ev (am_kz N X) ((d + 1), 8, 13, [some (.inr (.inr 86)), none], [], (am_sh, am_mm (am_upd (am_upd U 86 2 (U 86 1)) 86 1 0))) R
  refine ev_seg (σ1 := ((d + 1), 8, 15, [some (.inr (.inr 86)), none], [.inl 0, .inr (.inr 86)], (am_sh, am_mm (am_upd (am_upd U 86 2 (U 86 1)) 86 1 0)))) 2 (fun _ => rfl) ?_
  refine eu_puti 86 (n := 90) rfl (by decide) rfl rfl ?_
  show Ev (am_kz N X) ((d + 1), 8, 18, [some (.inr (.inr 86)), none], [], (am_sh, am_mm (am_upd (am_upd (am_upd U 86 2 (U 86 1)) 86 1 0) 86 5 0))) R
  refine ev_seg (σ1 := ((d + 1), 8, 20, [some (.inr (.inr 86)), none], [.inl 0, .inr (.inr 86)], (am_sh, am_mm (am_upd (am_upd (am_upd U 86 2 (U 86 1)) 86 1 0) 86 5 0)))) 2 (fun _ => rfl) ?_
  refine eu_puti 86 (n := 90) rfl (by decide) rfl rfl ?_
  show Ev (am_kz N X) ((d + 1), 8, 23, [some (.inr (.inr 86)), none], [], (am_sh, am_mm (am_upd (am_upd (am_upd (am_upd U 86 2 (U 86 1)) 86 1 0) 86 5 0) 86 8 0))) R
  refine ev_seg (σ1 := ((d + 1), 8, 25, [some (.inr (.inr 86)), none], [.inl (-1), .inr (.inr 86)], (am_sh, am_mm (am_upd (am_upd (am_upd (am_upd U 86 2 (U 86 1)) 86 1 0) 86 5 0) 86 8 0)))) 2 (fun _ => rfl) ?_
  refine eu_puti 86 (n := 90) rfl (by decide) rfl rfl ?_
  show Ev (am_kz N X) ((d + 1), 8, 28, [some (.inr (.inr 86)), none], [], (am_sh, am_mm (am_upd (am_upd (am_upd (am_upd (am_upd U 86 2 (U 86 1)) 86 1 0) 86 5 0) 86 8 0) 86 9 (-1)))) R
  refine ev_seg (σ1 := ((d + 1), 8, 35, [some (.inr (.inr 86)), none], [.inl (w32 (1 - (U 86 13))), .inr (.inr 86)], (am_sh, am_mm (am_upd (am_upd (am_upd (am_upd (am_upd U 86 2 (U 86 1)) 86 1 0) 86 5 0) 86 8 0) 86 9 (-1))))) 5 (fun _ => rfl) ?_
  refine eu_puti 86 (n := 90) rfl (by decide) rfl rfl ?_
  show Ev (am_kz N X) ((d + 1), 8, 38, [some (.inr (.inr 86)), none], [], (am_sh, am_mm (am_upd (am_upd (am_upd (am_upd (am_upd (am_upd U 86 2 (U 86 1)) 86 1 0) 86 5 0) 86 8 0) 86 9 (-1)) 86 40 (w32 (1 - (U 86 13)))))) R
  refine ev_seg (σ1 := ((d + 1), 8, 47, [some (.inr (.inr 86)), none], [.inl 0, .inl (w32 (1 - (U 86 13))), .inr (.inr 88)], (am_sh, am_mm (am_upd (am_upd (am_upd (am_upd (am_upd (am_upd U 86 2 (U 86 1)) 86 1 0) 86 5 0) 86 8 0) 86 9 (-1)) 86 40 (w32 (1 - (U 86 13))))))) 5 (fun _ => rfl) ?_
  refine eu_iast 88 (n := 2) rfl (by decide) rfl (fun _ => rfl) h.1 ?_
  show Ev (am_kz N X) ((d + 1), 8, 48, [some (.inr (.inr 86)), none], [], (am_sh, am_mm (am_upd (am_upd (am_upd (am_upd (am_upd (am_upd (am_upd U 86 2 (U 86 1)) 86 1 0) 86 5 0) 86 8 0) 86 9 (-1)) 86 40 (w32 (1 - (U 86 13)))) 88 ((w32 (1 - (U 86 13))).toNat) 0))) R
  have ha := h.2
  refine ev_seg (σ1 := ((d + 1), 8, 57, [some (.inr (.inr 86)), none], [.inl 0, .inl (w32 (1 - (U 86 13))), .inr (.inr 90)], (am_sh, am_mm (am_upd (am_upd (am_upd (am_upd (am_upd (am_upd (am_upd U 86 2 (U 86 1)) 86 1 0) 86 5 0) 86 8 0) 86 9 (-1)) 86 40 (w32 (1 - (U 86 13)))) 88 ((w32 (1 - (U 86 13))).toNat) 0)))) 5 (fun _ => rfl) ?_
  refine eu_iast 90 (n := 2) rfl (by decide) rfl (fun _ => rfl) h.1 ?_
  show Ev (am_kz N X) ((d + 1), 8, 58, [some (.inr (.inr 86)), none], [], (am_sh, am_mm (am_upd (am_upd (am_upd (am_upd (am_upd (am_upd (am_upd (am_upd U 86 2 (U 86 1)) 86 1 0) 86 5 0) 86 8 0) 86 9 (-1)) 86 40 (w32 (1 - (U 86 13)))) 88 ((w32 (1 - (U 86 13))).toNat) 0) 90 ((w32 (1 - (U 86 13))).toNat) 0))) R
  refine ev_seg (σ1 := ((d + 1), 8, 67, [some (.inr (.inr 86)), none], [.inl 0, .inl (w32 (1 - (U 86 13))), .inr (.inr 94)], (am_sh, am_mm (am_upd (am_upd (am_upd (am_upd (am_upd (am_upd (am_upd (am_upd U 86 2 (U 86 1)) 86 1 0) 86 5 0) 86 8 0) 86 9 (-1)) 86 40 (w32 (1 - (U 86 13)))) 88 ((w32 (1 - (U 86 13))).toNat) 0) 90 ((w32 (1 - (U 86 13))).toNat) 0)))) 5 (fun _ => rfl) ?_
  refine eu_iast 94 (n := 2) rfl (by decide) rfl (fun _ => rfl) h.1 ?_
  show Ev (am_kz N X) ((d + 1), 8, 68, [some (.inr (.inr 86)), none], [], (am_sh, am_mm (am_upd (am_upd (am_upd (am_upd (am_upd (am_upd (am_upd (am_upd (am_upd U 86 2 (U 86 1)) 86 1 0) 86 5 0) 86 8 0) 86 9 (-1)) 86 40 (w32 (1 - (U 86 13)))) 88 ((w32 (1 - (U 86 13))).toNat) 0) 90 ((w32 (1 - (U 86 13))).toNat) 0) 94 ((w32 (1 - (U 86 13))).toNat) 0))) R
  refine ev_seg (σ1 := ((d + 1), 8, 77, [some (.inr (.inr 86)), none], [.inl 0, .inl (w32 (1 - (U 86 13))), .inr (.inr 97)], (am_sh, am_mm (am_upd (am_upd (am_upd (am_upd (am_upd (am_upd (am_upd (am_upd (am_upd U 86 2 (U 86 1)) 86 1 0) 86 5 0) 86 8 0) 86 9 (-1)) 86 40 (w32 (1 - (U 86 13)))) 88 ((w32 (1 - (U 86 13))).toNat) 0) 90 ((w32 (1 - (U 86 13))).toNat) 0) 94 ((w32 (1 - (U 86 13))).toNat) 0)))) 5 (fun _ => rfl) ?_
  refine eu_iast 97 (n := 2) rfl (by decide) rfl (fun _ => rfl) h.1 ?_
  show Ev (am_kz N X) ((d + 1), 8, 78, [some (.inr (.inr 86)), none], [], (am_sh, am_mm (am_upd (am_upd (am_upd (am_upd (am_upd (am_upd (am_upd (am_upd (am_upd (am_upd U 86 2 (U 86 1)) 86 1 0) 86 5 0) 86 8 0) 86 9 (-1)) 86 40 (w32 (1 - (U 86 13)))) 88 ((w32 (1 - (U 86 13))).toNat) 0) 90 ((w32 (1 - (U 86 13))).toNat) 0) 94 ((w32 (1 - (U 86 13))).toNat) 0) 97 ((w32 (1 - (U 86 13))).toNat) 0))) R
  refine ev_seg (σ1 := ((d + 1), 8, 87, [some (.inr (.inr 86)), none], [.inl 0, .inl (w32 (1 - (U 86 13))), .inr (.inr 100)], (am_sh, am_mm (am_upd (am_upd (am_upd (am_upd (am_upd (am_upd (am_upd (am_upd (am_upd (am_upd U 86 2 (U 86 1)) 86 1 0) 86 5 0) 86 8 0) 86 9 (-1)) 86 40 (w32 (1 - (U 86 13)))) 88 ((w32 (1 - (U 86 13))).toNat) 0) 90 ((w32 (1 - (U 86 13))).toNat) 0) 94 ((w32 (1 - (U 86 13))).toNat) 0) 97 ((w32 (1 - (U 86 13))).toNat) 0)))) 5 (fun _ => rfl) ?_
  refine eu_iast 100 (n := 2) rfl (by decide) rfl (fun _ => rfl) h.1 ?_
  show Ev (am_kz N X) ((d + 1), 8, 88, [some (.inr (.inr 86)), none], [], (am_sh, am_mm (am_upd (am_upd (am_upd (am_upd (am_upd (am_upd (am_upd (am_upd (am_upd (am_upd (am_upd U 86 2 (U 86 1)) 86 1 0) 86 5 0) 86 8 0) 86 9 (-1)) 86 40 (w32 (1 - (U 86 13)))) 88 ((w32 (1 - (U 86 13))).toNat) 0) 90 ((w32 (1 - (U 86 13))).toNat) 0) 94 ((w32 (1 - (U 86 13))).toNat) 0) 97 ((w32 (1 - (U 86 13))).toNat) 0) 100 ((w32 (1 - (U 86 13))).toNat) 0))) R
  refine ev_seg (σ1 := ((d + 1), 8, 97, [some (.inr (.inr 86)), none], [.inl (-1), .inl (w32 (1 - (U 86 13))), .inr (.inr 104)], (am_sh, am_mm (am_upd (am_upd (am_upd (am_upd (am_upd (am_upd (am_upd (am_upd (am_upd (am_upd (am_upd U 86 2 (U 86 1)) 86 1 0) 86 5 0) 86 8 0) 86 9 (-1)) 86 40 (w32 (1 - (U 86 13)))) 88 ((w32 (1 - (U 86 13))).toNat) 0) 90 ((w32 (1 - (U 86 13))).toNat) 0) 94 ((w32 (1 - (U 86 13))).toNat) 0) 97 ((w32 (1 - (U 86 13))).toNat) 0) 100 ((w32 (1 - (U 86 13))).toNat) 0)))) 5 (fun _ => rfl) ?_
  refine eu_iast 104 (n := 2) rfl (by decide) rfl (fun _ => rfl) h.1 ?_
  show Ev (am_kz N X) ((d + 1), 8, 98, [some (.inr (.inr 86)), none], [], (am_sh, am_mm (am_upd (am_upd (am_upd (am_upd (am_upd (am_upd (am_upd (am_upd (am_upd (am_upd (am_upd (am_upd U 86 2 (U 86 1)) 86 1 0) 86 5 0) 86 8 0) 86 9 (-1)) 86 40 (w32 (1 - (U 86 13)))) 88 ((w32 (1 - (U 86 13))).toNat) 0) 90 ((w32 (1 - (U 86 13))).toNat) 0) 94 ((w32 (1 - (U 86 13))).toNat) 0) 97 ((w32 (1 - (U 86 13))).toNat) 0) 100 ((w32 (1 - (U 86 13))).toNat) 0) 104 ((w32 (1 - (U 86 13))).toNat) (-1)))) R
  refine ev_seg (σ1 := ((d + 1), 8, 107, [some (.inr (.inr 86)), none], [.inl 0, .inl (w32 (1 - (U 86 13))), .inr (.inr 106)], (am_sh, am_mm (am_upd (am_upd (am_upd (am_upd (am_upd (am_upd (am_upd (am_upd (am_upd (am_upd (am_upd (am_upd U 86 2 (U 86 1)) 86 1 0) 86 5 0) 86 8 0) 86 9 (-1)) 86 40 (w32 (1 - (U 86 13)))) 88 ((w32 (1 - (U 86 13))).toNat) 0) 90 ((w32 (1 - (U 86 13))).toNat) 0) 94 ((w32 (1 - (U 86 13))).toNat) 0) 97 ((w32 (1 - (U 86 13))).toNat) 0) 100 ((w32 (1 - (U 86 13))).toNat) 0) 104 ((w32 (1 - (U 86 13))).toNat) (-1))))) 5 (fun _ => rfl) ?_
  refine eu_iast 106 (n := 2) rfl (by decide) rfl (fun _ => rfl) h.1 ?_
  show Ev (am_kz N X) ((d + 1), 8, 108, [some (.inr (.inr 86)), none], [], (am_sh, am_mm (am_upd (am_upd (am_upd (am_upd (am_upd (am_upd (am_upd (am_upd (am_upd (am_upd (am_upd (am_upd (am_upd U 86 2 (U 86 1)) 86 1 0) 86 5 0) 86 8 0) 86 9 (-1)) 86 40 (w32 (1 - (U 86 13)))) 88 ((w32 (1 - (U 86 13))).toNat) 0) 90 ((w32 (1 - (U 86 13))).toNat) 0) 94 ((w32 (1 - (U 86 13))).toNat) 0) 97 ((w32 (1 - (U 86 13))).toNat) 0) 100 ((w32 (1 - (U 86 13))).toNat) 0) 104 ((w32 (1 - (U 86 13))).toNat) (-1)) 106 ((w32 (1 - (U 86 13))).toNat) 0))) R
  refine ev_seg (σ1 := ((d + 1), 8, 117, [some (.inr (.inr 86)), none], [.inl 0, .inl (w32 (1 - (U 86 13))), .inr (.inr 110)], (am_sh, am_mm (am_upd (am_upd (am_upd (am_upd (am_upd (am_upd (am_upd (am_upd (am_upd (am_upd (am_upd (am_upd (am_upd U 86 2 (U 86 1)) 86 1 0) 86 5 0) 86 8 0) 86 9 (-1)) 86 40 (w32 (1 - (U 86 13)))) 88 ((w32 (1 - (U 86 13))).toNat) 0) 90 ((w32 (1 - (U 86 13))).toNat) 0) 94 ((w32 (1 - (U 86 13))).toNat) 0) 97 ((w32 (1 - (U 86 13))).toNat) 0) 100 ((w32 (1 - (U 86 13))).toNat) 0) 104 ((w32 (1 - (U 86 13))).toNat) (-1)) 106 ((w32 (1 - (U 86 13))).toNat) 0)))) 5 (fun _ => rfl) ?_
  refine eu_iast 110 (n := 2) rfl (by decide) rfl (fun _ => rfl) h.1 ?_
  show Ev (am_kz N X) ((d + 1), 8, 118, [some (.inr (.inr 86)), none], [], (am_sh, am_mm (am_upd (am_upd (am_upd (am_upd (am_upd (am_upd (am_upd (am_upd (am_upd (am_upd (am_upd (am_upd (am_upd (am_upd U 86 2 (U 86 1)) 86 1 0) 86 5 0) 86 8 0) 86 9 (-1)) 86 40 (w32 (1 - (U 86 13)))) 88 ((w32 (1 - (U 86 13))).toNat) 0) 90 ((w32 (1 - (U 86 13))).toNat) 0) 94 ((w32 (1 - (U 86 13))).toNat) 0) 97 ((w32 (1 - (U 86 13))).toNat) 0) 100 ((w32 (1 - (U 86 13))).toNat) 0) 104 ((w32 (1 - (U 86 13))).toNat) (-1)) 106 ((w32 (1 - (U 86 13))).toNat) 0) 110 ((w32 (1 - (U 86 13))).toNat) 0))) R
  refine ev_seg (σ1 := ((d + 1), 8, 120, [some (.inr (.inr 86)), none], [.inl 0, .inr (.inr 86)], (am_sh, am_mm (am_upd (am_upd (am_upd (am_upd (am_upd (am_upd (am_upd (am_upd (am_upd (am_upd (am_upd (am_upd (am_upd (am_upd U 86 2 (U 86 1)) 86 1 0) 86 5 0) 86 8 0) 86 9 (-1)) 86 40 (w32 (1 - (U 86 13)))) 88 ((w32 (1 - (U 86 13))).toNat) 0) 90 ((w32 (1 - (U 86 13))).toNat) 0) 94 ((w32 (1 - (U 86 13))).toNat) 0) 97 ((w32 (1 - (U 86 13))).toNat) 0) 100 ((w32 (1 - (U 86 13))).toNat) 0) 104 ((w32 (1 - (U 86 13))).toNat) (-1)) 106 ((w32 (1 - (U 86 13))).toNat) 0) 110 ((w32 (1 - (U 86 13))).toNat) 0)))) 2 (fun _ => rfl) ?_
  refine eu_puti 86 (n := 90) rfl (by decide) rfl rfl ?_
  show Ev (am_kz N X) ((d + 1), 8, 123, [some (.inr (.inr 86)), none], [], (am_sh, am_mm (am_upd (am_upd (am_upd (am_upd (am_upd (am_upd (am_upd (am_upd (am_upd (am_upd (am_upd (am_upd (am_upd (am_upd (am_upd U 86 2 (U 86 1)) 86 1 0) 86 5 0) 86 8 0) 86 9 (-1)) 86 40 (w32 (1 - (U 86 13)))) 88 ((w32 (1 - (U 86 13))).toNat) 0) 90 ((w32 (1 - (U 86 13))).toNat) 0) 94 ((w32 (1 - (U 86 13))).toNat) 0) 97 ((w32 (1 - (U 86 13))).toNat) 0) 100 ((w32 (1 - (U 86 13))).toNat) 0) 104 ((w32 (1 - (U 86 13))).toNat) (-1)) 106 ((w32 (1 - (U 86 13))).toNat) 0) 110 ((w32 (1 - (U 86 13))).toNat) 0) 86 39 0))) R
  refine ev_seg (σ1 := ((d + 1), 8, 126, [some (.inr (.inr 86)), some (.inl 0)], [.inr (.inr 86)], (am_sh, am_mm (am_upd (am_upd (am_upd (am_upd (am_upd (am_upd (am_upd (am_upd (am_upd (am_upd (am_upd (am_upd (am_upd (am_upd (am_upd U 86 2 (U 86 1)) 86 1 0) 86 5 0) 86 8 0) 86 9 (-1)) 86 40 (w32 (1 - (U 86 13)))) 88 ((w32 (1 - (U 86 13))).toNat) 0) 90 ((w32 (1 - (U 86 13))).toNat) 0) 94 ((w32 (1 - (U 86 13))).toNat) 0) 97 ((w32 (1 - (U 86 13))).toNat) 0) 100 ((w32 (1 - (U 86 13))).toNat) 0) 104 ((w32 (1 - (U 86 13))).toNat) (-1)) 106 ((w32 (1 - (U 86 13))).toNat) 0) 110 ((w32 (1 - (U 86 13))).toNat) 0) 86 39 0)))) 3 (fun _ => rfl) ?_
  obtain ⟨U1, hac, haa⟩ := ha
  refine ev_cal (σc := (M_ahead_s0 d (am_upd (am_upd (am_upd (am_upd (am_upd (am_upd (am_upd (am_upd (am_upd (am_upd (am_upd (am_upd (am_upd (am_upd (am_upd U 86 2 (U 86 1)) 86 1 0) 86 5 0) 86 8 0) 86 9 (-1)) 86 40 (w32 (1 - (U 86 13)))) 88 ((w32 (1 - (U 86 13))).toNat) 0) 90 ((w32 (1 - (U 86 13))).toNat) 0) 94 ((w32 (1 - (U 86 13))).toNat) 0) 97 ((w32 (1 - (U 86 13))).toNat) 0) 100 ((w32 (1 - (U 86 13))).toNat) 0) 104 ((w32 (1 - (U 86 13))).toNat) (-1)) 106 ((w32 (1 - (U 86 13))).toNat) 0) 110 ((w32 (1 - (U 86 13))).toNat) 0) 86 39 0))) (fun _ => rfl) hac ?_
  show Ev (am_kz N X) ((d + 1), 8, 129, [some (.inr (.inr 86)), some (.inl 0)], [], (am_sh, am_mm U1)) R
  exact haa
set_option maxRecDepth 8000 in
theorem M_town_r129 {N : Nat} {X : Nat → Int} {d : Nat} {x1 : Int} {U : am_U} {R : Option am_V × am_M} (h : (((U 86 8) ≠ 0) → (((U 86 8) ≤ 0) → ∃ U1 : am_U, EvK N X (M_begin_s0 d (am_upd (am_upd (am_upd U 86 10 (U 86 8)) 86 11 (U 86 9)) 86 13 (U 86 40))) (rV U1) ∧ R = rI x1 U1) ∧ ((0 < (U 86 8)) → ∃ (r2 : Int) (U2 : am_U), EvK N X (M_refuses_s0 d 1 (am_upd (am_upd U 86 10 (U 86 8)) 86 11 (U 86 9))) (rI r2 U2) ∧ R = rI r2 U2)) ∧ (((U 86 8) = 0) → (((U 86 3) = 0) → (((U 86 8) ≤ 0) → ∃ U3 : am_U, EvK N X (M_begin_s0 d (am_upd (am_upd (am_upd U 86 10 (U 86 8)) 86 11 (U 86 9)) 86 13 (U 86 40))) (rV U3) ∧ R = rI x1 U3) ∧ ((0 < (U 86 8)) → ∃ (r4 : Int) (U4 : am_U), EvK N X (M_refuses_s0 d 1 (am_upd (am_upd U 86 10 (U 86 8)) 86 11 (U 86 9))) (rI r4 U4) ∧ R = rI r4 U4)) ∧ (((U 86 3) ≠ 0) → ∃ U5 : am_U, EvK N X (M_statement_s0 d U) (rV U5) ∧ ∃ U6 : am_U, EvK N X (M_finishes_s0 d (w32 (x1 + 1)) U5) (rV U6) ∧ EvK N X (M_town_s129 (d + 1) (w32 (x1 + 1)) U6) R))) : EvK N X (M_town_s129 (d + 1) x1 U) R := by
  show Ev (am_kz N X) ((d + 1), 8, 129, [some (.inr (.inr 86)), some (.inl x1)], [], (am_sh, am_mm U)) R
  refine ev_br (P := ¬ (U 86 8) = 0) (σ1 := ((d + 1), 8, 158, [some (.inr (.inr 86)), some (.inl x1)], [], (am_sh, am_mm U))) (σ2 := ((d + 1), 8, 136, [some (.inr (.inr 86)), some (.inl x1)], [], (am_sh, am_mm U))) 3 (fun _ => rfl) (fun hc => ?_) (fun hc => ?_)
  · have h1 := h.1 hc
    refine ev_seg (σ1 := ((d + 1), 8, 163, [some (.inr (.inr 86)), some (.inl x1)], [.inl (U 86 8), .inr (.inr 86)], (am_sh, am_mm U))) 3 (fun _ => rfl) ?_
    refine eu_puti 86 (n := 90) rfl (by decide) rfl rfl ?_
    show Ev (am_kz N X) ((d + 1), 8, 166, [some (.inr (.inr 86)), some (.inl x1)], [], (am_sh, am_mm (am_upd U 86 10 (U 86 8)))) R
    refine ev_seg (σ1 := ((d + 1), 8, 171, [some (.inr (.inr 86)), some (.inl x1)], [.inl (U 86 9), .inr (.inr 86)], (am_sh, am_mm (am_upd U 86 10 (U 86 8))))) 3 (fun _ => rfl) ?_
    refine eu_puti 86 (n := 90) rfl (by decide) rfl rfl ?_
    show Ev (am_kz N X) ((d + 1), 8, 174, [some (.inr (.inr 86)), some (.inl x1)], [], (am_sh, am_mm (am_upd (am_upd U 86 10 (U 86 8)) 86 11 (U 86 9)))) R
    refine ev_br (P := (U 86 8) ≤ 0) (σ1 := ((d + 1), 8, 187, [some (.inr (.inr 86)), some (.inl x1)], [], (am_sh, am_mm (am_upd (am_upd U 86 10 (U 86 8)) 86 11 (U 86 9))))) (σ2 := ((d + 1), 8, 181, [some (.inr (.inr 86)), some (.inl x1)], [], (am_sh, am_mm (am_upd (am_upd U 86 10 (U 86 8)) 86 11 (U 86 9))))) 3 (fun _ => rfl) (fun hc => ?_) (fun hc => ?_)
    · have h11 := h1.1 hc
      refine ev_seg (σ1 := ((d + 1), 8, 192, [some (.inr (.inr 86)), some (.inl x1)], [.inl (U 86 40), .inr (.inr 86)], (am_sh, am_mm (am_upd (am_upd U 86 10 (U 86 8)) 86 11 (U 86 9))))) 3 (fun _ => rfl) ?_
      refine eu_puti 86 (n := 90) rfl (by decide) rfl rfl ?_
      show Ev (am_kz N X) ((d + 1), 8, 195, [some (.inr (.inr 86)), some (.inl x1)], [], (am_sh, am_mm (am_upd (am_upd (am_upd U 86 10 (U 86 8)) 86 11 (U 86 9)) 86 13 (U 86 40)))) R
      refine ev_seg (σ1 := ((d + 1), 8, 196, [some (.inr (.inr 86)), some (.inl x1)], [.inr (.inr 86)], (am_sh, am_mm (am_upd (am_upd (am_upd U 86 10 (U 86 8)) 86 11 (U 86 9)) 86 13 (U 86 40))))) 1 (fun _ => rfl) ?_
      obtain ⟨U1, h11c, h11a⟩ := h11
      refine ev_cal (σc := (M_begin_s0 d (am_upd (am_upd (am_upd U 86 10 (U 86 8)) 86 11 (U 86 9)) 86 13 (U 86 40)))) (fun _ => rfl) h11c ?_
      show Ev (am_kz N X) ((d + 1), 8, 199, [some (.inr (.inr 86)), some (.inl x1)], [], (am_sh, am_mm U1)) R
      subst h11a
      exact ev_end 2 (fun _ => rfl)
    · have h12 := h1.2 (Int.not_le.mp hc)
      refine ev_seg (σ1 := ((d + 1), 8, 183, [some (.inr (.inr 86)), some (.inl x1)], [.inl 1, .inr (.inr 86)], (am_sh, am_mm (am_upd (am_upd U 86 10 (U 86 8)) 86 11 (U 86 9))))) 2 (fun _ => rfl) ?_
      obtain ⟨r2, U2, h12c, h12a⟩ := h12
      refine ev_cal (σc := (M_refuses_s0 d 1 (am_upd (am_upd U 86 10 (U 86 8)) 86 11 (U 86 9)))) (fun _ => rfl) h12c ?_
      show Ev (am_kz N X) ((d + 1), 8, 186, [some (.inr (.inr 86)), some (.inl x1)], [.inl r2], (am_sh, am_mm U2)) R
      subst h12a
      exact ev_end 1 (fun _ => rfl)
  · have h2 := h.2 (Decidable.not_not.mp hc)
    refine ev_br (P := (U 86 3) = 0) (σ1 := ((d + 1), 8, 158, [some (.inr (.inr 86)), some (.inl x1)], [], (am_sh, am_mm U))) (σ2 := ((d + 1), 8, 143, [some (.inr (.inr 86)), some (.inl x1)], [], (am_sh, am_mm U))) 3 (fun _ => rfl) (fun hc => ?_) (fun hc => ?_)
    · have h21 := h2.1 hc
      refine ev_seg (σ1 := ((d + 1), 8, 163, [some (.inr (.inr 86)), some (.inl x1)], [.inl (U 86 8), .inr (.inr 86)], (am_sh, am_mm U))) 3 (fun _ => rfl) ?_
      refine eu_puti 86 (n := 90) rfl (by decide) rfl rfl ?_
      show Ev (am_kz N X) ((d + 1), 8, 166, [some (.inr (.inr 86)), some (.inl x1)], [], (am_sh, am_mm (am_upd U 86 10 (U 86 8)))) R
      refine ev_seg (σ1 := ((d + 1), 8, 171, [some (.inr (.inr 86)), some (.inl x1)], [.inl (U 86 9), .inr (.inr 86)], (am_sh, am_mm (am_upd U 86 10 (U 86 8))))) 3 (fun _ => rfl) ?_
      refine eu_puti 86 (n := 90) rfl (by decide) rfl rfl ?_
      show Ev (am_kz N X) ((d + 1), 8, 174, [some (.inr (.inr 86)), some (.inl x1)], [], (am_sh, am_mm (am_upd (am_upd U 86 10 (U 86 8)) 86 11 (U 86 9)))) R
      refine ev_br (P := (U 86 8) ≤ 0) (σ1 := ((d + 1), 8, 187, [some (.inr (.inr 86)), some (.inl x1)], [], (am_sh, am_mm (am_upd (am_upd U 86 10 (U 86 8)) 86 11 (U 86 9))))) (σ2 := ((d + 1), 8, 181, [some (.inr (.inr 86)), some (.inl x1)], [], (am_sh, am_mm (am_upd (am_upd U 86 10 (U 86 8)) 86 11 (U 86 9))))) 3 (fun _ => rfl) (fun hc => ?_) (fun hc => ?_)
      · have h211 := h21.1 hc
        refine ev_seg (σ1 := ((d + 1), 8, 192, [some (.inr (.inr 86)), some (.inl x1)], [.inl (U 86 40), .inr (.inr 86)], (am_sh, am_mm (am_upd (am_upd U 86 10 (U 86 8)) 86 11 (U 86 9))))) 3 (fun _ => rfl) ?_
        refine eu_puti 86 (n := 90) rfl (by decide) rfl rfl ?_
        show Ev (am_kz N X) ((d + 1), 8, 195, [some (.inr (.inr 86)), some (.inl x1)], [], (am_sh, am_mm (am_upd (am_upd (am_upd U 86 10 (U 86 8)) 86 11 (U 86 9)) 86 13 (U 86 40)))) R
        refine ev_seg (σ1 := ((d + 1), 8, 196, [some (.inr (.inr 86)), some (.inl x1)], [.inr (.inr 86)], (am_sh, am_mm (am_upd (am_upd (am_upd U 86 10 (U 86 8)) 86 11 (U 86 9)) 86 13 (U 86 40))))) 1 (fun _ => rfl) ?_
        obtain ⟨U3, h211c, h211a⟩ := h211
        refine ev_cal (σc := (M_begin_s0 d (am_upd (am_upd (am_upd U 86 10 (U 86 8)) 86 11 (U 86 9)) 86 13 (U 86 40)))) (fun _ => rfl) h211c ?_
        show Ev (am_kz N X) ((d + 1), 8, 199, [some (.inr (.inr 86)), some (.inl x1)], [], (am_sh, am_mm U3)) R
        subst h211a
        exact ev_end 2 (fun _ => rfl)
      · have h212 := h21.2 (Int.not_le.mp hc)
        refine ev_seg (σ1 := ((d + 1), 8, 183, [some (.inr (.inr 86)), some (.inl x1)], [.inl 1, .inr (.inr 86)], (am_sh, am_mm (am_upd (am_upd U 86 10 (U 86 8)) 86 11 (U 86 9))))) 2 (fun _ => rfl) ?_
        obtain ⟨r4, U4, h212c, h212a⟩ := h212
        refine ev_cal (σc := (M_refuses_s0 d 1 (am_upd (am_upd U 86 10 (U 86 8)) 86 11 (U 86 9)))) (fun _ => rfl) h212c ?_
        show Ev (am_kz N X) ((d + 1), 8, 186, [some (.inr (.inr 86)), some (.inl x1)], [.inl r4], (am_sh, am_mm U4)) R
        subst h212a
        exact ev_end 1 (fun _ => rfl)
    · have h22 := h2.2 hc
      refine ev_seg (σ1 := ((d + 1), 8, 144, [some (.inr (.inr 86)), some (.inl x1)], [.inr (.inr 86)], (am_sh, am_mm U))) 1 (fun _ => rfl) ?_
      obtain ⟨U5, h22c, h22a⟩ := h22
      refine ev_cal (σc := (M_statement_s0 d U)) (fun _ => rfl) h22c ?_
      show Ev (am_kz N X) ((d + 1), 8, 147, [some (.inr (.inr 86)), some (.inl x1)], [], (am_sh, am_mm U5)) R
      refine ev_seg (σ1 := ((d + 1), 8, 152, [some (.inr (.inr 86)), some (.inl (w32 (x1 + 1)))], [.inl (w32 (x1 + 1)), .inr (.inr 86)], (am_sh, am_mm U5))) 3 (fun _ => rfl) ?_
      obtain ⟨U6, h22ac, h22aa⟩ := h22a
      refine ev_cal (σc := (M_finishes_s0 d (w32 (x1 + 1)) U5)) (fun _ => rfl) h22ac ?_
      show Ev (am_kz N X) ((d + 1), 8, 155, [some (.inr (.inr 86)), some (.inl (w32 (x1 + 1)))], [], (am_sh, am_mm U6)) R
      refine ev_seg (σ1 := ((d + 1), 8, 129, [some (.inr (.inr 86)), some (.inl (w32 (x1 + 1)))], [], (am_sh, am_mm U6))) 1 (fun _ => rfl) ?_
      exact h22aa
set_option maxRecDepth 8000 in
theorem D_fault_r0 {N : Nat} {X : Nat → Int} {d : Nat} {x1 : Int} {U : am_U} {R : Option am_V × am_M} (h : ((x1 ≠ 0) → ((x1 ≠ 1) → R = rI (-1) U) ∧ ((x1 = 1) → R = rI (U 1 4) U)) ∧ ((x1 = 0) → R = rI (U 1 3) U)) : EvK N X (D_fault_s0 d x1 U) R := by
  show Ev (am_kz N X) (d, 9, 0, [some (.inr (.inr 1)), some (.inl x1)], [], (am_sh, am_mm U)) R
  refine ev_br (P := ¬ x1 = 0) (σ1 := (d, 9, 9, [some (.inr (.inr 1)), some (.inl x1)], [], (am_sh, am_mm U))) (σ2 := (d, 9, 4, [some (.inr (.inr 1)), some (.inl x1)], [], (am_sh, am_mm U))) 2 (fun _ => rfl) (fun hc => ?_) (fun hc => ?_)
  · have h1 := h.1 hc
    refine ev_br (P := ¬ x1 = 1) (σ1 := (d, 9, 21, [some (.inr (.inr 1)), some (.inl x1)], [], (am_sh, am_mm U))) (σ2 := (d, 9, 14, [some (.inr (.inr 1)), some (.inl x1)], [], (am_sh, am_mm U))) 3 (fun _ => rfl) (fun hc => ?_) (fun hc => ?_)
    · have h11 := h1.1 hc
      subst h11
      exact ev_end 2 (fun _ => rfl)
    · have h12 := h1.2 (Decidable.not_not.mp hc)
      subst h12
      exact ev_end 4 (fun _ => rfl)
  · have h2 := h.2 (Decidable.not_not.mp hc)
    subst h2
    exact ev_end 3 (fun _ => rfl)
set_option maxRecDepth 8000 in
theorem M_fault_r0 {N : Nat} {X : Nat → Int} {d : Nat} {x1 : Int} {U : am_U} {R : Option am_V × am_M} (h : ((x1 ≠ 0) → ((x1 ≠ 1) → R = rI (-1) U) ∧ ((x1 = 1) → R = rI (U 86 11) U)) ∧ ((x1 = 0) → R = rI (U 86 10) U)) : EvK N X (M_fault_s0 d x1 U) R := by
  show Ev (am_kz N X) (d, 10, 0, [some (.inr (.inr 86)), some (.inl x1)], [], (am_sh, am_mm U)) R
  refine ev_br (P := ¬ x1 = 0) (σ1 := (d, 10, 11, [some (.inr (.inr 86)), some (.inl x1)], [], (am_sh, am_mm U))) (σ2 := (d, 10, 4, [some (.inr (.inr 86)), some (.inl x1)], [], (am_sh, am_mm U))) 2 (fun _ => rfl) (fun hc => ?_) (fun hc => ?_)
  · have h1 := h.1 hc
    refine ev_br (P := ¬ x1 = 1) (σ1 := (d, 10, 23, [some (.inr (.inr 86)), some (.inl x1)], [], (am_sh, am_mm U))) (σ2 := (d, 10, 16, [some (.inr (.inr 86)), some (.inl x1)], [], (am_sh, am_mm U))) 3 (fun _ => rfl) (fun hc => ?_) (fun hc => ?_)
    · have h11 := h1.1 hc
      subst h11
      exact ev_end 2 (fun _ => rfl)
    · have h12 := h1.2 (Decidable.not_not.mp hc)
      subst h12
      exact ev_end 4 (fun _ => rfl)
  · have h2 := h.2 (Decidable.not_not.mp hc)
    subst h2
    exact ev_end 4 (fun _ => rfl)
set_option maxRecDepth 8000 in
theorem D_has_r0 {N : Nat} {X : Nat → Int} {d : Nat} {x1 : Int} {U : am_U} {R : Option am_V × am_M} (h : (x1 = 0 → R = rI (U 3 0) U) ∧ (x1 = 1 → R = rI (U 3 1) U) ∧ (x1 = 2 → R = rI (U 3 2) U) ∧ (x1 = 3 → R = rI (U 16 0) U) ∧ (x1 = 4 → ∃ (r1 : Int) (U1 : am_U), EvK N X (Fk_waiting_s0 d U) (rI r1 U1) ∧ ∃ (r2 : Int) (U2 : am_U), EvK N X (In_bitCount_s0 d r1 U1) (rI r2 U2) ∧ R = rI r2 U2) ∧ (x1 = 5 → R = rI (U 3 4) U) ∧ (x1 = 6 → R = rI (U 3 3) U) ∧ (x1 = 7 → ∃ (r3 : Int) (U3 : am_U), EvK N X (Jg_countBreaches_s0 d U) (rI r3 U3) ∧ R = rI r3 U3) ∧ (x1 = 8 → R = rI (U 16 1) U) ∧ (x1 = 9 → (((U 16 2) = 0) → R = rI 0 U) ∧ (((U 16 2) ≠ 0) → R = rI 1 U)) ∧ (x1 = 10 → R = rI (U 56 2) U) ∧ (x1 = 11 → R = rI (U 1 18) U) ∧ (¬ x1 = 0 ∧ ¬ x1 = 1 ∧ ¬ x1 = 2 ∧ ¬ x1 = 3 ∧ ¬ x1 = 4 ∧ ¬ x1 = 5 ∧ ¬ x1 = 6 ∧ ¬ x1 = 7 ∧ ¬ x1 = 8 ∧ ¬ x1 = 9 ∧ ¬ x1 = 10 ∧ ¬ x1 = 11 → R = rI (-1) U)) : EvK N X (D_has_s0 (d + 1) x1 U) R := by
  show Ev (am_kz N X) ((d + 1), 11, 0, [some (.inr (.inr 1)), some (.inl x1)], [], (am_sh, am_mm U)) R
  refine ev_seg (σ1 := ((d + 1), 11, 1, [some (.inr (.inr 1)), some (.inl x1)], [.inl x1], (am_sh, am_mm U))) 1 (fun _ => rfl) ?_
  by_cases hc : x1 = 0
  · have hk0 := h.1 hc
    refine ev_sw (off := 63) rfl (by rw [hc]; rfl) (pt := 64) rfl ?_
    subst hk0
    exact ev_end 4 (fun _ => rfl)
  have nh0 := hc
  clear hc
  by_cases hc : x1 = 1
  · have hk1 := h.2.1 hc
    refine ev_sw (off := 71) rfl (by rw [hc]; rfl) (pt := 72) rfl ?_
    subst hk1
    exact ev_end 4 (fun _ => rfl)
  have nh1 := hc
  clear hc
  by_cases hc : x1 = 2
  · have hk2 := h.2.2.1 hc
    refine ev_sw (off := 79) rfl (by rw [hc]; rfl) (pt := 80) rfl ?_
    subst hk2
    exact ev_end 4 (fun _ => rfl)
  have nh2 := hc
  clear hc
  by_cases hc : x1 = 3
  · have hk3 := h.2.2.2.1 hc
    refine ev_sw (off := 87) rfl (by rw [hc]; rfl) (pt := 88) rfl ?_
    subst hk3
    exact ev_end 4 (fun _ => rfl)
  have nh3 := hc
  clear hc
  by_cases hc : x1 = 4
  · have hk4 := h.2.2.2.2.1 hc
    refine ev_sw (off := 95) rfl (by rw [hc]; rfl) (pt := 96) rfl ?_
    refine ev_seg (σ1 := ((d + 1), 11, 100, [some (.inr (.inr 1)), some (.inl x1)], [.inr (.inr 16)], (am_sh, am_mm U))) 2 (fun _ => rfl) ?_
    obtain ⟨r1, U1, hk4c, hk4a⟩ := hk4
    refine ev_cal (σc := (Fk_waiting_s0 d U)) (fun _ => rfl) hk4c ?_
    show Ev (am_kz N X) ((d + 1), 11, 103, [some (.inr (.inr 1)), some (.inl x1)], [.inl r1], (am_sh, am_mm U1)) R
    obtain ⟨r2, U2, hk4ac, hk4aa⟩ := hk4a
    refine ev_cal (σc := (In_bitCount_s0 d r1 U1)) (fun _ => rfl) hk4ac ?_
    show Ev (am_kz N X) ((d + 1), 11, 106, [some (.inr (.inr 1)), some (.inl x1)], [.inl r2], (am_sh, am_mm U2)) R
    subst hk4aa
    exact ev_end 1 (fun _ => rfl)
  have nh4 := hc
  clear hc
  by_cases hc : x1 = 5
  · have hk5 := h.2.2.2.2.2.1 hc
    refine ev_sw (off := 106) rfl (by rw [hc]; rfl) (pt := 107) rfl ?_
    subst hk5
    exact ev_end 4 (fun _ => rfl)
  have nh5 := hc
  clear hc
  by_cases hc : x1 = 6
  · have hk6 := h.2.2.2.2.2.2.1 hc
    refine ev_sw (off := 114) rfl (by rw [hc]; rfl) (pt := 115) rfl ?_
    subst hk6
    exact ev_end 4 (fun _ => rfl)
  have nh6 := hc
  clear hc
  by_cases hc : x1 = 7
  · have hk7 := h.2.2.2.2.2.2.2.1 hc
    refine ev_sw (off := 122) rfl (by rw [hc]; rfl) (pt := 123) rfl ?_
    refine ev_seg (σ1 := ((d + 1), 11, 127, [some (.inr (.inr 1)), some (.inl x1)], [.inr (.inr 45)], (am_sh, am_mm U))) 2 (fun _ => rfl) ?_
    obtain ⟨r3, U3, hk7c, hk7a⟩ := hk7
    refine ev_cal (σc := (Jg_countBreaches_s0 d U)) (fun _ => rfl) hk7c ?_
    show Ev (am_kz N X) ((d + 1), 11, 130, [some (.inr (.inr 1)), some (.inl x1)], [.inl r3], (am_sh, am_mm U3)) R
    subst hk7a
    exact ev_end 1 (fun _ => rfl)
  have nh7 := hc
  clear hc
  by_cases hc : x1 = 8
  · have hk8 := h.2.2.2.2.2.2.2.2.1 hc
    refine ev_sw (off := 130) rfl (by rw [hc]; rfl) (pt := 131) rfl ?_
    subst hk8
    exact ev_end 4 (fun _ => rfl)
  have nh8 := hc
  clear hc
  by_cases hc : x1 = 9
  · have hk9 := h.2.2.2.2.2.2.2.2.2.1 hc
    refine ev_sw (off := 138) rfl (by rw [hc]; rfl) (pt := 139) rfl ?_
    refine ev_br (P := (U 16 2) = 0) (σ1 := ((d + 1), 11, 153, [some (.inr (.inr 1)), some (.inl x1)], [], (am_sh, am_mm U))) (σ2 := ((d + 1), 11, 149, [some (.inr (.inr 1)), some (.inl x1)], [], (am_sh, am_mm U))) 4 (fun _ => rfl) (fun hc => ?_) (fun hc => ?_)
    · have hk91 := hk9.1 hc
      subst hk91
      exact ev_end 2 (fun _ => rfl)
    · have hk92 := hk9.2 hc
      subst hk92
      exact ev_end 3 (fun _ => rfl)
  have nh9 := hc
  clear hc
  by_cases hc : x1 = 10
  · have hk10 := h.2.2.2.2.2.2.2.2.2.2.1 hc
    refine ev_sw (off := 154) rfl (by rw [hc]; rfl) (pt := 155) rfl ?_
    subst hk10
    exact ev_end 4 (fun _ => rfl)
  have nh10 := hc
  clear hc
  by_cases hc : x1 = 11
  · have hk11 := h.2.2.2.2.2.2.2.2.2.2.2.1 hc
    refine ev_sw (off := 162) rfl (by rw [hc]; rfl) (pt := 163) rfl ?_
    subst hk11
    exact ev_end 3 (fun _ => rfl)
  have nh11 := hc
  clear hc
  have hkd := h.2.2.2.2.2.2.2.2.2.2.2.2 ⟨nh0, nh1, nh2, nh3, nh4, nh5, nh6, nh7, nh8, nh9, nh10, nh11⟩
  refine ev_sw (off := 167) rfl (if_pos (by omega)) (pt := 168) rfl ?_
  subst hkd
  exact ev_end 2 (fun _ => rfl)
set_option maxRecDepth 8000 in
theorem M_has_r0 {N : Nat} {X : Nat → Int} {d : Nat} {x1 : Int} {U : am_U} {R : Option am_V × am_M} (h : (x1 = 0 → (0 ≤ (U 86 13) ∧ (U 86 13) < 2) ∧ R = rI (U 88 ((U 86 13).toNat)) U) ∧ (x1 = 1 → (0 ≤ (U 86 13) ∧ (U 86 13) < 2) ∧ R = rI (U 90 ((U 86 13).toNat)) U) ∧ (x1 = 2 → (0 ≤ (U 86 13) ∧ (U 86 13) < 2) ∧ R = rI (U 94 ((U 86 13).toNat)) U) ∧ (x1 = 3 → R = rI (U 122 0) U) ∧ (x1 = 4 → EvK N X (M_has_s103 (d + 1) x1 0 0 U) R) ∧ (x1 = 5 → (0 ≤ (U 86 13) ∧ (U 86 13) < 2) ∧ R = rI (U 100 ((U 86 13).toNat)) U) ∧ (x1 = 6 → (0 ≤ (U 86 13) ∧ (U 86 13) < 2) ∧ R = rI (U 106 ((U 86 13).toNat)) U) ∧ (x1 = 7 → ∃ (r1 : Int) (U1 : am_U), EvK N X (M_scans_s0 d 0 (-1) (-1) U) (rI r1 U1) ∧ R = rI r1 U1) ∧ (x1 = 8 → R = rI (U 120 0) U) ∧ (x1 = 9 → R = rI (U 121 0) U) ∧ (x1 = 10 → R = rI (U 86 58) U) ∧ (x1 = 11 → R = rI (w32 (U 86 59)) U) ∧ (¬ x1 = 0 ∧ ¬ x1 = 1 ∧ ¬ x1 = 2 ∧ ¬ x1 = 3 ∧ ¬ x1 = 4 ∧ ¬ x1 = 5 ∧ ¬ x1 = 6 ∧ ¬ x1 = 7 ∧ ¬ x1 = 8 ∧ ¬ x1 = 9 ∧ ¬ x1 = 10 ∧ ¬ x1 = 11 → R = rI (-1) U)) : EvK N X (M_has_s0 (d + 1) x1 U) R := by
  show Ev (am_kz N X) ((d + 1), 12, 0, [some (.inr (.inr 86)), some (.inl x1), none, none], [], (am_sh, am_mm U)) R
  refine ev_seg (σ1 := ((d + 1), 12, 3, [some (.inr (.inr 86)), some (.inl x1), some (.inl 0), none], [.inl x1], (am_sh, am_mm U))) 3 (fun _ => rfl) ?_
  by_cases hc : x1 = 0
  · have hk0 := h.1 hc
    refine ev_sw (off := 61) rfl (by rw [hc]; rfl) (pt := 64) rfl ?_
    refine ev_seg (σ1 := ((d + 1), 12, 72, [some (.inr (.inr 86)), some (.inl x1), some (.inl 0), none], [.inl (U 86 13), .inr (.inr 88)], (am_sh, am_mm U))) 4 (fun _ => rfl) ?_
    refine eu_iald 88 (n := 2) rfl (by decide) rfl (fun _ => rfl) hk0.1 ?_
    show Ev (am_kz N X) ((d + 1), 12, 73, [some (.inr (.inr 86)), some (.inl x1), some (.inl 0), none], [.inl (U 88 ((U 86 13).toNat))], (am_sh, am_mm U)) R
    have hk0a := hk0.2
    subst hk0a
    exact ev_end 1 (fun _ => rfl)
  have nh0 := hc
  clear hc
  by_cases hc : x1 = 1
  · have hk1 := h.2.1 hc
    refine ev_sw (off := 71) rfl (by rw [hc]; rfl) (pt := 74) rfl ?_
    refine ev_seg (σ1 := ((d + 1), 12, 82, [some (.inr (.inr 86)), some (.inl x1), some (.inl 0), none], [.inl (U 86 13), .inr (.inr 90)], (am_sh, am_mm U))) 4 (fun _ => rfl) ?_
    refine eu_iald 90 (n := 2) rfl (by decide) rfl (fun _ => rfl) hk1.1 ?_
    show Ev (am_kz N X) ((d + 1), 12, 83, [some (.inr (.inr 86)), some (.inl x1), some (.inl 0), none], [.inl (U 90 ((U 86 13).toNat))], (am_sh, am_mm U)) R
    have hk1a := hk1.2
    subst hk1a
    exact ev_end 1 (fun _ => rfl)
  have nh1 := hc
  clear hc
  by_cases hc : x1 = 2
  · have hk2 := h.2.2.1 hc
    refine ev_sw (off := 81) rfl (by rw [hc]; rfl) (pt := 84) rfl ?_
    refine ev_seg (σ1 := ((d + 1), 12, 92, [some (.inr (.inr 86)), some (.inl x1), some (.inl 0), none], [.inl (U 86 13), .inr (.inr 94)], (am_sh, am_mm U))) 4 (fun _ => rfl) ?_
    refine eu_iald 94 (n := 2) rfl (by decide) rfl (fun _ => rfl) hk2.1 ?_
    show Ev (am_kz N X) ((d + 1), 12, 93, [some (.inr (.inr 86)), some (.inl x1), some (.inl 0), none], [.inl (U 94 ((U 86 13).toNat))], (am_sh, am_mm U)) R
    have hk2a := hk2.2
    subst hk2a
    exact ev_end 1 (fun _ => rfl)
  have nh2 := hc
  clear hc
  by_cases hc : x1 = 3
  · have hk3 := h.2.2.2.1 hc
    refine ev_sw (off := 91) rfl (by rw [hc]; rfl) (pt := 94) rfl ?_
    refine ev_seg (σ1 := ((d + 1), 12, 99, [some (.inr (.inr 86)), some (.inl x1), some (.inl 0), none], [.inl 0, .inr (.inr 122)], (am_sh, am_mm U))) 3 (fun _ => rfl) ?_
    refine eu_iald 122 (n := 22) rfl (by decide) rfl (fun _ => rfl) (by decide) ?_
    show Ev (am_kz N X) ((d + 1), 12, 100, [some (.inr (.inr 86)), some (.inl x1), some (.inl 0), none], [.inl (U 122 0)], (am_sh, am_mm U)) R
    subst hk3
    exact ev_end 1 (fun _ => rfl)
  have nh3 := hc
  clear hc
  by_cases hc : x1 = 4
  · have hk4 := h.2.2.2.2.1 hc
    refine ev_sw (off := 98) rfl (by rw [hc]; rfl) (pt := 101) rfl ?_
    refine ev_seg (σ1 := ((d + 1), 12, 103, [some (.inr (.inr 86)), some (.inl x1), some (.inl 0), some (.inl 0)], [], (am_sh, am_mm U))) 2 (fun _ => rfl) ?_
    exact hk4
  have nh4 := hc
  clear hc
  by_cases hc : x1 = 5
  · have hk5 := h.2.2.2.2.2.1 hc
    refine ev_sw (off := 136) rfl (by rw [hc]; rfl) (pt := 139) rfl ?_
    refine ev_seg (σ1 := ((d + 1), 12, 147, [some (.inr (.inr 86)), some (.inl x1), some (.inl 0), none], [.inl (U 86 13), .inr (.inr 100)], (am_sh, am_mm U))) 4 (fun _ => rfl) ?_
    refine eu_iald 100 (n := 2) rfl (by decide) rfl (fun _ => rfl) hk5.1 ?_
    show Ev (am_kz N X) ((d + 1), 12, 148, [some (.inr (.inr 86)), some (.inl x1), some (.inl 0), none], [.inl (U 100 ((U 86 13).toNat))], (am_sh, am_mm U)) R
    have hk5a := hk5.2
    subst hk5a
    exact ev_end 1 (fun _ => rfl)
  have nh5 := hc
  clear hc
  by_cases hc : x1 = 6
  · have hk6 := h.2.2.2.2.2.2.1 hc
    refine ev_sw (off := 146) rfl (by rw [hc]; rfl) (pt := 149) rfl ?_
    refine ev_seg (σ1 := ((d + 1), 12, 157, [some (.inr (.inr 86)), some (.inl x1), some (.inl 0), none], [.inl (U 86 13), .inr (.inr 106)], (am_sh, am_mm U))) 4 (fun _ => rfl) ?_
    refine eu_iald 106 (n := 2) rfl (by decide) rfl (fun _ => rfl) hk6.1 ?_
    show Ev (am_kz N X) ((d + 1), 12, 158, [some (.inr (.inr 86)), some (.inl x1), some (.inl 0), none], [.inl (U 106 ((U 86 13).toNat))], (am_sh, am_mm U)) R
    have hk6a := hk6.2
    subst hk6a
    exact ev_end 1 (fun _ => rfl)
  have nh6 := hc
  clear hc
  by_cases hc : x1 = 7
  · have hk7 := h.2.2.2.2.2.2.2.1 hc
    refine ev_sw (off := 156) rfl (by rw [hc]; rfl) (pt := 159) rfl ?_
    refine ev_seg (σ1 := ((d + 1), 12, 163, [some (.inr (.inr 86)), some (.inl x1), some (.inl 0), none], [.inl (-1), .inl (-1), .inl 0, .inr (.inr 86)], (am_sh, am_mm U))) 4 (fun _ => rfl) ?_
    obtain ⟨r1, U1, hk7c, hk7a⟩ := hk7
    refine ev_cal (σc := (M_scans_s0 d 0 (-1) (-1) U)) (fun _ => rfl) hk7c ?_
    show Ev (am_kz N X) ((d + 1), 12, 166, [some (.inr (.inr 86)), some (.inl x1), some (.inl 0), none], [.inl r1], (am_sh, am_mm U1)) R
    subst hk7a
    exact ev_end 1 (fun _ => rfl)
  have nh7 := hc
  clear hc
  by_cases hc : x1 = 8
  · have hk8 := h.2.2.2.2.2.2.2.2.1 hc
    refine ev_sw (off := 164) rfl (by rw [hc]; rfl) (pt := 167) rfl ?_
    refine ev_seg (σ1 := ((d + 1), 12, 172, [some (.inr (.inr 86)), some (.inl x1), some (.inl 0), none], [.inl 0, .inr (.inr 120)], (am_sh, am_mm U))) 3 (fun _ => rfl) ?_
    refine eu_iald 120 (n := 22) rfl (by decide) rfl (fun _ => rfl) (by decide) ?_
    show Ev (am_kz N X) ((d + 1), 12, 173, [some (.inr (.inr 86)), some (.inl x1), some (.inl 0), none], [.inl (U 120 0)], (am_sh, am_mm U)) R
    subst hk8
    exact ev_end 1 (fun _ => rfl)
  have nh8 := hc
  clear hc
  by_cases hc : x1 = 9
  · have hk9 := h.2.2.2.2.2.2.2.2.2.1 hc
    refine ev_sw (off := 171) rfl (by rw [hc]; rfl) (pt := 174) rfl ?_
    refine ev_seg (σ1 := ((d + 1), 12, 179, [some (.inr (.inr 86)), some (.inl x1), some (.inl 0), none], [.inl 0, .inr (.inr 121)], (am_sh, am_mm U))) 3 (fun _ => rfl) ?_
    refine eu_iald 121 (n := 22) rfl (by decide) rfl (fun _ => rfl) (by decide) ?_
    show Ev (am_kz N X) ((d + 1), 12, 180, [some (.inr (.inr 86)), some (.inl x1), some (.inl 0), none], [.inl (U 121 0)], (am_sh, am_mm U)) R
    subst hk9
    exact ev_end 1 (fun _ => rfl)
  have nh9 := hc
  clear hc
  by_cases hc : x1 = 10
  · have hk10 := h.2.2.2.2.2.2.2.2.2.2.1 hc
    refine ev_sw (off := 178) rfl (by rw [hc]; rfl) (pt := 181) rfl ?_
    subst hk10
    exact ev_end 3 (fun _ => rfl)
  have nh10 := hc
  clear hc
  by_cases hc : x1 = 11
  · have hk11 := h.2.2.2.2.2.2.2.2.2.2.2.1 hc
    refine ev_sw (off := 183) rfl (by rw [hc]; rfl) (pt := 186) rfl ?_
    subst hk11
    exact ev_end 4 (fun _ => rfl)
  have nh11 := hc
  clear hc
  have hkd := h.2.2.2.2.2.2.2.2.2.2.2.2 ⟨nh0, nh1, nh2, nh3, nh4, nh5, nh6, nh7, nh8, nh9, nh10, nh11⟩
  refine ev_sw (off := 189) rfl (if_pos (by omega)) (pt := 192) rfl ?_
  subst hkd
  exact ev_end 2 (fun _ => rfl)
set_option maxRecDepth 8000 in
theorem M_has_r103 {N : Nat} {X : Nat → Int} {d : Nat} {x1 x2 x3 : Int} {U : am_U} {R : Option am_V × am_M} (h : (((U 122 0) ≤ x3) → R = rI x2 U) ∧ ((x3 < (U 122 0)) → (0 ≤ x3 ∧ x3 < 352) ∧ (((U 124 x3.toNat) ≠ (-1)) → EvK N X (M_has_s103 (d + 1) x1 (w32 (x2 + 0)) (w32 (x3 + 1)) U) R) ∧ (((U 124 x3.toNat) = (-1)) → EvK N X (M_has_s103 (d + 1) x1 (w32 (x2 + 1)) (w32 (x3 + 1)) U) R))) : EvK N X (M_has_s103 (d + 1) x1 x2 x3 U) R := by
  show Ev (am_kz N X) ((d + 1), 12, 103, [some (.inr (.inr 86)), some (.inl x1), some (.inl x2), some (.inl x3)], [], (am_sh, am_mm U)) R
  refine ev_seg (σ1 := ((d + 1), 12, 109, [some (.inr (.inr 86)), some (.inl x1), some (.inl x2), some (.inl x3)], [.inl 0, .inr (.inr 122), .inl x3], (am_sh, am_mm U))) 4 (fun _ => rfl) ?_
  refine eu_iald 122 (n := 22) rfl (by decide) rfl (fun _ => rfl) (by decide) ?_
  show Ev (am_kz N X) ((d + 1), 12, 110, [some (.inr (.inr 86)), some (.inl x1), some (.inl x2), some (.inl x3)], [.inl (U 122 0), .inl x3], (am_sh, am_mm U)) R
  refine ev_br (P := (U 122 0) ≤ x3) (σ1 := ((d + 1), 12, 137, [some (.inr (.inr 86)), some (.inl x1), some (.inl x2), some (.inl x3)], [], (am_sh, am_mm U))) (σ2 := ((d + 1), 12, 113, [some (.inr (.inr 86)), some (.inl x1), some (.inl x2), some (.inl x3)], [], (am_sh, am_mm U))) 1 (fun _ => rfl) (fun hc => ?_) (fun hc => ?_)
  · have h1 := h.1 hc
    subst h1
    exact ev_end 2 (fun _ => rfl)
  · have h2 := h.2 (Int.not_le.mp hc)
    refine ev_seg (σ1 := ((d + 1), 12, 119, [some (.inr (.inr 86)), some (.inl x1), some (.inl x2), some (.inl x3)], [.inl x3, .inr (.inr 124), .inl x2], (am_sh, am_mm U))) 4 (fun _ => rfl) ?_
    refine eu_iald 124 (n := 352) rfl (by decide) rfl (fun _ => rfl) h2.1 ?_
    show Ev (am_kz N X) ((d + 1), 12, 120, [some (.inr (.inr 86)), some (.inl x1), some (.inl x2), some (.inl x3)], [.inl (U 124 x3.toNat), .inl x2], (am_sh, am_mm U)) R
    have h2a := h2.2
    refine ev_br (P := ¬ (U 124 x3.toNat) = (-1)) (σ1 := ((d + 1), 12, 128, [some (.inr (.inr 86)), some (.inl x1), some (.inl x2), some (.inl x3)], [.inl x2], (am_sh, am_mm U))) (σ2 := ((d + 1), 12, 124, [some (.inr (.inr 86)), some (.inl x1), some (.inl x2), some (.inl x3)], [.inl x2], (am_sh, am_mm U))) 2 (fun _ => rfl) (fun hc => ?_) (fun hc => ?_)
    · have h2a1 := h2a.1 hc
      refine ev_seg (σ1 := ((d + 1), 12, 103, [some (.inr (.inr 86)), some (.inl x1), some (.inl (w32 (x2 + 0))), some (.inl (w32 (x3 + 1)))], [], (am_sh, am_mm U))) 5 (fun _ => rfl) ?_
      exact h2a1
    · have h2a2 := h2a.2 (Decidable.not_not.mp hc)
      refine ev_seg (σ1 := ((d + 1), 12, 103, [some (.inr (.inr 86)), some (.inl x1), some (.inl (w32 (x2 + 1))), some (.inl (w32 (x3 + 1)))], [], (am_sh, am_mm U))) 6 (fun _ => rfl) ?_
      exact h2a2
set_option maxRecDepth 8000 in
theorem D_letter_r0 {N : Nat} {X : Nat → Int} {d : Nat} {x1 x2 x3 : Int} {U : am_U} {R : Option am_V × am_M} (h : ((x3 < 0) → R = rI (-1) U) ∧ ((0 ≤ x3) → ((x3 ≤ 5) → ((x1 ≠ 0) → ((x1 ≠ 1) → R = rI (-1) U) ∧ ((x1 = 1) → ∃ (r1 : Int) (U1 : am_U), EvK N X (D_isHouse_s0 d x2 U) (rI r1 U1) ∧ ((r1 = 0) → R = rI (-1) U1) ∧ ((r1 ≠ 0) → (0 ≤ x2 ∧ x2 < 12) ∧ ∃ (r2 : Int) (U2 : am_U), EvK N X (Tk_letterOf_s0 d (U1 5 x2.toNat) x3 U1) (rI r2 U2) ∧ R = rI r2 U2))) ∧ ((x1 = 0) → ((x2 < 0) → ((x1 ≠ 1) → R = rI (-1) U) ∧ ((x1 = 1) → ∃ (r3 : Int) (U3 : am_U), EvK N X (D_isHouse_s0 d x2 U) (rI r3 U3) ∧ ((r3 = 0) → R = rI (-1) U3) ∧ ((r3 ≠ 0) → (0 ≤ x2 ∧ x2 < 12) ∧ ∃ (r4 : Int) (U4 : am_U), EvK N X (Tk_letterOf_s0 d (U3 5 x2.toNat) x3 U3) (rI r4 U4) ∧ R = rI r4 U4))) ∧ ((0 ≤ x2) → (((U 3 0) ≤ x2) → ((x1 ≠ 1) → R = rI (-1) U) ∧ ((x1 = 1) → ∃ (r5 : Int) (U5 : am_U), EvK N X (D_isHouse_s0 d x2 U) (rI r5 U5) ∧ ((r5 = 0) → R = rI (-1) U5) ∧ ((r5 ≠ 0) → (0 ≤ x2 ∧ x2 < 12) ∧ ∃ (r6 : Int) (U6 : am_U), EvK N X (Tk_letterOf_s0 d (U5 5 x2.toNat) x3 U5) (rI r6 U6) ∧ R = rI r6 U6))) ∧ ((x2 < (U 3 0)) → (0 ≤ x2 ∧ x2 < 4) ∧ ∃ (r7 : Int) (U7 : am_U), EvK N X (Tk_letterOf_s0 d (U 4 x2.toNat) x3 U) (rI r7 U7) ∧ R = rI r7 U7)))) ∧ ((5 < x3) → R = rI (-1) U))) : EvK N X (D_letter_s0 (d + 1) x1 x2 x3 U) R := by
  show Ev (am_kz N X) ((d + 1), 13, 0, [some (.inr (.inr 1)), some (.inl x1), some (.inl x2), some (.inl x3)], [], (am_sh, am_mm U)) R
  refine ev_br (P := x3 < 0) (σ1 := ((d + 1), 13, 9, [some (.inr (.inr 1)), some (.inl x1), some (.inl x2), some (.inl x3)], [], (am_sh, am_mm U))) (σ2 := ((d + 1), 13, 4, [some (.inr (.inr 1)), some (.inl x1), some (.inl x2), some (.inl x3)], [], (am_sh, am_mm U))) 2 (fun _ => rfl) (fun hc => ?_) (fun hc => ?_)
  · have h1 := h.1 hc
    subst h1
    exact ev_end 2 (fun _ => rfl)
  · have h2 := h.2 (Int.not_lt.mp hc)
    refine ev_br (P := x3 ≤ 5) (σ1 := ((d + 1), 13, 11, [some (.inr (.inr 1)), some (.inl x1), some (.inl x2), some (.inl x3)], [], (am_sh, am_mm U))) (σ2 := ((d + 1), 13, 9, [some (.inr (.inr 1)), some (.inl x1), some (.inl x2), some (.inl x3)], [], (am_sh, am_mm U))) 3 (fun _ => rfl) (fun hc => ?_) (fun hc => ?_)
    · have h21 := h2.1 hc
      refine ev_br (P := ¬ x1 = 0) (σ1 := ((d + 1), 13, 44, [some (.inr (.inr 1)), some (.inl x1), some (.inl x2), some (.inl x3)], [], (am_sh, am_mm U))) (σ2 := ((d + 1), 13, 15, [some (.inr (.inr 1)), some (.inl x1), some (.inl x2), some (.inl x3)], [], (am_sh, am_mm U))) 2 (fun _ => rfl) (fun hc => ?_) (fun hc => ?_)
      · have h211 := h21.1 hc
        refine ev_br (P := ¬ x1 = 1) (σ1 := ((d + 1), 13, 71, [some (.inr (.inr 1)), some (.inl x1), some (.inl x2), some (.inl x3)], [], (am_sh, am_mm U))) (σ2 := ((d + 1), 13, 49, [some (.inr (.inr 1)), some (.inl x1), some (.inl x2), some (.inl x3)], [], (am_sh, am_mm U))) 3 (fun _ => rfl) (fun hc => ?_) (fun hc => ?_)
        · have h2111 := h211.1 hc
          subst h2111
          exact ev_end 2 (fun _ => rfl)
        · have h2112 := h211.2 (Decidable.not_not.mp hc)
          refine ev_seg (σ1 := ((d + 1), 13, 51, [some (.inr (.inr 1)), some (.inl x1), some (.inl x2), some (.inl x3)], [.inl x2, .inr (.inr 1)], (am_sh, am_mm U))) 2 (fun _ => rfl) ?_
          obtain ⟨r1, U1, h2112c, h2112a⟩ := h2112
          refine ev_cal (σc := (D_isHouse_s0 d x2 U)) (fun _ => rfl) h2112c ?_
          show Ev (am_kz N X) ((d + 1), 13, 54, [some (.inr (.inr 1)), some (.inl x1), some (.inl x2), some (.inl x3)], [.inl r1], (am_sh, am_mm U1)) R
          refine ev_br (P := r1 = 0) (σ1 := ((d + 1), 13, 71, [some (.inr (.inr 1)), some (.inl x1), some (.inl x2), some (.inl x3)], [], (am_sh, am_mm U1))) (σ2 := ((d + 1), 13, 57, [some (.inr (.inr 1)), some (.inl x1), some (.inl x2), some (.inl x3)], [], (am_sh, am_mm U1))) 1 (fun _ => rfl) (fun hc => ?_) (fun hc => ?_)
          · have h2112a1 := h2112a.1 hc
            subst h2112a1
            exact ev_end 2 (fun _ => rfl)
          · have h2112a2 := h2112a.2 hc
            refine ev_seg (σ1 := ((d + 1), 13, 65, [some (.inr (.inr 1)), some (.inl x1), some (.inl x2), some (.inl x3)], [.inl x2, .inr (.inr 5)], (am_sh, am_mm U1))) 4 (fun _ => rfl) ?_
            refine eu_iald 5 (n := 12) rfl (by decide) rfl (fun _ => rfl) h2112a2.1 ?_
            show Ev (am_kz N X) ((d + 1), 13, 66, [some (.inr (.inr 1)), some (.inl x1), some (.inl x2), some (.inl x3)], [.inl (U1 5 x2.toNat)], (am_sh, am_mm U1)) R
            have h2112a2a := h2112a2.2
            refine ev_seg (σ1 := ((d + 1), 13, 67, [some (.inr (.inr 1)), some (.inl x1), some (.inl x2), some (.inl x3)], [.inl x3, .inl (U1 5 x2.toNat)], (am_sh, am_mm U1))) 1 (fun _ => rfl) ?_
            obtain ⟨r2, U2, h2112a2ac, h2112a2aa⟩ := h2112a2a
            refine ev_cal (σc := (Tk_letterOf_s0 d (U1 5 x2.toNat) x3 U1)) (fun _ => rfl) h2112a2ac ?_
            show Ev (am_kz N X) ((d + 1), 13, 70, [some (.inr (.inr 1)), some (.inl x1), some (.inl x2), some (.inl x3)], [.inl r2], (am_sh, am_mm U2)) R
            subst h2112a2aa
            exact ev_end 1 (fun _ => rfl)
      · have h212 := h21.2 (Decidable.not_not.mp hc)
        refine ev_br (P := x2 < 0) (σ1 := ((d + 1), 13, 44, [some (.inr (.inr 1)), some (.inl x1), some (.inl x2), some (.inl x3)], [], (am_sh, am_mm U))) (σ2 := ((d + 1), 13, 19, [some (.inr (.inr 1)), some (.inl x1), some (.inl x2), some (.inl x3)], [], (am_sh, am_mm U))) 2 (fun _ => rfl) (fun hc => ?_) (fun hc => ?_)
        · have h2121 := h212.1 hc
          refine ev_br (P := ¬ x1 = 1) (σ1 := ((d + 1), 13, 71, [some (.inr (.inr 1)), some (.inl x1), some (.inl x2), some (.inl x3)], [], (am_sh, am_mm U))) (σ2 := ((d + 1), 13, 49, [some (.inr (.inr 1)), some (.inl x1), some (.inl x2), some (.inl x3)], [], (am_sh, am_mm U))) 3 (fun _ => rfl) (fun hc => ?_) (fun hc => ?_)
          · have h21211 := h2121.1 hc
            subst h21211
            exact ev_end 2 (fun _ => rfl)
          · have h21212 := h2121.2 (Decidable.not_not.mp hc)
            refine ev_seg (σ1 := ((d + 1), 13, 51, [some (.inr (.inr 1)), some (.inl x1), some (.inl x2), some (.inl x3)], [.inl x2, .inr (.inr 1)], (am_sh, am_mm U))) 2 (fun _ => rfl) ?_
            obtain ⟨r3, U3, h21212c, h21212a⟩ := h21212
            refine ev_cal (σc := (D_isHouse_s0 d x2 U)) (fun _ => rfl) h21212c ?_
            show Ev (am_kz N X) ((d + 1), 13, 54, [some (.inr (.inr 1)), some (.inl x1), some (.inl x2), some (.inl x3)], [.inl r3], (am_sh, am_mm U3)) R
            refine ev_br (P := r3 = 0) (σ1 := ((d + 1), 13, 71, [some (.inr (.inr 1)), some (.inl x1), some (.inl x2), some (.inl x3)], [], (am_sh, am_mm U3))) (σ2 := ((d + 1), 13, 57, [some (.inr (.inr 1)), some (.inl x1), some (.inl x2), some (.inl x3)], [], (am_sh, am_mm U3))) 1 (fun _ => rfl) (fun hc => ?_) (fun hc => ?_)
            · have h21212a1 := h21212a.1 hc
              subst h21212a1
              exact ev_end 2 (fun _ => rfl)
            · have h21212a2 := h21212a.2 hc
              refine ev_seg (σ1 := ((d + 1), 13, 65, [some (.inr (.inr 1)), some (.inl x1), some (.inl x2), some (.inl x3)], [.inl x2, .inr (.inr 5)], (am_sh, am_mm U3))) 4 (fun _ => rfl) ?_
              refine eu_iald 5 (n := 12) rfl (by decide) rfl (fun _ => rfl) h21212a2.1 ?_
              show Ev (am_kz N X) ((d + 1), 13, 66, [some (.inr (.inr 1)), some (.inl x1), some (.inl x2), some (.inl x3)], [.inl (U3 5 x2.toNat)], (am_sh, am_mm U3)) R
              have h21212a2a := h21212a2.2
              refine ev_seg (σ1 := ((d + 1), 13, 67, [some (.inr (.inr 1)), some (.inl x1), some (.inl x2), some (.inl x3)], [.inl x3, .inl (U3 5 x2.toNat)], (am_sh, am_mm U3))) 1 (fun _ => rfl) ?_
              obtain ⟨r4, U4, h21212a2ac, h21212a2aa⟩ := h21212a2a
              refine ev_cal (σc := (Tk_letterOf_s0 d (U3 5 x2.toNat) x3 U3)) (fun _ => rfl) h21212a2ac ?_
              show Ev (am_kz N X) ((d + 1), 13, 70, [some (.inr (.inr 1)), some (.inl x1), some (.inl x2), some (.inl x3)], [.inl r4], (am_sh, am_mm U4)) R
              subst h21212a2aa
              exact ev_end 1 (fun _ => rfl)
        · have h2122 := h212.2 (Int.not_lt.mp hc)
          refine ev_br (P := (U 3 0) ≤ x2) (σ1 := ((d + 1), 13, 44, [some (.inr (.inr 1)), some (.inl x1), some (.inl x2), some (.inl x3)], [], (am_sh, am_mm U))) (σ2 := ((d + 1), 13, 30, [some (.inr (.inr 1)), some (.inl x1), some (.inl x2), some (.inl x3)], [], (am_sh, am_mm U))) 5 (fun _ => rfl) (fun hc => ?_) (fun hc => ?_)
          · have h21221 := h2122.1 hc
            refine ev_br (P := ¬ x1 = 1) (σ1 := ((d + 1), 13, 71, [some (.inr (.inr 1)), some (.inl x1), some (.inl x2), some (.inl x3)], [], (am_sh, am_mm U))) (σ2 := ((d + 1), 13, 49, [some (.inr (.inr 1)), some (.inl x1), some (.inl x2), some (.inl x3)], [], (am_sh, am_mm U))) 3 (fun _ => rfl) (fun hc => ?_) (fun hc => ?_)
            · have h212211 := h21221.1 hc
              subst h212211
              exact ev_end 2 (fun _ => rfl)
            · have h212212 := h21221.2 (Decidable.not_not.mp hc)
              refine ev_seg (σ1 := ((d + 1), 13, 51, [some (.inr (.inr 1)), some (.inl x1), some (.inl x2), some (.inl x3)], [.inl x2, .inr (.inr 1)], (am_sh, am_mm U))) 2 (fun _ => rfl) ?_
              obtain ⟨r5, U5, h212212c, h212212a⟩ := h212212
              refine ev_cal (σc := (D_isHouse_s0 d x2 U)) (fun _ => rfl) h212212c ?_
              show Ev (am_kz N X) ((d + 1), 13, 54, [some (.inr (.inr 1)), some (.inl x1), some (.inl x2), some (.inl x3)], [.inl r5], (am_sh, am_mm U5)) R
              refine ev_br (P := r5 = 0) (σ1 := ((d + 1), 13, 71, [some (.inr (.inr 1)), some (.inl x1), some (.inl x2), some (.inl x3)], [], (am_sh, am_mm U5))) (σ2 := ((d + 1), 13, 57, [some (.inr (.inr 1)), some (.inl x1), some (.inl x2), some (.inl x3)], [], (am_sh, am_mm U5))) 1 (fun _ => rfl) (fun hc => ?_) (fun hc => ?_)
              · have h212212a1 := h212212a.1 hc
                subst h212212a1
                exact ev_end 2 (fun _ => rfl)
              · have h212212a2 := h212212a.2 hc
                refine ev_seg (σ1 := ((d + 1), 13, 65, [some (.inr (.inr 1)), some (.inl x1), some (.inl x2), some (.inl x3)], [.inl x2, .inr (.inr 5)], (am_sh, am_mm U5))) 4 (fun _ => rfl) ?_
                refine eu_iald 5 (n := 12) rfl (by decide) rfl (fun _ => rfl) h212212a2.1 ?_
                show Ev (am_kz N X) ((d + 1), 13, 66, [some (.inr (.inr 1)), some (.inl x1), some (.inl x2), some (.inl x3)], [.inl (U5 5 x2.toNat)], (am_sh, am_mm U5)) R
                have h212212a2a := h212212a2.2
                refine ev_seg (σ1 := ((d + 1), 13, 67, [some (.inr (.inr 1)), some (.inl x1), some (.inl x2), some (.inl x3)], [.inl x3, .inl (U5 5 x2.toNat)], (am_sh, am_mm U5))) 1 (fun _ => rfl) ?_
                obtain ⟨r6, U6, h212212a2ac, h212212a2aa⟩ := h212212a2a
                refine ev_cal (σc := (Tk_letterOf_s0 d (U5 5 x2.toNat) x3 U5)) (fun _ => rfl) h212212a2ac ?_
                show Ev (am_kz N X) ((d + 1), 13, 70, [some (.inr (.inr 1)), some (.inl x1), some (.inl x2), some (.inl x3)], [.inl r6], (am_sh, am_mm U6)) R
                subst h212212a2aa
                exact ev_end 1 (fun _ => rfl)
          · have h21222 := h2122.2 (Int.not_le.mp hc)
            refine ev_seg (σ1 := ((d + 1), 13, 38, [some (.inr (.inr 1)), some (.inl x1), some (.inl x2), some (.inl x3)], [.inl x2, .inr (.inr 4)], (am_sh, am_mm U))) 4 (fun _ => rfl) ?_
            refine eu_iald 4 (n := 4) rfl (by decide) rfl (fun _ => rfl) h21222.1 ?_
            show Ev (am_kz N X) ((d + 1), 13, 39, [some (.inr (.inr 1)), some (.inl x1), some (.inl x2), some (.inl x3)], [.inl (U 4 x2.toNat)], (am_sh, am_mm U)) R
            have h21222a := h21222.2
            refine ev_seg (σ1 := ((d + 1), 13, 40, [some (.inr (.inr 1)), some (.inl x1), some (.inl x2), some (.inl x3)], [.inl x3, .inl (U 4 x2.toNat)], (am_sh, am_mm U))) 1 (fun _ => rfl) ?_
            obtain ⟨r7, U7, h21222ac, h21222aa⟩ := h21222a
            refine ev_cal (σc := (Tk_letterOf_s0 d (U 4 x2.toNat) x3 U)) (fun _ => rfl) h21222ac ?_
            show Ev (am_kz N X) ((d + 1), 13, 43, [some (.inr (.inr 1)), some (.inl x1), some (.inl x2), some (.inl x3)], [.inl r7], (am_sh, am_mm U7)) R
            subst h21222aa
            exact ev_end 1 (fun _ => rfl)
    · have h22 := h2.2 (Int.not_le.mp hc)
      subst h22
      exact ev_end 2 (fun _ => rfl)
set_option maxRecDepth 8000 in
theorem M_letter_r0 {N : Nat} {X : Nat → Int} {d : Nat} {x1 x2 x3 : Int} {U : am_U} {R : Option am_V × am_M} (h : ∃ (r1 : Int) (U1 : am_U), EvK N X (M_is_s0 d x1 0 1 U) (rI r1 U1) ∧ ((r1 = 0) → R = rI (-1) U1) ∧ ((r1 ≠ 0) → ∃ (r2 : Int) (U2 : am_U), EvK N X (M_manyOf_s0 d (U1 86 13) x1 U1) (rI r2 U2) ∧ ∃ (r3 : Int) (U3 : am_U), EvK N X (M_is_s0 d x2 0 (w32 (r2 - 1)) U2) (rI r3 U3) ∧ ((r3 = 0) → R = rI (-1) U3) ∧ ((r3 ≠ 0) → ∃ (r4 : Int) (U4 : am_U), EvK N X (M_is_s0 d x3 0 5 U3) (rI r4 U4) ∧ ((r4 ≠ 0) → ∃ (r5 : Int) (U5 : am_U), EvK N X (M_nameOf_s0 d (U4 86 13) x1 x2 U4) (rJ r5 U5) ∧ EvK N X (M_letter_s58 (d + 1) x1 x2 x3 r5 0 r5 U5) R) ∧ ((r4 = 0) → R = rI (-1) U4)))) : EvK N X (M_letter_s0 (d + 1) x1 x2 x3 U) R := by
  show Ev (am_kz N X) ((d + 1), 14, 0, [some (.inr (.inr 86)), some (.inl x1), some (.inl x2), some (.inl x3), none, none, none, none, none], [], (am_sh, am_mm U)) R
  refine ev_seg (σ1 := ((d + 1), 14, 3, [some (.inr (.inr 86)), some (.inl x1), some (.inl x2), some (.inl x3), none, none, none, none, none], [.inl 1, .inl 0, .inl x1], (am_sh, am_mm U))) 3 (fun _ => rfl) ?_
  obtain ⟨r1, U1, hc, ha⟩ := h
  refine ev_cal (σc := (M_is_s0 d x1 0 1 U)) (fun _ => rfl) hc ?_
  show Ev (am_kz N X) ((d + 1), 14, 6, [some (.inr (.inr 86)), some (.inl x1), some (.inl x2), some (.inl x3), none, none, none, none, none], [.inl r1], (am_sh, am_mm U1)) R
  refine ev_br (P := r1 = 0) (σ1 := ((d + 1), 14, 37, [some (.inr (.inr 86)), some (.inl x1), some (.inl x2), some (.inl x3), none, none, none, none, none], [], (am_sh, am_mm U1))) (σ2 := ((d + 1), 14, 9, [some (.inr (.inr 86)), some (.inl x1), some (.inl x2), some (.inl x3), none, none, none, none, none], [], (am_sh, am_mm U1))) 1 (fun _ => rfl) (fun hc => ?_) (fun hc => ?_)
  · have ha1 := ha.1 hc
    subst ha1
    exact ev_end 2 (fun _ => rfl)
  · have ha2 := ha.2 hc
    refine ev_seg (σ1 := ((d + 1), 14, 17, [some (.inr (.inr 86)), some (.inl x1), some (.inl x2), some (.inl x3), none, none, none, none, none], [.inl x1, .inl (U1 86 13), .inr (.inr 86), .inl 0, .inl x2], (am_sh, am_mm U1))) 6 (fun _ => rfl) ?_
    obtain ⟨r2, U2, ha2c, ha2a⟩ := ha2
    refine ev_cal (σc := (M_manyOf_s0 d (U1 86 13) x1 U1)) (fun _ => rfl) ha2c ?_
    show Ev (am_kz N X) ((d + 1), 14, 20, [some (.inr (.inr 86)), some (.inl x1), some (.inl x2), some (.inl x3), none, none, none, none, none], [.inl r2, .inl 0, .inl x2], (am_sh, am_mm U2)) R
    refine ev_seg (σ1 := ((d + 1), 14, 22, [some (.inr (.inr 86)), some (.inl x1), some (.inl x2), some (.inl x3), none, none, none, none, none], [.inl (w32 (r2 - 1)), .inl 0, .inl x2], (am_sh, am_mm U2))) 2 (fun _ => rfl) ?_
    obtain ⟨r3, U3, ha2ac, ha2aa⟩ := ha2a
    refine ev_cal (σc := (M_is_s0 d x2 0 (w32 (r2 - 1)) U2)) (fun _ => rfl) ha2ac ?_
    show Ev (am_kz N X) ((d + 1), 14, 25, [some (.inr (.inr 86)), some (.inl x1), some (.inl x2), some (.inl x3), none, none, none, none, none], [.inl r3], (am_sh, am_mm U3)) R
    refine ev_br (P := r3 = 0) (σ1 := ((d + 1), 14, 37, [some (.inr (.inr 86)), some (.inl x1), some (.inl x2), some (.inl x3), none, none, none, none, none], [], (am_sh, am_mm U3))) (σ2 := ((d + 1), 14, 28, [some (.inr (.inr 86)), some (.inl x1), some (.inl x2), some (.inl x3), none, none, none, none, none], [], (am_sh, am_mm U3))) 1 (fun _ => rfl) (fun hc => ?_) (fun hc => ?_)
    · have ha2aa1 := ha2aa.1 hc
      subst ha2aa1
      exact ev_end 2 (fun _ => rfl)
    · have ha2aa2 := ha2aa.2 hc
      refine ev_seg (σ1 := ((d + 1), 14, 31, [some (.inr (.inr 86)), some (.inl x1), some (.inl x2), some (.inl x3), none, none, none, none, none], [.inl 5, .inl 0, .inl x3], (am_sh, am_mm U3))) 3 (fun _ => rfl) ?_
      obtain ⟨r4, U4, ha2aa2c, ha2aa2a⟩ := ha2aa2
      refine ev_cal (σc := (M_is_s0 d x3 0 5 U3)) (fun _ => rfl) ha2aa2c ?_
      show Ev (am_kz N X) ((d + 1), 14, 34, [some (.inr (.inr 86)), some (.inl x1), some (.inl x2), some (.inl x3), none, none, none, none, none], [.inl r4], (am_sh, am_mm U4)) R
      refine ev_br (P := ¬ r4 = 0) (σ1 := ((d + 1), 14, 39, [some (.inr (.inr 86)), some (.inl x1), some (.inl x2), some (.inl x3), none, none, none, none, none], [], (am_sh, am_mm U4))) (σ2 := ((d + 1), 14, 37, [some (.inr (.inr 86)), some (.inl x1), some (.inl x2), some (.inl x3), none, none, none, none, none], [], (am_sh, am_mm U4))) 1 (fun _ => rfl) (fun hc => ?_) (fun hc => ?_)
      · have ha2aa2a1 := ha2aa2a.1 hc
        refine ev_seg (σ1 := ((d + 1), 14, 46, [some (.inr (.inr 86)), some (.inl x1), some (.inl x2), some (.inl x3), none, none, none, none, none], [.inl x2, .inl x1, .inl (U4 86 13), .inr (.inr 86)], (am_sh, am_mm U4))) 5 (fun _ => rfl) ?_
        obtain ⟨r5, U5, ha2aa2a1c, ha2aa2a1a⟩ := ha2aa2a1
        refine ev_cal (σc := (M_nameOf_s0 d (U4 86 13) x1 x2 U4)) (fun _ => rfl) ha2aa2a1c ?_
        show Ev (am_kz N X) ((d + 1), 14, 49, [some (.inr (.inr 86)), some (.inl x1), some (.inl x2), some (.inl x3), none, none, none, none, none], [.inr (.inl r5)], (am_sh, am_mm U5)) R
        refine ev_seg (σ1 := ((d + 1), 14, 58, [some (.inr (.inr 86)), some (.inl x1), some (.inl x2), some (.inl x3), some (.inr (.inl r5)), none, some (.inl 0), some (.inr (.inl r5)), none], [], (am_sh, am_mm U5))) 5 (fun _ => rfl) ?_
        exact ha2aa2a1a
      · have ha2aa2a2 := ha2aa2a.2 (Decidable.not_not.mp hc)
        subst ha2aa2a2
        exact ev_end 2 (fun _ => rfl)
set_option maxRecDepth 8000 in
theorem M_letter_r58 {N : Nat} {X : Nat → Int} {d : Nat} {x1 x2 x3 x4 x6 x7 : Int} {U : am_U} {R : Option am_V × am_M} (h : ((x7 ≤ 0) → ((x3 < x6) → R = rI (w32 ((w32 ((w32 (am_land (am_lshr x4 (w32 (8 * (w32 ((w32 (x6 - 1)) - x3))))) 255)) - 97)) + 1)) U) ∧ ((x6 ≤ x3) → R = rI 0 U)) ∧ ((0 < x7) → EvK N X (M_letter_s58 (d + 1) x1 x2 x3 x4 (w32 (x6 + 1)) (am_lshr x7 8) U) R)) : EvK N X (M_letter_s58 (d + 1) x1 x2 x3 x4 x6 x7 U) R := by
  show Ev (am_kz N X) ((d + 1), 14, 58, [some (.inr (.inr 86)), some (.inl x1), some (.inl x2), some (.inl x3), some (.inr (.inl x4)), none, some (.inl x6), some (.inr (.inl x7)), none], [], (am_sh, am_mm U)) R
  refine ev_br (P := (am_lcmp x7 0) ≤ 0) (σ1 := ((d + 1), 14, 78, [some (.inr (.inr 86)), some (.inl x1), some (.inl x2), some (.inl x3), some (.inr (.inl x4)), none, some (.inl x6), some (.inr (.inl x7)), none], [], (am_sh, am_mm U))) (σ2 := ((d + 1), 14, 65, [some (.inr (.inr 86)), some (.inl x1), some (.inl x2), some (.inl x3), some (.inr (.inl x4)), none, some (.inl x6), some (.inr (.inl x7)), none], [], (am_sh, am_mm U))) 4 (fun _ => rfl) (fun hc => ?_) (fun hc => ?_)
  · have h1 := h.1 ((am_lc_le x7 0).mp hc)
    refine ev_br (P := x3 < x6) (σ1 := ((d + 1), 14, 88, [some (.inr (.inr 86)), some (.inl x1), some (.inl x2), some (.inl x3), some (.inr (.inl x4)), none, some (.inl x6), some (.inr (.inl x7)), none], [], (am_sh, am_mm U))) (σ2 := ((d + 1), 14, 84, [some (.inr (.inr 86)), some (.inl x1), some (.inl x2), some (.inl x3), some (.inr (.inl x4)), none, some (.inl x6), some (.inr (.inl x7)), none], [], (am_sh, am_mm U))) 3 (fun _ => rfl) (fun hc => ?_) (fun hc => ?_)
    · have h11 := h1.1 hc
      subst h11
      exact ev_end 17 (fun _ => rfl)
    · have h12 := h1.2 (Int.not_lt.mp hc)
      subst h12
      exact ev_end 3 (fun _ => rfl)
  · have h2 := h.2 ((am_lcn_le x7 0).mp hc)
    refine ev_seg (σ1 := ((d + 1), 14, 58, [some (.inr (.inr 86)), some (.inl x1), some (.inl x2), some (.inl x3), some (.inr (.inl x4)), none, some (.inl (w32 (x6 + 1))), some (.inr (.inl (am_lshr x7 8))), none], [], (am_sh, am_mm U))) 6 (fun _ => rfl) ?_
    exact h2
set_option maxRecDepth 8000 in
theorem D_house_r0 {N : Nat} {X : Nat → Int} {d : Nat} {x1 x2 : Int} {U : am_U} {R : Option am_V × am_M} (h : ∃ (r1 : Int) (U1 : am_U), EvK N X (D_isHouse_s0 d x1 U) (rI r1 U1) ∧ ((r1 ≠ 0) → (x2 = 0 → (0 ≤ x1 ∧ x1 < 12) ∧ R = rI (U1 6 x1.toNat) U1) ∧ (x2 = 1 → (0 ≤ x1 ∧ x1 < 12) ∧ R = rI (U1 8 x1.toNat) U1) ∧ (x2 = 2 → ∃ (r2 : Int) (U2 : am_U), EvK N X (Fk_living_16_s0 d x1 U1) (rI r2 U2) ∧ R = rI r2 U2) ∧ (x2 = 3 → (0 ≤ x1 ∧ x1 < 12) ∧ R = rI (U1 7 x1.toNat) U1) ∧ (x2 = 4 → (0 ≤ x1 ∧ x1 < 12) ∧ R = rI (U1 9 x1.toNat) U1) ∧ (¬ x2 = 0 ∧ ¬ x2 = 1 ∧ ¬ x2 = 2 ∧ ¬ x2 = 3 ∧ ¬ x2 = 4 → ((x2 < 10) → R = rI (-1) U1) ∧ ((10 ≤ x2) → (0 ≤ x1 ∧ x1 < 12) ∧ ∃ (r3 : Int) (U3 : am_U), EvK N X (D_bitAt_s0 d (U1 19 x1.toNat) (w32 (x2 - 10)) U1) (rI r3 U3) ∧ R = rI r3 U3))) ∧ ((r1 = 0) → R = rI (-1) U1)) : EvK N X (D_house_s0 (d + 1) x1 x2 U) R := by
  show Ev (am_kz N X) ((d + 1), 15, 0, [some (.inr (.inr 1)), some (.inl x1), some (.inl x2)], [], (am_sh, am_mm U)) R
  refine ev_seg (σ1 := ((d + 1), 15, 2, [some (.inr (.inr 1)), some (.inl x1), some (.inl x2)], [.inl x1, .inr (.inr 1)], (am_sh, am_mm U))) 2 (fun _ => rfl) ?_
  obtain ⟨r1, U1, hc, ha⟩ := h
  refine ev_cal (σc := (D_isHouse_s0 d x1 U)) (fun _ => rfl) hc ?_
  show Ev (am_kz N X) ((d + 1), 15, 5, [some (.inr (.inr 1)), some (.inl x1), some (.inl x2)], [.inl r1], (am_sh, am_mm U1)) R
  refine ev_br (P := ¬ r1 = 0) (σ1 := ((d + 1), 15, 10, [some (.inr (.inr 1)), some (.inl x1), some (.inl x2)], [], (am_sh, am_mm U1))) (σ2 := ((d + 1), 15, 8, [some (.inr (.inr 1)), some (.inl x1), some (.inl x2)], [], (am_sh, am_mm U1))) 1 (fun _ => rfl) (fun hc => ?_) (fun hc => ?_)
  · have ha1 := ha.1 hc
    refine ev_seg (σ1 := ((d + 1), 15, 11, [some (.inr (.inr 1)), some (.inl x1), some (.inl x2)], [.inl x2], (am_sh, am_mm U1))) 1 (fun _ => rfl) ?_
    by_cases hc : x2 = 0
    · have ha1k0 := ha1.1 hc
      refine ev_sw (off := 33) rfl (by rw [hc]; rfl) (pt := 44) rfl ?_
      refine ev_seg (σ1 := ((d + 1), 15, 52, [some (.inr (.inr 1)), some (.inl x1), some (.inl x2)], [.inl x1, .inr (.inr 6)], (am_sh, am_mm U1))) 4 (fun _ => rfl) ?_
      refine eu_iald 6 (n := 12) rfl (by decide) rfl (fun _ => rfl) ha1k0.1 ?_
      show Ev (am_kz N X) ((d + 1), 15, 53, [some (.inr (.inr 1)), some (.inl x1), some (.inl x2)], [.inl (U1 6 x1.toNat)], (am_sh, am_mm U1)) R
      have ha1k0a := ha1k0.2
      subst ha1k0a
      exact ev_end 1 (fun _ => rfl)
    have nha10 := hc
    clear hc
    by_cases hc : x2 = 1
    · have ha1k1 := ha1.2.1 hc
      refine ev_sw (off := 43) rfl (by rw [hc]; rfl) (pt := 54) rfl ?_
      refine ev_seg (σ1 := ((d + 1), 15, 62, [some (.inr (.inr 1)), some (.inl x1), some (.inl x2)], [.inl x1, .inr (.inr 8)], (am_sh, am_mm U1))) 4 (fun _ => rfl) ?_
      refine eu_iald 8 (n := 12) rfl (by decide) rfl (fun _ => rfl) ha1k1.1 ?_
      show Ev (am_kz N X) ((d + 1), 15, 63, [some (.inr (.inr 1)), some (.inl x1), some (.inl x2)], [.inl (U1 8 x1.toNat)], (am_sh, am_mm U1)) R
      have ha1k1a := ha1k1.2
      subst ha1k1a
      exact ev_end 1 (fun _ => rfl)
    have nha11 := hc
    clear hc
    by_cases hc : x2 = 2
    · have ha1k2 := ha1.2.2.1 hc
      refine ev_sw (off := 53) rfl (by rw [hc]; rfl) (pt := 64) rfl ?_
      refine ev_seg (σ1 := ((d + 1), 15, 69, [some (.inr (.inr 1)), some (.inl x1), some (.inl x2)], [.inl x1, .inr (.inr 16)], (am_sh, am_mm U1))) 3 (fun _ => rfl) ?_
      obtain ⟨r2, U2, ha1k2c, ha1k2a⟩ := ha1k2
      refine ev_cal (σc := (Fk_living_16_s0 d x1 U1)) (fun _ => rfl) ha1k2c ?_
      show Ev (am_kz N X) ((d + 1), 15, 72, [some (.inr (.inr 1)), some (.inl x1), some (.inl x2)], [.inl r2], (am_sh, am_mm U2)) R
      subst ha1k2a
      exact ev_end 1 (fun _ => rfl)
    have nha12 := hc
    clear hc
    by_cases hc : x2 = 3
    · have ha1k3 := ha1.2.2.2.1 hc
      refine ev_sw (off := 62) rfl (by rw [hc]; rfl) (pt := 73) rfl ?_
      refine ev_seg (σ1 := ((d + 1), 15, 81, [some (.inr (.inr 1)), some (.inl x1), some (.inl x2)], [.inl x1, .inr (.inr 7)], (am_sh, am_mm U1))) 4 (fun _ => rfl) ?_
      refine eu_iald 7 (n := 12) rfl (by decide) rfl (fun _ => rfl) ha1k3.1 ?_
      show Ev (am_kz N X) ((d + 1), 15, 82, [some (.inr (.inr 1)), some (.inl x1), some (.inl x2)], [.inl (U1 7 x1.toNat)], (am_sh, am_mm U1)) R
      have ha1k3a := ha1k3.2
      subst ha1k3a
      exact ev_end 1 (fun _ => rfl)
    have nha13 := hc
    clear hc
    by_cases hc : x2 = 4
    · have ha1k4 := ha1.2.2.2.2.1 hc
      refine ev_sw (off := 72) rfl (by rw [hc]; rfl) (pt := 83) rfl ?_
      refine ev_seg (σ1 := ((d + 1), 15, 91, [some (.inr (.inr 1)), some (.inl x1), some (.inl x2)], [.inl x1, .inr (.inr 9)], (am_sh, am_mm U1))) 4 (fun _ => rfl) ?_
      refine eu_iald 9 (n := 12) rfl (by decide) rfl (fun _ => rfl) ha1k4.1 ?_
      show Ev (am_kz N X) ((d + 1), 15, 92, [some (.inr (.inr 1)), some (.inl x1), some (.inl x2)], [.inl (U1 9 x1.toNat)], (am_sh, am_mm U1)) R
      have ha1k4a := ha1k4.2
      subst ha1k4a
      exact ev_end 1 (fun _ => rfl)
    have nha14 := hc
    clear hc
    have ha1kd := ha1.2.2.2.2.2 ⟨nha10, nha11, nha12, nha13, nha14⟩
    refine ev_sw (off := 82) rfl (if_pos (by omega)) (pt := 93) rfl ?_
    refine ev_br (P := x2 < 10) (σ1 := ((d + 1), 15, 118, [some (.inr (.inr 1)), some (.inl x1), some (.inl x2)], [], (am_sh, am_mm U1))) (σ2 := ((d + 1), 15, 99, [some (.inr (.inr 1)), some (.inl x1), some (.inl x2)], [], (am_sh, am_mm U1))) 3 (fun _ => rfl) (fun hc => ?_) (fun hc => ?_)
    · have ha1kd1 := ha1kd.1 hc
      subst ha1kd1
      exact ev_end 2 (fun _ => rfl)
    · have ha1kd2 := ha1kd.2 (Int.not_lt.mp hc)
      refine ev_seg (σ1 := ((d + 1), 15, 107, [some (.inr (.inr 1)), some (.inl x1), some (.inl x2)], [.inl x1, .inr (.inr 19)], (am_sh, am_mm U1))) 4 (fun _ => rfl) ?_
      refine eu_iald 19 (n := 12) rfl (by decide) rfl (fun _ => rfl) ha1kd2.1 ?_
      show Ev (am_kz N X) ((d + 1), 15, 108, [some (.inr (.inr 1)), some (.inl x1), some (.inl x2)], [.inl (U1 19 x1.toNat)], (am_sh, am_mm U1)) R
      have ha1kd2a := ha1kd2.2
      refine ev_seg (σ1 := ((d + 1), 15, 112, [some (.inr (.inr 1)), some (.inl x1), some (.inl x2)], [.inl (w32 (x2 - 10)), .inl (U1 19 x1.toNat)], (am_sh, am_mm U1))) 3 (fun _ => rfl) ?_
      obtain ⟨r3, U3, ha1kd2ac, ha1kd2aa⟩ := ha1kd2a
      refine ev_cal (σc := (D_bitAt_s0 d (U1 19 x1.toNat) (w32 (x2 - 10)) U1)) (fun _ => rfl) ha1kd2ac ?_
      show Ev (am_kz N X) ((d + 1), 15, 115, [some (.inr (.inr 1)), some (.inl x1), some (.inl x2)], [.inl r3], (am_sh, am_mm U3)) R
      subst ha1kd2aa
      exact ev_end 2 (fun _ => rfl)
  · have ha2 := ha.2 (Decidable.not_not.mp hc)
    subst ha2
    exact ev_end 2 (fun _ => rfl)
set_option maxRecDepth 8000 in
theorem M_house_r0 {N : Nat} {X : Nat → Int} {d : Nat} {x1 x2 : Int} {U : am_U} {R : Option am_V × am_M} (h : ∃ (r1 : Int) (U1 : am_U), EvK N X (M_isHouse_s0 d x1 U) (rI r1 U1) ∧ ((r1 ≠ 0) → ((x2 < 10) → (x2 = 0 → ∃ (r2 : Int) (U2 : am_U), EvK N X (M_streetOf_s0 d x1 U1) (rI r2 U2) ∧ R = rI r2 U2) ∧ (x2 = 1 → ∃ (r3 : Int) (U3 : am_U), EvK N X (M_roomsOf_s0 d x1 U1) (rI r3 U3) ∧ R = rI r3 U3) ∧ (x2 = 2 → ∃ (r4 : Int) (U4 : am_U), EvK N X (M_living_s0 d 0 x1 U1) (rI r4 U4) ∧ R = rI r4 U4) ∧ (x2 = 3 → ∃ (r5 : Int) (U5 : am_U), EvK N X (M_placeOf_s0 d (U1 86 13) x1 U1) (rI r5 U5) ∧ R = rI r5 U5) ∧ (x2 = 4 → EvK N X (M_house_s136 (d + 1) x1 x2 0 0 U1) R) ∧ (¬ x2 = 0 ∧ ¬ x2 = 1 ∧ ¬ x2 = 2 ∧ ¬ x2 = 3 ∧ ¬ x2 = 4 → R = rI (-1) U1)) ∧ ((10 ≤ x2) → EvK N X (M_house_s21 (d + 1) x1 x2 0 0 U1) R)) ∧ ((r1 = 0) → R = rI (-1) U1)) : EvK N X (M_house_s0 (d + 1) x1 x2 U) R := by
  show Ev (am_kz N X) ((d + 1), 16, 0, [some (.inr (.inr 86)), some (.inl x1), some (.inl x2), none, none], [], (am_sh, am_mm U)) R
  refine ev_seg (σ1 := ((d + 1), 16, 2, [some (.inr (.inr 86)), some (.inl x1), some (.inl x2), none, none], [.inl x1, .inr (.inr 86)], (am_sh, am_mm U))) 2 (fun _ => rfl) ?_
  obtain ⟨r1, U1, hc, ha⟩ := h
  refine ev_cal (σc := (M_isHouse_s0 d x1 U)) (fun _ => rfl) hc ?_
  show Ev (am_kz N X) ((d + 1), 16, 5, [some (.inr (.inr 86)), some (.inl x1), some (.inl x2), none, none], [.inl r1], (am_sh, am_mm U1)) R
  refine ev_br (P := ¬ r1 = 0) (σ1 := ((d + 1), 16, 10, [some (.inr (.inr 86)), some (.inl x1), some (.inl x2), none, none], [], (am_sh, am_mm U1))) (σ2 := ((d + 1), 16, 8, [some (.inr (.inr 86)), some (.inl x1), some (.inl x2), none, none], [], (am_sh, am_mm U1))) 1 (fun _ => rfl) (fun hc => ?_) (fun hc => ?_)
  · have ha1 := ha.1 hc
    refine ev_br (P := x2 < 10) (σ1 := ((d + 1), 16, 68, [some (.inr (.inr 86)), some (.inl x1), some (.inl x2), some (.inl 0), none], [], (am_sh, am_mm U1))) (σ2 := ((d + 1), 16, 18, [some (.inr (.inr 86)), some (.inl x1), some (.inl x2), some (.inl 0), none], [], (am_sh, am_mm U1))) 5 (fun _ => rfl) (fun hc => ?_) (fun hc => ?_)
    · have ha11 := ha1.1 hc
      refine ev_seg (σ1 := ((d + 1), 16, 69, [some (.inr (.inr 86)), some (.inl x1), some (.inl x2), some (.inl 0), none], [.inl x2], (am_sh, am_mm U1))) 1 (fun _ => rfl) ?_
      by_cases hc : x2 = 0
      · have ha11k0 := ha11.1 hc
        refine ev_sw (off := 35) rfl (by rw [hc]; rfl) (pt := 104) rfl ?_
        refine ev_seg (σ1 := ((d + 1), 16, 106, [some (.inr (.inr 86)), some (.inl x1), some (.inl x2), some (.inl 0), none], [.inl x1, .inr (.inr 86)], (am_sh, am_mm U1))) 2 (fun _ => rfl) ?_
        obtain ⟨r2, U2, ha11k0c, ha11k0a⟩ := ha11k0
        refine ev_cal (σc := (M_streetOf_s0 d x1 U1)) (fun _ => rfl) ha11k0c ?_
        show Ev (am_kz N X) ((d + 1), 16, 109, [some (.inr (.inr 86)), some (.inl x1), some (.inl x2), some (.inl 0), none], [.inl r2], (am_sh, am_mm U2)) R
        subst ha11k0a
        exact ev_end 1 (fun _ => rfl)
      have nha110 := hc
      clear hc
      by_cases hc : x2 = 1
      · have ha11k1 := ha11.2.1 hc
        refine ev_sw (off := 41) rfl (by rw [hc]; rfl) (pt := 110) rfl ?_
        refine ev_seg (σ1 := ((d + 1), 16, 112, [some (.inr (.inr 86)), some (.inl x1), some (.inl x2), some (.inl 0), none], [.inl x1, .inr (.inr 86)], (am_sh, am_mm U1))) 2 (fun _ => rfl) ?_
        obtain ⟨r3, U3, ha11k1c, ha11k1a⟩ := ha11k1
        refine ev_cal (σc := (M_roomsOf_s0 d x1 U1)) (fun _ => rfl) ha11k1c ?_
        show Ev (am_kz N X) ((d + 1), 16, 115, [some (.inr (.inr 86)), some (.inl x1), some (.inl x2), some (.inl 0), none], [.inl r3], (am_sh, am_mm U3)) R
        subst ha11k1a
        exact ev_end 1 (fun _ => rfl)
      have nha111 := hc
      clear hc
      by_cases hc : x2 = 2
      · have ha11k2 := ha11.2.2.1 hc
        refine ev_sw (off := 47) rfl (by rw [hc]; rfl) (pt := 116) rfl ?_
        refine ev_seg (σ1 := ((d + 1), 16, 119, [some (.inr (.inr 86)), some (.inl x1), some (.inl x2), some (.inl 0), none], [.inl x1, .inl 0, .inr (.inr 86)], (am_sh, am_mm U1))) 3 (fun _ => rfl) ?_
        obtain ⟨r4, U4, ha11k2c, ha11k2a⟩ := ha11k2
        refine ev_cal (σc := (M_living_s0 d 0 x1 U1)) (fun _ => rfl) ha11k2c ?_
        show Ev (am_kz N X) ((d + 1), 16, 122, [some (.inr (.inr 86)), some (.inl x1), some (.inl x2), some (.inl 0), none], [.inl r4], (am_sh, am_mm U4)) R
        subst ha11k2a
        exact ev_end 1 (fun _ => rfl)
      have nha112 := hc
      clear hc
      by_cases hc : x2 = 3
      · have ha11k3 := ha11.2.2.2.1 hc
        refine ev_sw (off := 54) rfl (by rw [hc]; rfl) (pt := 123) rfl ?_
        refine ev_seg (σ1 := ((d + 1), 16, 129, [some (.inr (.inr 86)), some (.inl x1), some (.inl x2), some (.inl 0), none], [.inl x1, .inl (U1 86 13), .inr (.inr 86)], (am_sh, am_mm U1))) 4 (fun _ => rfl) ?_
        obtain ⟨r5, U5, ha11k3c, ha11k3a⟩ := ha11k3
        refine ev_cal (σc := (M_placeOf_s0 d (U1 86 13) x1 U1)) (fun _ => rfl) ha11k3c ?_
        show Ev (am_kz N X) ((d + 1), 16, 132, [some (.inr (.inr 86)), some (.inl x1), some (.inl x2), some (.inl 0), none], [.inl r5], (am_sh, am_mm U5)) R
        subst ha11k3a
        exact ev_end 1 (fun _ => rfl)
      have nha113 := hc
      clear hc
      by_cases hc : x2 = 4
      · have ha11k4 := ha11.2.2.2.2.1 hc
        refine ev_sw (off := 64) rfl (by rw [hc]; rfl) (pt := 133) rfl ?_
        refine ev_seg (σ1 := ((d + 1), 16, 136, [some (.inr (.inr 86)), some (.inl x1), some (.inl x2), some (.inl 0), some (.inl 0)], [], (am_sh, am_mm U1))) 2 (fun _ => rfl) ?_
        exact ha11k4
      have nha114 := hc
      clear hc
      have ha11kd := ha11.2.2.2.2.2 ⟨nha110, nha111, nha112, nha113, nha114⟩
      refine ev_sw (off := 114) rfl (if_pos (by omega)) (pt := 183) rfl ?_
      subst ha11kd
      exact ev_end 2 (fun _ => rfl)
    · have ha12 := ha1.2 (Int.not_lt.mp hc)
      refine ev_seg (σ1 := ((d + 1), 16, 21, [some (.inr (.inr 86)), some (.inl x1), some (.inl x2), some (.inl 0), some (.inl 0)], [], (am_sh, am_mm U1))) 2 (fun _ => rfl) ?_
      exact ha12
  · have ha2 := ha.2 (Decidable.not_not.mp hc)
    subst ha2
    exact ev_end 2 (fun _ => rfl)
set_option maxRecDepth 8000 in
theorem M_house_r136 {N : Nat} {X : Nat → Int} {d : Nat} {x1 x2 x3 x4 : Int} {U : am_U} {R : Option am_V × am_M} (h : (0 ≤ (U 86 13) ∧ (U 86 13) < 2) ∧ (((U 90 ((U 86 13).toNat)) ≤ x4) → R = rI x3 U) ∧ ((x4 < (U 90 ((U 86 13).toNat))) → ∃ (r1 : Int) (U1 : am_U), EvK N X (M_areNeighbours_s0 d (U 86 13) x1 x4 U) (rI r1 U1) ∧ ((r1 = 0) → EvK N X (M_house_s136 (d + 1) x1 x2 (am_or x3 0) (w32 (x4 + 1)) U1) R) ∧ ((r1 ≠ 0) → EvK N X (M_house_s136 (d + 1) x1 x2 (am_or x3 (am_shl 1 x4)) (w32 (x4 + 1)) U1) R))) : EvK N X (M_house_s136 (d + 1) x1 x2 x3 x4 U) R := by
  show Ev (am_kz N X) ((d + 1), 16, 136, [some (.inr (.inr 86)), some (.inl x1), some (.inl x2), some (.inl x3), some (.inl x4)], [], (am_sh, am_mm U)) R
  refine ev_seg (σ1 := ((d + 1), 16, 146, [some (.inr (.inr 86)), some (.inl x1), some (.inl x2), some (.inl x3), some (.inl x4)], [.inl (U 86 13), .inr (.inr 90), .inl x4], (am_sh, am_mm U))) 5 (fun _ => rfl) ?_
  refine eu_iald 90 (n := 2) rfl (by decide) rfl (fun _ => rfl) h.1 ?_
  show Ev (am_kz N X) ((d + 1), 16, 147, [some (.inr (.inr 86)), some (.inl x1), some (.inl x2), some (.inl x3), some (.inl x4)], [.inl (U 90 ((U 86 13).toNat)), .inl x4], (am_sh, am_mm U)) R
  have ha := h.2
  refine ev_br (P := (U 90 ((U 86 13).toNat)) ≤ x4) (σ1 := ((d + 1), 16, 181, [some (.inr (.inr 86)), some (.inl x1), some (.inl x2), some (.inl x3), some (.inl x4)], [], (am_sh, am_mm U))) (σ2 := ((d + 1), 16, 150, [some (.inr (.inr 86)), some (.inl x1), some (.inl x2), some (.inl x3), some (.inl x4)], [], (am_sh, am_mm U))) 1 (fun _ => rfl) (fun hc => ?_) (fun hc => ?_)
  · have ha1 := ha.1 hc
    subst ha1
    exact ev_end 2 (fun _ => rfl)
  · have ha2 := ha.2 (Int.not_le.mp hc)
    refine ev_seg (σ1 := ((d + 1), 16, 159, [some (.inr (.inr 86)), some (.inl x1), some (.inl x2), some (.inl x3), some (.inl x4)], [.inl x4, .inl x1, .inl (U 86 13), .inr (.inr 86), .inl x3], (am_sh, am_mm U))) 6 (fun _ => rfl) ?_
    obtain ⟨r1, U1, ha2c, ha2a⟩ := ha2
    refine ev_cal (σc := (M_areNeighbours_s0 d (U 86 13) x1 x4 U)) (fun _ => rfl) ha2c ?_
    show Ev (am_kz N X) ((d + 1), 16, 162, [some (.inr (.inr 86)), some (.inl x1), some (.inl x2), some (.inl x3), some (.inl x4)], [.inl r1, .inl x3], (am_sh, am_mm U1)) R
    refine ev_br (P := r1 = 0) (σ1 := ((d + 1), 16, 172, [some (.inr (.inr 86)), some (.inl x1), some (.inl x2), some (.inl x3), some (.inl x4)], [.inl x3], (am_sh, am_mm U1))) (σ2 := ((d + 1), 16, 165, [some (.inr (.inr 86)), some (.inl x1), some (.inl x2), some (.inl x3), some (.inl x4)], [.inl x3], (am_sh, am_mm U1))) 1 (fun _ => rfl) (fun hc => ?_) (fun hc => ?_)
    · have ha2a1 := ha2a.1 hc
      refine ev_seg (σ1 := ((d + 1), 16, 136, [some (.inr (.inr 86)), some (.inl x1), some (.inl x2), some (.inl (am_or x3 0)), some (.inl (w32 (x4 + 1)))], [], (am_sh, am_mm U1))) 5 (fun _ => rfl) ?_
      exact ha2a1
    · have ha2a2 := ha2a.2 hc
      refine ev_seg (σ1 := ((d + 1), 16, 136, [some (.inr (.inr 86)), some (.inl x1), some (.inl x2), some (.inl (am_or x3 (am_shl 1 x4))), some (.inl (w32 (x4 + 1)))], [], (am_sh, am_mm U1))) 8 (fun _ => rfl) ?_
      exact ha2a2
set_option maxRecDepth 8000 in
theorem M_house_r21 {N : Nat} {X : Nat → Int} {d : Nat} {x1 x2 x3 x4 : Int} {U : am_U} {R : Option am_V × am_M} (h : (((U 122 0) ≤ x4) → R = rI (-1) U) ∧ ((x4 < (U 122 0)) → (0 ≤ x4 ∧ x4 < 352) ∧ (((U 124 x4.toNat) = x1) → ((x3 ≠ (w32 (x2 - 10))) → EvK N X (M_house_s21 (d + 1) x1 x2 (w32 (x3 + 1)) (w32 (x4 + 1)) U) R) ∧ ((x3 = (w32 (x2 - 10))) → R = rI x4 U)) ∧ (((U 124 x4.toNat) ≠ x1) → EvK N X (M_house_s21 (d + 1) x1 x2 x3 (w32 (x4 + 1)) U) R))) : EvK N X (M_house_s21 (d + 1) x1 x2 x3 x4 U) R := by
  show Ev (am_kz N X) ((d + 1), 16, 21, [some (.inr (.inr 86)), some (.inl x1), some (.inl x2), some (.inl x3), some (.inl x4)], [], (am_sh, am_mm U)) R
  refine ev_seg (σ1 := ((d + 1), 16, 28, [some (.inr (.inr 86)), some (.inl x1), some (.inl x2), some (.inl x3), some (.inl x4)], [.inl 0, .inr (.inr 122), .inl x4], (am_sh, am_mm U))) 4 (fun _ => rfl) ?_
  refine eu_iald 122 (n := 22) rfl (by decide) rfl (fun _ => rfl) (by decide) ?_
  show Ev (am_kz N X) ((d + 1), 16, 29, [some (.inr (.inr 86)), some (.inl x1), some (.inl x2), some (.inl x3), some (.inl x4)], [.inl (U 122 0), .inl x4], (am_sh, am_mm U)) R
  refine ev_br (P := (U 122 0) ≤ x4) (σ1 := ((d + 1), 16, 66, [some (.inr (.inr 86)), some (.inl x1), some (.inl x2), some (.inl x3), some (.inl x4)], [], (am_sh, am_mm U))) (σ2 := ((d + 1), 16, 32, [some (.inr (.inr 86)), some (.inl x1), some (.inl x2), some (.inl x3), some (.inl x4)], [], (am_sh, am_mm U))) 1 (fun _ => rfl) (fun hc => ?_) (fun hc => ?_)
  · have h1 := h.1 hc
    subst h1
    exact ev_end 2 (fun _ => rfl)
  · have h2 := h.2 (Int.not_le.mp hc)
    refine ev_seg (σ1 := ((d + 1), 16, 38, [some (.inr (.inr 86)), some (.inl x1), some (.inl x2), some (.inl x3), some (.inl x4)], [.inl x4, .inr (.inr 124)], (am_sh, am_mm U))) 3 (fun _ => rfl) ?_
    refine eu_iald 124 (n := 352) rfl (by decide) rfl (fun _ => rfl) h2.1 ?_
    show Ev (am_kz N X) ((d + 1), 16, 39, [some (.inr (.inr 86)), some (.inl x1), some (.inl x2), some (.inl x3), some (.inl x4)], [.inl (U 124 x4.toNat)], (am_sh, am_mm U)) R
    have h2a := h2.2
    refine ev_br (P := (U 124 x4.toNat) = x1) (σ1 := ((d + 1), 16, 46, [some (.inr (.inr 86)), some (.inl x1), some (.inl x2), some (.inl x3), some (.inl x4)], [], (am_sh, am_mm U))) (σ2 := ((d + 1), 16, 43, [some (.inr (.inr 86)), some (.inl x1), some (.inl x2), some (.inl x3), some (.inl x4)], [], (am_sh, am_mm U))) 2 (fun _ => rfl) (fun hc => ?_) (fun hc => ?_)
    · have h2a1 := h2a.1 hc
      refine ev_br (P := ¬ x3 = (w32 (x2 - 10))) (σ1 := ((d + 1), 16, 57, [some (.inr (.inr 86)), some (.inl x1), some (.inl x2), some (.inl x3), some (.inl x4)], [], (am_sh, am_mm U))) (σ2 := ((d + 1), 16, 54, [some (.inr (.inr 86)), some (.inl x1), some (.inl x2), some (.inl x3), some (.inl x4)], [], (am_sh, am_mm U))) 5 (fun _ => rfl) (fun hc => ?_) (fun hc => ?_)
      · have h2a11 := h2a1.1 hc
        refine ev_seg (σ1 := ((d + 1), 16, 21, [some (.inr (.inr 86)), some (.inl x1), some (.inl x2), some (.inl (w32 (x3 + 1))), some (.inl (w32 (x4 + 1)))], [], (am_sh, am_mm U))) 3 (fun _ => rfl) ?_
        exact h2a11
      · have h2a12 := h2a1.2 (Decidable.not_not.mp hc)
        subst h2a12
        exact ev_end 2 (fun _ => rfl)
    · have h2a2 := h2a.2 hc
      refine ev_seg (σ1 := ((d + 1), 16, 21, [some (.inr (.inr 86)), some (.inl x1), some (.inl x2), some (.inl x3), some (.inl (w32 (x4 + 1)))], [], (am_sh, am_mm U))) 3 (fun _ => rfl) ?_
      exact h2a2
set_option maxRecDepth 8000 in
theorem D_number_r0 {N : Nat} {X : Nat → Int} {d : Nat} {x1 : Int} {U : am_U} {R : Option am_V × am_M} (h : ∃ (r1 : Int) (U1 : am_U), EvK N X (D_isPerson_s0 d x1 U) (rI r1 U1) ∧ ((r1 = 0) → R = rI (-1000000000) U1) ∧ ((r1 ≠ 0) → (0 ≤ x1 ∧ x1 < 16) ∧ R = rI (U1 17 x1.toNat) U1)) : EvK N X (D_number_s0 (d + 1) x1 U) R := by
  show Ev (am_kz N X) ((d + 1), 17, 0, [some (.inr (.inr 1)), some (.inl x1)], [], (am_sh, am_mm U)) R
  refine ev_seg (σ1 := ((d + 1), 17, 2, [some (.inr (.inr 1)), some (.inl x1)], [.inl x1, .inr (.inr 1)], (am_sh, am_mm U))) 2 (fun _ => rfl) ?_
  obtain ⟨r1, U1, hc, ha⟩ := h
  refine ev_cal (σc := (D_isPerson_s0 d x1 U)) (fun _ => rfl) hc ?_
  show Ev (am_kz N X) ((d + 1), 17, 5, [some (.inr (.inr 1)), some (.inl x1)], [.inl r1], (am_sh, am_mm U1)) R
  refine ev_br (P := r1 = 0) (σ1 := ((d + 1), 17, 20, [some (.inr (.inr 1)), some (.inl x1)], [], (am_sh, am_mm U1))) (σ2 := ((d + 1), 17, 8, [some (.inr (.inr 1)), some (.inl x1)], [], (am_sh, am_mm U1))) 1 (fun _ => rfl) (fun hc => ?_) (fun hc => ?_)
  · have ha1 := ha.1 hc
    subst ha1
    exact ev_end 2 (fun _ => rfl)
  · have ha2 := ha.2 hc
    refine ev_seg (σ1 := ((d + 1), 17, 16, [some (.inr (.inr 1)), some (.inl x1)], [.inl x1, .inr (.inr 17)], (am_sh, am_mm U1))) 4 (fun _ => rfl) ?_
    refine eu_iald 17 (n := 16) rfl (by decide) rfl (fun _ => rfl) ha2.1 ?_
    show Ev (am_kz N X) ((d + 1), 17, 17, [some (.inr (.inr 1)), some (.inl x1)], [.inl (U1 17 x1.toNat)], (am_sh, am_mm U1)) R
    have ha2a := ha2.2
    subst ha2a
    exact ev_end 2 (fun _ => rfl)
set_option maxRecDepth 8000 in
theorem M_number_r0 {N : Nat} {X : Nat → Int} {d : Nat} {x1 : Int} {U : am_U} {R : Option am_V × am_M} (h : ∃ (r1 : Int) (U1 : am_U), EvK N X (M_isPerson_s0 d x1 U) (rI r1 U1) ∧ ((r1 = 0) → R = rI (-1000000000) U1) ∧ ((r1 ≠ 0) → (0 ≤ x1 ∧ x1 < 352) ∧ R = rI (U1 123 x1.toNat) U1)) : EvK N X (M_number_s0 (d + 1) x1 U) R := by
  show Ev (am_kz N X) ((d + 1), 18, 0, [some (.inr (.inr 86)), some (.inl x1)], [], (am_sh, am_mm U)) R
  refine ev_seg (σ1 := ((d + 1), 18, 2, [some (.inr (.inr 86)), some (.inl x1)], [.inl x1, .inr (.inr 86)], (am_sh, am_mm U))) 2 (fun _ => rfl) ?_
  obtain ⟨r1, U1, hc, ha⟩ := h
  refine ev_cal (σc := (M_isPerson_s0 d x1 U)) (fun _ => rfl) hc ?_
  show Ev (am_kz N X) ((d + 1), 18, 5, [some (.inr (.inr 86)), some (.inl x1)], [.inl r1], (am_sh, am_mm U1)) R
  refine ev_br (P := r1 = 0) (σ1 := ((d + 1), 18, 17, [some (.inr (.inr 86)), some (.inl x1)], [], (am_sh, am_mm U1))) (σ2 := ((d + 1), 18, 8, [some (.inr (.inr 86)), some (.inl x1)], [], (am_sh, am_mm U1))) 1 (fun _ => rfl) (fun hc => ?_) (fun hc => ?_)
  · have ha1 := ha.1 hc
    subst ha1
    exact ev_end 2 (fun _ => rfl)
  · have ha2 := ha.2 hc
    refine ev_seg (σ1 := ((d + 1), 18, 13, [some (.inr (.inr 86)), some (.inl x1)], [.inl x1, .inr (.inr 123)], (am_sh, am_mm U1))) 3 (fun _ => rfl) ?_
    refine eu_iald 123 (n := 352) rfl (by decide) rfl (fun _ => rfl) ha2.1 ?_
    show Ev (am_kz N X) ((d + 1), 18, 14, [some (.inr (.inr 86)), some (.inl x1)], [.inl (U1 123 x1.toNat)], (am_sh, am_mm U1)) R
    have ha2a := ha2.2
    subst ha2a
    exact ev_end 2 (fun _ => rfl)
set_option maxRecDepth 8000 in
theorem D_person_r0 {N : Nat} {X : Nat → Int} {d : Nat} {x1 x2 : Int} {U : am_U} {R : Option am_V × am_M} (h : ∃ (r1 : Int) (U1 : am_U), EvK N X (D_isPerson_s0 d x1 U) (rI r1 U1) ∧ ((r1 ≠ 0) → (0 ≤ x1 ∧ x1 < 16) ∧ (x2 = 0 → R = rI (U1 18 x1.toNat) U1) ∧ (x2 = 1 → ∃ (r2 : Int) (U2 : am_U), EvK N X (Jg_countBreachesOf_s0 d x1 U1) (rI r2 U2) ∧ R = rI r2 U2) ∧ (x2 = 2 → ∃ (r3 : Int) (U3 : am_U), EvK N X (D_quarrelling_s0 d x1 U1) (rI r3 U3) ∧ ∃ (r4 : Int) (U4 : am_U), EvK N X (In_bitCount_s0 d r3 U3) (rI r4 U4) ∧ R = rI r4 U4) ∧ (x2 = 3 → ∃ (r5 : Int) (U5 : am_U), EvK N X (Nm_isPrime_s0 d (if 0 ≤ (U1 17 x1.toNat) then (U1 17 x1.toNat) else w32 (-(U1 17 x1.toNat))) U1) (rI r5 U5) ∧ ((r5 = 0) → R = rI 0 U5) ∧ ((r5 ≠ 0) → R = rI 1 U5)) ∧ (x2 = 4 → ∃ (r6 : Int) (U6 : am_U), EvK N X (Fk_partsFor_s0 d x1 U1) (rJ r6 U6) ∧ ((r6 ≠ (if 0 ≤ (U1 17 x1.toNat) then (U1 17 x1.toNat) else w32 (-(U1 17 x1.toNat)))) → R = rI 0 U6) ∧ ((r6 = (if 0 ≤ (U1 17 x1.toNat) then (U1 17 x1.toNat) else w32 (-(U1 17 x1.toNat)))) → R = rI 1 U6)) ∧ (¬ x2 = 0 ∧ ¬ x2 = 1 ∧ ¬ x2 = 2 ∧ ¬ x2 = 3 ∧ ¬ x2 = 4 → R = rI (-1) U1)) ∧ ((r1 = 0) → R = rI (-1) U1)) : EvK N X (D_person_s0 (d + 1) x1 x2 U) R := by
  show Ev (am_kz N X) ((d + 1), 19, 0, [some (.inr (.inr 1)), some (.inl x1), some (.inl x2), none], [], (am_sh, am_mm U)) R
  refine ev_seg (σ1 := ((d + 1), 19, 2, [some (.inr (.inr 1)), some (.inl x1), some (.inl x2), none], [.inl x1, .inr (.inr 1)], (am_sh, am_mm U))) 2 (fun _ => rfl) ?_
  obtain ⟨r1, U1, hc, ha⟩ := h
  refine ev_cal (σc := (D_isPerson_s0 d x1 U)) (fun _ => rfl) hc ?_
  show Ev (am_kz N X) ((d + 1), 19, 5, [some (.inr (.inr 1)), some (.inl x1), some (.inl x2), none], [.inl r1], (am_sh, am_mm U1)) R
  refine ev_br (P := ¬ r1 = 0) (σ1 := ((d + 1), 19, 10, [some (.inr (.inr 1)), some (.inl x1), some (.inl x2), none], [], (am_sh, am_mm U1))) (σ2 := ((d + 1), 19, 8, [some (.inr (.inr 1)), some (.inl x1), some (.inl x2), none], [], (am_sh, am_mm U1))) 1 (fun _ => rfl) (fun hc => ?_) (fun hc => ?_)
  · have ha1 := ha.1 hc
    refine ev_seg (σ1 := ((d + 1), 19, 18, [some (.inr (.inr 1)), some (.inl x1), some (.inl x2), none], [.inl x1, .inr (.inr 17)], (am_sh, am_mm U1))) 4 (fun _ => rfl) ?_
    refine eu_iald 17 (n := 16) rfl (by decide) rfl (fun _ => rfl) ha1.1 ?_
    show Ev (am_kz N X) ((d + 1), 19, 19, [some (.inr (.inr 1)), some (.inl x1), some (.inl x2), none], [.inl (U1 17 x1.toNat)], (am_sh, am_mm U1)) R
    have ha1a := ha1.2
    refine ev_seg (σ1 := ((d + 1), 19, 24, [some (.inr (.inr 1)), some (.inl x1), some (.inl x2), some (.inl (if 0 ≤ (U1 17 x1.toNat) then (U1 17 x1.toNat) else w32 (-(U1 17 x1.toNat))))], [.inl x2], (am_sh, am_mm U1))) 3 (fun _ => rfl) ?_
    by_cases hc : x2 = 0
    · have ha1ak0 := ha1a.1 hc
      refine ev_sw (off := 36) rfl (by rw [hc]; rfl) (pt := 60) rfl ?_
      refine ev_seg (σ1 := ((d + 1), 19, 68, [some (.inr (.inr 1)), some (.inl x1), some (.inl x2), some (.inl (if 0 ≤ (U1 17 x1.toNat) then (U1 17 x1.toNat) else w32 (-(U1 17 x1.toNat))))], [.inl x1, .inr (.inr 18)], (am_sh, am_mm U1))) 4 (fun _ => rfl) ?_
      refine eu_iald 18 (n := 16) rfl (by decide) rfl (fun _ => rfl) ha1.1 ?_
      show Ev (am_kz N X) ((d + 1), 19, 69, [some (.inr (.inr 1)), some (.inl x1), some (.inl x2), some (.inl (if 0 ≤ (U1 17 x1.toNat) then (U1 17 x1.toNat) else w32 (-(U1 17 x1.toNat))))], [.inl (U1 18 x1.toNat)], (am_sh, am_mm U1)) R
      subst ha1ak0
      exact ev_end 1 (fun _ => rfl)
    have nha1a0 := hc
    clear hc
    by_cases hc : x2 = 1
    · have ha1ak1 := ha1a.2.1 hc
      refine ev_sw (off := 46) rfl (by rw [hc]; rfl) (pt := 70) rfl ?_
      refine ev_seg (σ1 := ((d + 1), 19, 75, [some (.inr (.inr 1)), some (.inl x1), some (.inl x2), some (.inl (if 0 ≤ (U1 17 x1.toNat) then (U1 17 x1.toNat) else w32 (-(U1 17 x1.toNat))))], [.inl x1, .inr (.inr 45)], (am_sh, am_mm U1))) 3 (fun _ => rfl) ?_
      obtain ⟨r2, U2, ha1ak1c, ha1ak1a⟩ := ha1ak1
      refine ev_cal (σc := (Jg_countBreachesOf_s0 d x1 U1)) (fun _ => rfl) ha1ak1c ?_
      show Ev (am_kz N X) ((d + 1), 19, 78, [some (.inr (.inr 1)), some (.inl x1), some (.inl x2), some (.inl (if 0 ≤ (U1 17 x1.toNat) then (U1 17 x1.toNat) else w32 (-(U1 17 x1.toNat))))], [.inl r2], (am_sh, am_mm U2)) R
      subst ha1ak1a
      exact ev_end 1 (fun _ => rfl)
    have nha1a1 := hc
    clear hc
    by_cases hc : x2 = 2
    · have ha1ak2 := ha1a.2.2.1 hc
      refine ev_sw (off := 55) rfl (by rw [hc]; rfl) (pt := 79) rfl ?_
      refine ev_seg (σ1 := ((d + 1), 19, 81, [some (.inr (.inr 1)), some (.inl x1), some (.inl x2), some (.inl (if 0 ≤ (U1 17 x1.toNat) then (U1 17 x1.toNat) else w32 (-(U1 17 x1.toNat))))], [.inl x1, .inr (.inr 1)], (am_sh, am_mm U1))) 2 (fun _ => rfl) ?_
      obtain ⟨r3, U3, ha1ak2c, ha1ak2a⟩ := ha1ak2
      refine ev_cal (σc := (D_quarrelling_s0 d x1 U1)) (fun _ => rfl) ha1ak2c ?_
      show Ev (am_kz N X) ((d + 1), 19, 84, [some (.inr (.inr 1)), some (.inl x1), some (.inl x2), some (.inl (if 0 ≤ (U1 17 x1.toNat) then (U1 17 x1.toNat) else w32 (-(U1 17 x1.toNat))))], [.inl r3], (am_sh, am_mm U3)) R
      obtain ⟨r4, U4, ha1ak2ac, ha1ak2aa⟩ := ha1ak2a
      refine ev_cal (σc := (In_bitCount_s0 d r3 U3)) (fun _ => rfl) ha1ak2ac ?_
      show Ev (am_kz N X) ((d + 1), 19, 87, [some (.inr (.inr 1)), some (.inl x1), some (.inl x2), some (.inl (if 0 ≤ (U1 17 x1.toNat) then (U1 17 x1.toNat) else w32 (-(U1 17 x1.toNat))))], [.inl r4], (am_sh, am_mm U4)) R
      subst ha1ak2aa
      exact ev_end 1 (fun _ => rfl)
    have nha1a2 := hc
    clear hc
    by_cases hc : x2 = 3
    · have ha1ak3 := ha1a.2.2.2.1 hc
      refine ev_sw (off := 64) rfl (by rw [hc]; rfl) (pt := 88) rfl ?_
      refine ev_seg (σ1 := ((d + 1), 19, 89, [some (.inr (.inr 1)), some (.inl x1), some (.inl x2), some (.inl (if 0 ≤ (U1 17 x1.toNat) then (U1 17 x1.toNat) else w32 (-(U1 17 x1.toNat))))], [.inl (if 0 ≤ (U1 17 x1.toNat) then (U1 17 x1.toNat) else w32 (-(U1 17 x1.toNat)))], (am_sh, am_mm U1))) 1 (fun _ => rfl) ?_
      obtain ⟨r5, U5, ha1ak3c, ha1ak3a⟩ := ha1ak3
      refine ev_cal (σc := (Nm_isPrime_s0 d (if 0 ≤ (U1 17 x1.toNat) then (U1 17 x1.toNat) else w32 (-(U1 17 x1.toNat))) U1)) (fun _ => rfl) ha1ak3c ?_
      show Ev (am_kz N X) ((d + 1), 19, 92, [some (.inr (.inr 1)), some (.inl x1), some (.inl x2), some (.inl (if 0 ≤ (U1 17 x1.toNat) then (U1 17 x1.toNat) else w32 (-(U1 17 x1.toNat))))], [.inl r5], (am_sh, am_mm U5)) R
      refine ev_br (P := r5 = 0) (σ1 := ((d + 1), 19, 99, [some (.inr (.inr 1)), some (.inl x1), some (.inl x2), some (.inl (if 0 ≤ (U1 17 x1.toNat) then (U1 17 x1.toNat) else w32 (-(U1 17 x1.toNat))))], [], (am_sh, am_mm U5))) (σ2 := ((d + 1), 19, 95, [some (.inr (.inr 1)), some (.inl x1), some (.inl x2), some (.inl (if 0 ≤ (U1 17 x1.toNat) then (U1 17 x1.toNat) else w32 (-(U1 17 x1.toNat))))], [], (am_sh, am_mm U5))) 1 (fun _ => rfl) (fun hc => ?_) (fun hc => ?_)
      · have ha1ak3a1 := ha1ak3a.1 hc
        subst ha1ak3a1
        exact ev_end 2 (fun _ => rfl)
      · have ha1ak3a2 := ha1ak3a.2 hc
        subst ha1ak3a2
        exact ev_end 3 (fun _ => rfl)
    have nha1a3 := hc
    clear hc
    by_cases hc : x2 = 4
    · have ha1ak4 := ha1a.2.2.2.2.1 hc
      refine ev_sw (off := 77) rfl (by rw [hc]; rfl) (pt := 101) rfl ?_
      refine ev_seg (σ1 := ((d + 1), 19, 106, [some (.inr (.inr 1)), some (.inl x1), some (.inl x2), some (.inl (if 0 ≤ (U1 17 x1.toNat) then (U1 17 x1.toNat) else w32 (-(U1 17 x1.toNat))))], [.inl x1, .inr (.inr 16)], (am_sh, am_mm U1))) 3 (fun _ => rfl) ?_
      obtain ⟨r6, U6, ha1ak4c, ha1ak4a⟩ := ha1ak4
      refine ev_cal (σc := (Fk_partsFor_s0 d x1 U1)) (fun _ => rfl) ha1ak4c ?_
      show Ev (am_kz N X) ((d + 1), 19, 109, [some (.inr (.inr 1)), some (.inl x1), some (.inl x2), some (.inl (if 0 ≤ (U1 17 x1.toNat) then (U1 17 x1.toNat) else w32 (-(U1 17 x1.toNat))))], [.inr (.inl r6)], (am_sh, am_mm U6)) R
      refine ev_br (P := ¬ (am_lcmp r6 (if 0 ≤ (U1 17 x1.toNat) then (U1 17 x1.toNat) else w32 (-(U1 17 x1.toNat)))) = 0) (σ1 := ((d + 1), 19, 119, [some (.inr (.inr 1)), some (.inl x1), some (.inl x2), some (.inl (if 0 ≤ (U1 17 x1.toNat) then (U1 17 x1.toNat) else w32 (-(U1 17 x1.toNat))))], [], (am_sh, am_mm U6))) (σ2 := ((d + 1), 19, 115, [some (.inr (.inr 1)), some (.inl x1), some (.inl x2), some (.inl (if 0 ≤ (U1 17 x1.toNat) then (U1 17 x1.toNat) else w32 (-(U1 17 x1.toNat))))], [], (am_sh, am_mm U6))) 4 (fun _ => rfl) (fun hc => ?_) (fun hc => ?_)
      · have ha1ak4a1 := ha1ak4a.1 ((am_lc_ne r6 (if 0 ≤ (U1 17 x1.toNat) then (U1 17 x1.toNat) else w32 (-(U1 17 x1.toNat)))).mp hc)
        subst ha1ak4a1
        exact ev_end 2 (fun _ => rfl)
      · have ha1ak4a2 := ha1ak4a.2 ((am_lcn_ne r6 (if 0 ≤ (U1 17 x1.toNat) then (U1 17 x1.toNat) else w32 (-(U1 17 x1.toNat)))).mp hc)
        subst ha1ak4a2
        exact ev_end 3 (fun _ => rfl)
    have nha1a4 := hc
    clear hc
    have ha1akd := ha1a.2.2.2.2.2 ⟨nha1a0, nha1a1, nha1a2, nha1a3, nha1a4⟩
    refine ev_sw (off := 97) rfl (if_pos (by omega)) (pt := 121) rfl ?_
    subst ha1akd
    exact ev_end 2 (fun _ => rfl)
  · have ha2 := ha.2 (Decidable.not_not.mp hc)
    subst ha2
    exact ev_end 2 (fun _ => rfl)
set_option maxRecDepth 8000 in
theorem M_person_r0 {N : Nat} {X : Nat → Int} {d : Nat} {x1 x2 : Int} {U : am_U} {R : Option am_V × am_M} (h : ∃ (r1 : Int) (U1 : am_U), EvK N X (M_isPerson_s0 d x1 U) (rI r1 U1) ∧ ((r1 ≠ 0) → (x2 = 0 → (0 ≤ x1 ∧ x1 < 352) ∧ R = rI (U1 124 x1.toNat) U1) ∧ (x2 = 1 → ∃ (r2 : Int) (U2 : am_U), EvK N X (M_scans_s0 d 0 x1 (-1) U1) (rI r2 U2) ∧ R = rI r2 U2) ∧ (x2 = 2 → EvK N X (M_person_s66 (d + 1) x1 x2 0 0 U1) R) ∧ (x2 = 3 → ∃ (r3 : Int) (U3 : am_U), EvK N X (M_sizeOf_s0 d x1 U1) (rJ r3 U3) ∧ ∃ (r4 : Int) (U4 : am_U), EvK N X (M_isPrime_s0 d r3 U3) (rI r4 U4) ∧ ((r4 = 0) → R = rI 0 U4) ∧ ((r4 ≠ 0) → R = rI 1 U4)) ∧ (x2 = 4 → ∃ (r5 : Int) (U5 : am_U), EvK N X (M_sizeOf_s0 d x1 U1) (rJ r5 U5) ∧ ∃ (r6 : Int) (U6 : am_U), EvK N X (M_partsOf_s0 d r5 U5) (rJ r6 U6) ∧ ∃ (r7 : Int) (U7 : am_U), EvK N X (M_sizeOf_s0 d x1 U6) (rJ r7 U7) ∧ ((r6 ≠ r7) → R = rI 0 U7) ∧ ((r6 = r7) → R = rI 1 U7)) ∧ (¬ x2 = 0 ∧ ¬ x2 = 1 ∧ ¬ x2 = 2 ∧ ¬ x2 = 3 ∧ ¬ x2 = 4 → R = rI (-1) U1)) ∧ ((r1 = 0) → R = rI (-1) U1)) : EvK N X (M_person_s0 (d + 1) x1 x2 U) R := by
  show Ev (am_kz N X) ((d + 1), 20, 0, [some (.inr (.inr 86)), some (.inl x1), some (.inl x2), none, none], [], (am_sh, am_mm U)) R
  refine ev_seg (σ1 := ((d + 1), 20, 2, [some (.inr (.inr 86)), some (.inl x1), some (.inl x2), none, none], [.inl x1, .inr (.inr 86)], (am_sh, am_mm U))) 2 (fun _ => rfl) ?_
  obtain ⟨r1, U1, hc, ha⟩ := h
  refine ev_cal (σc := (M_isPerson_s0 d x1 U)) (fun _ => rfl) hc ?_
  show Ev (am_kz N X) ((d + 1), 20, 5, [some (.inr (.inr 86)), some (.inl x1), some (.inl x2), none, none], [.inl r1], (am_sh, am_mm U1)) R
  refine ev_br (P := ¬ r1 = 0) (σ1 := ((d + 1), 20, 10, [some (.inr (.inr 86)), some (.inl x1), some (.inl x2), none, none], [], (am_sh, am_mm U1))) (σ2 := ((d + 1), 20, 8, [some (.inr (.inr 86)), some (.inl x1), some (.inl x2), none, none], [], (am_sh, am_mm U1))) 1 (fun _ => rfl) (fun hc => ?_) (fun hc => ?_)
  · have ha1 := ha.1 hc
    refine ev_seg (σ1 := ((d + 1), 20, 13, [some (.inr (.inr 86)), some (.inl x1), some (.inl x2), some (.inl 0), none], [.inl x2], (am_sh, am_mm U1))) 3 (fun _ => rfl) ?_
    by_cases hc : x2 = 0
    · have ha1k0 := ha1.1 hc
      refine ev_sw (off := 35) rfl (by rw [hc]; rfl) (pt := 48) rfl ?_
      refine ev_seg (σ1 := ((d + 1), 20, 53, [some (.inr (.inr 86)), some (.inl x1), some (.inl x2), some (.inl 0), none], [.inl x1, .inr (.inr 124)], (am_sh, am_mm U1))) 3 (fun _ => rfl) ?_
      refine eu_iald 124 (n := 352) rfl (by decide) rfl (fun _ => rfl) ha1k0.1 ?_
      show Ev (am_kz N X) ((d + 1), 20, 54, [some (.inr (.inr 86)), some (.inl x1), some (.inl x2), some (.inl 0), none], [.inl (U1 124 x1.toNat)], (am_sh, am_mm U1)) R
      have ha1k0a := ha1k0.2
      subst ha1k0a
      exact ev_end 1 (fun _ => rfl)
    have nha10 := hc
    clear hc
    by_cases hc : x2 = 1
    · have ha1k1 := ha1.2.1 hc
      refine ev_sw (off := 42) rfl (by rw [hc]; rfl) (pt := 55) rfl ?_
      refine ev_seg (σ1 := ((d + 1), 20, 59, [some (.inr (.inr 86)), some (.inl x1), some (.inl x2), some (.inl 0), none], [.inl (-1), .inl x1, .inl 0, .inr (.inr 86)], (am_sh, am_mm U1))) 4 (fun _ => rfl) ?_
      obtain ⟨r2, U2, ha1k1c, ha1k1a⟩ := ha1k1
      refine ev_cal (σc := (M_scans_s0 d 0 x1 (-1) U1)) (fun _ => rfl) ha1k1c ?_
      show Ev (am_kz N X) ((d + 1), 20, 62, [some (.inr (.inr 86)), some (.inl x1), some (.inl x2), some (.inl 0), none], [.inl r2], (am_sh, am_mm U2)) R
      subst ha1k1a
      exact ev_end 1 (fun _ => rfl)
    have nha11 := hc
    clear hc
    by_cases hc : x2 = 2
    · have ha1k2 := ha1.2.2.1 hc
      refine ev_sw (off := 50) rfl (by rw [hc]; rfl) (pt := 63) rfl ?_
      refine ev_seg (σ1 := ((d + 1), 20, 66, [some (.inr (.inr 86)), some (.inl x1), some (.inl x2), some (.inl 0), some (.inl 0)], [], (am_sh, am_mm U1))) 2 (fun _ => rfl) ?_
      exact ha1k2
    have nha12 := hc
    clear hc
    by_cases hc : x2 = 3
    · have ha1k3 := ha1.2.2.2.1 hc
      refine ev_sw (off := 90) rfl (by rw [hc]; rfl) (pt := 103) rfl ?_
      refine ev_seg (σ1 := ((d + 1), 20, 105, [some (.inr (.inr 86)), some (.inl x1), some (.inl x2), some (.inl 0), none], [.inl x1, .inr (.inr 86)], (am_sh, am_mm U1))) 2 (fun _ => rfl) ?_
      obtain ⟨r3, U3, ha1k3c, ha1k3a⟩ := ha1k3
      refine ev_cal (σc := (M_sizeOf_s0 d x1 U1)) (fun _ => rfl) ha1k3c ?_
      show Ev (am_kz N X) ((d + 1), 20, 108, [some (.inr (.inr 86)), some (.inl x1), some (.inl x2), some (.inl 0), none], [.inr (.inl r3)], (am_sh, am_mm U3)) R
      obtain ⟨r4, U4, ha1k3ac, ha1k3aa⟩ := ha1k3a
      refine ev_cal (σc := (M_isPrime_s0 d r3 U3)) (fun _ => rfl) ha1k3ac ?_
      show Ev (am_kz N X) ((d + 1), 20, 111, [some (.inr (.inr 86)), some (.inl x1), some (.inl x2), some (.inl 0), none], [.inl r4], (am_sh, am_mm U4)) R
      refine ev_br (P := r4 = 0) (σ1 := ((d + 1), 20, 118, [some (.inr (.inr 86)), some (.inl x1), some (.inl x2), some (.inl 0), none], [], (am_sh, am_mm U4))) (σ2 := ((d + 1), 20, 114, [some (.inr (.inr 86)), some (.inl x1), some (.inl x2), some (.inl 0), none], [], (am_sh, am_mm U4))) 1 (fun _ => rfl) (fun hc => ?_) (fun hc => ?_)
      · have ha1k3aa1 := ha1k3aa.1 hc
        subst ha1k3aa1
        exact ev_end 2 (fun _ => rfl)
      · have ha1k3aa2 := ha1k3aa.2 hc
        subst ha1k3aa2
        exact ev_end 3 (fun _ => rfl)
    have nha13 := hc
    clear hc
    by_cases hc : x2 = 4
    · have ha1k4 := ha1.2.2.2.2.1 hc
      refine ev_sw (off := 107) rfl (by rw [hc]; rfl) (pt := 120) rfl ?_
      refine ev_seg (σ1 := ((d + 1), 20, 122, [some (.inr (.inr 86)), some (.inl x1), some (.inl x2), some (.inl 0), none], [.inl x1, .inr (.inr 86)], (am_sh, am_mm U1))) 2 (fun _ => rfl) ?_
      obtain ⟨r5, U5, ha1k4c, ha1k4a⟩ := ha1k4
      refine ev_cal (σc := (M_sizeOf_s0 d x1 U1)) (fun _ => rfl) ha1k4c ?_
      show Ev (am_kz N X) ((d + 1), 20, 125, [some (.inr (.inr 86)), some (.inl x1), some (.inl x2), some (.inl 0), none], [.inr (.inl r5)], (am_sh, am_mm U5)) R
      obtain ⟨r6, U6, ha1k4ac, ha1k4aa⟩ := ha1k4a
      refine ev_cal (σc := (M_partsOf_s0 d r5 U5)) (fun _ => rfl) ha1k4ac ?_
      show Ev (am_kz N X) ((d + 1), 20, 128, [some (.inr (.inr 86)), some (.inl x1), some (.inl x2), some (.inl 0), none], [.inr (.inl r6)], (am_sh, am_mm U6)) R
      refine ev_seg (σ1 := ((d + 1), 20, 130, [some (.inr (.inr 86)), some (.inl x1), some (.inl x2), some (.inl 0), none], [.inl x1, .inr (.inr 86), .inr (.inl r6)], (am_sh, am_mm U6))) 2 (fun _ => rfl) ?_
      obtain ⟨r7, U7, ha1k4aac, ha1k4aaa⟩ := ha1k4aa
      refine ev_cal (σc := (M_sizeOf_s0 d x1 U6)) (fun _ => rfl) ha1k4aac ?_
      show Ev (am_kz N X) ((d + 1), 20, 133, [some (.inr (.inr 86)), some (.inl x1), some (.inl x2), some (.inl 0), none], [.inr (.inl r7), .inr (.inl r6)], (am_sh, am_mm U7)) R
      refine ev_br (P := ¬ (am_lcmp r6 r7) = 0) (σ1 := ((d + 1), 20, 141, [some (.inr (.inr 86)), some (.inl x1), some (.inl x2), some (.inl 0), none], [], (am_sh, am_mm U7))) (σ2 := ((d + 1), 20, 137, [some (.inr (.inr 86)), some (.inl x1), some (.inl x2), some (.inl 0), none], [], (am_sh, am_mm U7))) 2 (fun _ => rfl) (fun hc => ?_) (fun hc => ?_)
      · have ha1k4aaa1 := ha1k4aaa.1 ((am_lc_ne r6 r7).mp hc)
        subst ha1k4aaa1
        exact ev_end 2 (fun _ => rfl)
      · have ha1k4aaa2 := ha1k4aaa.2 ((am_lcn_ne r6 r7).mp hc)
        subst ha1k4aaa2
        exact ev_end 3 (fun _ => rfl)
    have nha14 := hc
    clear hc
    have ha1kd := ha1.2.2.2.2.2 ⟨nha10, nha11, nha12, nha13, nha14⟩
    refine ev_sw (off := 130) rfl (if_pos (by omega)) (pt := 143) rfl ?_
    subst ha1kd
    exact ev_end 2 (fun _ => rfl)
  · have ha2 := ha.2 (Decidable.not_not.mp hc)
    subst ha2
    exact ev_end 2 (fun _ => rfl)
set_option maxRecDepth 8000 in
theorem M_person_r66 {N : Nat} {X : Nat → Int} {d : Nat} {x1 x2 x3 x4 : Int} {U : am_U} {R : Option am_V × am_M} (h : (((U 122 0) ≤ x4) → R = rI x3 U) ∧ ((x4 < (U 122 0)) → ∃ (r1 : Int) (U1 : am_U), EvK N X (M_isQuarrel_s0 d x1 x4 U) (rI r1 U1) ∧ ((r1 = 0) → EvK N X (M_person_s66 (d + 1) x1 x2 (w32 (x3 + 0)) (w32 (x4 + 1)) U1) R) ∧ ((r1 ≠ 0) → EvK N X (M_person_s66 (d + 1) x1 x2 (w32 (x3 + 1)) (w32 (x4 + 1)) U1) R))) : EvK N X (M_person_s66 (d + 1) x1 x2 x3 x4 U) R := by
  show Ev (am_kz N X) ((d + 1), 20, 66, [some (.inr (.inr 86)), some (.inl x1), some (.inl x2), some (.inl x3), some (.inl x4)], [], (am_sh, am_mm U)) R
  refine ev_seg (σ1 := ((d + 1), 20, 73, [some (.inr (.inr 86)), some (.inl x1), some (.inl x2), some (.inl x3), some (.inl x4)], [.inl 0, .inr (.inr 122), .inl x4], (am_sh, am_mm U))) 4 (fun _ => rfl) ?_
  refine eu_iald 122 (n := 22) rfl (by decide) rfl (fun _ => rfl) (by decide) ?_
  show Ev (am_kz N X) ((d + 1), 20, 74, [some (.inr (.inr 86)), some (.inl x1), some (.inl x2), some (.inl x3), some (.inl x4)], [.inl (U 122 0), .inl x4], (am_sh, am_mm U)) R
  refine ev_br (P := (U 122 0) ≤ x4) (σ1 := ((d + 1), 20, 101, [some (.inr (.inr 86)), some (.inl x1), some (.inl x2), some (.inl x3), some (.inl x4)], [], (am_sh, am_mm U))) (σ2 := ((d + 1), 20, 77, [some (.inr (.inr 86)), some (.inl x1), some (.inl x2), some (.inl x3), some (.inl x4)], [], (am_sh, am_mm U))) 1 (fun _ => rfl) (fun hc => ?_) (fun hc => ?_)
  · have h1 := h.1 hc
    subst h1
    exact ev_end 2 (fun _ => rfl)
  · have h2 := h.2 (Int.not_le.mp hc)
    refine ev_seg (σ1 := ((d + 1), 20, 82, [some (.inr (.inr 86)), some (.inl x1), some (.inl x2), some (.inl x3), some (.inl x4)], [.inl x4, .inl x1, .inr (.inr 86), .inl x3], (am_sh, am_mm U))) 4 (fun _ => rfl) ?_
    obtain ⟨r1, U1, h2c, h2a⟩ := h2
    refine ev_cal (σc := (M_isQuarrel_s0 d x1 x4 U)) (fun _ => rfl) h2c ?_
    show Ev (am_kz N X) ((d + 1), 20, 85, [some (.inr (.inr 86)), some (.inl x1), some (.inl x2), some (.inl x3), some (.inl x4)], [.inl r1, .inl x3], (am_sh, am_mm U1)) R
    refine ev_br (P := r1 = 0) (σ1 := ((d + 1), 20, 92, [some (.inr (.inr 86)), some (.inl x1), some (.inl x2), some (.inl x3), some (.inl x4)], [.inl x3], (am_sh, am_mm U1))) (σ2 := ((d + 1), 20, 88, [some (.inr (.inr 86)), some (.inl x1), some (.inl x2), some (.inl x3), some (.inl x4)], [.inl x3], (am_sh, am_mm U1))) 1 (fun _ => rfl) (fun hc => ?_) (fun hc => ?_)
    · have h2a1 := h2a.1 hc
      refine ev_seg (σ1 := ((d + 1), 20, 66, [some (.inr (.inr 86)), some (.inl x1), some (.inl x2), some (.inl (w32 (x3 + 0))), some (.inl (w32 (x4 + 1)))], [], (am_sh, am_mm U1))) 5 (fun _ => rfl) ?_
      exact h2a1
    · have h2a2 := h2a.2 hc
      refine ev_seg (σ1 := ((d + 1), 20, 66, [some (.inr (.inr 86)), some (.inl x1), some (.inl x2), some (.inl (w32 (x3 + 1))), some (.inl (w32 (x4 + 1)))], [], (am_sh, am_mm U1))) 6 (fun _ => rfl) ?_
      exact h2a2
set_option maxRecDepth 8000 in
theorem D_breach_r0 {N : Nat} {X : Nat → Int} {d : Nat} {x1 x2 : Int} {U : am_U} {R : Option am_V × am_M} (h : ∃ (r1 : Int) (U1 : am_U), EvK N X (Jg_findBreach_s0 d x1 U) (rI r1 U1) ∧ ((0 ≤ r1) → (x2 = 0 → ∃ (r2 : Int) (U2 : am_U), EvK N X (Jg_lawOf_s0 d r1 U1) (rI r2 U2) ∧ R = rI r2 U2) ∧ (x2 = 1 → ∃ (r3 : Int) (U3 : am_U), EvK N X (Jg_meOf_s0 d r1 U1) (rI r3 U3) ∧ R = rI r3 U3) ∧ (x2 = 2 → ∃ (r4 : Int) (U4 : am_U), EvK N X (Jg_otherOf_s0 d r1 U1) (rI r4 U4) ∧ R = rI r4 U4) ∧ (¬ x2 = 0 ∧ ¬ x2 = 1 ∧ ¬ x2 = 2 → R = rI (-1) U1)) ∧ ((r1 < 0) → R = rI (-1) U1)) : EvK N X (D_breach_s0 (d + 1) x1 x2 U) R := by
  show Ev (am_kz N X) ((d + 1), 21, 0, [some (.inr (.inr 1)), some (.inl x1), some (.inl x2), none], [], (am_sh, am_mm U)) R
  refine ev_seg (σ1 := ((d + 1), 21, 5, [some (.inr (.inr 1)), some (.inl x1), some (.inl x2), none], [.inl x1, .inr (.inr 45)], (am_sh, am_mm U))) 3 (fun _ => rfl) ?_
  obtain ⟨r1, U1, hc, ha⟩ := h
  refine ev_cal (σc := (Jg_findBreach_s0 d x1 U)) (fun _ => rfl) hc ?_
  show Ev (am_kz N X) ((d + 1), 21, 8, [some (.inr (.inr 1)), some (.inl x1), some (.inl x2), none], [.inl r1], (am_sh, am_mm U1)) R
  refine ev_br (P := 0 ≤ r1) (σ1 := ((d + 1), 21, 15, [some (.inr (.inr 1)), some (.inl x1), some (.inl x2), some (.inl r1)], [], (am_sh, am_mm U1))) (σ2 := ((d + 1), 21, 13, [some (.inr (.inr 1)), some (.inl x1), some (.inl x2), some (.inl r1)], [], (am_sh, am_mm U1))) 3 (fun _ => rfl) (fun hc => ?_) (fun hc => ?_)
  · have ha1 := ha.1 hc
    refine ev_seg (σ1 := ((d + 1), 21, 16, [some (.inr (.inr 1)), some (.inl x1), some (.inl x2), some (.inl r1)], [.inl x2], (am_sh, am_mm U1))) 1 (fun _ => rfl) ?_
    by_cases hc : x2 = 0
    · have ha1k0 := ha1.1 hc
      refine ev_sw (off := 28) rfl (by rw [hc]; rfl) (pt := 44) rfl ?_
      refine ev_seg (σ1 := ((d + 1), 21, 45, [some (.inr (.inr 1)), some (.inl x1), some (.inl x2), some (.inl r1)], [.inl r1], (am_sh, am_mm U1))) 1 (fun _ => rfl) ?_
      obtain ⟨r2, U2, ha1k0c, ha1k0a⟩ := ha1k0
      refine ev_cal (σc := (Jg_lawOf_s0 d r1 U1)) (fun _ => rfl) ha1k0c ?_
      show Ev (am_kz N X) ((d + 1), 21, 48, [some (.inr (.inr 1)), some (.inl x1), some (.inl x2), some (.inl r1)], [.inl r2], (am_sh, am_mm U2)) R
      subst ha1k0a
      exact ev_end 1 (fun _ => rfl)
    have nha10 := hc
    clear hc
    by_cases hc : x2 = 1
    · have ha1k1 := ha1.2.1 hc
      refine ev_sw (off := 33) rfl (by rw [hc]; rfl) (pt := 49) rfl ?_
      refine ev_seg (σ1 := ((d + 1), 21, 50, [some (.inr (.inr 1)), some (.inl x1), some (.inl x2), some (.inl r1)], [.inl r1], (am_sh, am_mm U1))) 1 (fun _ => rfl) ?_
      obtain ⟨r3, U3, ha1k1c, ha1k1a⟩ := ha1k1
      refine ev_cal (σc := (Jg_meOf_s0 d r1 U1)) (fun _ => rfl) ha1k1c ?_
      show Ev (am_kz N X) ((d + 1), 21, 53, [some (.inr (.inr 1)), some (.inl x1), some (.inl x2), some (.inl r1)], [.inl r3], (am_sh, am_mm U3)) R
      subst ha1k1a
      exact ev_end 1 (fun _ => rfl)
    have nha11 := hc
    clear hc
    by_cases hc : x2 = 2
    · have ha1k2 := ha1.2.2.1 hc
      refine ev_sw (off := 38) rfl (by rw [hc]; rfl) (pt := 54) rfl ?_
      refine ev_seg (σ1 := ((d + 1), 21, 55, [some (.inr (.inr 1)), some (.inl x1), some (.inl x2), some (.inl r1)], [.inl r1], (am_sh, am_mm U1))) 1 (fun _ => rfl) ?_
      obtain ⟨r4, U4, ha1k2c, ha1k2a⟩ := ha1k2
      refine ev_cal (σc := (Jg_otherOf_s0 d r1 U1)) (fun _ => rfl) ha1k2c ?_
      show Ev (am_kz N X) ((d + 1), 21, 58, [some (.inr (.inr 1)), some (.inl x1), some (.inl x2), some (.inl r1)], [.inl r4], (am_sh, am_mm U4)) R
      subst ha1k2a
      exact ev_end 1 (fun _ => rfl)
    have nha12 := hc
    clear hc
    have ha1kd := ha1.2.2.2 ⟨nha10, nha11, nha12⟩
    refine ev_sw (off := 43) rfl (if_pos (by omega)) (pt := 59) rfl ?_
    subst ha1kd
    exact ev_end 2 (fun _ => rfl)
  · have ha2 := ha.2 (Int.not_le.mp hc)
    subst ha2
    exact ev_end 2 (fun _ => rfl)
set_option maxRecDepth 8000 in
theorem M_breach_r0 {N : Nat} {X : Nat → Int} {d : Nat} {x1 x2 : Int} {U : am_U} {R : Option am_V × am_M} (h : ((x1 < 0) → R = rI (-1) U) ∧ ((0 ≤ x1) → ∃ (r1 : Int) (U1 : am_U), EvK N X (M_is_s0 d x2 0 2 U) (rI r1 U1) ∧ ((r1 = 0) → R = rI (-1) U1) ∧ ((r1 ≠ 0) → ∃ (r2 : Int) (U2 : am_U), EvK N X (M_scans_s0 d 0 (-1) x1 U1) (rI r2 U2) ∧ ((x1 < r2) → ((x2 ≠ 0) → ((x2 ≠ 1) → R = rI (U2 86 66) U2) ∧ ((x2 = 1) → R = rI (U2 86 65) U2)) ∧ ((x2 = 0) → R = rI (U2 86 64) U2)) ∧ ((r2 ≤ x1) → R = rI (-1) U2)))) : EvK N X (M_breach_s0 (d + 1) x1 x2 U) R := by
  show Ev (am_kz N X) ((d + 1), 22, 0, [some (.inr (.inr 86)), some (.inl x1), some (.inl x2)], [], (am_sh, am_mm U)) R
  refine ev_br (P := x1 < 0) (σ1 := ((d + 1), 22, 24, [some (.inr (.inr 86)), some (.inl x1), some (.inl x2)], [], (am_sh, am_mm U))) (σ2 := ((d + 1), 22, 4, [some (.inr (.inr 86)), some (.inl x1), some (.inl x2)], [], (am_sh, am_mm U))) 2 (fun _ => rfl) (fun hc => ?_) (fun hc => ?_)
  · have h1 := h.1 hc
    subst h1
    exact ev_end 2 (fun _ => rfl)
  · have h2 := h.2 (Int.not_lt.mp hc)
    refine ev_seg (σ1 := ((d + 1), 22, 7, [some (.inr (.inr 86)), some (.inl x1), some (.inl x2)], [.inl 2, .inl 0, .inl x2], (am_sh, am_mm U))) 3 (fun _ => rfl) ?_
    obtain ⟨r1, U1, h2c, h2a⟩ := h2
    refine ev_cal (σc := (M_is_s0 d x2 0 2 U)) (fun _ => rfl) h2c ?_
    show Ev (am_kz N X) ((d + 1), 22, 10, [some (.inr (.inr 86)), some (.inl x1), some (.inl x2)], [.inl r1], (am_sh, am_mm U1)) R
    refine ev_br (P := r1 = 0) (σ1 := ((d + 1), 22, 24, [some (.inr (.inr 86)), some (.inl x1), some (.inl x2)], [], (am_sh, am_mm U1))) (σ2 := ((d + 1), 22, 13, [some (.inr (.inr 86)), some (.inl x1), some (.inl x2)], [], (am_sh, am_mm U1))) 1 (fun _ => rfl) (fun hc => ?_) (fun hc => ?_)
    · have h2a1 := h2a.1 hc
      subst h2a1
      exact ev_end 2 (fun _ => rfl)
    · have h2a2 := h2a.2 hc
      refine ev_seg (σ1 := ((d + 1), 22, 17, [some (.inr (.inr 86)), some (.inl x1), some (.inl x2)], [.inl x1, .inl (-1), .inl 0, .inr (.inr 86)], (am_sh, am_mm U1))) 4 (fun _ => rfl) ?_
      obtain ⟨r2, U2, h2a2c, h2a2a⟩ := h2a2
      refine ev_cal (σc := (M_scans_s0 d 0 (-1) x1 U1)) (fun _ => rfl) h2a2c ?_
      show Ev (am_kz N X) ((d + 1), 22, 20, [some (.inr (.inr 86)), some (.inl x1), some (.inl x2)], [.inl r2], (am_sh, am_mm U2)) R
      refine ev_br (P := x1 < r2) (σ1 := ((d + 1), 22, 26, [some (.inr (.inr 86)), some (.inl x1), some (.inl x2)], [], (am_sh, am_mm U2))) (σ2 := ((d + 1), 22, 24, [some (.inr (.inr 86)), some (.inl x1), some (.inl x2)], [], (am_sh, am_mm U2))) 2 (fun _ => rfl) (fun hc => ?_) (fun hc => ?_)
      · have h2a2a1 := h2a2a.1 hc
        refine ev_br (P := ¬ x2 = 0) (σ1 := ((d + 1), 22, 37, [some (.inr (.inr 86)), some (.inl x1), some (.inl x2)], [], (am_sh, am_mm U2))) (σ2 := ((d + 1), 22, 30, [some (.inr (.inr 86)), some (.inl x1), some (.inl x2)], [], (am_sh, am_mm U2))) 2 (fun _ => rfl) (fun hc => ?_) (fun hc => ?_)
        · have h2a2a11 := h2a2a1.1 hc
          refine ev_br (P := ¬ x2 = 1) (σ1 := ((d + 1), 22, 49, [some (.inr (.inr 86)), some (.inl x1), some (.inl x2)], [], (am_sh, am_mm U2))) (σ2 := ((d + 1), 22, 42, [some (.inr (.inr 86)), some (.inl x1), some (.inl x2)], [], (am_sh, am_mm U2))) 3 (fun _ => rfl) (fun hc => ?_) (fun hc => ?_)
          · have h2a2a111 := h2a2a11.1 hc
            subst h2a2a111
            exact ev_end 3 (fun _ => rfl)
          · have h2a2a112 := h2a2a11.2 (Decidable.not_not.mp hc)
            subst h2a2a112
            exact ev_end 4 (fun _ => rfl)
        · have h2a2a12 := h2a2a1.2 (Decidable.not_not.mp hc)
          subst h2a2a12
          exact ev_end 4 (fun _ => rfl)
      · have h2a2a2 := h2a2a.2 (Int.not_lt.mp hc)
        subst h2a2a2
        exact ev_end 2 (fun _ => rfl)
set_option maxRecDepth 8000 in
theorem D_may_r0 {N : Nat} {X : Nat → Int} {d : Nat} {x1 x2 : Int} {U : am_U} {R : Option am_V × am_M} (h : ∃ (r1 : Int) (U1 : am_U), EvK N X (D_isPerson_s0 d x1 U) (rI r1 U1) ∧ ((r1 = 0) → R = rI (-1) U1) ∧ ((r1 ≠ 0) → ∃ (r2 : Int) (U2 : am_U), EvK N X (D_isHouse_s0 d x2 U1) (rI r2 U2) ∧ ((r2 ≠ 0) → ∃ (r3 : Int) (U3 : am_U), EvK N X (Jg_mayLive_s0 d x1 x2 U2) (rI r3 U3) ∧ ((r3 = 0) → R = rI 0 U3) ∧ ((r3 ≠ 0) → R = rI 1 U3)) ∧ ((r2 = 0) → R = rI (-1) U2))) : EvK N X (D_may_s0 (d + 1) x1 x2 U) R := by
  show Ev (am_kz N X) ((d + 1), 23, 0, [some (.inr (.inr 1)), some (.inl x1), some (.inl x2)], [], (am_sh, am_mm U)) R
  refine ev_seg (σ1 := ((d + 1), 23, 2, [some (.inr (.inr 1)), some (.inl x1), some (.inl x2)], [.inl x1, .inr (.inr 1)], (am_sh, am_mm U))) 2 (fun _ => rfl) ?_
  obtain ⟨r1, U1, hc, ha⟩ := h
  refine ev_cal (σc := (D_isPerson_s0 d x1 U)) (fun _ => rfl) hc ?_
  show Ev (am_kz N X) ((d + 1), 23, 5, [some (.inr (.inr 1)), some (.inl x1), some (.inl x2)], [.inl r1], (am_sh, am_mm U1)) R
  refine ev_br (P := r1 = 0) (σ1 := ((d + 1), 23, 16, [some (.inr (.inr 1)), some (.inl x1), some (.inl x2)], [], (am_sh, am_mm U1))) (σ2 := ((d + 1), 23, 8, [some (.inr (.inr 1)), some (.inl x1), some (.inl x2)], [], (am_sh, am_mm U1))) 1 (fun _ => rfl) (fun hc => ?_) (fun hc => ?_)
  · have ha1 := ha.1 hc
    subst ha1
    exact ev_end 2 (fun _ => rfl)
  · have ha2 := ha.2 hc
    refine ev_seg (σ1 := ((d + 1), 23, 10, [some (.inr (.inr 1)), some (.inl x1), some (.inl x2)], [.inl x2, .inr (.inr 1)], (am_sh, am_mm U1))) 2 (fun _ => rfl) ?_
    obtain ⟨r2, U2, ha2c, ha2a⟩ := ha2
    refine ev_cal (σc := (D_isHouse_s0 d x2 U1)) (fun _ => rfl) ha2c ?_
    show Ev (am_kz N X) ((d + 1), 23, 13, [some (.inr (.inr 1)), some (.inl x1), some (.inl x2)], [.inl r2], (am_sh, am_mm U2)) R
    refine ev_br (P := ¬ r2 = 0) (σ1 := ((d + 1), 23, 18, [some (.inr (.inr 1)), some (.inl x1), some (.inl x2)], [], (am_sh, am_mm U2))) (σ2 := ((d + 1), 23, 16, [some (.inr (.inr 1)), some (.inl x1), some (.inl x2)], [], (am_sh, am_mm U2))) 1 (fun _ => rfl) (fun hc => ?_) (fun hc => ?_)
    · have ha2a1 := ha2a.1 hc
      refine ev_seg (σ1 := ((d + 1), 23, 24, [some (.inr (.inr 1)), some (.inl x1), some (.inl x2)], [.inl x2, .inl x1, .inr (.inr 45)], (am_sh, am_mm U2))) 4 (fun _ => rfl) ?_
      obtain ⟨r3, U3, ha2a1c, ha2a1a⟩ := ha2a1
      refine ev_cal (σc := (Jg_mayLive_s0 d x1 x2 U2)) (fun _ => rfl) ha2a1c ?_
      show Ev (am_kz N X) ((d + 1), 23, 27, [some (.inr (.inr 1)), some (.inl x1), some (.inl x2)], [.inl r3], (am_sh, am_mm U3)) R
      refine ev_br (P := r3 = 0) (σ1 := ((d + 1), 23, 34, [some (.inr (.inr 1)), some (.inl x1), some (.inl x2)], [], (am_sh, am_mm U3))) (σ2 := ((d + 1), 23, 30, [some (.inr (.inr 1)), some (.inl x1), some (.inl x2)], [], (am_sh, am_mm U3))) 1 (fun _ => rfl) (fun hc => ?_) (fun hc => ?_)
      · have ha2a1a1 := ha2a1a.1 hc
        subst ha2a1a1
        exact ev_end 2 (fun _ => rfl)
      · have ha2a1a2 := ha2a1a.2 hc
        subst ha2a1a2
        exact ev_end 3 (fun _ => rfl)
    · have ha2a2 := ha2a.2 (Decidable.not_not.mp hc)
      subst ha2a2
      exact ev_end 2 (fun _ => rfl)
set_option maxRecDepth 8000 in
theorem M_may_r0 {N : Nat} {X : Nat → Int} {d : Nat} {x1 x2 : Int} {U : am_U} {R : Option am_V × am_M} (h : ∃ (r1 : Int) (U1 : am_U), EvK N X (M_isPerson_s0 d x1 U) (rI r1 U1) ∧ ((r1 = 0) → R = rI (-1) U1) ∧ ((r1 ≠ 0) → ∃ (r2 : Int) (U2 : am_U), EvK N X (M_isHouse_s0 d x2 U1) (rI r2 U2) ∧ ((r2 ≠ 0) → ∃ (r3 : Int) (U3 : am_U), EvK N X (M_mayLive_s0 d 0 x1 x2 U2) (rI r3 U3) ∧ ((r3 = 0) → R = rI 0 U3) ∧ ((r3 ≠ 0) → R = rI 1 U3)) ∧ ((r2 = 0) → R = rI (-1) U2))) : EvK N X (M_may_s0 (d + 1) x1 x2 U) R := by
  show Ev (am_kz N X) ((d + 1), 24, 0, [some (.inr (.inr 86)), some (.inl x1), some (.inl x2)], [], (am_sh, am_mm U)) R
  refine ev_seg (σ1 := ((d + 1), 24, 2, [some (.inr (.inr 86)), some (.inl x1), some (.inl x2)], [.inl x1, .inr (.inr 86)], (am_sh, am_mm U))) 2 (fun _ => rfl) ?_
  obtain ⟨r1, U1, hc, ha⟩ := h
  refine ev_cal (σc := (M_isPerson_s0 d x1 U)) (fun _ => rfl) hc ?_
  show Ev (am_kz N X) ((d + 1), 24, 5, [some (.inr (.inr 86)), some (.inl x1), some (.inl x2)], [.inl r1], (am_sh, am_mm U1)) R
  refine ev_br (P := r1 = 0) (σ1 := ((d + 1), 24, 16, [some (.inr (.inr 86)), some (.inl x1), some (.inl x2)], [], (am_sh, am_mm U1))) (σ2 := ((d + 1), 24, 8, [some (.inr (.inr 86)), some (.inl x1), some (.inl x2)], [], (am_sh, am_mm U1))) 1 (fun _ => rfl) (fun hc => ?_) (fun hc => ?_)
  · have ha1 := ha.1 hc
    subst ha1
    exact ev_end 3 (fun _ => rfl)
  · have ha2 := ha.2 hc
    refine ev_seg (σ1 := ((d + 1), 24, 10, [some (.inr (.inr 86)), some (.inl x1), some (.inl x2)], [.inl x2, .inr (.inr 86)], (am_sh, am_mm U1))) 2 (fun _ => rfl) ?_
    obtain ⟨r2, U2, ha2c, ha2a⟩ := ha2
    refine ev_cal (σc := (M_isHouse_s0 d x2 U1)) (fun _ => rfl) ha2c ?_
    show Ev (am_kz N X) ((d + 1), 24, 13, [some (.inr (.inr 86)), some (.inl x1), some (.inl x2)], [.inl r2], (am_sh, am_mm U2)) R
    refine ev_br (P := ¬ r2 = 0) (σ1 := ((d + 1), 24, 20, [some (.inr (.inr 86)), some (.inl x1), some (.inl x2)], [], (am_sh, am_mm U2))) (σ2 := ((d + 1), 24, 16, [some (.inr (.inr 86)), some (.inl x1), some (.inl x2)], [], (am_sh, am_mm U2))) 1 (fun _ => rfl) (fun hc => ?_) (fun hc => ?_)
    · have ha2a1 := ha2a.1 hc
      refine ev_seg (σ1 := ((d + 1), 24, 24, [some (.inr (.inr 86)), some (.inl x1), some (.inl x2)], [.inl x2, .inl x1, .inl 0, .inr (.inr 86)], (am_sh, am_mm U2))) 4 (fun _ => rfl) ?_
      obtain ⟨r3, U3, ha2a1c, ha2a1a⟩ := ha2a1
      refine ev_cal (σc := (M_mayLive_s0 d 0 x1 x2 U2)) (fun _ => rfl) ha2a1c ?_
      show Ev (am_kz N X) ((d + 1), 24, 27, [some (.inr (.inr 86)), some (.inl x1), some (.inl x2)], [.inl r3], (am_sh, am_mm U3)) R
      refine ev_br (P := r3 = 0) (σ1 := ((d + 1), 24, 34, [some (.inr (.inr 86)), some (.inl x1), some (.inl x2)], [], (am_sh, am_mm U3))) (σ2 := ((d + 1), 24, 30, [some (.inr (.inr 86)), some (.inl x1), some (.inl x2)], [], (am_sh, am_mm U3))) 1 (fun _ => rfl) (fun hc => ?_) (fun hc => ?_)
      · have ha2a1a1 := ha2a1a.1 hc
        subst ha2a1a1
        exact ev_end 2 (fun _ => rfl)
      · have ha2a1a2 := ha2a1a.2 hc
        subst ha2a1a2
        exact ev_end 3 (fun _ => rfl)
    · have ha2a2 := ha2a.2 (Decidable.not_not.mp hc)
      subst ha2a2
      exact ev_end 3 (fun _ => rfl)
set_option maxRecDepth 8000 in
theorem D_placed_r0 {N : Nat} {X : Nat → Int} {d : Nat} {x1 : Int} {U : am_U} {R : Option am_V × am_M} (h : ∃ U1 : am_U, EvK N X (Pl_look_s0 d U) (rV U1) ∧ ∃ (r2 : Int) (U2 : am_U), EvK N X (Pl_tellOf_s0 d x1 U1) (rI r2 U2) ∧ R = rI r2 U2) : EvK N X (D_placed_s0 (d + 1) x1 U) R := by
  show Ev (am_kz N X) ((d + 1), 25, 0, [some (.inr (.inr 1)), some (.inl x1)], [], (am_sh, am_mm U)) R
  refine ev_seg (σ1 := ((d + 1), 25, 4, [some (.inr (.inr 1)), some (.inl x1)], [.inr (.inr 48)], (am_sh, am_mm U))) 2 (fun _ => rfl) ?_
  obtain ⟨U1, hc, ha⟩ := h
  refine ev_cal (σc := (Pl_look_s0 d U)) (fun _ => rfl) hc ?_
  show Ev (am_kz N X) ((d + 1), 25, 7, [some (.inr (.inr 1)), some (.inl x1)], [], (am_sh, am_mm U1)) R
  refine ev_seg (σ1 := ((d + 1), 25, 12, [some (.inr (.inr 1)), some (.inl x1)], [.inl x1, .inr (.inr 48)], (am_sh, am_mm U1))) 3 (fun _ => rfl) ?_
  obtain ⟨r2, U2, hac, haa⟩ := ha
  refine ev_cal (σc := (Pl_tellOf_s0 d x1 U1)) (fun _ => rfl) hac ?_
  show Ev (am_kz N X) ((d + 1), 25, 15, [some (.inr (.inr 1)), some (.inl x1)], [.inl r2], (am_sh, am_mm U2)) R
  subst haa
  exact ev_end 1 (fun _ => rfl)
set_option maxRecDepth 8000 in
theorem M_placed_r0 {N : Nat} {X : Nat → Int} {d : Nat} {x1 : Int} {U : am_U} {R : Option am_V × am_M} (h : EvK N X (M_placed_s7 (d + 1) x1 0 (am_upd U 86 70 0)) R) : EvK N X (M_placed_s0 (d + 1) x1 U) R := by
  show Ev (am_kz N X) ((d + 1), 26, 0, [some (.inr (.inr 86)), some (.inl x1), none], [], (am_sh, am_mm U)) R
  refine ev_seg (σ1 := ((d + 1), 26, 2, [some (.inr (.inr 86)), some (.inl x1), none], [.inl 0, .inr (.inr 86)], (am_sh, am_mm U))) 2 (fun _ => rfl) ?_
  refine eu_puti 86 (n := 90) rfl (by decide) rfl rfl ?_
  show Ev (am_kz N X) ((d + 1), 26, 5, [some (.inr (.inr 86)), some (.inl x1), none], [], (am_sh, am_mm (am_upd U 86 70 0))) R
  refine ev_seg (σ1 := ((d + 1), 26, 7, [some (.inr (.inr 86)), some (.inl x1), some (.inl 0)], [], (am_sh, am_mm (am_upd U 86 70 0)))) 2 (fun _ => rfl) ?_
  exact h
set_option maxRecDepth 8000 in
theorem M_placed_r7 {N : Nat} {X : Nat → Int} {d : Nat} {x1 x2 : Int} {U : am_U} {R : Option am_V × am_M} (h : (((U 122 0) ≤ x2) → ((x1 = (-1)) → (((U 86 70) ≤ 3) → ∃ (r1 : Int) (U1 : am_U), EvK N X (M_places_s0 d U) (rI r1 U1) ∧ ((r1 = (-1)) → R = rI r1 U1) ∧ ((r1 ≠ (-1)) → R = rI r1 U1)) ∧ ((3 < (U 86 70)) → R = rI (-1) U)) ∧ ((x1 ≠ (-1)) → ∃ (r2 : Int) (U2 : am_U), EvK N X (M_isPerson_s0 d x1 U) (rI r2 U2) ∧ ((r2 = 0) → R = rI (-1) U2) ∧ ((r2 ≠ 0) → (0 ≤ x1 ∧ x1 < 352) ∧ (((U2 124 x1.toNat) ≠ (-1)) → R = rI (-1) U2) ∧ (((U2 124 x1.toNat) = (-1)) → (((U2 86 70) ≤ 3) → ∃ (r3 : Int) (U3 : am_U), EvK N X (M_places_s0 d U2) (rI r3 U3) ∧ ((r3 = (-1)) → R = rI r3 U3) ∧ ((r3 ≠ (-1)) → (0 ≤ x1 ∧ x1 < 16) ∧ (((U3 127 x1.toNat) ≠ (-1)) → R = rI (U3 127 x1.toNat) U3) ∧ (((U3 127 x1.toNat) = (-1)) → R = rI 20 U3))) ∧ ((3 < (U2 86 70)) → R = rI (-1) U2))))) ∧ ((x2 < (U 122 0)) → (0 ≤ x2 ∧ x2 < 352) ∧ (((U 124 x2.toNat) = (-1)) → (0 ≤ (U 86 70) ∧ (U 86 70) < 16) ∧ EvK N X (M_placed_s7 (d + 1) x1 (w32 (x2 + 1)) (am_upd (am_upd U 126 ((U 86 70).toNat) x2) 86 70 (w32 ((U 86 70) + 1)))) R) ∧ (((U 124 x2.toNat) ≠ (-1)) → EvK N X (M_placed_s7 (d + 1) x1 (w32 (x2 + 1)) U) R))) : EvK N X (M_placed_s7 (d + 1) x1 x2 U) R := by
  show Ev (am_kz N X) ((d + 1), 26, 7, [some (.inr (.inr 86)), some (.inl x1), some (.inl x2)], [], (am_sh, am_mm U)) R
  refine ev_seg (σ1 := ((d + 1), 26, 13, [some (.inr (.inr 86)), some (.inl x1), some (.inl x2)], [.inl 0, .inr (.inr 122), .inl x2], (am_sh, am_mm U))) 4 (fun _ => rfl) ?_
  refine eu_iald 122 (n := 22) rfl (by decide) rfl (fun _ => rfl) (by decide) ?_
  show Ev (am_kz N X) ((d + 1), 26, 14, [some (.inr (.inr 86)), some (.inl x1), some (.inl x2)], [.inl (U 122 0), .inl x2], (am_sh, am_mm U)) R
  refine ev_br (P := (U 122 0) ≤ x2) (σ1 := ((d + 1), 26, 56, [some (.inr (.inr 86)), some (.inl x1), some (.inl x2)], [], (am_sh, am_mm U))) (σ2 := ((d + 1), 26, 17, [some (.inr (.inr 86)), some (.inl x1), some (.inl x2)], [], (am_sh, am_mm U))) 1 (fun _ => rfl) (fun hc => ?_) (fun hc => ?_)
  · have h1 := h.1 hc
    refine ev_br (P := x1 = (-1)) (σ1 := ((d + 1), 26, 79, [some (.inr (.inr 86)), some (.inl x1), some (.inl x2)], [], (am_sh, am_mm U))) (σ2 := ((d + 1), 26, 61, [some (.inr (.inr 86)), some (.inl x1), some (.inl x2)], [], (am_sh, am_mm U))) 3 (fun _ => rfl) (fun hc => ?_) (fun hc => ?_)
    · have h11 := h1.1 hc
      have h1q := hc
      refine ev_br (P := (U 86 70) ≤ 3) (σ1 := ((d + 1), 26, 89, [some (.inr (.inr 86)), some (.inl x1), some (.inl x2)], [], (am_sh, am_mm U))) (σ2 := ((d + 1), 26, 87, [some (.inr (.inr 86)), some (.inl x1), some (.inl x2)], [], (am_sh, am_mm U))) 4 (fun _ => rfl) (fun hc => ?_) (fun hc => ?_)
      · have h111 := h11.1 hc
        refine ev_seg (σ1 := ((d + 1), 26, 90, [some (.inr (.inr 86)), some (.inl x1), some (.inl x2)], [.inr (.inr 86)], (am_sh, am_mm U))) 1 (fun _ => rfl) ?_
        obtain ⟨r1, U1, h111c, h111a⟩ := h111
        refine ev_cal (σc := (M_places_s0 d U)) (fun _ => rfl) h111c ?_
        show Ev (am_kz N X) ((d + 1), 26, 93, [some (.inr (.inr 86)), some (.inl x1), some (.inl x2)], [.inl r1], (am_sh, am_mm U1)) R
        refine ev_br (P := r1 = (-1)) (σ1 := ((d + 1), 26, 104, [some (.inr (.inr 86)), some (.inl x1), some (.inl r1)], [], (am_sh, am_mm U1))) (σ2 := ((d + 1), 26, 99, [some (.inr (.inr 86)), some (.inl x1), some (.inl r1)], [], (am_sh, am_mm U1))) 4 (fun _ => rfl) (fun hc => ?_) (fun hc => ?_)
        · have h111a1 := h111a.1 hc
          subst h111a1
          exact ev_end 2 (fun _ => rfl)
        · have h111a2 := h111a.2 hc
          refine ev_br (P := ¬ x1 = (-1)) (σ1 := ((d + 1), 26, 106, [some (.inr (.inr 86)), some (.inl x1), some (.inl r1)], [], (am_sh, am_mm U1))) (σ2 := ((d + 1), 26, 104, [some (.inr (.inr 86)), some (.inl x1), some (.inl r1)], [], (am_sh, am_mm U1))) 3 (fun _ => rfl) (fun hc => absurd h1q (fun h0 => by have h1 := hc; omega)) (fun hc => ?_)
          subst h111a2
          exact ev_end 2 (fun _ => rfl)
      · have h112 := h11.2 (Int.not_le.mp hc)
        subst h112
        exact ev_end 2 (fun _ => rfl)
    · have h12 := h1.2 hc
      have h1q := hc
      refine ev_seg (σ1 := ((d + 1), 26, 63, [some (.inr (.inr 86)), some (.inl x1), some (.inl x2)], [.inl x1, .inr (.inr 86)], (am_sh, am_mm U))) 2 (fun _ => rfl) ?_
      obtain ⟨r2, U2, h12c, h12a⟩ := h12
      refine ev_cal (σc := (M_isPerson_s0 d x1 U)) (fun _ => rfl) h12c ?_
      show Ev (am_kz N X) ((d + 1), 26, 66, [some (.inr (.inr 86)), some (.inl x1), some (.inl x2)], [.inl r2], (am_sh, am_mm U2)) R
      refine ev_br (P := r2 = 0) (σ1 := ((d + 1), 26, 87, [some (.inr (.inr 86)), some (.inl x1), some (.inl x2)], [], (am_sh, am_mm U2))) (σ2 := ((d + 1), 26, 69, [some (.inr (.inr 86)), some (.inl x1), some (.inl x2)], [], (am_sh, am_mm U2))) 1 (fun _ => rfl) (fun hc => ?_) (fun hc => ?_)
      · have h12a1 := h12a.1 hc
        subst h12a1
        exact ev_end 2 (fun _ => rfl)
      · have h12a2 := h12a.2 hc
        refine ev_seg (σ1 := ((d + 1), 26, 74, [some (.inr (.inr 86)), some (.inl x1), some (.inl x2)], [.inl x1, .inr (.inr 124)], (am_sh, am_mm U2))) 3 (fun _ => rfl) ?_
        refine eu_iald 124 (n := 352) rfl (by decide) rfl (fun _ => rfl) h12a2.1 ?_
        show Ev (am_kz N X) ((d + 1), 26, 75, [some (.inr (.inr 86)), some (.inl x1), some (.inl x2)], [.inl (U2 124 x1.toNat)], (am_sh, am_mm U2)) R
        have h12a2a := h12a2.2
        refine ev_br (P := ¬ (U2 124 x1.toNat) = (-1)) (σ1 := ((d + 1), 26, 87, [some (.inr (.inr 86)), some (.inl x1), some (.inl x2)], [], (am_sh, am_mm U2))) (σ2 := ((d + 1), 26, 79, [some (.inr (.inr 86)), some (.inl x1), some (.inl x2)], [], (am_sh, am_mm U2))) 2 (fun _ => rfl) (fun hc => ?_) (fun hc => ?_)
        · have h12a2a1 := h12a2a.1 hc
          subst h12a2a1
          exact ev_end 2 (fun _ => rfl)
        · have h12a2a2 := h12a2a.2 (Decidable.not_not.mp hc)
          refine ev_br (P := (U2 86 70) ≤ 3) (σ1 := ((d + 1), 26, 89, [some (.inr (.inr 86)), some (.inl x1), some (.inl x2)], [], (am_sh, am_mm U2))) (σ2 := ((d + 1), 26, 87, [some (.inr (.inr 86)), some (.inl x1), some (.inl x2)], [], (am_sh, am_mm U2))) 4 (fun _ => rfl) (fun hc => ?_) (fun hc => ?_)
          · have h12a2a21 := h12a2a2.1 hc
            refine ev_seg (σ1 := ((d + 1), 26, 90, [some (.inr (.inr 86)), some (.inl x1), some (.inl x2)], [.inr (.inr 86)], (am_sh, am_mm U2))) 1 (fun _ => rfl) ?_
            obtain ⟨r3, U3, h12a2a21c, h12a2a21a⟩ := h12a2a21
            refine ev_cal (σc := (M_places_s0 d U2)) (fun _ => rfl) h12a2a21c ?_
            show Ev (am_kz N X) ((d + 1), 26, 93, [some (.inr (.inr 86)), some (.inl x1), some (.inl x2)], [.inl r3], (am_sh, am_mm U3)) R
            refine ev_br (P := r3 = (-1)) (σ1 := ((d + 1), 26, 104, [some (.inr (.inr 86)), some (.inl x1), some (.inl r3)], [], (am_sh, am_mm U3))) (σ2 := ((d + 1), 26, 99, [some (.inr (.inr 86)), some (.inl x1), some (.inl r3)], [], (am_sh, am_mm U3))) 4 (fun _ => rfl) (fun hc => ?_) (fun hc => ?_)
            · have h12a2a21a1 := h12a2a21a.1 hc
              subst h12a2a21a1
              exact ev_end 2 (fun _ => rfl)
            · have h12a2a21a2 := h12a2a21a.2 hc
              refine ev_br (P := ¬ x1 = (-1)) (σ1 := ((d + 1), 26, 106, [some (.inr (.inr 86)), some (.inl x1), some (.inl r3)], [], (am_sh, am_mm U3))) (σ2 := ((d + 1), 26, 104, [some (.inr (.inr 86)), some (.inl x1), some (.inl r3)], [], (am_sh, am_mm U3))) 3 (fun _ => rfl) (fun hc => ?_) (fun hc => absurd h1q (fun h0 => by have h1 := (Decidable.not_not.mp hc); omega))
              refine ev_seg (σ1 := ((d + 1), 26, 111, [some (.inr (.inr 86)), some (.inl x1), some (.inl r3)], [.inl x1, .inr (.inr 127)], (am_sh, am_mm U3))) 3 (fun _ => rfl) ?_
              refine eu_iald 127 (n := 16) rfl (by decide) rfl (fun _ => rfl) h12a2a21a2.1 ?_
              show Ev (am_kz N X) ((d + 1), 26, 112, [some (.inr (.inr 86)), some (.inl x1), some (.inl r3)], [.inl (U3 127 x1.toNat)], (am_sh, am_mm U3)) R
              have h12a2a21a2a := h12a2a21a2.2
              refine ev_br (P := ¬ (U3 127 x1.toNat) = (-1)) (σ1 := ((d + 1), 26, 121, [some (.inr (.inr 86)), some (.inl x1), some (.inl r3)], [], (am_sh, am_mm U3))) (σ2 := ((d + 1), 26, 116, [some (.inr (.inr 86)), some (.inl x1), some (.inl r3)], [], (am_sh, am_mm U3))) 2 (fun _ => rfl) (fun hc => ?_) (fun hc => ?_)
              · have h12a2a21a2a1 := h12a2a21a2a.1 hc
                refine ev_seg (σ1 := ((d + 1), 26, 126, [some (.inr (.inr 86)), some (.inl x1), some (.inl r3)], [.inl x1, .inr (.inr 127)], (am_sh, am_mm U3))) 3 (fun _ => rfl) ?_
                refine eu_iald 127 (n := 16) rfl (by decide) rfl (fun _ => rfl) h12a2a21a2.1 ?_
                show Ev (am_kz N X) ((d + 1), 26, 127, [some (.inr (.inr 86)), some (.inl x1), some (.inl r3)], [.inl (U3 127 x1.toNat)], (am_sh, am_mm U3)) R
                subst h12a2a21a2a1
                exact ev_end 1 (fun _ => rfl)
              · have h12a2a21a2a2 := h12a2a21a2a.2 (Decidable.not_not.mp hc)
                subst h12a2a21a2a2
                exact ev_end 3 (fun _ => rfl)
          · have h12a2a22 := h12a2a2.2 (Int.not_le.mp hc)
            subst h12a2a22
            exact ev_end 2 (fun _ => rfl)
  · have h2 := h.2 (Int.not_le.mp hc)
    refine ev_seg (σ1 := ((d + 1), 26, 22, [some (.inr (.inr 86)), some (.inl x1), some (.inl x2)], [.inl x2, .inr (.inr 124)], (am_sh, am_mm U))) 3 (fun _ => rfl) ?_
    refine eu_iald 124 (n := 352) rfl (by decide) rfl (fun _ => rfl) h2.1 ?_
    show Ev (am_kz N X) ((d + 1), 26, 23, [some (.inr (.inr 86)), some (.inl x1), some (.inl x2)], [.inl (U 124 x2.toNat)], (am_sh, am_mm U)) R
    have h2a := h2.2
    refine ev_br (P := (U 124 x2.toNat) = (-1)) (σ1 := ((d + 1), 26, 30, [some (.inr (.inr 86)), some (.inl x1), some (.inl x2)], [], (am_sh, am_mm U))) (σ2 := ((d + 1), 26, 27, [some (.inr (.inr 86)), some (.inl x1), some (.inl x2)], [], (am_sh, am_mm U))) 2 (fun _ => rfl) (fun hc => ?_) (fun hc => ?_)
    · have h2a1 := h2a.1 hc
      refine ev_seg (σ1 := ((d + 1), 26, 39, [some (.inr (.inr 86)), some (.inl x1), some (.inl x2)], [.inl x2, .inl (U 86 70), .inr (.inr 126)], (am_sh, am_mm U))) 5 (fun _ => rfl) ?_
      refine eu_iast 126 (n := 16) rfl (by decide) rfl (fun _ => rfl) h2a1.1 ?_
      show Ev (am_kz N X) ((d + 1), 26, 40, [some (.inr (.inr 86)), some (.inl x1), some (.inl x2)], [], (am_sh, am_mm (am_upd U 126 ((U 86 70).toNat) x2))) R
      have h2a1a := h2a1.2
      refine ev_seg (σ1 := ((d + 1), 26, 47, [some (.inr (.inr 86)), some (.inl x1), some (.inl x2)], [.inl (w32 ((U 86 70) + 1)), .inr (.inr 86)], (am_sh, am_mm (am_upd U 126 ((U 86 70).toNat) x2)))) 5 (fun _ => rfl) ?_
      refine eu_puti 86 (n := 90) rfl (by decide) rfl rfl ?_
      show Ev (am_kz N X) ((d + 1), 26, 50, [some (.inr (.inr 86)), some (.inl x1), some (.inl x2)], [], (am_sh, am_mm (am_upd (am_upd U 126 ((U 86 70).toNat) x2) 86 70 (w32 ((U 86 70) + 1))))) R
      refine ev_seg (σ1 := ((d + 1), 26, 7, [some (.inr (.inr 86)), some (.inl x1), some (.inl (w32 (x2 + 1)))], [], (am_sh, am_mm (am_upd (am_upd U 126 ((U 86 70).toNat) x2) 86 70 (w32 ((U 86 70) + 1)))))) 2 (fun _ => rfl) ?_
      exact h2a1a
    · have h2a2 := h2a.2 hc
      refine ev_seg (σ1 := ((d + 1), 26, 7, [some (.inr (.inr 86)), some (.inl x1), some (.inl (w32 (x2 + 1)))], [], (am_sh, am_mm U))) 3 (fun _ => rfl) ?_
      exact h2a2
set_option maxRecDepth 8000 in
theorem D_holds_r0 {N : Nat} {X : Nat → Int} {d : Nat} {x1 x2 x3 : Int} {U : am_U} {R : Option am_V × am_M} (h : ∃ (r1 : Int) (U1 : am_U), EvK N X (D_isPerson_s0 d x2 U) (rI r1 U1) ∧ ((r1 = 0) → R = rI (-1) U1) ∧ ((r1 ≠ 0) → ∃ (r2 : Int) (U2 : am_U), EvK N X (D_isPerson_s0 d x3 U1) (rI r2 U2) ∧ ((r2 = 0) → R = rI (-1) U2) ∧ ((r2 ≠ 0) → ∃ (r3 : Int) (U3 : am_U), EvK N X (Tw_hasTest_3_s0 d x1 U2) (rI r3 U3) ∧ ((r3 ≠ 0) → (0 ≤ x3 ∧ x3 < 16) ∧ ∃ (r4 : Int) (U4 : am_U), EvK N X (Jg_isTrue_s0 d x1 x2 (U3 17 x3.toNat) U3) (rI r4 U4) ∧ ((r4 = 0) → R = rI 0 U4) ∧ ((r4 ≠ 0) → R = rI 1 U4)) ∧ ((r3 = 0) → R = rI (-1) U3)))) : EvK N X (D_holds_s0 (d + 1) x1 x2 x3 U) R := by
  show Ev (am_kz N X) ((d + 1), 27, 0, [some (.inr (.inr 1)), some (.inl x1), some (.inl x2), some (.inl x3)], [], (am_sh, am_mm U)) R
  refine ev_seg (σ1 := ((d + 1), 27, 2, [some (.inr (.inr 1)), some (.inl x1), some (.inl x2), some (.inl x3)], [.inl x2, .inr (.inr 1)], (am_sh, am_mm U))) 2 (fun _ => rfl) ?_
  obtain ⟨r1, U1, hc, ha⟩ := h
  refine ev_cal (σc := (D_isPerson_s0 d x2 U)) (fun _ => rfl) hc ?_
  show Ev (am_kz N X) ((d + 1), 27, 5, [some (.inr (.inr 1)), some (.inl x1), some (.inl x2), some (.inl x3)], [.inl r1], (am_sh, am_mm U1)) R
  refine ev_br (P := r1 = 0) (σ1 := ((d + 1), 27, 27, [some (.inr (.inr 1)), some (.inl x1), some (.inl x2), some (.inl x3)], [], (am_sh, am_mm U1))) (σ2 := ((d + 1), 27, 8, [some (.inr (.inr 1)), some (.inl x1), some (.inl x2), some (.inl x3)], [], (am_sh, am_mm U1))) 1 (fun _ => rfl) (fun hc => ?_) (fun hc => ?_)
  · have ha1 := ha.1 hc
    subst ha1
    exact ev_end 2 (fun _ => rfl)
  · have ha2 := ha.2 hc
    refine ev_seg (σ1 := ((d + 1), 27, 10, [some (.inr (.inr 1)), some (.inl x1), some (.inl x2), some (.inl x3)], [.inl x3, .inr (.inr 1)], (am_sh, am_mm U1))) 2 (fun _ => rfl) ?_
    obtain ⟨r2, U2, ha2c, ha2a⟩ := ha2
    refine ev_cal (σc := (D_isPerson_s0 d x3 U1)) (fun _ => rfl) ha2c ?_
    show Ev (am_kz N X) ((d + 1), 27, 13, [some (.inr (.inr 1)), some (.inl x1), some (.inl x2), some (.inl x3)], [.inl r2], (am_sh, am_mm U2)) R
    refine ev_br (P := r2 = 0) (σ1 := ((d + 1), 27, 27, [some (.inr (.inr 1)), some (.inl x1), some (.inl x2), some (.inl x3)], [], (am_sh, am_mm U2))) (σ2 := ((d + 1), 27, 16, [some (.inr (.inr 1)), some (.inl x1), some (.inl x2), some (.inl x3)], [], (am_sh, am_mm U2))) 1 (fun _ => rfl) (fun hc => ?_) (fun hc => ?_)
    · have ha2a1 := ha2a.1 hc
      subst ha2a1
      exact ev_end 2 (fun _ => rfl)
    · have ha2a2 := ha2a.2 hc
      refine ev_seg (σ1 := ((d + 1), 27, 21, [some (.inr (.inr 1)), some (.inl x1), some (.inl x2), some (.inl x3)], [.inl x1, .inr (.inr 3)], (am_sh, am_mm U2))) 3 (fun _ => rfl) ?_
      obtain ⟨r3, U3, ha2a2c, ha2a2a⟩ := ha2a2
      refine ev_cal (σc := (Tw_hasTest_3_s0 d x1 U2)) (fun _ => rfl) ha2a2c ?_
      show Ev (am_kz N X) ((d + 1), 27, 24, [some (.inr (.inr 1)), some (.inl x1), some (.inl x2), some (.inl x3)], [.inl r3], (am_sh, am_mm U3)) R
      refine ev_br (P := ¬ r3 = 0) (σ1 := ((d + 1), 27, 29, [some (.inr (.inr 1)), some (.inl x1), some (.inl x2), some (.inl x3)], [], (am_sh, am_mm U3))) (σ2 := ((d + 1), 27, 27, [some (.inr (.inr 1)), some (.inl x1), some (.inl x2), some (.inl x3)], [], (am_sh, am_mm U3))) 1 (fun _ => rfl) (fun hc => ?_) (fun hc => ?_)
      · have ha2a2a1 := ha2a2a.1 hc
        refine ev_seg (σ1 := ((d + 1), 27, 43, [some (.inr (.inr 1)), some (.inl x1), some (.inl x2), some (.inl x3)], [.inl x3, .inr (.inr 17), .inl x2, .inl x1, .inr (.inr 45)], (am_sh, am_mm U3))) 8 (fun _ => rfl) ?_
        refine eu_iald 17 (n := 16) rfl (by decide) rfl (fun _ => rfl) ha2a2a1.1 ?_
        show Ev (am_kz N X) ((d + 1), 27, 44, [some (.inr (.inr 1)), some (.inl x1), some (.inl x2), some (.inl x3)], [.inl (U3 17 x3.toNat), .inl x2, .inl x1, .inr (.inr 45)], (am_sh, am_mm U3)) R
        have ha2a2a1a := ha2a2a1.2
        obtain ⟨r4, U4, ha2a2a1ac, ha2a2a1aa⟩ := ha2a2a1a
        refine ev_cal (σc := (Jg_isTrue_s0 d x1 x2 (U3 17 x3.toNat) U3)) (fun _ => rfl) ha2a2a1ac ?_
        show Ev (am_kz N X) ((d + 1), 27, 47, [some (.inr (.inr 1)), some (.inl x1), some (.inl x2), some (.inl x3)], [.inl r4], (am_sh, am_mm U4)) R
        refine ev_br (P := r4 = 0) (σ1 := ((d + 1), 27, 54, [some (.inr (.inr 1)), some (.inl x1), some (.inl x2), some (.inl x3)], [], (am_sh, am_mm U4))) (σ2 := ((d + 1), 27, 50, [some (.inr (.inr 1)), some (.inl x1), some (.inl x2), some (.inl x3)], [], (am_sh, am_mm U4))) 1 (fun _ => rfl) (fun hc => ?_) (fun hc => ?_)
        · have ha2a2a1aa1 := ha2a2a1aa.1 hc
          subst ha2a2a1aa1
          exact ev_end 2 (fun _ => rfl)
        · have ha2a2a1aa2 := ha2a2a1aa.2 hc
          subst ha2a2a1aa2
          exact ev_end 3 (fun _ => rfl)
      · have ha2a2a2 := ha2a2a.2 (Decidable.not_not.mp hc)
        subst ha2a2a2
        exact ev_end 2 (fun _ => rfl)
set_option maxRecDepth 8000 in
theorem M_holds_r0 {N : Nat} {X : Nat → Int} {d : Nat} {x1 x2 x3 : Int} {U : am_U} {R : Option am_V × am_M} (h : ∃ (r1 : Int) (U1 : am_U), EvK N X (M_isPerson_s0 d x2 U) (rI r1 U1) ∧ ((r1 = 0) → R = rI (-1) U1) ∧ ((r1 ≠ 0) → ∃ (r2 : Int) (U2 : am_U), EvK N X (M_isPerson_s0 d x3 U1) (rI r2 U2) ∧ ((r2 ≠ 0) → ((x1 ≠ 8) → (0 ≤ (U2 86 13) ∧ (U2 86 13) < 2) ∧ ∃ (r3 : Int) (U3 : am_U), EvK N X (M_is_s0 d x1 0 (w32 ((U2 100 ((U2 86 13).toNat)) - 1)) U2) (rI r3 U3) ∧ ((r3 ≠ 0) → (0 ≤ x3 ∧ x3 < 352) ∧ ∃ (r4 : Int) (U4 : am_U), EvK N X (M_lawHolds_s0 d 0 x1 x2 (U3 123 x3.toNat) U3) (rI r4 U4) ∧ ((r4 = 0) → R = rI 0 U4) ∧ ((r4 ≠ 0) → R = rI 1 U4)) ∧ ((r3 = 0) → R = rI (-1) U3)) ∧ ((x1 = 8) → (0 ≤ (U2 86 13) ∧ (U2 86 13) < 2) ∧ (((U2 104 ((U2 86 13).toNat)) ≠ (-1)) → (0 ≤ x3 ∧ x3 < 352) ∧ ∃ (r5 : Int) (U5 : am_U), EvK N X (M_asks_s0 d 0 x2 (U2 123 x3.toNat) (U2 104 ((U2 86 13).toNat)) (U2 105 ((U2 86 13).toNat)) U2) (rI r5 U5) ∧ ((r5 = 0) → R = rI 0 U5) ∧ ((r5 ≠ 0) → R = rI 1 U5)) ∧ (((U2 104 ((U2 86 13).toNat)) = (-1)) → R = rI (-1) U2))) ∧ ((r2 = 0) → R = rI (-1) U2))) : EvK N X (M_holds_s0 (d + 1) x1 x2 x3 U) R := by
  show Ev (am_kz N X) ((d + 1), 28, 0, [some (.inr (.inr 86)), some (.inl x1), some (.inl x2), some (.inl x3)], [], (am_sh, am_mm U)) R
  refine ev_seg (σ1 := ((d + 1), 28, 2, [some (.inr (.inr 86)), some (.inl x1), some (.inl x2), some (.inl x3)], [.inl x2, .inr (.inr 86)], (am_sh, am_mm U))) 2 (fun _ => rfl) ?_
  obtain ⟨r1, U1, hc, ha⟩ := h
  refine ev_cal (σc := (M_isPerson_s0 d x2 U)) (fun _ => rfl) hc ?_
  show Ev (am_kz N X) ((d + 1), 28, 5, [some (.inr (.inr 86)), some (.inl x1), some (.inl x2), some (.inl x3)], [.inl r1], (am_sh, am_mm U1)) R
  refine ev_br (P := r1 = 0) (σ1 := ((d + 1), 28, 16, [some (.inr (.inr 86)), some (.inl x1), some (.inl x2), some (.inl x3)], [], (am_sh, am_mm U1))) (σ2 := ((d + 1), 28, 8, [some (.inr (.inr 86)), some (.inl x1), some (.inl x2), some (.inl x3)], [], (am_sh, am_mm U1))) 1 (fun _ => rfl) (fun hc => ?_) (fun hc => ?_)
  · have ha1 := ha.1 hc
    subst ha1
    exact ev_end 2 (fun _ => rfl)
  · have ha2 := ha.2 hc
    refine ev_seg (σ1 := ((d + 1), 28, 10, [some (.inr (.inr 86)), some (.inl x1), some (.inl x2), some (.inl x3)], [.inl x3, .inr (.inr 86)], (am_sh, am_mm U1))) 2 (fun _ => rfl) ?_
    obtain ⟨r2, U2, ha2c, ha2a⟩ := ha2
    refine ev_cal (σc := (M_isPerson_s0 d x3 U1)) (fun _ => rfl) ha2c ?_
    show Ev (am_kz N X) ((d + 1), 28, 13, [some (.inr (.inr 86)), some (.inl x1), some (.inl x2), some (.inl x3)], [.inl r2], (am_sh, am_mm U2)) R
    refine ev_br (P := ¬ r2 = 0) (σ1 := ((d + 1), 28, 18, [some (.inr (.inr 86)), some (.inl x1), some (.inl x2), some (.inl x3)], [], (am_sh, am_mm U2))) (σ2 := ((d + 1), 28, 16, [some (.inr (.inr 86)), some (.inl x1), some (.inl x2), some (.inl x3)], [], (am_sh, am_mm U2))) 1 (fun _ => rfl) (fun hc => ?_) (fun hc => ?_)
    · have ha2a1 := ha2a.1 hc
      refine ev_br (P := ¬ x1 = 8) (σ1 := ((d + 1), 28, 81, [some (.inr (.inr 86)), some (.inl x1), some (.inl x2), some (.inl x3)], [], (am_sh, am_mm U2))) (σ2 := ((d + 1), 28, 24, [some (.inr (.inr 86)), some (.inl x1), some (.inl x2), some (.inl x3)], [], (am_sh, am_mm U2))) 3 (fun _ => rfl) (fun hc => ?_) (fun hc => ?_)
      · have ha2a11 := ha2a1.1 hc
        refine ev_seg (σ1 := ((d + 1), 28, 91, [some (.inr (.inr 86)), some (.inl x1), some (.inl x2), some (.inl x3)], [.inl (U2 86 13), .inr (.inr 100), .inl 0, .inl x1], (am_sh, am_mm U2))) 6 (fun _ => rfl) ?_
        refine eu_iald 100 (n := 2) rfl (by decide) rfl (fun _ => rfl) ha2a11.1 ?_
        show Ev (am_kz N X) ((d + 1), 28, 92, [some (.inr (.inr 86)), some (.inl x1), some (.inl x2), some (.inl x3)], [.inl (U2 100 ((U2 86 13).toNat)), .inl 0, .inl x1], (am_sh, am_mm U2)) R
        have ha2a11a := ha2a11.2
        refine ev_seg (σ1 := ((d + 1), 28, 94, [some (.inr (.inr 86)), some (.inl x1), some (.inl x2), some (.inl x3)], [.inl (w32 ((U2 100 ((U2 86 13).toNat)) - 1)), .inl 0, .inl x1], (am_sh, am_mm U2))) 2 (fun _ => rfl) ?_
        obtain ⟨r3, U3, ha2a11ac, ha2a11aa⟩ := ha2a11a
        refine ev_cal (σc := (M_is_s0 d x1 0 (w32 ((U2 100 ((U2 86 13).toNat)) - 1)) U2)) (fun _ => rfl) ha2a11ac ?_
        show Ev (am_kz N X) ((d + 1), 28, 97, [some (.inr (.inr 86)), some (.inl x1), some (.inl x2), some (.inl x3)], [.inl r3], (am_sh, am_mm U3)) R
        refine ev_br (P := ¬ r3 = 0) (σ1 := ((d + 1), 28, 104, [some (.inr (.inr 86)), some (.inl x1), some (.inl x2), some (.inl x3)], [], (am_sh, am_mm U3))) (σ2 := ((d + 1), 28, 100, [some (.inr (.inr 86)), some (.inl x1), some (.inl x2), some (.inl x3)], [], (am_sh, am_mm U3))) 1 (fun _ => rfl) (fun hc => ?_) (fun hc => ?_)
        · have ha2a11aa1 := ha2a11aa.1 hc
          refine ev_seg (σ1 := ((d + 1), 28, 113, [some (.inr (.inr 86)), some (.inl x1), some (.inl x2), some (.inl x3)], [.inl x3, .inr (.inr 123), .inl x2, .inl x1, .inl 0, .inr (.inr 86)], (am_sh, am_mm U3))) 7 (fun _ => rfl) ?_
          refine eu_iald 123 (n := 352) rfl (by decide) rfl (fun _ => rfl) ha2a11aa1.1 ?_
          show Ev (am_kz N X) ((d + 1), 28, 114, [some (.inr (.inr 86)), some (.inl x1), some (.inl x2), some (.inl x3)], [.inl (U3 123 x3.toNat), .inl x2, .inl x1, .inl 0, .inr (.inr 86)], (am_sh, am_mm U3)) R
          have ha2a11aa1a := ha2a11aa1.2
          refine ev_seg (σ1 := ((d + 1), 28, 115, [some (.inr (.inr 86)), some (.inl x1), some (.inl x2), some (.inl x3)], [.inr (.inl (U3 123 x3.toNat)), .inl x2, .inl x1, .inl 0, .inr (.inr 86)], (am_sh, am_mm U3))) 1 (fun _ => rfl) ?_
          obtain ⟨r4, U4, ha2a11aa1ac, ha2a11aa1aa⟩ := ha2a11aa1a
          refine ev_cal (σc := (M_lawHolds_s0 d 0 x1 x2 (U3 123 x3.toNat) U3)) (fun _ => rfl) ha2a11aa1ac ?_
          show Ev (am_kz N X) ((d + 1), 28, 118, [some (.inr (.inr 86)), some (.inl x1), some (.inl x2), some (.inl x3)], [.inl r4], (am_sh, am_mm U4)) R
          refine ev_br (P := r4 = 0) (σ1 := ((d + 1), 28, 125, [some (.inr (.inr 86)), some (.inl x1), some (.inl x2), some (.inl x3)], [], (am_sh, am_mm U4))) (σ2 := ((d + 1), 28, 121, [some (.inr (.inr 86)), some (.inl x1), some (.inl x2), some (.inl x3)], [], (am_sh, am_mm U4))) 1 (fun _ => rfl) (fun hc => ?_) (fun hc => ?_)
          · have ha2a11aa1aa1 := ha2a11aa1aa.1 hc
            subst ha2a11aa1aa1
            exact ev_end 2 (fun _ => rfl)
          · have ha2a11aa1aa2 := ha2a11aa1aa.2 hc
            subst ha2a11aa1aa2
            exact ev_end 3 (fun _ => rfl)
        · have ha2a11aa2 := ha2a11aa.2 (Decidable.not_not.mp hc)
          subst ha2a11aa2
          exact ev_end 3 (fun _ => rfl)
      · have ha2a12 := ha2a1.2 (Decidable.not_not.mp hc)
        refine ev_seg (σ1 := ((d + 1), 28, 32, [some (.inr (.inr 86)), some (.inl x1), some (.inl x2), some (.inl x3)], [.inl (U2 86 13), .inr (.inr 104)], (am_sh, am_mm U2))) 4 (fun _ => rfl) ?_
        refine eu_iald 104 (n := 2) rfl (by decide) rfl (fun _ => rfl) ha2a12.1 ?_
        show Ev (am_kz N X) ((d + 1), 28, 33, [some (.inr (.inr 86)), some (.inl x1), some (.inl x2), some (.inl x3)], [.inl (U2 104 ((U2 86 13).toNat))], (am_sh, am_mm U2)) R
        have ha2a12a := ha2a12.2
        refine ev_br (P := ¬ (U2 104 ((U2 86 13).toNat)) = (-1)) (σ1 := ((d + 1), 28, 41, [some (.inr (.inr 86)), some (.inl x1), some (.inl x2), some (.inl x3)], [], (am_sh, am_mm U2))) (σ2 := ((d + 1), 28, 37, [some (.inr (.inr 86)), some (.inl x1), some (.inl x2), some (.inl x3)], [], (am_sh, am_mm U2))) 2 (fun _ => rfl) (fun hc => ?_) (fun hc => ?_)
        · have ha2a12a1 := ha2a12a.1 hc
          refine ev_seg (σ1 := ((d + 1), 28, 49, [some (.inr (.inr 86)), some (.inl x1), some (.inl x2), some (.inl x3)], [.inl x3, .inr (.inr 123), .inl x2, .inl 0, .inr (.inr 86)], (am_sh, am_mm U2))) 6 (fun _ => rfl) ?_
          refine eu_iald 123 (n := 352) rfl (by decide) rfl (fun _ => rfl) ha2a12a1.1 ?_
          show Ev (am_kz N X) ((d + 1), 28, 50, [some (.inr (.inr 86)), some (.inl x1), some (.inl x2), some (.inl x3)], [.inl (U2 123 x3.toNat), .inl x2, .inl 0, .inr (.inr 86)], (am_sh, am_mm U2)) R
          have ha2a12a1a := ha2a12a1.2
          refine ev_seg (σ1 := ((d + 1), 28, 59, [some (.inr (.inr 86)), some (.inl x1), some (.inl x2), some (.inl x3)], [.inl (U2 86 13), .inr (.inr 104), .inr (.inl (U2 123 x3.toNat)), .inl x2, .inl 0, .inr (.inr 86)], (am_sh, am_mm U2))) 5 (fun _ => rfl) ?_
          refine eu_iald 104 (n := 2) rfl (by decide) rfl (fun _ => rfl) ha2a12.1 ?_
          show Ev (am_kz N X) ((d + 1), 28, 60, [some (.inr (.inr 86)), some (.inl x1), some (.inl x2), some (.inl x3)], [.inl (U2 104 ((U2 86 13).toNat)), .inr (.inl (U2 123 x3.toNat)), .inl x2, .inl 0, .inr (.inr 86)], (am_sh, am_mm U2)) R
          refine ev_seg (σ1 := ((d + 1), 28, 68, [some (.inr (.inr 86)), some (.inl x1), some (.inl x2), some (.inl x3)], [.inl (U2 86 13), .inr (.inr 105), .inl (U2 104 ((U2 86 13).toNat)), .inr (.inl (U2 123 x3.toNat)), .inl x2, .inl 0, .inr (.inr 86)], (am_sh, am_mm U2))) 4 (fun _ => rfl) ?_
          refine eu_iald 105 (n := 2) rfl (by decide) rfl (fun _ => rfl) ha2a12.1 ?_
          show Ev (am_kz N X) ((d + 1), 28, 69, [some (.inr (.inr 86)), some (.inl x1), some (.inl x2), some (.inl x3)], [.inl (U2 105 ((U2 86 13).toNat)), .inl (U2 104 ((U2 86 13).toNat)), .inr (.inl (U2 123 x3.toNat)), .inl x2, .inl 0, .inr (.inr 86)], (am_sh, am_mm U2)) R
          obtain ⟨r5, U5, ha2a12a1ac, ha2a12a1aa⟩ := ha2a12a1a
          refine ev_cal (σc := (M_asks_s0 d 0 x2 (U2 123 x3.toNat) (U2 104 ((U2 86 13).toNat)) (U2 105 ((U2 86 13).toNat)) U2)) (fun _ => rfl) ha2a12a1ac ?_
          show Ev (am_kz N X) ((d + 1), 28, 72, [some (.inr (.inr 86)), some (.inl x1), some (.inl x2), some (.inl x3)], [.inl r5], (am_sh, am_mm U5)) R
          refine ev_br (P := r5 = 0) (σ1 := ((d + 1), 28, 79, [some (.inr (.inr 86)), some (.inl x1), some (.inl x2), some (.inl x3)], [], (am_sh, am_mm U5))) (σ2 := ((d + 1), 28, 75, [some (.inr (.inr 86)), some (.inl x1), some (.inl x2), some (.inl x3)], [], (am_sh, am_mm U5))) 1 (fun _ => rfl) (fun hc => ?_) (fun hc => ?_)
          · have ha2a12a1aa1 := ha2a12a1aa.1 hc
            subst ha2a12a1aa1
            exact ev_end 2 (fun _ => rfl)
          · have ha2a12a1aa2 := ha2a12a1aa.2 hc
            subst ha2a12a1aa2
            exact ev_end 3 (fun _ => rfl)
        · have ha2a12a2 := ha2a12a.2 (Decidable.not_not.mp hc)
          subst ha2a12a2
          exact ev_end 3 (fun _ => rfl)
    · have ha2a2 := ha2a.2 (Decidable.not_not.mp hc)
      subst ha2a2
      exact ev_end 2 (fun _ => rfl)
set_option maxRecDepth 8000 in
theorem D_move_r0 {N : Nat} {X : Nat → Int} {d : Nat} {x1 x2 : Int} {U : am_U} {R : Option am_V × am_M} (h : ∃ (r1 : Int) (U1 : am_U), EvK N X (D_isPerson_s0 d x1 U) (rI r1 U1) ∧ ((r1 = 0) → ∃ (r2 : Int) (U2 : am_U), EvK N X (D_refuse_s0 d 2 U1) (rI r2 U2) ∧ (r2 = 0 ∨ r2 = 1) ∧ R = rI r2 U2) ∧ ((r1 ≠ 0) → ((x2 = (-1)) → (0 ≤ x1 ∧ x1 < 16) ∧ (((U1 18 x1.toNat) = x2) → ∃ (r3 : Int) (U3 : am_U), EvK N X (D_refuse_s0 d 2 U1) (rI r3 U3) ∧ (r3 = 0 ∨ r3 = 1) ∧ R = rI r3 U3) ∧ (((U1 18 x1.toNat) ≠ x2) → ((0 ≤ (U1 17 x1.toNat)) → ∃ U4 : am_U, EvK N X (Hs_keep_s0 d U1) (rV U4) ∧ ∃ U5 : am_U, EvK N X (Fk_settle_16_s0 d x1 x2 U4) (rV U5) ∧ ∃ U6 : am_U, EvK N X (D_forgetAnswers_s0 d U5) (rV U6) ∧ R = rI 1 U6) ∧ (((U1 17 x1.toNat) < 0) → (((U1 16 2) ≠ 0) → ∃ U7 : am_U, EvK N X (Hs_keep_s0 d U1) (rV U7) ∧ ∃ U8 : am_U, EvK N X (Fk_settle_16_s0 d x1 x2 U7) (rV U8) ∧ ∃ U9 : am_U, EvK N X (D_forgetAnswers_s0 d U8) (rV U9) ∧ R = rI 1 U9) ∧ (((U1 16 2) = 0) → ∃ (r10 : Int) (U10 : am_U), EvK N X (D_refuse_s0 d 2 U1) (rI r10 U10) ∧ (r10 = 0 ∨ r10 = 1) ∧ R = rI r10 U10)))) ∧ ((x2 ≠ (-1)) → ∃ (r11 : Int) (U11 : am_U), EvK N X (D_isHouse_s0 d x2 U1) (rI r11 U11) ∧ ((r11 ≠ 0) → (0 ≤ x1 ∧ x1 < 16) ∧ (((U11 18 x1.toNat) = x2) → ∃ (r12 : Int) (U12 : am_U), EvK N X (D_refuse_s0 d 2 U11) (rI r12 U12) ∧ (r12 = 0 ∨ r12 = 1) ∧ R = rI r12 U12) ∧ (((U11 18 x1.toNat) ≠ x2) → ((0 ≤ (U11 17 x1.toNat)) → ∃ (r13 : Int) (U13 : am_U), EvK N X (Fk_living_16_s0 d x2 U11) (rI r13 U13) ∧ (0 ≤ x2 ∧ x2 < 12) ∧ ((r13 < (U13 8 x2.toNat)) → ∃ U14 : am_U, EvK N X (Hs_keep_s0 d U13) (rV U14) ∧ ∃ U15 : am_U, EvK N X (Fk_settle_16_s0 d x1 x2 U14) (rV U15) ∧ ∃ U16 : am_U, EvK N X (D_forgetAnswers_s0 d U15) (rV U16) ∧ R = rI 1 U16) ∧ (((U13 8 x2.toNat) ≤ r13) → ∃ (r17 : Int) (U17 : am_U), EvK N X (D_refuse_s0 d 2 U13) (rI r17 U17) ∧ (r17 = 0 ∨ r17 = 1) ∧ R = rI r17 U17)) ∧ (((U11 17 x1.toNat) < 0) → (((U11 16 2) ≠ 0) → ∃ (r18 : Int) (U18 : am_U), EvK N X (Fk_living_16_s0 d x2 U11) (rI r18 U18) ∧ (0 ≤ x2 ∧ x2 < 12) ∧ ((r18 < (U18 8 x2.toNat)) → ∃ U19 : am_U, EvK N X (Hs_keep_s0 d U18) (rV U19) ∧ ∃ U20 : am_U, EvK N X (Fk_settle_16_s0 d x1 x2 U19) (rV U20) ∧ ∃ U21 : am_U, EvK N X (D_forgetAnswers_s0 d U20) (rV U21) ∧ R = rI 1 U21) ∧ (((U18 8 x2.toNat) ≤ r18) → ∃ (r22 : Int) (U22 : am_U), EvK N X (D_refuse_s0 d 2 U18) (rI r22 U22) ∧ (r22 = 0 ∨ r22 = 1) ∧ R = rI r22 U22)) ∧ (((U11 16 2) = 0) → ∃ (r23 : Int) (U23 : am_U), EvK N X (D_refuse_s0 d 2 U11) (rI r23 U23) ∧ (r23 = 0 ∨ r23 = 1) ∧ R = rI r23 U23)))) ∧ ((r11 = 0) → ∃ (r24 : Int) (U24 : am_U), EvK N X (D_refuse_s0 d 2 U11) (rI r24 U24) ∧ (r24 = 0 ∨ r24 = 1) ∧ R = rI r24 U24)))) : EvK N X (D_move_s0 (d + 1) x1 x2 U) R := by
  show Ev (am_kz N X) ((d + 1), 29, 0, [some (.inr (.inr 1)), some (.inl x1), some (.inl x2)], [], (am_sh, am_mm U)) R
  refine ev_seg (σ1 := ((d + 1), 29, 2, [some (.inr (.inr 1)), some (.inl x1), some (.inl x2)], [.inl x1, .inr (.inr 1)], (am_sh, am_mm U))) 2 (fun _ => rfl) ?_
  obtain ⟨r1, U1, hc, ha⟩ := h
  refine ev_cal (σc := (D_isPerson_s0 d x1 U)) (fun _ => rfl) hc ?_
  show Ev (am_kz N X) ((d + 1), 29, 5, [some (.inr (.inr 1)), some (.inl x1), some (.inl x2)], [.inl r1], (am_sh, am_mm U1)) R
  refine ev_br (P := r1 = 0) (σ1 := ((d + 1), 29, 21, [some (.inr (.inr 1)), some (.inl x1), some (.inl x2)], [], (am_sh, am_mm U1))) (σ2 := ((d + 1), 29, 8, [some (.inr (.inr 1)), some (.inl x1), some (.inl x2)], [], (am_sh, am_mm U1))) 1 (fun _ => rfl) (fun hc => ?_) (fun hc => ?_)
  · have ha1 := ha.1 hc
    refine ev_seg (σ1 := ((d + 1), 29, 23, [some (.inr (.inr 1)), some (.inl x1), some (.inl x2)], [.inl 2, .inr (.inr 1)], (am_sh, am_mm U1))) 2 (fun _ => rfl) ?_
    obtain ⟨r2, U2, ha1c, ha1a⟩ := ha1
    refine ev_cal (σc := (D_refuse_s0 d 2 U1)) (fun _ => rfl) ha1c ?_
    show Ev (am_kz N X) ((d + 1), 29, 26, [some (.inr (.inr 1)), some (.inl x1), some (.inl x2)], [.inl r2], (am_sh, am_mm U2)) R
    rw [ha1a.2]
    exact ev_retz rfl rfl ha1a.1
  · have ha2 := ha.2 hc
    refine ev_br (P := x2 = (-1)) (σ1 := ((d + 1), 29, 27, [some (.inr (.inr 1)), some (.inl x1), some (.inl x2)], [], (am_sh, am_mm U1))) (σ2 := ((d + 1), 29, 13, [some (.inr (.inr 1)), some (.inl x1), some (.inl x2)], [], (am_sh, am_mm U1))) 3 (fun _ => rfl) (fun hc => ?_) (fun hc => ?_)
    · have ha21 := ha2.1 hc
      have ha2q := hc
      refine ev_seg (σ1 := ((d + 1), 29, 35, [some (.inr (.inr 1)), some (.inl x1), some (.inl x2)], [.inl x1, .inr (.inr 18)], (am_sh, am_mm U1))) 4 (fun _ => rfl) ?_
      refine eu_iald 18 (n := 16) rfl (by decide) rfl (fun _ => rfl) ha21.1 ?_
      show Ev (am_kz N X) ((d + 1), 29, 36, [some (.inr (.inr 1)), some (.inl x1), some (.inl x2)], [.inl (U1 18 x1.toNat)], (am_sh, am_mm U1)) R
      have ha21a := ha21.2
      refine ev_br (P := (U1 18 x1.toNat) = x2) (σ1 := ((d + 1), 29, 62, [some (.inr (.inr 1)), some (.inl x1), some (.inl x2)], [], (am_sh, am_mm U1))) (σ2 := ((d + 1), 29, 40, [some (.inr (.inr 1)), some (.inl x1), some (.inl x2)], [], (am_sh, am_mm U1))) 2 (fun _ => rfl) (fun hc => ?_) (fun hc => ?_)
      · have ha21a1 := ha21a.1 hc
        refine ev_seg (σ1 := ((d + 1), 29, 64, [some (.inr (.inr 1)), some (.inl x1), some (.inl x2)], [.inl 2, .inr (.inr 1)], (am_sh, am_mm U1))) 2 (fun _ => rfl) ?_
        obtain ⟨r3, U3, ha21a1c, ha21a1a⟩ := ha21a1
        refine ev_cal (σc := (D_refuse_s0 d 2 U1)) (fun _ => rfl) ha21a1c ?_
        show Ev (am_kz N X) ((d + 1), 29, 67, [some (.inr (.inr 1)), some (.inl x1), some (.inl x2)], [.inl r3], (am_sh, am_mm U3)) R
        rw [ha21a1a.2]
        exact ev_retz rfl rfl ha21a1a.1
      · have ha21a2 := ha21a.2 hc
        refine ev_seg (σ1 := ((d + 1), 29, 48, [some (.inr (.inr 1)), some (.inl x1), some (.inl x2)], [.inl x1, .inr (.inr 17)], (am_sh, am_mm U1))) 4 (fun _ => rfl) ?_
        refine eu_iald 17 (n := 16) rfl (by decide) rfl (fun _ => rfl) ha21.1 ?_
        show Ev (am_kz N X) ((d + 1), 29, 49, [some (.inr (.inr 1)), some (.inl x1), some (.inl x2)], [.inl (U1 17 x1.toNat)], (am_sh, am_mm U1)) R
        refine ev_br (P := 0 ≤ (U1 17 x1.toNat)) (σ1 := ((d + 1), 29, 68, [some (.inr (.inr 1)), some (.inl x1), some (.inl x2)], [], (am_sh, am_mm U1))) (σ2 := ((d + 1), 29, 52, [some (.inr (.inr 1)), some (.inl x1), some (.inl x2)], [], (am_sh, am_mm U1))) 1 (fun _ => rfl) (fun hc => ?_) (fun hc => ?_)
        · have ha21a21 := ha21a2.1 hc
          refine ev_br (P := x2 = (-1)) (σ1 := ((d + 1), 29, 99, [some (.inr (.inr 1)), some (.inl x1), some (.inl x2)], [], (am_sh, am_mm U1))) (σ2 := ((d + 1), 29, 73, [some (.inr (.inr 1)), some (.inl x1), some (.inl x2)], [], (am_sh, am_mm U1))) 3 (fun _ => rfl) (fun hc => ?_) (fun hc => absurd ha2q (fun h0 => by have h1 := hc; omega))
          refine ev_seg (σ1 := ((d + 1), 29, 107, [some (.inr (.inr 1)), some (.inl x1), some (.inl x2)], [.inr (.inr 16), .inr (.inr 56)], (am_sh, am_mm U1))) 4 (fun _ => rfl) ?_
          obtain ⟨U4, ha21a21c, ha21a21a⟩ := ha21a21
          refine ev_cal (σc := (Hs_keep_s0 d U1)) (fun _ => rfl) ha21a21c ?_
          show Ev (am_kz N X) ((d + 1), 29, 110, [some (.inr (.inr 1)), some (.inl x1), some (.inl x2)], [], (am_sh, am_mm U4)) R
          refine ev_seg (σ1 := ((d + 1), 29, 116, [some (.inr (.inr 1)), some (.inl x1), some (.inl x2)], [.inl x2, .inl x1, .inr (.inr 16)], (am_sh, am_mm U4))) 4 (fun _ => rfl) ?_
          obtain ⟨U5, ha21a21ac, ha21a21aa⟩ := ha21a21a
          refine ev_cal (σc := (Fk_settle_16_s0 d x1 x2 U4)) (fun _ => rfl) ha21a21ac ?_
          show Ev (am_kz N X) ((d + 1), 29, 119, [some (.inr (.inr 1)), some (.inl x1), some (.inl x2)], [], (am_sh, am_mm U5)) R
          refine ev_seg (σ1 := ((d + 1), 29, 120, [some (.inr (.inr 1)), some (.inl x1), some (.inl x2)], [.inr (.inr 1)], (am_sh, am_mm U5))) 1 (fun _ => rfl) ?_
          obtain ⟨U6, ha21a21aac, ha21a21aaa⟩ := ha21a21aa
          refine ev_cal (σc := (D_forgetAnswers_s0 d U5)) (fun _ => rfl) ha21a21aac ?_
          show Ev (am_kz N X) ((d + 1), 29, 123, [some (.inr (.inr 1)), some (.inl x1), some (.inl x2)], [], (am_sh, am_mm U6)) R
          subst ha21a21aaa
          exact ev_end 2 (fun _ => rfl)
        · have ha21a22 := ha21a2.2 (Int.not_le.mp hc)
          refine ev_br (P := ¬ (U1 16 2) = 0) (σ1 := ((d + 1), 29, 68, [some (.inr (.inr 1)), some (.inl x1), some (.inl x2)], [], (am_sh, am_mm U1))) (σ2 := ((d + 1), 29, 62, [some (.inr (.inr 1)), some (.inl x1), some (.inl x2)], [], (am_sh, am_mm U1))) 4 (fun _ => rfl) (fun hc => ?_) (fun hc => ?_)
          · have ha21a221 := ha21a22.1 hc
            refine ev_br (P := x2 = (-1)) (σ1 := ((d + 1), 29, 99, [some (.inr (.inr 1)), some (.inl x1), some (.inl x2)], [], (am_sh, am_mm U1))) (σ2 := ((d + 1), 29, 73, [some (.inr (.inr 1)), some (.inl x1), some (.inl x2)], [], (am_sh, am_mm U1))) 3 (fun _ => rfl) (fun hc => ?_) (fun hc => absurd ha2q (fun h0 => by have h1 := hc; omega))
            refine ev_seg (σ1 := ((d + 1), 29, 107, [some (.inr (.inr 1)), some (.inl x1), some (.inl x2)], [.inr (.inr 16), .inr (.inr 56)], (am_sh, am_mm U1))) 4 (fun _ => rfl) ?_
            obtain ⟨U7, ha21a221c, ha21a221a⟩ := ha21a221
            refine ev_cal (σc := (Hs_keep_s0 d U1)) (fun _ => rfl) ha21a221c ?_
            show Ev (am_kz N X) ((d + 1), 29, 110, [some (.inr (.inr 1)), some (.inl x1), some (.inl x2)], [], (am_sh, am_mm U7)) R
            refine ev_seg (σ1 := ((d + 1), 29, 116, [some (.inr (.inr 1)), some (.inl x1), some (.inl x2)], [.inl x2, .inl x1, .inr (.inr 16)], (am_sh, am_mm U7))) 4 (fun _ => rfl) ?_
            obtain ⟨U8, ha21a221ac, ha21a221aa⟩ := ha21a221a
            refine ev_cal (σc := (Fk_settle_16_s0 d x1 x2 U7)) (fun _ => rfl) ha21a221ac ?_
            show Ev (am_kz N X) ((d + 1), 29, 119, [some (.inr (.inr 1)), some (.inl x1), some (.inl x2)], [], (am_sh, am_mm U8)) R
            refine ev_seg (σ1 := ((d + 1), 29, 120, [some (.inr (.inr 1)), some (.inl x1), some (.inl x2)], [.inr (.inr 1)], (am_sh, am_mm U8))) 1 (fun _ => rfl) ?_
            obtain ⟨U9, ha21a221aac, ha21a221aaa⟩ := ha21a221aa
            refine ev_cal (σc := (D_forgetAnswers_s0 d U8)) (fun _ => rfl) ha21a221aac ?_
            show Ev (am_kz N X) ((d + 1), 29, 123, [some (.inr (.inr 1)), some (.inl x1), some (.inl x2)], [], (am_sh, am_mm U9)) R
            subst ha21a221aaa
            exact ev_end 2 (fun _ => rfl)
          · have ha21a222 := ha21a22.2 (Decidable.not_not.mp hc)
            refine ev_seg (σ1 := ((d + 1), 29, 64, [some (.inr (.inr 1)), some (.inl x1), some (.inl x2)], [.inl 2, .inr (.inr 1)], (am_sh, am_mm U1))) 2 (fun _ => rfl) ?_
            obtain ⟨r10, U10, ha21a222c, ha21a222a⟩ := ha21a222
            refine ev_cal (σc := (D_refuse_s0 d 2 U1)) (fun _ => rfl) ha21a222c ?_
            show Ev (am_kz N X) ((d + 1), 29, 67, [some (.inr (.inr 1)), some (.inl x1), some (.inl x2)], [.inl r10], (am_sh, am_mm U10)) R
            rw [ha21a222a.2]
            exact ev_retz rfl rfl ha21a222a.1
    · have ha22 := ha2.2 hc
      have ha2q := hc
      refine ev_seg (σ1 := ((d + 1), 29, 15, [some (.inr (.inr 1)), some (.inl x1), some (.inl x2)], [.inl x2, .inr (.inr 1)], (am_sh, am_mm U1))) 2 (fun _ => rfl) ?_
      obtain ⟨r11, U11, ha22c, ha22a⟩ := ha22
      refine ev_cal (σc := (D_isHouse_s0 d x2 U1)) (fun _ => rfl) ha22c ?_
      show Ev (am_kz N X) ((d + 1), 29, 18, [some (.inr (.inr 1)), some (.inl x1), some (.inl x2)], [.inl r11], (am_sh, am_mm U11)) R
      refine ev_br (P := ¬ r11 = 0) (σ1 := ((d + 1), 29, 27, [some (.inr (.inr 1)), some (.inl x1), some (.inl x2)], [], (am_sh, am_mm U11))) (σ2 := ((d + 1), 29, 21, [some (.inr (.inr 1)), some (.inl x1), some (.inl x2)], [], (am_sh, am_mm U11))) 1 (fun _ => rfl) (fun hc => ?_) (fun hc => ?_)
      · have ha22a1 := ha22a.1 hc
        refine ev_seg (σ1 := ((d + 1), 29, 35, [some (.inr (.inr 1)), some (.inl x1), some (.inl x2)], [.inl x1, .inr (.inr 18)], (am_sh, am_mm U11))) 4 (fun _ => rfl) ?_
        refine eu_iald 18 (n := 16) rfl (by decide) rfl (fun _ => rfl) ha22a1.1 ?_
        show Ev (am_kz N X) ((d + 1), 29, 36, [some (.inr (.inr 1)), some (.inl x1), some (.inl x2)], [.inl (U11 18 x1.toNat)], (am_sh, am_mm U11)) R
        have ha22a1a := ha22a1.2
        refine ev_br (P := (U11 18 x1.toNat) = x2) (σ1 := ((d + 1), 29, 62, [some (.inr (.inr 1)), some (.inl x1), some (.inl x2)], [], (am_sh, am_mm U11))) (σ2 := ((d + 1), 29, 40, [some (.inr (.inr 1)), some (.inl x1), some (.inl x2)], [], (am_sh, am_mm U11))) 2 (fun _ => rfl) (fun hc => ?_) (fun hc => ?_)
        · have ha22a1a1 := ha22a1a.1 hc
          refine ev_seg (σ1 := ((d + 1), 29, 64, [some (.inr (.inr 1)), some (.inl x1), some (.inl x2)], [.inl 2, .inr (.inr 1)], (am_sh, am_mm U11))) 2 (fun _ => rfl) ?_
          obtain ⟨r12, U12, ha22a1a1c, ha22a1a1a⟩ := ha22a1a1
          refine ev_cal (σc := (D_refuse_s0 d 2 U11)) (fun _ => rfl) ha22a1a1c ?_
          show Ev (am_kz N X) ((d + 1), 29, 67, [some (.inr (.inr 1)), some (.inl x1), some (.inl x2)], [.inl r12], (am_sh, am_mm U12)) R
          rw [ha22a1a1a.2]
          exact ev_retz rfl rfl ha22a1a1a.1
        · have ha22a1a2 := ha22a1a.2 hc
          refine ev_seg (σ1 := ((d + 1), 29, 48, [some (.inr (.inr 1)), some (.inl x1), some (.inl x2)], [.inl x1, .inr (.inr 17)], (am_sh, am_mm U11))) 4 (fun _ => rfl) ?_
          refine eu_iald 17 (n := 16) rfl (by decide) rfl (fun _ => rfl) ha22a1.1 ?_
          show Ev (am_kz N X) ((d + 1), 29, 49, [some (.inr (.inr 1)), some (.inl x1), some (.inl x2)], [.inl (U11 17 x1.toNat)], (am_sh, am_mm U11)) R
          refine ev_br (P := 0 ≤ (U11 17 x1.toNat)) (σ1 := ((d + 1), 29, 68, [some (.inr (.inr 1)), some (.inl x1), some (.inl x2)], [], (am_sh, am_mm U11))) (σ2 := ((d + 1), 29, 52, [some (.inr (.inr 1)), some (.inl x1), some (.inl x2)], [], (am_sh, am_mm U11))) 1 (fun _ => rfl) (fun hc => ?_) (fun hc => ?_)
          · have ha22a1a21 := ha22a1a2.1 hc
            refine ev_br (P := x2 = (-1)) (σ1 := ((d + 1), 29, 99, [some (.inr (.inr 1)), some (.inl x1), some (.inl x2)], [], (am_sh, am_mm U11))) (σ2 := ((d + 1), 29, 73, [some (.inr (.inr 1)), some (.inl x1), some (.inl x2)], [], (am_sh, am_mm U11))) 3 (fun _ => rfl) (fun hc => absurd ha2q (fun h0 => by have h1 := hc; omega)) (fun hc => ?_)
            refine ev_seg (σ1 := ((d + 1), 29, 78, [some (.inr (.inr 1)), some (.inl x1), some (.inl x2)], [.inl x2, .inr (.inr 16)], (am_sh, am_mm U11))) 3 (fun _ => rfl) ?_
            obtain ⟨r13, U13, ha22a1a21c, ha22a1a21a⟩ := ha22a1a21
            refine ev_cal (σc := (Fk_living_16_s0 d x2 U11)) (fun _ => rfl) ha22a1a21c ?_
            show Ev (am_kz N X) ((d + 1), 29, 81, [some (.inr (.inr 1)), some (.inl x1), some (.inl x2)], [.inl r13], (am_sh, am_mm U13)) R
            refine ev_seg (σ1 := ((d + 1), 29, 89, [some (.inr (.inr 1)), some (.inl x1), some (.inl x2)], [.inl x2, .inr (.inr 8), .inl r13], (am_sh, am_mm U13))) 4 (fun _ => rfl) ?_
            refine eu_iald 8 (n := 12) rfl (by decide) rfl (fun _ => rfl) ha22a1a21a.1 ?_
            show Ev (am_kz N X) ((d + 1), 29, 90, [some (.inr (.inr 1)), some (.inl x1), some (.inl x2)], [.inl (U13 8 x2.toNat), .inl r13], (am_sh, am_mm U13)) R
            have ha22a1a21aa := ha22a1a21a.2
            refine ev_br (P := r13 < (U13 8 x2.toNat)) (σ1 := ((d + 1), 29, 99, [some (.inr (.inr 1)), some (.inl x1), some (.inl x2)], [], (am_sh, am_mm U13))) (σ2 := ((d + 1), 29, 93, [some (.inr (.inr 1)), some (.inl x1), some (.inl x2)], [], (am_sh, am_mm U13))) 1 (fun _ => rfl) (fun hc => ?_) (fun hc => ?_)
            · have ha22a1a21aa1 := ha22a1a21aa.1 hc
              refine ev_seg (σ1 := ((d + 1), 29, 107, [some (.inr (.inr 1)), some (.inl x1), some (.inl x2)], [.inr (.inr 16), .inr (.inr 56)], (am_sh, am_mm U13))) 4 (fun _ => rfl) ?_
              obtain ⟨U14, ha22a1a21aa1c, ha22a1a21aa1a⟩ := ha22a1a21aa1
              refine ev_cal (σc := (Hs_keep_s0 d U13)) (fun _ => rfl) ha22a1a21aa1c ?_
              show Ev (am_kz N X) ((d + 1), 29, 110, [some (.inr (.inr 1)), some (.inl x1), some (.inl x2)], [], (am_sh, am_mm U14)) R
              refine ev_seg (σ1 := ((d + 1), 29, 116, [some (.inr (.inr 1)), some (.inl x1), some (.inl x2)], [.inl x2, .inl x1, .inr (.inr 16)], (am_sh, am_mm U14))) 4 (fun _ => rfl) ?_
              obtain ⟨U15, ha22a1a21aa1ac, ha22a1a21aa1aa⟩ := ha22a1a21aa1a
              refine ev_cal (σc := (Fk_settle_16_s0 d x1 x2 U14)) (fun _ => rfl) ha22a1a21aa1ac ?_
              show Ev (am_kz N X) ((d + 1), 29, 119, [some (.inr (.inr 1)), some (.inl x1), some (.inl x2)], [], (am_sh, am_mm U15)) R
              refine ev_seg (σ1 := ((d + 1), 29, 120, [some (.inr (.inr 1)), some (.inl x1), some (.inl x2)], [.inr (.inr 1)], (am_sh, am_mm U15))) 1 (fun _ => rfl) ?_
              obtain ⟨U16, ha22a1a21aa1aac, ha22a1a21aa1aaa⟩ := ha22a1a21aa1aa
              refine ev_cal (σc := (D_forgetAnswers_s0 d U15)) (fun _ => rfl) ha22a1a21aa1aac ?_
              show Ev (am_kz N X) ((d + 1), 29, 123, [some (.inr (.inr 1)), some (.inl x1), some (.inl x2)], [], (am_sh, am_mm U16)) R
              subst ha22a1a21aa1aaa
              exact ev_end 2 (fun _ => rfl)
            · have ha22a1a21aa2 := ha22a1a21aa.2 (Int.not_lt.mp hc)
              refine ev_seg (σ1 := ((d + 1), 29, 95, [some (.inr (.inr 1)), some (.inl x1), some (.inl x2)], [.inl 2, .inr (.inr 1)], (am_sh, am_mm U13))) 2 (fun _ => rfl) ?_
              obtain ⟨r17, U17, ha22a1a21aa2c, ha22a1a21aa2a⟩ := ha22a1a21aa2
              refine ev_cal (σc := (D_refuse_s0 d 2 U13)) (fun _ => rfl) ha22a1a21aa2c ?_
              show Ev (am_kz N X) ((d + 1), 29, 98, [some (.inr (.inr 1)), some (.inl x1), some (.inl x2)], [.inl r17], (am_sh, am_mm U17)) R
              rw [ha22a1a21aa2a.2]
              exact ev_retz rfl rfl ha22a1a21aa2a.1
          · have ha22a1a22 := ha22a1a2.2 (Int.not_le.mp hc)
            refine ev_br (P := ¬ (U11 16 2) = 0) (σ1 := ((d + 1), 29, 68, [some (.inr (.inr 1)), some (.inl x1), some (.inl x2)], [], (am_sh, am_mm U11))) (σ2 := ((d + 1), 29, 62, [some (.inr (.inr 1)), some (.inl x1), some (.inl x2)], [], (am_sh, am_mm U11))) 4 (fun _ => rfl) (fun hc => ?_) (fun hc => ?_)
            · have ha22a1a221 := ha22a1a22.1 hc
              refine ev_br (P := x2 = (-1)) (σ1 := ((d + 1), 29, 99, [some (.inr (.inr 1)), some (.inl x1), some (.inl x2)], [], (am_sh, am_mm U11))) (σ2 := ((d + 1), 29, 73, [some (.inr (.inr 1)), some (.inl x1), some (.inl x2)], [], (am_sh, am_mm U11))) 3 (fun _ => rfl) (fun hc => absurd ha2q (fun h0 => by have h1 := hc; omega)) (fun hc => ?_)
              refine ev_seg (σ1 := ((d + 1), 29, 78, [some (.inr (.inr 1)), some (.inl x1), some (.inl x2)], [.inl x2, .inr (.inr 16)], (am_sh, am_mm U11))) 3 (fun _ => rfl) ?_
              obtain ⟨r18, U18, ha22a1a221c, ha22a1a221a⟩ := ha22a1a221
              refine ev_cal (σc := (Fk_living_16_s0 d x2 U11)) (fun _ => rfl) ha22a1a221c ?_
              show Ev (am_kz N X) ((d + 1), 29, 81, [some (.inr (.inr 1)), some (.inl x1), some (.inl x2)], [.inl r18], (am_sh, am_mm U18)) R
              refine ev_seg (σ1 := ((d + 1), 29, 89, [some (.inr (.inr 1)), some (.inl x1), some (.inl x2)], [.inl x2, .inr (.inr 8), .inl r18], (am_sh, am_mm U18))) 4 (fun _ => rfl) ?_
              refine eu_iald 8 (n := 12) rfl (by decide) rfl (fun _ => rfl) ha22a1a221a.1 ?_
              show Ev (am_kz N X) ((d + 1), 29, 90, [some (.inr (.inr 1)), some (.inl x1), some (.inl x2)], [.inl (U18 8 x2.toNat), .inl r18], (am_sh, am_mm U18)) R
              have ha22a1a221aa := ha22a1a221a.2
              refine ev_br (P := r18 < (U18 8 x2.toNat)) (σ1 := ((d + 1), 29, 99, [some (.inr (.inr 1)), some (.inl x1), some (.inl x2)], [], (am_sh, am_mm U18))) (σ2 := ((d + 1), 29, 93, [some (.inr (.inr 1)), some (.inl x1), some (.inl x2)], [], (am_sh, am_mm U18))) 1 (fun _ => rfl) (fun hc => ?_) (fun hc => ?_)
              · have ha22a1a221aa1 := ha22a1a221aa.1 hc
                refine ev_seg (σ1 := ((d + 1), 29, 107, [some (.inr (.inr 1)), some (.inl x1), some (.inl x2)], [.inr (.inr 16), .inr (.inr 56)], (am_sh, am_mm U18))) 4 (fun _ => rfl) ?_
                obtain ⟨U19, ha22a1a221aa1c, ha22a1a221aa1a⟩ := ha22a1a221aa1
                refine ev_cal (σc := (Hs_keep_s0 d U18)) (fun _ => rfl) ha22a1a221aa1c ?_
                show Ev (am_kz N X) ((d + 1), 29, 110, [some (.inr (.inr 1)), some (.inl x1), some (.inl x2)], [], (am_sh, am_mm U19)) R
                refine ev_seg (σ1 := ((d + 1), 29, 116, [some (.inr (.inr 1)), some (.inl x1), some (.inl x2)], [.inl x2, .inl x1, .inr (.inr 16)], (am_sh, am_mm U19))) 4 (fun _ => rfl) ?_
                obtain ⟨U20, ha22a1a221aa1ac, ha22a1a221aa1aa⟩ := ha22a1a221aa1a
                refine ev_cal (σc := (Fk_settle_16_s0 d x1 x2 U19)) (fun _ => rfl) ha22a1a221aa1ac ?_
                show Ev (am_kz N X) ((d + 1), 29, 119, [some (.inr (.inr 1)), some (.inl x1), some (.inl x2)], [], (am_sh, am_mm U20)) R
                refine ev_seg (σ1 := ((d + 1), 29, 120, [some (.inr (.inr 1)), some (.inl x1), some (.inl x2)], [.inr (.inr 1)], (am_sh, am_mm U20))) 1 (fun _ => rfl) ?_
                obtain ⟨U21, ha22a1a221aa1aac, ha22a1a221aa1aaa⟩ := ha22a1a221aa1aa
                refine ev_cal (σc := (D_forgetAnswers_s0 d U20)) (fun _ => rfl) ha22a1a221aa1aac ?_
                show Ev (am_kz N X) ((d + 1), 29, 123, [some (.inr (.inr 1)), some (.inl x1), some (.inl x2)], [], (am_sh, am_mm U21)) R
                subst ha22a1a221aa1aaa
                exact ev_end 2 (fun _ => rfl)
              · have ha22a1a221aa2 := ha22a1a221aa.2 (Int.not_lt.mp hc)
                refine ev_seg (σ1 := ((d + 1), 29, 95, [some (.inr (.inr 1)), some (.inl x1), some (.inl x2)], [.inl 2, .inr (.inr 1)], (am_sh, am_mm U18))) 2 (fun _ => rfl) ?_
                obtain ⟨r22, U22, ha22a1a221aa2c, ha22a1a221aa2a⟩ := ha22a1a221aa2
                refine ev_cal (σc := (D_refuse_s0 d 2 U18)) (fun _ => rfl) ha22a1a221aa2c ?_
                show Ev (am_kz N X) ((d + 1), 29, 98, [some (.inr (.inr 1)), some (.inl x1), some (.inl x2)], [.inl r22], (am_sh, am_mm U22)) R
                rw [ha22a1a221aa2a.2]
                exact ev_retz rfl rfl ha22a1a221aa2a.1
            · have ha22a1a222 := ha22a1a22.2 (Decidable.not_not.mp hc)
              refine ev_seg (σ1 := ((d + 1), 29, 64, [some (.inr (.inr 1)), some (.inl x1), some (.inl x2)], [.inl 2, .inr (.inr 1)], (am_sh, am_mm U11))) 2 (fun _ => rfl) ?_
              obtain ⟨r23, U23, ha22a1a222c, ha22a1a222a⟩ := ha22a1a222
              refine ev_cal (σc := (D_refuse_s0 d 2 U11)) (fun _ => rfl) ha22a1a222c ?_
              show Ev (am_kz N X) ((d + 1), 29, 67, [some (.inr (.inr 1)), some (.inl x1), some (.inl x2)], [.inl r23], (am_sh, am_mm U23)) R
              rw [ha22a1a222a.2]
              exact ev_retz rfl rfl ha22a1a222a.1
      · have ha22a2 := ha22a.2 (Decidable.not_not.mp hc)
        refine ev_seg (σ1 := ((d + 1), 29, 23, [some (.inr (.inr 1)), some (.inl x1), some (.inl x2)], [.inl 2, .inr (.inr 1)], (am_sh, am_mm U11))) 2 (fun _ => rfl) ?_
        obtain ⟨r24, U24, ha22a2c, ha22a2a⟩ := ha22a2
        refine ev_cal (σc := (D_refuse_s0 d 2 U11)) (fun _ => rfl) ha22a2c ?_
        show Ev (am_kz N X) ((d + 1), 29, 26, [some (.inr (.inr 1)), some (.inl x1), some (.inl x2)], [.inl r24], (am_sh, am_mm U24)) R
        rw [ha22a2a.2]
        exact ev_retz rfl rfl ha22a2a.1
set_option maxRecDepth 8000 in
theorem M_move_r0 {N : Nat} {X : Nat → Int} {d : Nat} {x1 x2 : Int} {U : am_U} {R : Option am_V × am_M} (h : ∃ (r1 : Int) (U1 : am_U), EvK N X (M_isPerson_s0 d x1 U) (rI r1 U1) ∧ ((r1 = 0) → EvK N X (M_move_s25 (d + 1) x1 x2 U1) R) ∧ ((r1 ≠ 0) → ((x2 = (-1)) → EvK N X (M_move_s21 (d + 1) x1 x2 U1) R) ∧ ((x2 ≠ (-1)) → ∃ (r2 : Int) (U2 : am_U), EvK N X (M_isHouse_s0 d x2 U1) (rI r2 U2) ∧ ((r2 = 0) → EvK N X (M_move_s25 (d + 1) x1 x2 U2) R) ∧ ((r2 ≠ 0) → EvK N X (M_move_s21 (d + 1) x1 x2 U2) R)))) : EvK N X (M_move_s0 (d + 1) x1 x2 U) R := by
  show Ev (am_kz N X) ((d + 1), 30, 0, [some (.inr (.inr 86)), some (.inl x1), some (.inl x2), none], [], (am_sh, am_mm U)) R
  refine ev_seg (σ1 := ((d + 1), 30, 2, [some (.inr (.inr 86)), some (.inl x1), some (.inl x2), none], [.inl x1, .inr (.inr 86)], (am_sh, am_mm U))) 2 (fun _ => rfl) ?_
  obtain ⟨r1, U1, hc, ha⟩ := h
  refine ev_cal (σc := (M_isPerson_s0 d x1 U)) (fun _ => rfl) hc ?_
  show Ev (am_kz N X) ((d + 1), 30, 5, [some (.inr (.inr 86)), some (.inl x1), some (.inl x2), none], [.inl r1], (am_sh, am_mm U1)) R
  refine ev_br (P := r1 = 0) (σ1 := ((d + 1), 30, 25, [some (.inr (.inr 86)), some (.inl x1), some (.inl x2), none], [], (am_sh, am_mm U1))) (σ2 := ((d + 1), 30, 8, [some (.inr (.inr 86)), some (.inl x1), some (.inl x2), none], [], (am_sh, am_mm U1))) 1 (fun _ => rfl) (fun hc => ?_) (fun hc => ?_)
  · have ha1 := ha.1 hc
    exact ha1
  · have ha2 := ha.2 hc
    refine ev_br (P := x2 = (-1)) (σ1 := ((d + 1), 30, 21, [some (.inr (.inr 86)), some (.inl x1), some (.inl x2), none], [], (am_sh, am_mm U1))) (σ2 := ((d + 1), 30, 13, [some (.inr (.inr 86)), some (.inl x1), some (.inl x2), none], [], (am_sh, am_mm U1))) 3 (fun _ => rfl) (fun hc => ?_) (fun hc => ?_)
    · have ha21 := ha2.1 hc
      exact ha21
    · have ha22 := ha2.2 hc
      refine ev_seg (σ1 := ((d + 1), 30, 15, [some (.inr (.inr 86)), some (.inl x1), some (.inl x2), none], [.inl x2, .inr (.inr 86)], (am_sh, am_mm U1))) 2 (fun _ => rfl) ?_
      obtain ⟨r2, U2, ha22c, ha22a⟩ := ha22
      refine ev_cal (σc := (M_isHouse_s0 d x2 U1)) (fun _ => rfl) ha22c ?_
      show Ev (am_kz N X) ((d + 1), 30, 18, [some (.inr (.inr 86)), some (.inl x1), some (.inl x2), none], [.inl r2], (am_sh, am_mm U2)) R
      refine ev_br (P := r2 = 0) (σ1 := ((d + 1), 30, 25, [some (.inr (.inr 86)), some (.inl x1), some (.inl x2), none], [], (am_sh, am_mm U2))) (σ2 := ((d + 1), 30, 21, [some (.inr (.inr 86)), some (.inl x1), some (.inl x2), none], [], (am_sh, am_mm U2))) 1 (fun _ => rfl) (fun hc => ?_) (fun hc => ?_)
      · have ha22a1 := ha22a.1 hc
        exact ha22a1
      · have ha22a2 := ha22a.2 hc
        exact ha22a2
set_option maxRecDepth 8000 in
theorem M_move_r25 {N : Nat} {X : Nat → Int} {d : Nat} {x1 x2 : Int} {U : am_U} {R : Option am_V × am_M} (h : EvK N X (M_move_s83 (d + 1) x1 x2 0 U) R) : EvK N X (M_move_s25 (d + 1) x1 x2 U) R := by
  show Ev (am_kz N X) ((d + 1), 30, 25, [some (.inr (.inr 86)), some (.inl x1), some (.inl x2), none], [], (am_sh, am_mm U)) R
  refine ev_seg (σ1 := ((d + 1), 30, 83, [some (.inr (.inr 86)), some (.inl x1), some (.inl x2), some (.inl 0)], [], (am_sh, am_mm U))) 4 (fun _ => rfl) ?_
  exact h
set_option maxRecDepth 8000 in
theorem M_move_r21 {N : Nat} {X : Nat → Int} {d : Nat} {x1 x2 : Int} {U : am_U} {R : Option am_V × am_M} (h : (0 ≤ x1 ∧ x1 < 352) ∧ (((U 124 x1.toNat) = x2) → EvK N X (M_move_s83 (d + 1) x1 x2 1 U) R) ∧ (((U 124 x1.toNat) ≠ x2) → ((x2 = (-1)) → ((0 < (U 123 x1.toNat)) → ∃ U1 : am_U, EvK N X (M_keeps_s0 d U) (rV U1) ∧ R = rI 1 (am_upd U1 124 x1.toNat x2)) ∧ (((U 123 x1.toNat) ≤ 0) → (((U 121 0) ≠ 1) → EvK N X (M_move_s83 (d + 1) x1 x2 1 U) R) ∧ (((U 121 0) = 1) → ∃ U2 : am_U, EvK N X (M_keeps_s0 d U) (rV U2) ∧ R = rI 1 (am_upd U2 124 x1.toNat x2)))) ∧ ((x2 ≠ (-1)) → ∃ (r3 : Int) (U3 : am_U), EvK N X (M_living_s0 d 0 x2 U) (rI r3 U3) ∧ ∃ (r4 : Int) (U4 : am_U), EvK N X (M_roomsOf_s0 d x2 U3) (rI r4 U4) ∧ ((r4 ≤ r3) → EvK N X (M_move_s83 (d + 1) x1 x2 1 U4) R) ∧ ((r3 < r4) → ((0 < (U4 123 x1.toNat)) → ∃ U5 : am_U, EvK N X (M_keeps_s0 d U4) (rV U5) ∧ R = rI 1 (am_upd U5 124 x1.toNat x2)) ∧ (((U4 123 x1.toNat) ≤ 0) → (((U4 121 0) ≠ 1) → EvK N X (M_move_s83 (d + 1) x1 x2 1 U4) R) ∧ (((U4 121 0) = 1) → ∃ U6 : am_U, EvK N X (M_keeps_s0 d U4) (rV U6) ∧ R = rI 1 (am_upd U6 124 x1.toNat x2))))))) : EvK N X (M_move_s21 (d + 1) x1 x2 U) R := by
  show Ev (am_kz N X) ((d + 1), 30, 21, [some (.inr (.inr 86)), some (.inl x1), some (.inl x2), none], [], (am_sh, am_mm U)) R
  refine ev_seg (σ1 := ((d + 1), 30, 36, [some (.inr (.inr 86)), some (.inl x1), some (.inl x2), some (.inl 1)], [.inl x1, .inr (.inr 124)], (am_sh, am_mm U))) 8 (fun _ => rfl) ?_
  refine eu_iald 124 (n := 352) rfl (by decide) rfl (fun _ => rfl) h.1 ?_
  show Ev (am_kz N X) ((d + 1), 30, 37, [some (.inr (.inr 86)), some (.inl x1), some (.inl x2), some (.inl 1)], [.inl (U 124 x1.toNat)], (am_sh, am_mm U)) R
  have ha := h.2
  refine ev_br (P := (U 124 x1.toNat) = x2) (σ1 := ((d + 1), 30, 83, [some (.inr (.inr 86)), some (.inl x1), some (.inl x2), some (.inl 1)], [], (am_sh, am_mm U))) (σ2 := ((d + 1), 30, 41, [some (.inr (.inr 86)), some (.inl x1), some (.inl x2), some (.inl 1)], [], (am_sh, am_mm U))) 2 (fun _ => rfl) (fun hc => ?_) (fun hc => ?_)
  · have ha1 := ha.1 hc
    exact ha1
  · have ha2 := ha.2 hc
    refine ev_br (P := x2 = (-1)) (σ1 := ((d + 1), 30, 60, [some (.inr (.inr 86)), some (.inl x1), some (.inl x2), some (.inl 1)], [], (am_sh, am_mm U))) (σ2 := ((d + 1), 30, 46, [some (.inr (.inr 86)), some (.inl x1), some (.inl x2), some (.inl 1)], [], (am_sh, am_mm U))) 3 (fun _ => rfl) (fun hc => ?_) (fun hc => ?_)
    · have ha21 := ha2.1 hc
      refine ev_seg (σ1 := ((d + 1), 30, 65, [some (.inr (.inr 86)), some (.inl x1), some (.inl x2), some (.inl 1)], [.inl x1, .inr (.inr 123)], (am_sh, am_mm U))) 3 (fun _ => rfl) ?_
      refine eu_iald 123 (n := 352) rfl (by decide) rfl (fun _ => rfl) h.1 ?_
      show Ev (am_kz N X) ((d + 1), 30, 66, [some (.inr (.inr 86)), some (.inl x1), some (.inl x2), some (.inl 1)], [.inl (U 123 x1.toNat)], (am_sh, am_mm U)) R
      refine ev_br (P := 0 < (U 123 x1.toNat)) (σ1 := ((d + 1), 30, 79, [some (.inr (.inr 86)), some (.inl x1), some (.inl x2), some (.inl 1)], [], (am_sh, am_mm U))) (σ2 := ((d + 1), 30, 69, [some (.inr (.inr 86)), some (.inl x1), some (.inl x2), some (.inl 1)], [], (am_sh, am_mm U))) 1 (fun _ => rfl) (fun hc => ?_) (fun hc => ?_)
      · have ha211 := ha21.1 hc
        refine ev_seg (σ1 := ((d + 1), 30, 104, [some (.inr (.inr 86)), some (.inl x1), some (.inl x2), some (.inl 1)], [.inr (.inr 86)], (am_sh, am_mm U))) 6 (fun _ => rfl) ?_
        obtain ⟨U1, ha211c, ha211a⟩ := ha211
        refine ev_cal (σc := (M_keeps_s0 d U)) (fun _ => rfl) ha211c ?_
        show Ev (am_kz N X) ((d + 1), 30, 107, [some (.inr (.inr 86)), some (.inl x1), some (.inl x2), some (.inl 1)], [], (am_sh, am_mm U1)) R
        refine ev_seg (σ1 := ((d + 1), 30, 113, [some (.inr (.inr 86)), some (.inl x1), some (.inl x2), some (.inl 1)], [.inl x2, .inl x1, .inr (.inr 124)], (am_sh, am_mm U1))) 4 (fun _ => rfl) ?_
        refine eu_iast 124 (n := 352) rfl (by decide) rfl (fun _ => rfl) h.1 ?_
        show Ev (am_kz N X) ((d + 1), 30, 114, [some (.inr (.inr 86)), some (.inl x1), some (.inl x2), some (.inl 1)], [], (am_sh, am_mm (am_upd U1 124 x1.toNat x2))) R
        subst ha211a
        exact ev_end 2 (fun _ => rfl)
      · have ha212 := ha21.2 (Int.not_lt.mp hc)
        refine ev_seg (σ1 := ((d + 1), 30, 74, [some (.inr (.inr 86)), some (.inl x1), some (.inl x2), some (.inl 1)], [.inl 0, .inr (.inr 121)], (am_sh, am_mm U))) 3 (fun _ => rfl) ?_
        refine eu_iald 121 (n := 22) rfl (by decide) rfl (fun _ => rfl) (by decide) ?_
        show Ev (am_kz N X) ((d + 1), 30, 75, [some (.inr (.inr 86)), some (.inl x1), some (.inl x2), some (.inl 1)], [.inl (U 121 0)], (am_sh, am_mm U)) R
        refine ev_br (P := ¬ (U 121 0) = 1) (σ1 := ((d + 1), 30, 83, [some (.inr (.inr 86)), some (.inl x1), some (.inl x2), some (.inl 1)], [], (am_sh, am_mm U))) (σ2 := ((d + 1), 30, 79, [some (.inr (.inr 86)), some (.inl x1), some (.inl x2), some (.inl 1)], [], (am_sh, am_mm U))) 2 (fun _ => rfl) (fun hc => ?_) (fun hc => ?_)
        · have ha2121 := ha212.1 hc
          exact ha2121
        · have ha2122 := ha212.2 (Decidable.not_not.mp hc)
          refine ev_seg (σ1 := ((d + 1), 30, 104, [some (.inr (.inr 86)), some (.inl x1), some (.inl x2), some (.inl 1)], [.inr (.inr 86)], (am_sh, am_mm U))) 6 (fun _ => rfl) ?_
          obtain ⟨U2, ha2122c, ha2122a⟩ := ha2122
          refine ev_cal (σc := (M_keeps_s0 d U)) (fun _ => rfl) ha2122c ?_
          show Ev (am_kz N X) ((d + 1), 30, 107, [some (.inr (.inr 86)), some (.inl x1), some (.inl x2), some (.inl 1)], [], (am_sh, am_mm U2)) R
          refine ev_seg (σ1 := ((d + 1), 30, 113, [some (.inr (.inr 86)), some (.inl x1), some (.inl x2), some (.inl 1)], [.inl x2, .inl x1, .inr (.inr 124)], (am_sh, am_mm U2))) 4 (fun _ => rfl) ?_
          refine eu_iast 124 (n := 352) rfl (by decide) rfl (fun _ => rfl) h.1 ?_
          show Ev (am_kz N X) ((d + 1), 30, 114, [some (.inr (.inr 86)), some (.inl x1), some (.inl x2), some (.inl 1)], [], (am_sh, am_mm (am_upd U2 124 x1.toNat x2))) R
          subst ha2122a
          exact ev_end 2 (fun _ => rfl)
    · have ha22 := ha2.2 hc
      refine ev_seg (σ1 := ((d + 1), 30, 49, [some (.inr (.inr 86)), some (.inl x1), some (.inl x2), some (.inl 1)], [.inl x2, .inl 0, .inr (.inr 86)], (am_sh, am_mm U))) 3 (fun _ => rfl) ?_
      obtain ⟨r3, U3, ha22c, ha22a⟩ := ha22
      refine ev_cal (σc := (M_living_s0 d 0 x2 U)) (fun _ => rfl) ha22c ?_
      show Ev (am_kz N X) ((d + 1), 30, 52, [some (.inr (.inr 86)), some (.inl x1), some (.inl x2), some (.inl 1)], [.inl r3], (am_sh, am_mm U3)) R
      refine ev_seg (σ1 := ((d + 1), 30, 54, [some (.inr (.inr 86)), some (.inl x1), some (.inl x2), some (.inl 1)], [.inl x2, .inr (.inr 86), .inl r3], (am_sh, am_mm U3))) 2 (fun _ => rfl) ?_
      obtain ⟨r4, U4, ha22ac, ha22aa⟩ := ha22a
      refine ev_cal (σc := (M_roomsOf_s0 d x2 U3)) (fun _ => rfl) ha22ac ?_
      show Ev (am_kz N X) ((d + 1), 30, 57, [some (.inr (.inr 86)), some (.inl x1), some (.inl x2), some (.inl 1)], [.inl r4, .inl r3], (am_sh, am_mm U4)) R
      refine ev_br (P := r4 ≤ r3) (σ1 := ((d + 1), 30, 83, [some (.inr (.inr 86)), some (.inl x1), some (.inl x2), some (.inl 1)], [], (am_sh, am_mm U4))) (σ2 := ((d + 1), 30, 60, [some (.inr (.inr 86)), some (.inl x1), some (.inl x2), some (.inl 1)], [], (am_sh, am_mm U4))) 1 (fun _ => rfl) (fun hc => ?_) (fun hc => ?_)
      · have ha22aa1 := ha22aa.1 hc
        exact ha22aa1
      · have ha22aa2 := ha22aa.2 (Int.not_le.mp hc)
        refine ev_seg (σ1 := ((d + 1), 30, 65, [some (.inr (.inr 86)), some (.inl x1), some (.inl x2), some (.inl 1)], [.inl x1, .inr (.inr 123)], (am_sh, am_mm U4))) 3 (fun _ => rfl) ?_
        refine eu_iald 123 (n := 352) rfl (by decide) rfl (fun _ => rfl) h.1 ?_
        show Ev (am_kz N X) ((d + 1), 30, 66, [some (.inr (.inr 86)), some (.inl x1), some (.inl x2), some (.inl 1)], [.inl (U4 123 x1.toNat)], (am_sh, am_mm U4)) R
        refine ev_br (P := 0 < (U4 123 x1.toNat)) (σ1 := ((d + 1), 30, 79, [some (.inr (.inr 86)), some (.inl x1), some (.inl x2), some (.inl 1)], [], (am_sh, am_mm U4))) (σ2 := ((d + 1), 30, 69, [some (.inr (.inr 86)), some (.inl x1), some (.inl x2), some (.inl 1)], [], (am_sh, am_mm U4))) 1 (fun _ => rfl) (fun hc => ?_) (fun hc => ?_)
        · have ha22aa21 := ha22aa2.1 hc
          refine ev_seg (σ1 := ((d + 1), 30, 104, [some (.inr (.inr 86)), some (.inl x1), some (.inl x2), some (.inl 1)], [.inr (.inr 86)], (am_sh, am_mm U4))) 6 (fun _ => rfl) ?_
          obtain ⟨U5, ha22aa21c, ha22aa21a⟩ := ha22aa21
          refine ev_cal (σc := (M_keeps_s0 d U4)) (fun _ => rfl) ha22aa21c ?_
          show Ev (am_kz N X) ((d + 1), 30, 107, [some (.inr (.inr 86)), some (.inl x1), some (.inl x2), some (.inl 1)], [], (am_sh, am_mm U5)) R
          refine ev_seg (σ1 := ((d + 1), 30, 113, [some (.inr (.inr 86)), some (.inl x1), some (.inl x2), some (.inl 1)], [.inl x2, .inl x1, .inr (.inr 124)], (am_sh, am_mm U5))) 4 (fun _ => rfl) ?_
          refine eu_iast 124 (n := 352) rfl (by decide) rfl (fun _ => rfl) h.1 ?_
          show Ev (am_kz N X) ((d + 1), 30, 114, [some (.inr (.inr 86)), some (.inl x1), some (.inl x2), some (.inl 1)], [], (am_sh, am_mm (am_upd U5 124 x1.toNat x2))) R
          subst ha22aa21a
          exact ev_end 2 (fun _ => rfl)
        · have ha22aa22 := ha22aa2.2 (Int.not_lt.mp hc)
          refine ev_seg (σ1 := ((d + 1), 30, 74, [some (.inr (.inr 86)), some (.inl x1), some (.inl x2), some (.inl 1)], [.inl 0, .inr (.inr 121)], (am_sh, am_mm U4))) 3 (fun _ => rfl) ?_
          refine eu_iald 121 (n := 22) rfl (by decide) rfl (fun _ => rfl) (by decide) ?_
          show Ev (am_kz N X) ((d + 1), 30, 75, [some (.inr (.inr 86)), some (.inl x1), some (.inl x2), some (.inl 1)], [.inl (U4 121 0)], (am_sh, am_mm U4)) R
          refine ev_br (P := ¬ (U4 121 0) = 1) (σ1 := ((d + 1), 30, 83, [some (.inr (.inr 86)), some (.inl x1), some (.inl x2), some (.inl 1)], [], (am_sh, am_mm U4))) (σ2 := ((d + 1), 30, 79, [some (.inr (.inr 86)), some (.inl x1), some (.inl x2), some (.inl 1)], [], (am_sh, am_mm U4))) 2 (fun _ => rfl) (fun hc => ?_) (fun hc => ?_)
          · have ha22aa221 := ha22aa22.1 hc
            exact ha22aa221
          · have ha22aa222 := ha22aa22.2 (Decidable.not_not.mp hc)
            refine ev_seg (σ1 := ((d + 1), 30, 104, [some (.inr (.inr 86)), some (.inl x1), some (.inl x2), some (.inl 1)], [.inr (.inr 86)], (am_sh, am_mm U4))) 6 (fun _ => rfl) ?_
            obtain ⟨U6, ha22aa222c, ha22aa222a⟩ := ha22aa222
            refine ev_cal (σc := (M_keeps_s0 d U4)) (fun _ => rfl) ha22aa222c ?_
            show Ev (am_kz N X) ((d + 1), 30, 107, [some (.inr (.inr 86)), some (.inl x1), some (.inl x2), some (.inl 1)], [], (am_sh, am_mm U6)) R
            refine ev_seg (σ1 := ((d + 1), 30, 113, [some (.inr (.inr 86)), some (.inl x1), some (.inl x2), some (.inl 1)], [.inl x2, .inl x1, .inr (.inr 124)], (am_sh, am_mm U6))) 4 (fun _ => rfl) ?_
            refine eu_iast 124 (n := 352) rfl (by decide) rfl (fun _ => rfl) h.1 ?_
            show Ev (am_kz N X) ((d + 1), 30, 114, [some (.inr (.inr 86)), some (.inl x1), some (.inl x2), some (.inl 1)], [], (am_sh, am_mm (am_upd U6 124 x1.toNat x2))) R
            subst ha22aa222a
            exact ev_end 2 (fun _ => rfl)
set_option maxRecDepth 8000 in
theorem M_move_r83 {N : Nat} {X : Nat → Int} {d : Nat} {x1 x2 x3 : Int} {U : am_U} {R : Option am_V × am_M} (h : ∃ (r1 : Int) (U1 : am_U), EvK N X (M_refuses_s0 d 2 U) (rI r1 U1) ∧ ((r1 < 0) → R = rI 0 U1) ∧ ((0 ≤ r1) → R = rI 1 U1)) : EvK N X (M_move_s83 (d + 1) x1 x2 x3 U) R := by
  show Ev (am_kz N X) ((d + 1), 30, 83, [some (.inr (.inr 86)), some (.inl x1), some (.inl x2), some (.inl x3)], [], (am_sh, am_mm U)) R
  refine ev_seg (σ1 := ((d + 1), 30, 91, [some (.inr (.inr 86)), some (.inl x1), some (.inl x2), some (.inl 0)], [.inl 2, .inr (.inr 86)], (am_sh, am_mm U))) 6 (fun _ => rfl) ?_
  obtain ⟨r1, U1, hc, ha⟩ := h
  refine ev_cal (σc := (M_refuses_s0 d 2 U)) (fun _ => rfl) hc ?_
  show Ev (am_kz N X) ((d + 1), 30, 94, [some (.inr (.inr 86)), some (.inl x1), some (.inl x2), some (.inl 0)], [.inl r1], (am_sh, am_mm U1)) R
  refine ev_br (P := r1 < 0) (σ1 := ((d + 1), 30, 101, [some (.inr (.inr 86)), some (.inl x1), some (.inl x2), some (.inl 0)], [], (am_sh, am_mm U1))) (σ2 := ((d + 1), 30, 97, [some (.inr (.inr 86)), some (.inl x1), some (.inl x2), some (.inl 0)], [], (am_sh, am_mm U1))) 1 (fun _ => rfl) (fun hc => ?_) (fun hc => ?_)
  · have ha1 := ha.1 hc
    subst ha1
    exact ev_end 2 (fun _ => rfl)
  · have ha2 := ha.2 (Int.not_lt.mp hc)
    subst ha2
    exact ev_end 3 (fun _ => rfl)
set_option maxRecDepth 8000 in
theorem D_night_r0 {N : Nat} {X : Nat → Int} {d : Nat} {x1 : Int} {U : am_U} {R : Option am_V × am_M} (h : (((U 16 2) ≠ x1) → ∃ U1 : am_U, EvK N X (Hs_keep_s0 d U) (rV U1) ∧ (x1 = 0 ∨ x1 = 1) ∧ R = rI 1 (am_upd U1 16 2 x1)) ∧ (((U 16 2) = x1) → ∃ (r2 : Int) (U2 : am_U), EvK N X (D_refuse_s0 d 2 U) (rI r2 U2) ∧ (r2 = 0 ∨ r2 = 1) ∧ R = rI r2 U2)) : EvK N X (D_night_s0 (d + 1) x1 U) R := by
  show Ev (am_kz N X) ((d + 1), 31, 0, [some (.inr (.inr 1)), some (.inl x1)], [], (am_sh, am_mm U)) R
  refine ev_br (P := ¬ (U 16 2) = x1) (σ1 := ((d + 1), 31, 17, [some (.inr (.inr 1)), some (.inl x1)], [], (am_sh, am_mm U))) (σ2 := ((d + 1), 31, 11, [some (.inr (.inr 1)), some (.inl x1)], [], (am_sh, am_mm U))) 5 (fun _ => rfl) (fun hc => ?_) (fun hc => ?_)
  · have h1 := h.1 hc
    refine ev_seg (σ1 := ((d + 1), 31, 25, [some (.inr (.inr 1)), some (.inl x1)], [.inr (.inr 16), .inr (.inr 56)], (am_sh, am_mm U))) 4 (fun _ => rfl) ?_
    obtain ⟨U1, h1c, h1a⟩ := h1
    refine ev_cal (σc := (Hs_keep_s0 d U)) (fun _ => rfl) h1c ?_
    show Ev (am_kz N X) ((d + 1), 31, 28, [some (.inr (.inr 1)), some (.inl x1)], [], (am_sh, am_mm U1)) R
    refine ev_seg (σ1 := ((d + 1), 31, 33, [some (.inr (.inr 1)), some (.inl x1)], [.inl x1, .inr (.inr 16)], (am_sh, am_mm U1))) 3 (fun _ => rfl) ?_
    refine eu_putz 16 (n := 7) rfl (by decide) rfl rfl h1a.1 ?_
    show Ev (am_kz N X) ((d + 1), 31, 36, [some (.inr (.inr 1)), some (.inl x1)], [], (am_sh, am_mm (am_upd U1 16 2 x1))) R
    have h1aa := h1a.2
    subst h1aa
    exact ev_end 2 (fun _ => rfl)
  · have h2 := h.2 (Decidable.not_not.mp hc)
    refine ev_seg (σ1 := ((d + 1), 31, 13, [some (.inr (.inr 1)), some (.inl x1)], [.inl 2, .inr (.inr 1)], (am_sh, am_mm U))) 2 (fun _ => rfl) ?_
    obtain ⟨r2, U2, h2c, h2a⟩ := h2
    refine ev_cal (σc := (D_refuse_s0 d 2 U)) (fun _ => rfl) h2c ?_
    show Ev (am_kz N X) ((d + 1), 31, 16, [some (.inr (.inr 1)), some (.inl x1)], [.inl r2], (am_sh, am_mm U2)) R
    rw [h2a.2]
    exact ev_retz rfl rfl h2a.1
set_option maxRecDepth 8000 in
theorem M_night_r0 {N : Nat} {X : Nat → Int} {d : Nat} {x1 : Int} {U : am_U} {R : Option am_V × am_M} (h : (((U 121 0) ≠ 1) → ((0 ≠ x1) → ∃ U1 : am_U, EvK N X (M_keeps_s0 d U) (rV U1) ∧ ((x1 = 0) → R = rI 1 (am_upd U1 121 0 0)) ∧ ((x1 ≠ 0) → R = rI 1 (am_upd U1 121 0 1))) ∧ ((0 = x1) → ∃ (r2 : Int) (U2 : am_U), EvK N X (M_refuses_s0 d 2 U) (rI r2 U2) ∧ ((r2 < 0) → R = rI 0 U2) ∧ ((0 ≤ r2) → R = rI 1 U2))) ∧ (((U 121 0) = 1) → ((1 ≠ x1) → ∃ U3 : am_U, EvK N X (M_keeps_s0 d U) (rV U3) ∧ ((x1 = 0) → R = rI 1 (am_upd U3 121 0 0)) ∧ ((x1 ≠ 0) → R = rI 1 (am_upd U3 121 0 1))) ∧ ((1 = x1) → ∃ (r4 : Int) (U4 : am_U), EvK N X (M_refuses_s0 d 2 U) (rI r4 U4) ∧ ((r4 < 0) → R = rI 0 U4) ∧ ((0 ≤ r4) → R = rI 1 U4)))) : EvK N X (M_night_s0 (d + 1) x1 U) R := by
  show Ev (am_kz N X) ((d + 1), 32, 0, [some (.inr (.inr 86)), some (.inl x1)], [], (am_sh, am_mm U)) R
  refine ev_seg (σ1 := ((d + 1), 32, 5, [some (.inr (.inr 86)), some (.inl x1)], [.inl 0, .inr (.inr 121)], (am_sh, am_mm U))) 3 (fun _ => rfl) ?_
  refine eu_iald 121 (n := 22) rfl (by decide) rfl (fun _ => rfl) (by decide) ?_
  show Ev (am_kz N X) ((d + 1), 32, 6, [some (.inr (.inr 86)), some (.inl x1)], [.inl (U 121 0)], (am_sh, am_mm U)) R
  refine ev_br (P := ¬ (U 121 0) = 1) (σ1 := ((d + 1), 32, 14, [some (.inr (.inr 86)), some (.inl x1)], [], (am_sh, am_mm U))) (σ2 := ((d + 1), 32, 10, [some (.inr (.inr 86)), some (.inl x1)], [], (am_sh, am_mm U))) 2 (fun _ => rfl) (fun hc => ?_) (fun hc => ?_)
  · have h1 := h.1 hc
    refine ev_br (P := ¬ 0 = x1) (σ1 := ((d + 1), 32, 33, [some (.inr (.inr 86)), some (.inl x1)], [], (am_sh, am_mm U))) (σ2 := ((d + 1), 32, 19, [some (.inr (.inr 86)), some (.inl x1)], [], (am_sh, am_mm U))) 3 (fun _ => rfl) (fun hc => ?_) (fun hc => ?_)
    · have h11 := h1.1 hc
      refine ev_seg (σ1 := ((d + 1), 32, 34, [some (.inr (.inr 86)), some (.inl x1)], [.inr (.inr 86)], (am_sh, am_mm U))) 1 (fun _ => rfl) ?_
      obtain ⟨U1, h11c, h11a⟩ := h11
      refine ev_cal (σc := (M_keeps_s0 d U)) (fun _ => rfl) h11c ?_
      show Ev (am_kz N X) ((d + 1), 32, 37, [some (.inr (.inr 86)), some (.inl x1)], [], (am_sh, am_mm U1)) R
      refine ev_br (P := x1 = 0) (σ1 := ((d + 1), 32, 50, [some (.inr (.inr 86)), some (.inl x1)], [.inl 0, .inr (.inr 121)], (am_sh, am_mm U1))) (σ2 := ((d + 1), 32, 46, [some (.inr (.inr 86)), some (.inl x1)], [.inl 0, .inr (.inr 121)], (am_sh, am_mm U1))) 5 (fun _ => rfl) (fun hc => ?_) (fun hc => ?_)
      · have h11a1 := h11a.1 hc
        refine ev_seg (σ1 := ((d + 1), 32, 51, [some (.inr (.inr 86)), some (.inl x1)], [.inl 0, .inl 0, .inr (.inr 121)], (am_sh, am_mm U1))) 1 (fun _ => rfl) ?_
        refine eu_iast 121 (n := 22) rfl (by decide) rfl (fun _ => rfl) (by decide) ?_
        show Ev (am_kz N X) ((d + 1), 32, 52, [some (.inr (.inr 86)), some (.inl x1)], [], (am_sh, am_mm (am_upd U1 121 0 0))) R
        subst h11a1
        exact ev_end 2 (fun _ => rfl)
      · have h11a2 := h11a.2 hc
        refine ev_seg (σ1 := ((d + 1), 32, 51, [some (.inr (.inr 86)), some (.inl x1)], [.inl 1, .inl 0, .inr (.inr 121)], (am_sh, am_mm U1))) 2 (fun _ => rfl) ?_
        refine eu_iast 121 (n := 22) rfl (by decide) rfl (fun _ => rfl) (by decide) ?_
        show Ev (am_kz N X) ((d + 1), 32, 52, [some (.inr (.inr 86)), some (.inl x1)], [], (am_sh, am_mm (am_upd U1 121 0 1))) R
        subst h11a2
        exact ev_end 2 (fun _ => rfl)
    · have h12 := h1.2 (Decidable.not_not.mp hc)
      refine ev_seg (σ1 := ((d + 1), 32, 21, [some (.inr (.inr 86)), some (.inl x1)], [.inl 2, .inr (.inr 86)], (am_sh, am_mm U))) 2 (fun _ => rfl) ?_
      obtain ⟨r2, U2, h12c, h12a⟩ := h12
      refine ev_cal (σc := (M_refuses_s0 d 2 U)) (fun _ => rfl) h12c ?_
      show Ev (am_kz N X) ((d + 1), 32, 24, [some (.inr (.inr 86)), some (.inl x1)], [.inl r2], (am_sh, am_mm U2)) R
      refine ev_br (P := r2 < 0) (σ1 := ((d + 1), 32, 31, [some (.inr (.inr 86)), some (.inl x1)], [], (am_sh, am_mm U2))) (σ2 := ((d + 1), 32, 27, [some (.inr (.inr 86)), some (.inl x1)], [], (am_sh, am_mm U2))) 1 (fun _ => rfl) (fun hc => ?_) (fun hc => ?_)
      · have h12a1 := h12a.1 hc
        subst h12a1
        exact ev_end 2 (fun _ => rfl)
      · have h12a2 := h12a.2 (Int.not_lt.mp hc)
        subst h12a2
        exact ev_end 3 (fun _ => rfl)
  · have h2 := h.2 (Decidable.not_not.mp hc)
    refine ev_br (P := ¬ 1 = x1) (σ1 := ((d + 1), 32, 33, [some (.inr (.inr 86)), some (.inl x1)], [], (am_sh, am_mm U))) (σ2 := ((d + 1), 32, 19, [some (.inr (.inr 86)), some (.inl x1)], [], (am_sh, am_mm U))) 4 (fun _ => rfl) (fun hc => ?_) (fun hc => ?_)
    · have h21 := h2.1 hc
      refine ev_seg (σ1 := ((d + 1), 32, 34, [some (.inr (.inr 86)), some (.inl x1)], [.inr (.inr 86)], (am_sh, am_mm U))) 1 (fun _ => rfl) ?_
      obtain ⟨U3, h21c, h21a⟩ := h21
      refine ev_cal (σc := (M_keeps_s0 d U)) (fun _ => rfl) h21c ?_
      show Ev (am_kz N X) ((d + 1), 32, 37, [some (.inr (.inr 86)), some (.inl x1)], [], (am_sh, am_mm U3)) R
      refine ev_br (P := x1 = 0) (σ1 := ((d + 1), 32, 50, [some (.inr (.inr 86)), some (.inl x1)], [.inl 0, .inr (.inr 121)], (am_sh, am_mm U3))) (σ2 := ((d + 1), 32, 46, [some (.inr (.inr 86)), some (.inl x1)], [.inl 0, .inr (.inr 121)], (am_sh, am_mm U3))) 5 (fun _ => rfl) (fun hc => ?_) (fun hc => ?_)
      · have h21a1 := h21a.1 hc
        refine ev_seg (σ1 := ((d + 1), 32, 51, [some (.inr (.inr 86)), some (.inl x1)], [.inl 0, .inl 0, .inr (.inr 121)], (am_sh, am_mm U3))) 1 (fun _ => rfl) ?_
        refine eu_iast 121 (n := 22) rfl (by decide) rfl (fun _ => rfl) (by decide) ?_
        show Ev (am_kz N X) ((d + 1), 32, 52, [some (.inr (.inr 86)), some (.inl x1)], [], (am_sh, am_mm (am_upd U3 121 0 0))) R
        subst h21a1
        exact ev_end 2 (fun _ => rfl)
      · have h21a2 := h21a.2 hc
        refine ev_seg (σ1 := ((d + 1), 32, 51, [some (.inr (.inr 86)), some (.inl x1)], [.inl 1, .inl 0, .inr (.inr 121)], (am_sh, am_mm U3))) 2 (fun _ => rfl) ?_
        refine eu_iast 121 (n := 22) rfl (by decide) rfl (fun _ => rfl) (by decide) ?_
        show Ev (am_kz N X) ((d + 1), 32, 52, [some (.inr (.inr 86)), some (.inl x1)], [], (am_sh, am_mm (am_upd U3 121 0 1))) R
        subst h21a2
        exact ev_end 2 (fun _ => rfl)
    · have h22 := h2.2 (Decidable.not_not.mp hc)
      refine ev_seg (σ1 := ((d + 1), 32, 21, [some (.inr (.inr 86)), some (.inl x1)], [.inl 2, .inr (.inr 86)], (am_sh, am_mm U))) 2 (fun _ => rfl) ?_
      obtain ⟨r4, U4, h22c, h22a⟩ := h22
      refine ev_cal (σc := (M_refuses_s0 d 2 U)) (fun _ => rfl) h22c ?_
      show Ev (am_kz N X) ((d + 1), 32, 24, [some (.inr (.inr 86)), some (.inl x1)], [.inl r4], (am_sh, am_mm U4)) R
      refine ev_br (P := r4 < 0) (σ1 := ((d + 1), 32, 31, [some (.inr (.inr 86)), some (.inl x1)], [], (am_sh, am_mm U4))) (σ2 := ((d + 1), 32, 27, [some (.inr (.inr 86)), some (.inl x1)], [], (am_sh, am_mm U4))) 1 (fun _ => rfl) (fun hc => ?_) (fun hc => ?_)
      · have h22a1 := h22a.1 hc
        subst h22a1
        exact ev_end 2 (fun _ => rfl)
      · have h22a2 := h22a.2 (Int.not_lt.mp hc)
        subst h22a2
        exact ev_end 3 (fun _ => rfl)
set_option maxRecDepth 8000 in
theorem D_housed_r0 {N : Nat} {X : Nat → Int} {d : Nat} {U : am_U} {R : Option am_V × am_M} (h : ∃ U1 : am_U, EvK N X (Hs_keep_s0 d U) (rV U1) ∧ EvK N X (D_housed_s15 (d + 1) 0 0 U1) R) : EvK N X (D_housed_s0 (d + 1) U) R := by
  show Ev (am_kz N X) ((d + 1), 33, 0, [some (.inr (.inr 1)), none, none, none, none], [], (am_sh, am_mm U)) R
  refine ev_seg (σ1 := ((d + 1), 33, 8, [some (.inr (.inr 1)), none, none, none, none], [.inr (.inr 16), .inr (.inr 56)], (am_sh, am_mm U))) 4 (fun _ => rfl) ?_
  obtain ⟨U1, hc, ha⟩ := h
  refine ev_cal (σc := (Hs_keep_s0 d U)) (fun _ => rfl) hc ?_
  show Ev (am_kz N X) ((d + 1), 33, 11, [some (.inr (.inr 1)), none, none, none, none], [], (am_sh, am_mm U1)) R
  refine ev_seg (σ1 := ((d + 1), 33, 15, [some (.inr (.inr 1)), some (.inl 0), some (.inl 0), none, none], [], (am_sh, am_mm U1))) 4 (fun _ => rfl) ?_
  exact ha
set_option maxRecDepth 8000 in
theorem D_housed_r15 {N : Nat} {X : Nat → Int} {d : Nat} {x1 x2 : Int} {U : am_U} {R : Option am_V × am_M} (h : (((U 16 0) ≤ x2) → ∃ U1 : am_U, EvK N X (D_forgetAnswers_s0 d U) (rV U1) ∧ R = rI x1 U1) ∧ ((x2 < (U 16 0)) → (0 ≤ x2 ∧ x2 < 16) ∧ (((U 18 x2.toNat) ≠ (-1)) → EvK N X (D_housed_s70 (d + 1) x1 x2 0 0 U) R) ∧ (((U 18 x2.toNat) = (-1)) → ((0 < (U 17 x2.toNat)) → EvK N X (D_housed_s70 (d + 1) x1 x2 1 0 U) R) ∧ (((U 17 x2.toNat) ≤ 0) → (((U 16 2) = 0) → EvK N X (D_housed_s70 (d + 1) x1 x2 0 0 U) R) ∧ (((U 16 2) ≠ 0) → EvK N X (D_housed_s70 (d + 1) x1 x2 1 0 U) R))))) : EvK N X (D_housed_s15 (d + 1) x1 x2 U) R := by
  show Ev (am_kz N X) ((d + 1), 33, 15, [some (.inr (.inr 1)), some (.inl x1), some (.inl x2), none, none], [], (am_sh, am_mm U)) R
  refine ev_br (P := (U 16 0) ≤ x2) (σ1 := ((d + 1), 33, 126, [some (.inr (.inr 1)), some (.inl x1), some (.inl x2), none, none], [], (am_sh, am_mm U))) (σ2 := ((d + 1), 33, 26, [some (.inr (.inr 1)), some (.inl x1), some (.inl x2), none, none], [], (am_sh, am_mm U))) 5 (fun _ => rfl) (fun hc => ?_) (fun hc => ?_)
  · have h1 := h.1 hc
    refine ev_seg (σ1 := ((d + 1), 33, 127, [some (.inr (.inr 1)), some (.inl x1), some (.inl x2), none, none], [.inr (.inr 1)], (am_sh, am_mm U))) 1 (fun _ => rfl) ?_
    obtain ⟨U1, h1c, h1a⟩ := h1
    refine ev_cal (σc := (D_forgetAnswers_s0 d U)) (fun _ => rfl) h1c ?_
    show Ev (am_kz N X) ((d + 1), 33, 130, [some (.inr (.inr 1)), some (.inl x1), some (.inl x2), none, none], [], (am_sh, am_mm U1)) R
    subst h1a
    exact ev_end 2 (fun _ => rfl)
  · have h2 := h.2 (Int.not_le.mp hc)
    refine ev_seg (σ1 := ((d + 1), 33, 34, [some (.inr (.inr 1)), some (.inl x1), some (.inl x2), none, none], [.inl x2, .inr (.inr 18)], (am_sh, am_mm U))) 4 (fun _ => rfl) ?_
    refine eu_iald 18 (n := 16) rfl (by decide) rfl (fun _ => rfl) h2.1 ?_
    show Ev (am_kz N X) ((d + 1), 33, 35, [some (.inr (.inr 1)), some (.inl x1), some (.inl x2), none, none], [.inl (U 18 x2.toNat)], (am_sh, am_mm U)) R
    have h2a := h2.2
    refine ev_br (P := ¬ (U 18 x2.toNat) = (-1)) (σ1 := ((d + 1), 33, 65, [some (.inr (.inr 1)), some (.inl x1), some (.inl x2), none, none], [], (am_sh, am_mm U))) (σ2 := ((d + 1), 33, 39, [some (.inr (.inr 1)), some (.inl x1), some (.inl x2), none, none], [], (am_sh, am_mm U))) 2 (fun _ => rfl) (fun hc => ?_) (fun hc => ?_)
    · have h2a1 := h2a.1 hc
      refine ev_seg (σ1 := ((d + 1), 33, 70, [some (.inr (.inr 1)), some (.inl x1), some (.inl x2), some (.inl 0), some (.inl 0)], [], (am_sh, am_mm U))) 4 (fun _ => rfl) ?_
      exact h2a1
    · have h2a2 := h2a.2 (Decidable.not_not.mp hc)
      refine ev_seg (σ1 := ((d + 1), 33, 47, [some (.inr (.inr 1)), some (.inl x1), some (.inl x2), none, none], [.inl x2, .inr (.inr 17)], (am_sh, am_mm U))) 4 (fun _ => rfl) ?_
      refine eu_iald 17 (n := 16) rfl (by decide) rfl (fun _ => rfl) h2.1 ?_
      show Ev (am_kz N X) ((d + 1), 33, 48, [some (.inr (.inr 1)), some (.inl x1), some (.inl x2), none, none], [.inl (U 17 x2.toNat)], (am_sh, am_mm U)) R
      refine ev_br (P := 0 < (U 17 x2.toNat)) (σ1 := ((d + 1), 33, 61, [some (.inr (.inr 1)), some (.inl x1), some (.inl x2), none, none], [], (am_sh, am_mm U))) (σ2 := ((d + 1), 33, 51, [some (.inr (.inr 1)), some (.inl x1), some (.inl x2), none, none], [], (am_sh, am_mm U))) 1 (fun _ => rfl) (fun hc => ?_) (fun hc => ?_)
      · have h2a21 := h2a2.1 hc
        refine ev_seg (σ1 := ((d + 1), 33, 70, [some (.inr (.inr 1)), some (.inl x1), some (.inl x2), some (.inl 1), some (.inl 0)], [], (am_sh, am_mm U))) 5 (fun _ => rfl) ?_
        exact h2a21
      · have h2a22 := h2a2.2 (Int.not_lt.mp hc)
        refine ev_br (P := (U 16 2) = 0) (σ1 := ((d + 1), 33, 65, [some (.inr (.inr 1)), some (.inl x1), some (.inl x2), none, none], [], (am_sh, am_mm U))) (σ2 := ((d + 1), 33, 61, [some (.inr (.inr 1)), some (.inl x1), some (.inl x2), none, none], [], (am_sh, am_mm U))) 4 (fun _ => rfl) (fun hc => ?_) (fun hc => ?_)
        · have h2a221 := h2a22.1 hc
          refine ev_seg (σ1 := ((d + 1), 33, 70, [some (.inr (.inr 1)), some (.inl x1), some (.inl x2), some (.inl 0), some (.inl 0)], [], (am_sh, am_mm U))) 4 (fun _ => rfl) ?_
          exact h2a221
        · have h2a222 := h2a22.2 hc
          refine ev_seg (σ1 := ((d + 1), 33, 70, [some (.inr (.inr 1)), some (.inl x1), some (.inl x2), some (.inl 1), some (.inl 0)], [], (am_sh, am_mm U))) 5 (fun _ => rfl) ?_
          exact h2a222
set_option maxRecDepth 8000 in
theorem D_housed_r70 {N : Nat} {X : Nat → Int} {d : Nat} {x1 x2 x3 x4 : Int} {U : am_U} {R : Option am_V × am_M} (h : (((U 3 1) ≤ x4) → EvK N X (D_housed_s15 (d + 1) x1 (w32 (x2 + 1)) U) R) ∧ ((x4 < (U 3 1)) → ((x3 = 0) → EvK N X (D_housed_s15 (d + 1) x1 (w32 (x2 + 1)) U) R) ∧ ((x3 ≠ 0) → ∃ (r1 : Int) (U1 : am_U), EvK N X (Jg_mayLive_s0 d x2 x4 U) (rI r1 U1) ∧ ((r1 = 0) → EvK N X (D_housed_s70 (d + 1) x1 x2 x3 (w32 (x4 + 1)) U1) R) ∧ ((r1 ≠ 0) → ∃ U2 : am_U, EvK N X (Fk_settle_16_s0 d x2 x4 U1) (rV U2) ∧ EvK N X (D_housed_s70 (d + 1) (w32 (x1 + 1)) x2 0 (w32 (x4 + 1)) U2) R)))) : EvK N X (D_housed_s70 (d + 1) x1 x2 x3 x4 U) R := by
  show Ev (am_kz N X) ((d + 1), 33, 70, [some (.inr (.inr 1)), some (.inl x1), some (.inl x2), some (.inl x3), some (.inl x4)], [], (am_sh, am_mm U)) R
  refine ev_br (P := (U 3 1) ≤ x4) (σ1 := ((d + 1), 33, 120, [some (.inr (.inr 1)), some (.inl x1), some (.inl x2), some (.inl x3), some (.inl x4)], [], (am_sh, am_mm U))) (σ2 := ((d + 1), 33, 82, [some (.inr (.inr 1)), some (.inl x1), some (.inl x2), some (.inl x3), some (.inl x4)], [], (am_sh, am_mm U))) 5 (fun _ => rfl) (fun hc => ?_) (fun hc => ?_)
  · have h1 := h.1 hc
    refine ev_seg (σ1 := ((d + 1), 33, 15, [some (.inr (.inr 1)), some (.inl x1), some (.inl (w32 (x2 + 1))), some (.inl x3), some (.inl x4)], [], (am_sh, am_mm U))) 2 (fun _ => rfl) ?_
    exact ev_le (L := [some (.inr (.inr 1)), some (.inl x1), some (.inl (w32 (x2 + 1))), none, none]) ⟨rfl, ⟨rfl, ⟨rfl, trivial⟩⟩⟩ h1
  · have h2 := h.2 (Int.not_le.mp hc)
    refine ev_br (P := x3 = 0) (σ1 := ((d + 1), 33, 120, [some (.inr (.inr 1)), some (.inl x1), some (.inl x2), some (.inl x3), some (.inl x4)], [], (am_sh, am_mm U))) (σ2 := ((d + 1), 33, 86, [some (.inr (.inr 1)), some (.inl x1), some (.inl x2), some (.inl x3), some (.inl x4)], [], (am_sh, am_mm U))) 2 (fun _ => rfl) (fun hc => ?_) (fun hc => ?_)
    · have h21 := h2.1 hc
      refine ev_seg (σ1 := ((d + 1), 33, 15, [some (.inr (.inr 1)), some (.inl x1), some (.inl (w32 (x2 + 1))), some (.inl x3), some (.inl x4)], [], (am_sh, am_mm U))) 2 (fun _ => rfl) ?_
      exact ev_le (L := [some (.inr (.inr 1)), some (.inl x1), some (.inl (w32 (x2 + 1))), none, none]) ⟨rfl, ⟨rfl, ⟨rfl, trivial⟩⟩⟩ h21
    · have h22 := h2.2 hc
      refine ev_seg (σ1 := ((d + 1), 33, 93, [some (.inr (.inr 1)), some (.inl x1), some (.inl x2), some (.inl x3), some (.inl x4)], [.inl x4, .inl x2, .inr (.inr 45)], (am_sh, am_mm U))) 4 (fun _ => rfl) ?_
      obtain ⟨r1, U1, h22c, h22a⟩ := h22
      refine ev_cal (σc := (Jg_mayLive_s0 d x2 x4 U)) (fun _ => rfl) h22c ?_
      show Ev (am_kz N X) ((d + 1), 33, 96, [some (.inr (.inr 1)), some (.inl x1), some (.inl x2), some (.inl x3), some (.inl x4)], [.inl r1], (am_sh, am_mm U1)) R
      refine ev_br (P := r1 = 0) (σ1 := ((d + 1), 33, 114, [some (.inr (.inr 1)), some (.inl x1), some (.inl x2), some (.inl x3), some (.inl x4)], [], (am_sh, am_mm U1))) (σ2 := ((d + 1), 33, 99, [some (.inr (.inr 1)), some (.inl x1), some (.inl x2), some (.inl x3), some (.inl x4)], [], (am_sh, am_mm U1))) 1 (fun _ => rfl) (fun hc => ?_) (fun hc => ?_)
      · have h22a1 := h22a.1 hc
        refine ev_seg (σ1 := ((d + 1), 33, 70, [some (.inr (.inr 1)), some (.inl x1), some (.inl x2), some (.inl x3), some (.inl (w32 (x4 + 1)))], [], (am_sh, am_mm U1))) 2 (fun _ => rfl) ?_
        exact h22a1
      · have h22a2 := h22a.2 hc
        refine ev_seg (σ1 := ((d + 1), 33, 106, [some (.inr (.inr 1)), some (.inl x1), some (.inl x2), some (.inl x3), some (.inl x4)], [.inl x4, .inl x2, .inr (.inr 16)], (am_sh, am_mm U1))) 4 (fun _ => rfl) ?_
        obtain ⟨U2, h22a2c, h22a2a⟩ := h22a2
        refine ev_cal (σc := (Fk_settle_16_s0 d x2 x4 U1)) (fun _ => rfl) h22a2c ?_
        show Ev (am_kz N X) ((d + 1), 33, 109, [some (.inr (.inr 1)), some (.inl x1), some (.inl x2), some (.inl x3), some (.inl x4)], [], (am_sh, am_mm U2)) R
        refine ev_seg (σ1 := ((d + 1), 33, 70, [some (.inr (.inr 1)), some (.inl (w32 (x1 + 1))), some (.inl x2), some (.inl 0), some (.inl (w32 (x4 + 1)))], [], (am_sh, am_mm U2))) 5 (fun _ => rfl) ?_
        exact h22a2a
set_option maxRecDepth 8000 in
theorem M_housed_r0 {N : Nat} {X : Nat → Int} {d : Nat} {U : am_U} {R : Option am_V × am_M} (h : ∃ U1 : am_U, EvK N X (M_keeps_s0 d U) (rV U1) ∧ EvK N X (M_housed_s8 (d + 1) 0 0 U1) R) : EvK N X (M_housed_s0 (d + 1) U) R := by
  show Ev (am_kz N X) ((d + 1), 34, 0, [some (.inr (.inr 86)), none, none, none, none], [], (am_sh, am_mm U)) R
  refine ev_seg (σ1 := ((d + 1), 34, 1, [some (.inr (.inr 86)), none, none, none, none], [.inr (.inr 86)], (am_sh, am_mm U))) 1 (fun _ => rfl) ?_
  obtain ⟨U1, hc, ha⟩ := h
  refine ev_cal (σc := (M_keeps_s0 d U)) (fun _ => rfl) hc ?_
  show Ev (am_kz N X) ((d + 1), 34, 4, [some (.inr (.inr 86)), none, none, none, none], [], (am_sh, am_mm U1)) R
  refine ev_seg (σ1 := ((d + 1), 34, 8, [some (.inr (.inr 86)), some (.inl 0), some (.inl 0), none, none], [], (am_sh, am_mm U1))) 4 (fun _ => rfl) ?_
  exact ha
set_option maxRecDepth 8000 in
theorem M_housed_r8 {N : Nat} {X : Nat → Int} {d : Nat} {x1 x2 : Int} {U : am_U} {R : Option am_V × am_M} (h : (((U 122 0) ≤ x2) → R = rI x1 U) ∧ ((x2 < (U 122 0)) → (0 ≤ x2 ∧ x2 < 352) ∧ (((U 124 x2.toNat) ≠ (-1)) → EvK N X (M_housed_s8 (d + 1) x1 (w32 (x2 + 1)) U) R) ∧ (((U 124 x2.toNat) = (-1)) → ((0 ≤ (U 123 x2.toNat)) → EvK N X (M_housed_s54 (d + 1) x1 x2 (-1) 0 U) R) ∧ (((U 123 x2.toNat) < 0) → (((U 121 0) ≠ 0) → EvK N X (M_housed_s54 (d + 1) x1 x2 (-1) 0 U) R) ∧ (((U 121 0) = 0) → EvK N X (M_housed_s8 (d + 1) x1 (w32 (x2 + 1)) U) R))))) : EvK N X (M_housed_s8 (d + 1) x1 x2 U) R := by
  show Ev (am_kz N X) ((d + 1), 34, 8, [some (.inr (.inr 86)), some (.inl x1), some (.inl x2), none, none], [], (am_sh, am_mm U)) R
  refine ev_seg (σ1 := ((d + 1), 34, 14, [some (.inr (.inr 86)), some (.inl x1), some (.inl x2), none, none], [.inl 0, .inr (.inr 122), .inl x2], (am_sh, am_mm U))) 4 (fun _ => rfl) ?_
  refine eu_iald 122 (n := 22) rfl (by decide) rfl (fun _ => rfl) (by decide) ?_
  show Ev (am_kz N X) ((d + 1), 34, 15, [some (.inr (.inr 86)), some (.inl x1), some (.inl x2), none, none], [.inl (U 122 0), .inl x2], (am_sh, am_mm U)) R
  refine ev_br (P := (U 122 0) ≤ x2) (σ1 := ((d + 1), 34, 123, [some (.inr (.inr 86)), some (.inl x1), some (.inl x2), none, none], [], (am_sh, am_mm U))) (σ2 := ((d + 1), 34, 18, [some (.inr (.inr 86)), some (.inl x1), some (.inl x2), none, none], [], (am_sh, am_mm U))) 1 (fun _ => rfl) (fun hc => ?_) (fun hc => ?_)
  · have h1 := h.1 hc
    subst h1
    exact ev_end 2 (fun _ => rfl)
  · have h2 := h.2 (Int.not_le.mp hc)
    refine ev_seg (σ1 := ((d + 1), 34, 23, [some (.inr (.inr 86)), some (.inl x1), some (.inl x2), none, none], [.inl x2, .inr (.inr 124)], (am_sh, am_mm U))) 3 (fun _ => rfl) ?_
    refine eu_iald 124 (n := 352) rfl (by decide) rfl (fun _ => rfl) h2.1 ?_
    show Ev (am_kz N X) ((d + 1), 34, 24, [some (.inr (.inr 86)), some (.inl x1), some (.inl x2), none, none], [.inl (U 124 x2.toNat)], (am_sh, am_mm U)) R
    have h2a := h2.2
    refine ev_br (P := ¬ (U 124 x2.toNat) = (-1)) (σ1 := ((d + 1), 34, 117, [some (.inr (.inr 86)), some (.inl x1), some (.inl x2), none, none], [], (am_sh, am_mm U))) (σ2 := ((d + 1), 34, 28, [some (.inr (.inr 86)), some (.inl x1), some (.inl x2), none, none], [], (am_sh, am_mm U))) 2 (fun _ => rfl) (fun hc => ?_) (fun hc => ?_)
    · have h2a1 := h2a.1 hc
      refine ev_seg (σ1 := ((d + 1), 34, 8, [some (.inr (.inr 86)), some (.inl x1), some (.inl (w32 (x2 + 1))), none, none], [], (am_sh, am_mm U))) 2 (fun _ => rfl) ?_
      exact h2a1
    · have h2a2 := h2a.2 (Decidable.not_not.mp hc)
      refine ev_seg (σ1 := ((d + 1), 34, 33, [some (.inr (.inr 86)), some (.inl x1), some (.inl x2), none, none], [.inl x2, .inr (.inr 123)], (am_sh, am_mm U))) 3 (fun _ => rfl) ?_
      refine eu_iald 123 (n := 352) rfl (by decide) rfl (fun _ => rfl) h2.1 ?_
      show Ev (am_kz N X) ((d + 1), 34, 34, [some (.inr (.inr 86)), some (.inl x1), some (.inl x2), none, none], [.inl (U 123 x2.toNat)], (am_sh, am_mm U)) R
      refine ev_br (P := 0 ≤ (U 123 x2.toNat)) (σ1 := ((d + 1), 34, 49, [some (.inr (.inr 86)), some (.inl x1), some (.inl x2), none, none], [], (am_sh, am_mm U))) (σ2 := ((d + 1), 34, 37, [some (.inr (.inr 86)), some (.inl x1), some (.inl x2), none, none], [], (am_sh, am_mm U))) 1 (fun _ => rfl) (fun hc => ?_) (fun hc => ?_)
      · have h2a21 := h2a2.1 hc
        refine ev_seg (σ1 := ((d + 1), 34, 54, [some (.inr (.inr 86)), some (.inl x1), some (.inl x2), some (.inl (-1)), some (.inl 0)], [], (am_sh, am_mm U))) 4 (fun _ => rfl) ?_
        exact h2a21
      · have h2a22 := h2a2.2 (Int.not_le.mp hc)
        refine ev_seg (σ1 := ((d + 1), 34, 42, [some (.inr (.inr 86)), some (.inl x1), some (.inl x2), none, none], [.inl 0, .inr (.inr 121)], (am_sh, am_mm U))) 3 (fun _ => rfl) ?_
        refine eu_iald 121 (n := 22) rfl (by decide) rfl (fun _ => rfl) (by decide) ?_
        show Ev (am_kz N X) ((d + 1), 34, 43, [some (.inr (.inr 86)), some (.inl x1), some (.inl x2), none, none], [.inl (U 121 0)], (am_sh, am_mm U)) R
        refine ev_br (P := ¬ (U 121 0) = 0) (σ1 := ((d + 1), 34, 49, [some (.inr (.inr 86)), some (.inl x1), some (.inl x2), none, none], [], (am_sh, am_mm U))) (σ2 := ((d + 1), 34, 46, [some (.inr (.inr 86)), some (.inl x1), some (.inl x2), none, none], [], (am_sh, am_mm U))) 1 (fun _ => rfl) (fun hc => ?_) (fun hc => ?_)
        · have h2a221 := h2a22.1 hc
          refine ev_seg (σ1 := ((d + 1), 34, 54, [some (.inr (.inr 86)), some (.inl x1), some (.inl x2), some (.inl (-1)), some (.inl 0)], [], (am_sh, am_mm U))) 4 (fun _ => rfl) ?_
          exact h2a221
        · have h2a222 := h2a22.2 (Decidable.not_not.mp hc)
          refine ev_seg (σ1 := ((d + 1), 34, 8, [some (.inr (.inr 86)), some (.inl x1), some (.inl (w32 (x2 + 1))), none, none], [], (am_sh, am_mm U))) 3 (fun _ => rfl) ?_
          exact h2a222
set_option maxRecDepth 8000 in
theorem M_housed_r54 {N : Nat} {X : Nat → Int} {d : Nat} {x1 x2 x3 x4 : Int} {U : am_U} {R : Option am_V × am_M} (h : (0 ≤ (U 86 13) ∧ (U 86 13) < 2) ∧ (((U 90 ((U 86 13).toNat)) ≤ x4) → (0 ≤ x2 ∧ x2 < 352) ∧ ((x3 ≠ (-1)) → EvK N X (M_housed_s8 (d + 1) (w32 (x1 + 1)) (w32 (x2 + 1)) (am_upd U 124 x2.toNat x3)) R) ∧ ((x3 = (-1)) → EvK N X (M_housed_s8 (d + 1) (w32 (x1 + 0)) (w32 (x2 + 1)) (am_upd U 124 x2.toNat x3)) R)) ∧ ((x4 < (U 90 ((U 86 13).toNat))) → ((x3 ≠ (-1)) → (0 ≤ x2 ∧ x2 < 352) ∧ EvK N X (M_housed_s8 (d + 1) (w32 (x1 + 1)) (w32 (x2 + 1)) (am_upd U 124 x2.toNat x3)) R) ∧ ((x3 = (-1)) → ∃ (r1 : Int) (U1 : am_U), EvK N X (M_mayLive_s0 d 0 x2 x4 U) (rI r1 U1) ∧ ((r1 = 0) → EvK N X (M_housed_s54 (d + 1) x1 x2 (-1) (w32 (x4 + 1)) U1) R) ∧ ((r1 ≠ 0) → EvK N X (M_housed_s54 (d + 1) x1 x2 x4 (w32 (x4 + 1)) U1) R)))) : EvK N X (M_housed_s54 (d + 1) x1 x2 x3 x4 U) R := by
  show Ev (am_kz N X) ((d + 1), 34, 54, [some (.inr (.inr 86)), some (.inl x1), some (.inl x2), some (.inl x3), some (.inl x4)], [], (am_sh, am_mm U)) R
  refine ev_seg (σ1 := ((d + 1), 34, 64, [some (.inr (.inr 86)), some (.inl x1), some (.inl x2), some (.inl x3), some (.inl x4)], [.inl (U 86 13), .inr (.inr 90), .inl x4], (am_sh, am_mm U))) 5 (fun _ => rfl) ?_
  refine eu_iald 90 (n := 2) rfl (by decide) rfl (fun _ => rfl) h.1 ?_
  show Ev (am_kz N X) ((d + 1), 34, 65, [some (.inr (.inr 86)), some (.inl x1), some (.inl x2), some (.inl x3), some (.inl x4)], [.inl (U 90 ((U 86 13).toNat)), .inl x4], (am_sh, am_mm U)) R
  have ha := h.2
  refine ev_br (P := (U 90 ((U 86 13).toNat)) ≤ x4) (σ1 := ((d + 1), 34, 97, [some (.inr (.inr 86)), some (.inl x1), some (.inl x2), some (.inl x3), some (.inl x4)], [], (am_sh, am_mm U))) (σ2 := ((d + 1), 34, 68, [some (.inr (.inr 86)), some (.inl x1), some (.inl x2), some (.inl x3), some (.inl x4)], [], (am_sh, am_mm U))) 1 (fun _ => rfl) (fun hc => ?_) (fun hc => ?_)
  · have ha1 := ha.1 hc
    refine ev_seg (σ1 := ((d + 1), 34, 103, [some (.inr (.inr 86)), some (.inl x1), some (.inl x2), some (.inl x3), some (.inl x4)], [.inl x3, .inl x2, .inr (.inr 124)], (am_sh, am_mm U))) 4 (fun _ => rfl) ?_
    refine eu_iast 124 (n := 352) rfl (by decide) rfl (fun _ => rfl) ha1.1 ?_
    show Ev (am_kz N X) ((d + 1), 34, 104, [some (.inr (.inr 86)), some (.inl x1), some (.inl x2), some (.inl x3), some (.inl x4)], [], (am_sh, am_mm (am_upd U 124 x2.toNat x3))) R
    have ha1a := ha1.2
    refine ev_br (P := ¬ x3 = (-1)) (σ1 := ((d + 1), 34, 114, [some (.inr (.inr 86)), some (.inl x1), some (.inl x2), some (.inl x3), some (.inl x4)], [.inl x1], (am_sh, am_mm (am_upd U 124 x2.toNat x3)))) (σ2 := ((d + 1), 34, 110, [some (.inr (.inr 86)), some (.inl x1), some (.inl x2), some (.inl x3), some (.inl x4)], [.inl x1], (am_sh, am_mm (am_upd U 124 x2.toNat x3)))) 4 (fun _ => rfl) (fun hc => ?_) (fun hc => ?_)
    · have ha1a1 := ha1a.1 hc
      refine ev_seg (σ1 := ((d + 1), 34, 8, [some (.inr (.inr 86)), some (.inl (w32 (x1 + 1))), some (.inl (w32 (x2 + 1))), some (.inl x3), some (.inl x4)], [], (am_sh, am_mm (am_upd U 124 x2.toNat x3)))) 5 (fun _ => rfl) ?_
      exact ev_le (L := [some (.inr (.inr 86)), some (.inl (w32 (x1 + 1))), some (.inl (w32 (x2 + 1))), none, none]) ⟨rfl, ⟨rfl, ⟨rfl, trivial⟩⟩⟩ ha1a1
    · have ha1a2 := ha1a.2 (Decidable.not_not.mp hc)
      refine ev_seg (σ1 := ((d + 1), 34, 8, [some (.inr (.inr 86)), some (.inl (w32 (x1 + 0))), some (.inl (w32 (x2 + 1))), some (.inl x3), some (.inl x4)], [], (am_sh, am_mm (am_upd U 124 x2.toNat x3)))) 6 (fun _ => rfl) ?_
      exact ev_le (L := [some (.inr (.inr 86)), some (.inl (w32 (x1 + 0))), some (.inl (w32 (x2 + 1))), none, none]) ⟨rfl, ⟨rfl, ⟨rfl, trivial⟩⟩⟩ ha1a2
  · have ha2 := ha.2 (Int.not_le.mp hc)
    refine ev_br (P := ¬ x3 = (-1)) (σ1 := ((d + 1), 34, 97, [some (.inr (.inr 86)), some (.inl x1), some (.inl x2), some (.inl x3), some (.inl x4)], [], (am_sh, am_mm U))) (σ2 := ((d + 1), 34, 73, [some (.inr (.inr 86)), some (.inl x1), some (.inl x2), some (.inl x3), some (.inl x4)], [], (am_sh, am_mm U))) 3 (fun _ => rfl) (fun hc => ?_) (fun hc => ?_)
    · have ha21 := ha2.1 hc
      have ha2q := hc
      refine ev_seg (σ1 := ((d + 1), 34, 103, [some (.inr (.inr 86)), some (.inl x1), some (.inl x2), some (.inl x3), some (.inl x4)], [.inl x3, .inl x2, .inr (.inr 124)], (am_sh, am_mm U))) 4 (fun _ => rfl) ?_
      refine eu_iast 124 (n := 352) rfl (by decide) rfl (fun _ => rfl) ha21.1 ?_
      show Ev (am_kz N X) ((d + 1), 34, 104, [some (.inr (.inr 86)), some (.inl x1), some (.inl x2), some (.inl x3), some (.inl x4)], [], (am_sh, am_mm (am_upd U 124 x2.toNat x3))) R
      have ha21a := ha21.2
      refine ev_br (P := ¬ x3 = (-1)) (σ1 := ((d + 1), 34, 114, [some (.inr (.inr 86)), some (.inl x1), some (.inl x2), some (.inl x3), some (.inl x4)], [.inl x1], (am_sh, am_mm (am_upd U 124 x2.toNat x3)))) (σ2 := ((d + 1), 34, 110, [some (.inr (.inr 86)), some (.inl x1), some (.inl x2), some (.inl x3), some (.inl x4)], [.inl x1], (am_sh, am_mm (am_upd U 124 x2.toNat x3)))) 4 (fun _ => rfl) (fun hc => ?_) (fun hc => absurd ha2q (fun h0 => by have h1 := (Decidable.not_not.mp hc); omega))
      refine ev_seg (σ1 := ((d + 1), 34, 8, [some (.inr (.inr 86)), some (.inl (w32 (x1 + 1))), some (.inl (w32 (x2 + 1))), some (.inl x3), some (.inl x4)], [], (am_sh, am_mm (am_upd U 124 x2.toNat x3)))) 5 (fun _ => rfl) ?_
      exact ev_le (L := [some (.inr (.inr 86)), some (.inl (w32 (x1 + 1))), some (.inl (w32 (x2 + 1))), none, none]) ⟨rfl, ⟨rfl, ⟨rfl, trivial⟩⟩⟩ ha21a
    · have ha22 := ha2.2 (Decidable.not_not.mp hc)
      refine ev_seg (σ1 := ((d + 1), 34, 78, [some (.inr (.inr 86)), some (.inl x1), some (.inl x2), some (.inl x3), some (.inl x4)], [.inl x4, .inl x2, .inl 0, .inr (.inr 86)], (am_sh, am_mm U))) 4 (fun _ => rfl) ?_
      obtain ⟨r1, U1, ha22c, ha22a⟩ := ha22
      refine ev_cal (σc := (M_mayLive_s0 d 0 x2 x4 U)) (fun _ => rfl) ha22c ?_
      show Ev (am_kz N X) ((d + 1), 34, 81, [some (.inr (.inr 86)), some (.inl x1), some (.inl x2), some (.inl x3), some (.inl x4)], [.inl r1], (am_sh, am_mm U1)) R
      refine ev_br (P := r1 = 0) (σ1 := ((d + 1), 34, 89, [some (.inr (.inr 86)), some (.inl x1), some (.inl x2), some (.inl x3), some (.inl x4)], [], (am_sh, am_mm U1))) (σ2 := ((d + 1), 34, 84, [some (.inr (.inr 86)), some (.inl x1), some (.inl x2), some (.inl x3), some (.inl x4)], [], (am_sh, am_mm U1))) 1 (fun _ => rfl) (fun hc => ?_) (fun hc => ?_)
      · have ha22a1 := ha22a.1 hc
        refine ev_seg (σ1 := ((d + 1), 34, 54, [some (.inr (.inr 86)), some (.inl x1), some (.inl x2), some (.inl (-1)), some (.inl (w32 (x4 + 1)))], [], (am_sh, am_mm U1))) 4 (fun _ => rfl) ?_
        exact ha22a1
      · have ha22a2 := ha22a.2 hc
        refine ev_seg (σ1 := ((d + 1), 34, 54, [some (.inr (.inr 86)), some (.inl x1), some (.inl x2), some (.inl x4), some (.inl (w32 (x4 + 1)))], [], (am_sh, am_mm U1))) 5 (fun _ => rfl) ?_
        exact ha22a2
set_option maxRecDepth 8000 in
theorem D_years_r0 {N : Nat} {X : Nat → Int} {d : Nat} {x1 : Int} {U : am_U} {R : Option am_V × am_M} (h : ((x1 < 1) → ∃ (r1 : Int) (U1 : am_U), EvK N X (D_refuse_s0 d 3 U) (rI r1 U1) ∧ R = rI (-1) U1) ∧ ((1 ≤ x1) → ((50 < x1) → ∃ (r2 : Int) (U2 : am_U), EvK N X (D_refuse_s0 d 3 U) (rI r2 U2) ∧ R = rI (-1) U2) ∧ ((x1 ≤ 50) → (((U 16 1) ≤ (w32 (9999 - x1))) → ∃ U3 : am_U, EvK N X (Hs_keep_s0 d U) (rV U3) ∧ EvK N X (D_years_s49 (d + 1) x1 0 0 U3) R) ∧ (((w32 (9999 - x1)) < (U 16 1)) → ∃ (r4 : Int) (U4 : am_U), EvK N X (D_refuse_s0 d 3 U) (rI r4 U4) ∧ R = rI (-1) U4)))) : EvK N X (D_years_s0 (d + 1) x1 U) R := by
  show Ev (am_kz N X) ((d + 1), 35, 0, [some (.inr (.inr 1)), some (.inl x1), none, none], [], (am_sh, am_mm U)) R
  refine ev_br (P := x1 < 1) (σ1 := ((d + 1), 35, 26, [some (.inr (.inr 1)), some (.inl x1), none, none], [], (am_sh, am_mm U))) (σ2 := ((d + 1), 35, 5, [some (.inr (.inr 1)), some (.inl x1), none, none], [], (am_sh, am_mm U))) 3 (fun _ => rfl) (fun hc => ?_) (fun hc => ?_)
  · have h1 := h.1 hc
    refine ev_seg (σ1 := ((d + 1), 35, 28, [some (.inr (.inr 1)), some (.inl x1), none, none], [.inl 3, .inr (.inr 1)], (am_sh, am_mm U))) 2 (fun _ => rfl) ?_
    obtain ⟨r1, U1, h1c, h1a⟩ := h1
    refine ev_cal (σc := (D_refuse_s0 d 3 U)) (fun _ => rfl) h1c ?_
    show Ev (am_kz N X) ((d + 1), 35, 31, [some (.inr (.inr 1)), some (.inl x1), none, none], [.inl r1], (am_sh, am_mm U1)) R
    subst h1a
    exact ev_end 3 (fun _ => rfl)
  · have h2 := h.2 (Int.not_lt.mp hc)
    refine ev_br (P := 50 < x1) (σ1 := ((d + 1), 35, 26, [some (.inr (.inr 1)), some (.inl x1), none, none], [], (am_sh, am_mm U))) (σ2 := ((d + 1), 35, 11, [some (.inr (.inr 1)), some (.inl x1), none, none], [], (am_sh, am_mm U))) 3 (fun _ => rfl) (fun hc => ?_) (fun hc => ?_)
    · have h21 := h2.1 hc
      refine ev_seg (σ1 := ((d + 1), 35, 28, [some (.inr (.inr 1)), some (.inl x1), none, none], [.inl 3, .inr (.inr 1)], (am_sh, am_mm U))) 2 (fun _ => rfl) ?_
      obtain ⟨r2, U2, h21c, h21a⟩ := h21
      refine ev_cal (σc := (D_refuse_s0 d 3 U)) (fun _ => rfl) h21c ?_
      show Ev (am_kz N X) ((d + 1), 35, 31, [some (.inr (.inr 1)), some (.inl x1), none, none], [.inl r2], (am_sh, am_mm U2)) R
      subst h21a
      exact ev_end 3 (fun _ => rfl)
    · have h22 := h2.2 (Int.not_lt.mp hc)
      refine ev_br (P := (U 16 1) ≤ (w32 (9999 - x1))) (σ1 := ((d + 1), 35, 34, [some (.inr (.inr 1)), some (.inl x1), none, none], [], (am_sh, am_mm U))) (σ2 := ((d + 1), 35, 26, [some (.inr (.inr 1)), some (.inl x1), none, none], [], (am_sh, am_mm U))) 7 (fun _ => rfl) (fun hc => ?_) (fun hc => ?_)
      · have h221 := h22.1 hc
        refine ev_seg (σ1 := ((d + 1), 35, 42, [some (.inr (.inr 1)), some (.inl x1), none, none], [.inr (.inr 16), .inr (.inr 56)], (am_sh, am_mm U))) 4 (fun _ => rfl) ?_
        obtain ⟨U3, h221c, h221a⟩ := h221
        refine ev_cal (σc := (Hs_keep_s0 d U)) (fun _ => rfl) h221c ?_
        show Ev (am_kz N X) ((d + 1), 35, 45, [some (.inr (.inr 1)), some (.inl x1), none, none], [], (am_sh, am_mm U3)) R
        refine ev_seg (σ1 := ((d + 1), 35, 49, [some (.inr (.inr 1)), some (.inl x1), some (.inl 0), some (.inl 0)], [], (am_sh, am_mm U3))) 4 (fun _ => rfl) ?_
        exact h221a
      · have h222 := h22.2 (Int.not_le.mp hc)
        refine ev_seg (σ1 := ((d + 1), 35, 28, [some (.inr (.inr 1)), some (.inl x1), none, none], [.inl 3, .inr (.inr 1)], (am_sh, am_mm U))) 2 (fun _ => rfl) ?_
        obtain ⟨r4, U4, h222c, h222a⟩ := h222
        refine ev_cal (σc := (D_refuse_s0 d 3 U)) (fun _ => rfl) h222c ?_
        show Ev (am_kz N X) ((d + 1), 35, 31, [some (.inr (.inr 1)), some (.inl x1), none, none], [.inl r4], (am_sh, am_mm U4)) R
        subst h222a
        exact ev_end 3 (fun _ => rfl)
set_option maxRecDepth 8000 in
theorem D_years_r49 {N : Nat} {X : Nat → Int} {d : Nat} {x1 x2 x3 : Int} {U : am_U} {R : Option am_V × am_M} (h : ((x1 ≤ x3) → ∃ U1 : am_U, EvK N X (D_forgetAnswers_s0 d U) (rV U1) ∧ R = rI x2 U1) ∧ ((x3 < x1) → ∃ (r2 : Int) (U2 : am_U), EvK N X (D_passYear_s0 d U) (rI r2 U2) ∧ EvK N X (D_years_s49 (d + 1) x1 (w32 (x2 + r2)) (w32 (x3 + 1)) U2) R)) : EvK N X (D_years_s49 (d + 1) x1 x2 x3 U) R := by
  show Ev (am_kz N X) ((d + 1), 35, 49, [some (.inr (.inr 1)), some (.inl x1), some (.inl x2), some (.inl x3)], [], (am_sh, am_mm U)) R
  refine ev_br (P := x1 ≤ x3) (σ1 := ((d + 1), 35, 67, [some (.inr (.inr 1)), some (.inl x1), some (.inl x2), some (.inl x3)], [], (am_sh, am_mm U))) (σ2 := ((d + 1), 35, 54, [some (.inr (.inr 1)), some (.inl x1), some (.inl x2), some (.inl x3)], [], (am_sh, am_mm U))) 3 (fun _ => rfl) (fun hc => ?_) (fun hc => ?_)
  · have h1 := h.1 hc
    refine ev_seg (σ1 := ((d + 1), 35, 68, [some (.inr (.inr 1)), some (.inl x1), some (.inl x2), some (.inl x3)], [.inr (.inr 1)], (am_sh, am_mm U))) 1 (fun _ => rfl) ?_
    obtain ⟨U1, h1c, h1a⟩ := h1
    refine ev_cal (σc := (D_forgetAnswers_s0 d U)) (fun _ => rfl) h1c ?_
    show Ev (am_kz N X) ((d + 1), 35, 71, [some (.inr (.inr 1)), some (.inl x1), some (.inl x2), some (.inl x3)], [], (am_sh, am_mm U1)) R
    subst h1a
    exact ev_end 2 (fun _ => rfl)
  · have h2 := h.2 (Int.not_le.mp hc)
    refine ev_seg (σ1 := ((d + 1), 35, 56, [some (.inr (.inr 1)), some (.inl x1), some (.inl x2), some (.inl x3)], [.inr (.inr 1), .inl x2], (am_sh, am_mm U))) 2 (fun _ => rfl) ?_
    obtain ⟨r2, U2, h2c, h2a⟩ := h2
    refine ev_cal (σc := (D_passYear_s0 d U)) (fun _ => rfl) h2c ?_
    show Ev (am_kz N X) ((d + 1), 35, 59, [some (.inr (.inr 1)), some (.inl x1), some (.inl x2), some (.inl x3)], [.inl r2, .inl x2], (am_sh, am_mm U2)) R
    refine ev_seg (σ1 := ((d + 1), 35, 49, [some (.inr (.inr 1)), some (.inl x1), some (.inl (w32 (x2 + r2))), some (.inl (w32 (x3 + 1)))], [], (am_sh, am_mm U2))) 4 (fun _ => rfl) ?_
    exact h2a
set_option maxRecDepth 8000 in
theorem M_years_r0 {N : Nat} {X : Nat → Int} {d : Nat} {x1 : Int} {U : am_U} {R : Option am_V × am_M} (h : ∃ (r1 : Int) (U1 : am_U), EvK N X (M_is_s0 d x1 1 50 U) (rI r1 U1) ∧ ((r1 = 0) → ∃ (r2 : Int) (U2 : am_U), EvK N X (M_refuses_s0 d 3 U1) (rI r2 U2) ∧ R = rI r2 U2) ∧ ((r1 ≠ 0) → (((w32 ((U1 120 0) + x1)) ≤ 9999) → ∃ U3 : am_U, EvK N X (M_keeps_s0 d U1) (rV U3) ∧ EvK N X (M_years_s38 (d + 1) x1 0 0 U3) R) ∧ ((9999 < (w32 ((U1 120 0) + x1))) → ∃ (r4 : Int) (U4 : am_U), EvK N X (M_refuses_s0 d 3 U1) (rI r4 U4) ∧ R = rI r4 U4))) : EvK N X (M_years_s0 (d + 1) x1 U) R := by
  show Ev (am_kz N X) ((d + 1), 36, 0, [some (.inr (.inr 86)), some (.inl x1), none, none], [], (am_sh, am_mm U)) R
  refine ev_seg (σ1 := ((d + 1), 36, 4, [some (.inr (.inr 86)), some (.inl x1), none, none], [.inl 50, .inl 1, .inl x1], (am_sh, am_mm U))) 3 (fun _ => rfl) ?_
  obtain ⟨r1, U1, hc, ha⟩ := h
  refine ev_cal (σc := (M_is_s0 d x1 1 50 U)) (fun _ => rfl) hc ?_
  show Ev (am_kz N X) ((d + 1), 36, 7, [some (.inr (.inr 86)), some (.inl x1), none, none], [.inl r1], (am_sh, am_mm U1)) R
  refine ev_br (P := r1 = 0) (σ1 := ((d + 1), 36, 24, [some (.inr (.inr 86)), some (.inl x1), none, none], [], (am_sh, am_mm U1))) (σ2 := ((d + 1), 36, 10, [some (.inr (.inr 86)), some (.inl x1), none, none], [], (am_sh, am_mm U1))) 1 (fun _ => rfl) (fun hc => ?_) (fun hc => ?_)
  · have ha1 := ha.1 hc
    refine ev_seg (σ1 := ((d + 1), 36, 26, [some (.inr (.inr 86)), some (.inl x1), none, none], [.inl 3, .inr (.inr 86)], (am_sh, am_mm U1))) 2 (fun _ => rfl) ?_
    obtain ⟨r2, U2, ha1c, ha1a⟩ := ha1
    refine ev_cal (σc := (M_refuses_s0 d 3 U1)) (fun _ => rfl) ha1c ?_
    show Ev (am_kz N X) ((d + 1), 36, 29, [some (.inr (.inr 86)), some (.inl x1), none, none], [.inl r2], (am_sh, am_mm U2)) R
    subst ha1a
    exact ev_end 1 (fun _ => rfl)
  · have ha2 := ha.2 hc
    refine ev_seg (σ1 := ((d + 1), 36, 15, [some (.inr (.inr 86)), some (.inl x1), none, none], [.inl 0, .inr (.inr 120)], (am_sh, am_mm U1))) 3 (fun _ => rfl) ?_
    refine eu_iald 120 (n := 22) rfl (by decide) rfl (fun _ => rfl) (by decide) ?_
    show Ev (am_kz N X) ((d + 1), 36, 16, [some (.inr (.inr 86)), some (.inl x1), none, none], [.inl (U1 120 0)], (am_sh, am_mm U1)) R
    refine ev_br (P := (w32 ((U1 120 0) + x1)) ≤ 9999) (σ1 := ((d + 1), 36, 30, [some (.inr (.inr 86)), some (.inl x1), none, none], [], (am_sh, am_mm U1))) (σ2 := ((d + 1), 36, 24, [some (.inr (.inr 86)), some (.inl x1), none, none], [], (am_sh, am_mm U1))) 4 (fun _ => rfl) (fun hc => ?_) (fun hc => ?_)
    · have ha21 := ha2.1 hc
      refine ev_seg (σ1 := ((d + 1), 36, 31, [some (.inr (.inr 86)), some (.inl x1), none, none], [.inr (.inr 86)], (am_sh, am_mm U1))) 1 (fun _ => rfl) ?_
      obtain ⟨U3, ha21c, ha21a⟩ := ha21
      refine ev_cal (σc := (M_keeps_s0 d U1)) (fun _ => rfl) ha21c ?_
      show Ev (am_kz N X) ((d + 1), 36, 34, [some (.inr (.inr 86)), some (.inl x1), none, none], [], (am_sh, am_mm U3)) R
      refine ev_seg (σ1 := ((d + 1), 36, 38, [some (.inr (.inr 86)), some (.inl x1), some (.inl 0), some (.inl 0)], [], (am_sh, am_mm U3))) 4 (fun _ => rfl) ?_
      exact ha21a
    · have ha22 := ha2.2 (Int.not_le.mp hc)
      refine ev_seg (σ1 := ((d + 1), 36, 26, [some (.inr (.inr 86)), some (.inl x1), none, none], [.inl 3, .inr (.inr 86)], (am_sh, am_mm U1))) 2 (fun _ => rfl) ?_
      obtain ⟨r4, U4, ha22c, ha22a⟩ := ha22
      refine ev_cal (σc := (M_refuses_s0 d 3 U1)) (fun _ => rfl) ha22c ?_
      show Ev (am_kz N X) ((d + 1), 36, 29, [some (.inr (.inr 86)), some (.inl x1), none, none], [.inl r4], (am_sh, am_mm U4)) R
      subst ha22a
      exact ev_end 1 (fun _ => rfl)
set_option maxRecDepth 8000 in
theorem M_years_r38 {N : Nat} {X : Nat → Int} {d : Nat} {x1 x2 x3 : Int} {U : am_U} {R : Option am_V × am_M} (h : ((x1 ≤ x3) → R = rI x2 U) ∧ ((x3 < x1) → ∃ (r1 : Int) (U1 : am_U), EvK N X (M_yearGoes_s0 d U) (rI r1 U1) ∧ EvK N X (M_years_s38 (d + 1) x1 (w32 (x2 + r1)) (w32 (x3 + 1)) U1) R)) : EvK N X (M_years_s38 (d + 1) x1 x2 x3 U) R := by
  show Ev (am_kz N X) ((d + 1), 36, 38, [some (.inr (.inr 86)), some (.inl x1), some (.inl x2), some (.inl x3)], [], (am_sh, am_mm U)) R
  refine ev_br (P := x1 ≤ x3) (σ1 := ((d + 1), 36, 56, [some (.inr (.inr 86)), some (.inl x1), some (.inl x2), some (.inl x3)], [], (am_sh, am_mm U))) (σ2 := ((d + 1), 36, 43, [some (.inr (.inr 86)), some (.inl x1), some (.inl x2), some (.inl x3)], [], (am_sh, am_mm U))) 3 (fun _ => rfl) (fun hc => ?_) (fun hc => ?_)
  · have h1 := h.1 hc
    subst h1
    exact ev_end 2 (fun _ => rfl)
  · have h2 := h.2 (Int.not_le.mp hc)
    refine ev_seg (σ1 := ((d + 1), 36, 45, [some (.inr (.inr 86)), some (.inl x1), some (.inl x2), some (.inl x3)], [.inr (.inr 86), .inl x2], (am_sh, am_mm U))) 2 (fun _ => rfl) ?_
    obtain ⟨r1, U1, h2c, h2a⟩ := h2
    refine ev_cal (σc := (M_yearGoes_s0 d U)) (fun _ => rfl) h2c ?_
    show Ev (am_kz N X) ((d + 1), 36, 48, [some (.inr (.inr 86)), some (.inl x1), some (.inl x2), some (.inl x3)], [.inl r1, .inl x2], (am_sh, am_mm U1)) R
    refine ev_seg (σ1 := ((d + 1), 36, 38, [some (.inr (.inr 86)), some (.inl x1), some (.inl (w32 (x2 + r1))), some (.inl (w32 (x3 + 1)))], [], (am_sh, am_mm U1))) 4 (fun _ => rfl) ?_
    exact h2a
set_option maxRecDepth 8000 in
theorem D_undo_r0 {N : Nat} {X : Nat → Int} {d : Nat} {U : am_U} {R : Option am_V × am_M} (h : ∃ (r1 : Int) (U1 : am_U), EvK N X (Hs_giveBack_s0 d U) (rI r1 U1) ∧ ((r1 ≠ 0) → ∃ U2 : am_U, EvK N X (D_forgetAnswers_s0 d U1) (rV U2) ∧ R = rI 1 U2) ∧ ((r1 = 0) → ∃ (r3 : Int) (U3 : am_U), EvK N X (D_refuse_s0 d 4 U1) (rI r3 U3) ∧ (r3 = 0 ∨ r3 = 1) ∧ R = rI r3 U3)) : EvK N X (D_undo_s0 (d + 1) U) R := by
  show Ev (am_kz N X) ((d + 1), 37, 0, [some (.inr (.inr 1))], [], (am_sh, am_mm U)) R
  refine ev_seg (σ1 := ((d + 1), 37, 8, [some (.inr (.inr 1))], [.inr (.inr 16), .inr (.inr 56)], (am_sh, am_mm U))) 4 (fun _ => rfl) ?_
  obtain ⟨r1, U1, hc, ha⟩ := h
  refine ev_cal (σc := (Hs_giveBack_s0 d U)) (fun _ => rfl) hc ?_
  show Ev (am_kz N X) ((d + 1), 37, 11, [some (.inr (.inr 1))], [.inl r1], (am_sh, am_mm U1)) R
  refine ev_br (P := ¬ r1 = 0) (σ1 := ((d + 1), 37, 20, [some (.inr (.inr 1))], [], (am_sh, am_mm U1))) (σ2 := ((d + 1), 37, 14, [some (.inr (.inr 1))], [], (am_sh, am_mm U1))) 1 (fun _ => rfl) (fun hc => ?_) (fun hc => ?_)
  · have ha1 := ha.1 hc
    refine ev_seg (σ1 := ((d + 1), 37, 21, [some (.inr (.inr 1))], [.inr (.inr 1)], (am_sh, am_mm U1))) 1 (fun _ => rfl) ?_
    obtain ⟨U2, ha1c, ha1a⟩ := ha1
    refine ev_cal (σc := (D_forgetAnswers_s0 d U1)) (fun _ => rfl) ha1c ?_
    show Ev (am_kz N X) ((d + 1), 37, 24, [some (.inr (.inr 1))], [], (am_sh, am_mm U2)) R
    subst ha1a
    exact ev_end 2 (fun _ => rfl)
  · have ha2 := ha.2 (Decidable.not_not.mp hc)
    refine ev_seg (σ1 := ((d + 1), 37, 16, [some (.inr (.inr 1))], [.inl 4, .inr (.inr 1)], (am_sh, am_mm U1))) 2 (fun _ => rfl) ?_
    obtain ⟨r3, U3, ha2c, ha2a⟩ := ha2
    refine ev_cal (σc := (D_refuse_s0 d 4 U1)) (fun _ => rfl) ha2c ?_
    show Ev (am_kz N X) ((d + 1), 37, 19, [some (.inr (.inr 1))], [.inl r3], (am_sh, am_mm U3)) R
    rw [ha2a.2]
    exact ev_retz rfl rfl ha2a.1
set_option maxRecDepth 8000 in
theorem M_undo_r0 {N : Nat} {X : Nat → Int} {d : Nat} {U : am_U} {R : Option am_V × am_M} (h : (((U 86 58) ≠ 0) → ∃ (r1 : Int) (U1 : am_U), EvK N X (M_ring_s0 d (w32 ((U 86 58) - 1)) (am_upd U 86 58 (w32 ((U 86 58) - 1)))) (rI r1 U1) ∧ ∃ U2 : am_U, EvK N X (M_copies_s0 d 0 r1 U1) (rV U2) ∧ R = rI 1 U2) ∧ (((U 86 58) = 0) → ∃ (r3 : Int) (U3 : am_U), EvK N X (M_refuses_s0 d 4 U) (rI r3 U3) ∧ ((r3 < 0) → R = rI 0 U3) ∧ ((0 ≤ r3) → R = rI 1 U3))) : EvK N X (M_undo_s0 (d + 1) U) R := by
  show Ev (am_kz N X) ((d + 1), 38, 0, [some (.inr (.inr 86))], [], (am_sh, am_mm U)) R
  refine ev_br (P := ¬ (U 86 58) = 0) (σ1 := ((d + 1), 38, 21, [some (.inr (.inr 86))], [], (am_sh, am_mm U))) (σ2 := ((d + 1), 38, 7, [some (.inr (.inr 86))], [], (am_sh, am_mm U))) 3 (fun _ => rfl) (fun hc => ?_) (fun hc => ?_)
  · have h1 := h.1 hc
    refine ev_seg (σ1 := ((d + 1), 38, 28, [some (.inr (.inr 86))], [.inl (w32 ((U 86 58) - 1)), .inr (.inr 86)], (am_sh, am_mm U))) 5 (fun _ => rfl) ?_
    refine eu_puti 86 (n := 90) rfl (by decide) rfl rfl ?_
    show Ev (am_kz N X) ((d + 1), 38, 31, [some (.inr (.inr 86))], [], (am_sh, am_mm (am_upd U 86 58 (w32 ((U 86 58) - 1))))) R
    refine ev_seg (σ1 := ((d + 1), 38, 38, [some (.inr (.inr 86))], [.inl (w32 ((U 86 58) - 1)), .inr (.inr 86), .inl 0, .inr (.inr 86)], (am_sh, am_mm (am_upd U 86 58 (w32 ((U 86 58) - 1)))))) 5 (fun _ => rfl) ?_
    obtain ⟨r1, U1, h1c, h1a⟩ := h1
    refine ev_cal (σc := (M_ring_s0 d (w32 ((U 86 58) - 1)) (am_upd U 86 58 (w32 ((U 86 58) - 1))))) (fun _ => rfl) h1c ?_
    show Ev (am_kz N X) ((d + 1), 38, 41, [some (.inr (.inr 86))], [.inl r1, .inl 0, .inr (.inr 86)], (am_sh, am_mm U1)) R
    obtain ⟨U2, h1ac, h1aa⟩ := h1a
    refine ev_cal (σc := (M_copies_s0 d 0 r1 U1)) (fun _ => rfl) h1ac ?_
    show Ev (am_kz N X) ((d + 1), 38, 44, [some (.inr (.inr 86))], [], (am_sh, am_mm U2)) R
    subst h1aa
    exact ev_end 2 (fun _ => rfl)
  · have h2 := h.2 (Decidable.not_not.mp hc)
    refine ev_seg (σ1 := ((d + 1), 38, 9, [some (.inr (.inr 86))], [.inl 4, .inr (.inr 86)], (am_sh, am_mm U))) 2 (fun _ => rfl) ?_
    obtain ⟨r3, U3, h2c, h2a⟩ := h2
    refine ev_cal (σc := (M_refuses_s0 d 4 U)) (fun _ => rfl) h2c ?_
    show Ev (am_kz N X) ((d + 1), 38, 12, [some (.inr (.inr 86))], [.inl r3], (am_sh, am_mm U3)) R
    refine ev_br (P := r3 < 0) (σ1 := ((d + 1), 38, 19, [some (.inr (.inr 86))], [], (am_sh, am_mm U3))) (σ2 := ((d + 1), 38, 15, [some (.inr (.inr 86))], [], (am_sh, am_mm U3))) 1 (fun _ => rfl) (fun hc => ?_) (fun hc => ?_)
    · have h2a1 := h2a.1 hc
      subst h2a1
      exact ev_end 2 (fun _ => rfl)
    · have h2a2 := h2a.2 (Int.not_lt.mp hc)
      subst h2a2
      exact ev_end 3 (fun _ => rfl)
set_option maxRecDepth 8000 in
theorem D_seed_r0 {N : Nat} {X : Nat → Int} {d : Nat} {x1 : Int} {U : am_U} {R : Option am_V × am_M} (h : ((0 ≤ x1) → R = rI 1 (am_upd U 1 18 x1)) ∧ ((x1 < 0) → ∃ (r1 : Int) (U1 : am_U), EvK N X (D_refuse_s0 d 5 U) (rI r1 U1) ∧ (r1 = 0 ∨ r1 = 1) ∧ R = rI r1 U1)) : EvK N X (D_seed_s0 (d + 1) x1 U) R := by
  show Ev (am_kz N X) ((d + 1), 39, 0, [some (.inr (.inr 1)), some (.inl x1)], [], (am_sh, am_mm U)) R
  refine ev_br (P := 0 ≤ x1) (σ1 := ((d + 1), 39, 10, [some (.inr (.inr 1)), some (.inl x1)], [], (am_sh, am_mm U))) (σ2 := ((d + 1), 39, 4, [some (.inr (.inr 1)), some (.inl x1)], [], (am_sh, am_mm U))) 2 (fun _ => rfl) (fun hc => ?_) (fun hc => ?_)
  · have h1 := h.1 hc
    refine ev_seg (σ1 := ((d + 1), 39, 12, [some (.inr (.inr 1)), some (.inl x1)], [.inl x1, .inr (.inr 1)], (am_sh, am_mm U))) 2 (fun _ => rfl) ?_
    refine eu_puti 1 (n := 19) rfl (by decide) rfl rfl ?_
    show Ev (am_kz N X) ((d + 1), 39, 15, [some (.inr (.inr 1)), some (.inl x1)], [], (am_sh, am_mm (am_upd U 1 18 x1))) R
    subst h1
    exact ev_end 2 (fun _ => rfl)
  · have h2 := h.2 (Int.not_le.mp hc)
    refine ev_seg (σ1 := ((d + 1), 39, 6, [some (.inr (.inr 1)), some (.inl x1)], [.inl 5, .inr (.inr 1)], (am_sh, am_mm U))) 2 (fun _ => rfl) ?_
    obtain ⟨r1, U1, h2c, h2a⟩ := h2
    refine ev_cal (σc := (D_refuse_s0 d 5 U)) (fun _ => rfl) h2c ?_
    show Ev (am_kz N X) ((d + 1), 39, 9, [some (.inr (.inr 1)), some (.inl x1)], [.inl r1], (am_sh, am_mm U1)) R
    rw [h2a.2]
    exact ev_retz rfl rfl h2a.1
set_option maxRecDepth 8000 in
theorem M_seed_r0 {N : Nat} {X : Nat → Int} {d : Nat} {x1 : Int} {U : am_U} {R : Option am_V × am_M} (h : ((0 ≤ x1) → R = rI 1 (am_upd U 86 59 x1)) ∧ ((x1 < 0) → ∃ (r1 : Int) (U1 : am_U), EvK N X (M_refuses_s0 d 5 U) (rI r1 U1) ∧ ((r1 < 0) → R = rI 0 U1) ∧ ((0 ≤ r1) → R = rI 1 U1))) : EvK N X (M_seed_s0 (d + 1) x1 U) R := by
  show Ev (am_kz N X) ((d + 1), 40, 0, [some (.inr (.inr 86)), some (.inl x1)], [], (am_sh, am_mm U)) R
  refine ev_br (P := 0 ≤ x1) (σ1 := ((d + 1), 40, 18, [some (.inr (.inr 86)), some (.inl x1)], [], (am_sh, am_mm U))) (σ2 := ((d + 1), 40, 4, [some (.inr (.inr 86)), some (.inl x1)], [], (am_sh, am_mm U))) 2 (fun _ => rfl) (fun hc => ?_) (fun hc => ?_)
  · have h1 := h.1 hc
    refine ev_seg (σ1 := ((d + 1), 40, 21, [some (.inr (.inr 86)), some (.inl x1)], [.inr (.inl x1), .inr (.inr 86)], (am_sh, am_mm U))) 3 (fun _ => rfl) ?_
    refine eu_putj 86 (n := 90) rfl (by decide) rfl rfl ?_
    show Ev (am_kz N X) ((d + 1), 40, 24, [some (.inr (.inr 86)), some (.inl x1)], [], (am_sh, am_mm (am_upd U 86 59 x1))) R
    subst h1
    exact ev_end 2 (fun _ => rfl)
  · have h2 := h.2 (Int.not_le.mp hc)
    refine ev_seg (σ1 := ((d + 1), 40, 6, [some (.inr (.inr 86)), some (.inl x1)], [.inl 5, .inr (.inr 86)], (am_sh, am_mm U))) 2 (fun _ => rfl) ?_
    obtain ⟨r1, U1, h2c, h2a⟩ := h2
    refine ev_cal (σc := (M_refuses_s0 d 5 U)) (fun _ => rfl) h2c ?_
    show Ev (am_kz N X) ((d + 1), 40, 9, [some (.inr (.inr 86)), some (.inl x1)], [.inl r1], (am_sh, am_mm U1)) R
    refine ev_br (P := r1 < 0) (σ1 := ((d + 1), 40, 16, [some (.inr (.inr 86)), some (.inl x1)], [], (am_sh, am_mm U1))) (σ2 := ((d + 1), 40, 12, [some (.inr (.inr 86)), some (.inl x1)], [], (am_sh, am_mm U1))) 1 (fun _ => rfl) (fun hc => ?_) (fun hc => ?_)
    · have h2a1 := h2a.1 hc
      subst h2a1
      exact ev_end 2 (fun _ => rfl)
    · have h2a2 := h2a.2 (Int.not_lt.mp hc)
      subst h2a2
      exact ev_end 3 (fun _ => rfl)
set_option maxRecDepth 8000 in
theorem D_weds_r0 {N : Nat} {X : Nat → Int} {d : Nat} {x1 : Int} {U : am_U} {R : Option am_V × am_M} (h : ∃ (r1 : Int) (U1 : am_U), EvK N X (Cp_tellOf_s0 d x1 U) (rI r1 U1) ∧ R = rI r1 U1) : EvK N X (D_weds_s0 (d + 1) x1 U) R := by
  show Ev (am_kz N X) ((d + 1), 41, 0, [some (.inr (.inr 1)), some (.inl x1)], [], (am_sh, am_mm U)) R
  refine ev_seg (σ1 := ((d + 1), 41, 5, [some (.inr (.inr 1)), some (.inl x1)], [.inl x1, .inr (.inr 52)], (am_sh, am_mm U))) 3 (fun _ => rfl) ?_
  obtain ⟨r1, U1, hc, ha⟩ := h
  refine ev_cal (σc := (Cp_tellOf_s0 d x1 U)) (fun _ => rfl) hc ?_
  show Ev (am_kz N X) ((d + 1), 41, 8, [some (.inr (.inr 1)), some (.inl x1)], [.inl r1], (am_sh, am_mm U1)) R
  subst ha
  exact ev_end 1 (fun _ => rfl)
set_option maxRecDepth 8000 in
theorem M_weds_r0 {N : Nat} {X : Nat → Int} {d : Nat} {x1 : Int} {U : am_U} {R : Option am_V × am_M} (h : ((x1 = (-1)) → ∃ U1 : am_U, EvK N X (M_couples_s0 d U) (rV U1) ∧ (0 ≤ (w32 ((am_shl 1 (U1 122 0)) - 1)) ∧ (w32 ((am_shl 1 (U1 122 0)) - 1)) < 65536) ∧ R = rI (U1 131 ((w32 ((am_shl 1 (U1 122 0)) - 1)).toNat)) U1) ∧ ((x1 ≠ (-1)) → ∃ (r2 : Int) (U2 : am_U), EvK N X (M_isPerson_s0 d x1 U) (rI r2 U2) ∧ ((r2 ≠ 0) → ∃ U3 : am_U, EvK N X (M_couples_s0 d U2) (rV U3) ∧ (0 ≤ x1 ∧ x1 < 16) ∧ (((U3 132 x1.toNat) ≠ (-1)) → R = rI (U3 132 x1.toNat) U3) ∧ (((U3 132 x1.toNat) = (-1)) → R = rI 20 U3)) ∧ ((r2 = 0) → R = rI (-1) U2))) : EvK N X (M_weds_s0 (d + 1) x1 U) R := by
  show Ev (am_kz N X) ((d + 1), 42, 0, [some (.inr (.inr 86)), some (.inl x1)], [], (am_sh, am_mm U)) R
  refine ev_br (P := x1 = (-1)) (σ1 := ((d + 1), 42, 15, [some (.inr (.inr 86)), some (.inl x1)], [], (am_sh, am_mm U))) (σ2 := ((d + 1), 42, 5, [some (.inr (.inr 86)), some (.inl x1)], [], (am_sh, am_mm U))) 3 (fun _ => rfl) (fun hc => ?_) (fun hc => ?_)
  · have h1 := h.1 hc
    have hq := hc
    refine ev_seg (σ1 := ((d + 1), 42, 16, [some (.inr (.inr 86)), some (.inl x1)], [.inr (.inr 86)], (am_sh, am_mm U))) 1 (fun _ => rfl) ?_
    obtain ⟨U1, h1c, h1a⟩ := h1
    refine ev_cal (σc := (M_couples_s0 d U)) (fun _ => rfl) h1c ?_
    show Ev (am_kz N X) ((d + 1), 42, 19, [some (.inr (.inr 86)), some (.inl x1)], [], (am_sh, am_mm U1)) R
    refine ev_br (P := ¬ x1 = (-1)) (σ1 := ((d + 1), 42, 42, [some (.inr (.inr 86)), some (.inl x1)], [], (am_sh, am_mm U1))) (σ2 := ((d + 1), 42, 24, [some (.inr (.inr 86)), some (.inl x1)], [], (am_sh, am_mm U1))) 3 (fun _ => rfl) (fun hc => absurd hq (fun h0 => by have h1 := hc; omega)) (fun hc => ?_)
    refine ev_seg (σ1 := ((d + 1), 42, 34, [some (.inr (.inr 86)), some (.inl x1)], [.inl 0, .inr (.inr 122), .inl 1, .inr (.inr 131)], (am_sh, am_mm U1))) 6 (fun _ => rfl) ?_
    refine eu_iald 122 (n := 22) rfl (by decide) rfl (fun _ => rfl) (by decide) ?_
    show Ev (am_kz N X) ((d + 1), 42, 35, [some (.inr (.inr 86)), some (.inl x1)], [.inl (U1 122 0), .inl 1, .inr (.inr 131)], (am_sh, am_mm U1)) R
    refine ev_seg (σ1 := ((d + 1), 42, 38, [some (.inr (.inr 86)), some (.inl x1)], [.inl (w32 ((am_shl 1 (U1 122 0)) - 1)), .inr (.inr 131)], (am_sh, am_mm U1))) 3 (fun _ => rfl) ?_
    refine eu_iald 131 (n := 65536) rfl (by decide) rfl (fun _ => rfl) h1a.1 ?_
    show Ev (am_kz N X) ((d + 1), 42, 39, [some (.inr (.inr 86)), some (.inl x1)], [.inl (U1 131 ((w32 ((am_shl 1 (U1 122 0)) - 1)).toNat))], (am_sh, am_mm U1)) R
    have h1aa := h1a.2
    subst h1aa
    exact ev_end 2 (fun _ => rfl)
  · have h2 := h.2 hc
    have hq := hc
    refine ev_seg (σ1 := ((d + 1), 42, 7, [some (.inr (.inr 86)), some (.inl x1)], [.inl x1, .inr (.inr 86)], (am_sh, am_mm U))) 2 (fun _ => rfl) ?_
    obtain ⟨r2, U2, h2c, h2a⟩ := h2
    refine ev_cal (σc := (M_isPerson_s0 d x1 U)) (fun _ => rfl) h2c ?_
    show Ev (am_kz N X) ((d + 1), 42, 10, [some (.inr (.inr 86)), some (.inl x1)], [.inl r2], (am_sh, am_mm U2)) R
    refine ev_br (P := ¬ r2 = 0) (σ1 := ((d + 1), 42, 15, [some (.inr (.inr 86)), some (.inl x1)], [], (am_sh, am_mm U2))) (σ2 := ((d + 1), 42, 13, [some (.inr (.inr 86)), some (.inl x1)], [], (am_sh, am_mm U2))) 1 (fun _ => rfl) (fun hc => ?_) (fun hc => ?_)
    · have h2a1 := h2a.1 hc
      refine ev_seg (σ1 := ((d + 1), 42, 16, [some (.inr (.inr 86)), some (.inl x1)], [.inr (.inr 86)], (am_sh, am_mm U2))) 1 (fun _ => rfl) ?_
      obtain ⟨U3, h2a1c, h2a1a⟩ := h2a1
      refine ev_cal (σc := (M_couples_s0 d U2)) (fun _ => rfl) h2a1c ?_
      show Ev (am_kz N X) ((d + 1), 42, 19, [some (.inr (.inr 86)), some (.inl x1)], [], (am_sh, am_mm U3)) R
      refine ev_br (P := ¬ x1 = (-1)) (σ1 := ((d + 1), 42, 42, [some (.inr (.inr 86)), some (.inl x1)], [], (am_sh, am_mm U3))) (σ2 := ((d + 1), 42, 24, [some (.inr (.inr 86)), some (.inl x1)], [], (am_sh, am_mm U3))) 3 (fun _ => rfl) (fun hc => ?_) (fun hc => absurd hq (fun h0 => by have h1 := (Decidable.not_not.mp hc); omega))
      refine ev_seg (σ1 := ((d + 1), 42, 47, [some (.inr (.inr 86)), some (.inl x1)], [.inl x1, .inr (.inr 132)], (am_sh, am_mm U3))) 3 (fun _ => rfl) ?_
      refine eu_iald 132 (n := 16) rfl (by decide) rfl (fun _ => rfl) h2a1a.1 ?_
      show Ev (am_kz N X) ((d + 1), 42, 48, [some (.inr (.inr 86)), some (.inl x1)], [.inl (U3 132 x1.toNat)], (am_sh, am_mm U3)) R
      have h2a1aa := h2a1a.2
      refine ev_br (P := ¬ (U3 132 x1.toNat) = (-1)) (σ1 := ((d + 1), 42, 57, [some (.inr (.inr 86)), some (.inl x1)], [], (am_sh, am_mm U3))) (σ2 := ((d + 1), 42, 52, [some (.inr (.inr 86)), some (.inl x1)], [], (am_sh, am_mm U3))) 2 (fun _ => rfl) (fun hc => ?_) (fun hc => ?_)
      · have h2a1aa1 := h2a1aa.1 hc
        refine ev_seg (σ1 := ((d + 1), 42, 62, [some (.inr (.inr 86)), some (.inl x1)], [.inl x1, .inr (.inr 132)], (am_sh, am_mm U3))) 3 (fun _ => rfl) ?_
        refine eu_iald 132 (n := 16) rfl (by decide) rfl (fun _ => rfl) h2a1a.1 ?_
        show Ev (am_kz N X) ((d + 1), 42, 63, [some (.inr (.inr 86)), some (.inl x1)], [.inl (U3 132 x1.toNat)], (am_sh, am_mm U3)) R
        subst h2a1aa1
        exact ev_end 1 (fun _ => rfl)
      · have h2a1aa2 := h2a1aa.2 (Decidable.not_not.mp hc)
        subst h2a1aa2
        exact ev_end 3 (fun _ => rfl)
    · have h2a2 := h2a.2 (Decidable.not_not.mp hc)
      subst h2a2
      exact ev_end 2 (fun _ => rfl)
set_option maxRecDepth 8000 in
theorem D_parts_r0 {N : Nat} {X : Nat → Int} {d : Nat} {x1 x2 : Int} {U : am_U} {R : Option am_V × am_M} (h : ∃ (r1 : Int) (U1 : am_U), EvK N X (D_isPerson_s0 d x1 U) (rI r1 U1) ∧ ((r1 ≠ 0) → ∃ (r2 : Int) (U2 : am_U), EvK N X (Fk_partsFor_s0 d x1 U1) (rJ r2 U2) ∧ ∃ U3 : am_U, EvK N X (Dg_set_s0 d r2 U2) (rV U3) ∧ ∃ (r4 : Int) (U4 : am_U), EvK N X (Dg_tellOf_s0 d x2 U3) (rI r4 U4) ∧ R = rI r4 U4) ∧ ((r1 = 0) → R = rI (-1) U1)) : EvK N X (D_parts_s0 (d + 1) x1 x2 U) R := by
  show Ev (am_kz N X) ((d + 1), 43, 0, [some (.inr (.inr 1)), some (.inl x1), some (.inl x2)], [], (am_sh, am_mm U)) R
  refine ev_seg (σ1 := ((d + 1), 43, 2, [some (.inr (.inr 1)), some (.inl x1), some (.inl x2)], [.inl x1, .inr (.inr 1)], (am_sh, am_mm U))) 2 (fun _ => rfl) ?_
  obtain ⟨r1, U1, hc, ha⟩ := h
  refine ev_cal (σc := (D_isPerson_s0 d x1 U)) (fun _ => rfl) hc ?_
  show Ev (am_kz N X) ((d + 1), 43, 5, [some (.inr (.inr 1)), some (.inl x1), some (.inl x2)], [.inl r1], (am_sh, am_mm U1)) R
  refine ev_br (P := ¬ r1 = 0) (σ1 := ((d + 1), 43, 10, [some (.inr (.inr 1)), some (.inl x1), some (.inl x2)], [], (am_sh, am_mm U1))) (σ2 := ((d + 1), 43, 8, [some (.inr (.inr 1)), some (.inl x1), some (.inl x2)], [], (am_sh, am_mm U1))) 1 (fun _ => rfl) (fun hc => ?_) (fun hc => ?_)
  · have ha1 := ha.1 hc
    refine ev_seg (σ1 := ((d + 1), 43, 19, [some (.inr (.inr 1)), some (.inl x1), some (.inl x2)], [.inl x1, .inr (.inr 16), .inr (.inr 82)], (am_sh, am_mm U1))) 5 (fun _ => rfl) ?_
    obtain ⟨r2, U2, ha1c, ha1a⟩ := ha1
    refine ev_cal (σc := (Fk_partsFor_s0 d x1 U1)) (fun _ => rfl) ha1c ?_
    show Ev (am_kz N X) ((d + 1), 43, 22, [some (.inr (.inr 1)), some (.inl x1), some (.inl x2)], [.inr (.inl r2), .inr (.inr 82)], (am_sh, am_mm U2)) R
    obtain ⟨U3, ha1ac, ha1aa⟩ := ha1a
    refine ev_cal (σc := (Dg_set_s0 d r2 U2)) (fun _ => rfl) ha1ac ?_
    show Ev (am_kz N X) ((d + 1), 43, 25, [some (.inr (.inr 1)), some (.inl x1), some (.inl x2)], [], (am_sh, am_mm U3)) R
    refine ev_seg (σ1 := ((d + 1), 43, 30, [some (.inr (.inr 1)), some (.inl x1), some (.inl x2)], [.inl x2, .inr (.inr 82)], (am_sh, am_mm U3))) 3 (fun _ => rfl) ?_
    obtain ⟨r4, U4, ha1aac, ha1aaa⟩ := ha1aa
    refine ev_cal (σc := (Dg_tellOf_s0 d x2 U3)) (fun _ => rfl) ha1aac ?_
    show Ev (am_kz N X) ((d + 1), 43, 33, [some (.inr (.inr 1)), some (.inl x1), some (.inl x2)], [.inl r4], (am_sh, am_mm U4)) R
    subst ha1aaa
    exact ev_end 1 (fun _ => rfl)
  · have ha2 := ha.2 (Decidable.not_not.mp hc)
    subst ha2
    exact ev_end 2 (fun _ => rfl)
set_option maxRecDepth 8000 in
theorem M_parts_r0 {N : Nat} {X : Nat → Int} {d : Nat} {x1 x2 : Int} {U : am_U} {R : Option am_V × am_M} (h : ∃ (r1 : Int) (U1 : am_U), EvK N X (M_isPerson_s0 d x1 U) (rI r1 U1) ∧ ((r1 ≠ 0) → ∃ (r2 : Int) (U2 : am_U), EvK N X (M_sizeOf_s0 d x1 U1) (rJ r2 U2) ∧ ∃ (r3 : Int) (U3 : am_U), EvK N X (M_partsOf_s0 d r2 U2) (rJ r3 U3) ∧ ((x2 ≠ (-1)) → ∃ (r4 : Int) (U4 : am_U), EvK N X (M_digit_s0 d r3 x2 U3) (rI r4 U4) ∧ R = rI r4 U4) ∧ ((x2 = (-1)) → ∃ (r5 : Int) (U5 : am_U), EvK N X (M_digits_s0 d r3 U3) (rI r5 U5) ∧ R = rI r5 U5)) ∧ ((r1 = 0) → R = rI (-1) U1)) : EvK N X (M_parts_s0 (d + 1) x1 x2 U) R := by
  show Ev (am_kz N X) ((d + 1), 44, 0, [some (.inr (.inr 86)), some (.inl x1), some (.inl x2), none, none], [], (am_sh, am_mm U)) R
  refine ev_seg (σ1 := ((d + 1), 44, 2, [some (.inr (.inr 86)), some (.inl x1), some (.inl x2), none, none], [.inl x1, .inr (.inr 86)], (am_sh, am_mm U))) 2 (fun _ => rfl) ?_
  obtain ⟨r1, U1, hc, ha⟩ := h
  refine ev_cal (σc := (M_isPerson_s0 d x1 U)) (fun _ => rfl) hc ?_
  show Ev (am_kz N X) ((d + 1), 44, 5, [some (.inr (.inr 86)), some (.inl x1), some (.inl x2), none, none], [.inl r1], (am_sh, am_mm U1)) R
  refine ev_br (P := ¬ r1 = 0) (σ1 := ((d + 1), 44, 10, [some (.inr (.inr 86)), some (.inl x1), some (.inl x2), none, none], [], (am_sh, am_mm U1))) (σ2 := ((d + 1), 44, 8, [some (.inr (.inr 86)), some (.inl x1), some (.inl x2), none, none], [], (am_sh, am_mm U1))) 1 (fun _ => rfl) (fun hc => ?_) (fun hc => ?_)
  · have ha1 := ha.1 hc
    refine ev_seg (σ1 := ((d + 1), 44, 12, [some (.inr (.inr 86)), some (.inl x1), some (.inl x2), none, none], [.inl x1, .inr (.inr 86)], (am_sh, am_mm U1))) 2 (fun _ => rfl) ?_
    obtain ⟨r2, U2, ha1c, ha1a⟩ := ha1
    refine ev_cal (σc := (M_sizeOf_s0 d x1 U1)) (fun _ => rfl) ha1c ?_
    show Ev (am_kz N X) ((d + 1), 44, 15, [some (.inr (.inr 86)), some (.inl x1), some (.inl x2), none, none], [.inr (.inl r2)], (am_sh, am_mm U2)) R
    obtain ⟨r3, U3, ha1ac, ha1aa⟩ := ha1a
    refine ev_cal (σc := (M_partsOf_s0 d r2 U2)) (fun _ => rfl) ha1ac ?_
    show Ev (am_kz N X) ((d + 1), 44, 18, [some (.inr (.inr 86)), some (.inl x1), some (.inl x2), none, none], [.inr (.inl r3)], (am_sh, am_mm U3)) R
    refine ev_br (P := ¬ x2 = (-1)) (σ1 := ((d + 1), 44, 31, [some (.inr (.inr 86)), some (.inl x1), some (.inl x2), some (.inr (.inl r3)), none], [], (am_sh, am_mm U3))) (σ2 := ((d + 1), 44, 24, [some (.inr (.inr 86)), some (.inl x1), some (.inl x2), some (.inr (.inl r3)), none], [], (am_sh, am_mm U3))) 4 (fun _ => rfl) (fun hc => ?_) (fun hc => ?_)
    · have ha1aa1 := ha1aa.1 hc
      refine ev_seg (σ1 := ((d + 1), 44, 33, [some (.inr (.inr 86)), some (.inl x1), some (.inl x2), some (.inr (.inl r3)), none], [.inl x2, .inr (.inl r3)], (am_sh, am_mm U3))) 2 (fun _ => rfl) ?_
      obtain ⟨r4, U4, ha1aa1c, ha1aa1a⟩ := ha1aa1
      refine ev_cal (σc := (M_digit_s0 d r3 x2 U3)) (fun _ => rfl) ha1aa1c ?_
      show Ev (am_kz N X) ((d + 1), 44, 36, [some (.inr (.inr 86)), some (.inl x1), some (.inl x2), some (.inr (.inl r3)), none], [.inl r4], (am_sh, am_mm U4)) R
      subst ha1aa1a
      exact ev_end 1 (fun _ => rfl)
    · have ha1aa2 := ha1aa.2 (Decidable.not_not.mp hc)
      refine ev_seg (σ1 := ((d + 1), 44, 25, [some (.inr (.inr 86)), some (.inl x1), some (.inl x2), some (.inr (.inl r3)), none], [.inr (.inl r3)], (am_sh, am_mm U3))) 1 (fun _ => rfl) ?_
      obtain ⟨r5, U5, ha1aa2c, ha1aa2a⟩ := ha1aa2
      refine ev_cal (σc := (M_digits_s0 d r3 U3)) (fun _ => rfl) ha1aa2c ?_
      show Ev (am_kz N X) ((d + 1), 44, 28, [some (.inr (.inr 86)), some (.inl x1), some (.inl x2), some (.inr (.inl r3)), none], [.inl r5], (am_sh, am_mm U5)) R
      subst ha1aa2a
      exact ev_end 2 (fun _ => rfl)
  · have ha2 := ha.2 (Decidable.not_not.mp hc)
    subst ha2
    exact ev_end 2 (fun _ => rfl)
set_option maxRecDepth 8000 in
theorem D_friends_r0 {N : Nat} {X : Nat → Int} {d : Nat} {x1 : Int} {U : am_U} {R : Option am_V × am_M} (h : EvK N X (D_friends_s4 (d + 1) x1 x1 0 U) R) : EvK N X (D_friends_s0 (d + 1) x1 U) R := by
  show Ev (am_kz N X) ((d + 1), 45, 0, [some (.inr (.inr 1)), some (.inl x1), none, none, none], [], (am_sh, am_mm U)) R
  refine ev_seg (σ1 := ((d + 1), 45, 4, [some (.inr (.inr 1)), some (.inl x1), some (.inl x1), some (.inl 0), none], [], (am_sh, am_mm U))) 4 (fun _ => rfl) ?_
  exact h
set_option maxRecDepth 8000 in
theorem D_friends_r4 {N : Nat} {X : Nat → Int} {d : Nat} {x1 x2 x3 : Int} {U : am_U} {R : Option am_V × am_M} (h : (((U 16 0) ≤ x3) → R = rI (-1) U) ∧ ((x3 < (U 16 0)) → EvK N X (D_friends_s20 (d + 1) x1 x2 x3 (w32 (x3 + 1)) U) R)) : EvK N X (D_friends_s4 (d + 1) x1 x2 x3 U) R := by
  show Ev (am_kz N X) ((d + 1), 45, 4, [some (.inr (.inr 1)), some (.inl x1), some (.inl x2), some (.inl x3), none], [], (am_sh, am_mm U)) R
  refine ev_br (P := (U 16 0) ≤ x3) (σ1 := ((d + 1), 45, 69, [some (.inr (.inr 1)), some (.inl x1), some (.inl x2), some (.inl x3), none], [], (am_sh, am_mm U))) (σ2 := ((d + 1), 45, 15, [some (.inr (.inr 1)), some (.inl x1), some (.inl x2), some (.inl x3), none], [], (am_sh, am_mm U))) 5 (fun _ => rfl) (fun hc => ?_) (fun hc => ?_)
  · have h1 := h.1 hc
    subst h1
    exact ev_end 2 (fun _ => rfl)
  · have h2 := h.2 (Int.not_le.mp hc)
    refine ev_seg (σ1 := ((d + 1), 45, 20, [some (.inr (.inr 1)), some (.inl x1), some (.inl x2), some (.inl x3), some (.inl (w32 (x3 + 1)))], [], (am_sh, am_mm U))) 4 (fun _ => rfl) ?_
    exact h2
set_option maxRecDepth 8000 in
theorem D_friends_r20 {N : Nat} {X : Nat → Int} {d : Nat} {x1 x2 x3 x4 : Int} {U : am_U} {R : Option am_V × am_M} (h : (((U 16 0) ≤ x4) → EvK N X (D_friends_s4 (d + 1) x1 x2 (w32 (x3 + 1)) U) R) ∧ ((x4 < (U 16 0)) → ∃ (r1 : Int) (U1 : am_U), EvK N X (D_areFriends_s0 d x3 x4 U) (rI r1 U1) ∧ ((r1 = 0) → EvK N X (D_friends_s20 (d + 1) x1 x2 x3 (w32 (x4 + 1)) U1) R) ∧ ((r1 ≠ 0) → ((x2 ≠ 0) → EvK N X (D_friends_s20 (d + 1) x1 (w32 (x2 + (-1))) x3 (w32 (x4 + 1)) U1) R) ∧ ((x2 = 0) → R = rI (w32 ((w32 (100 * x3)) + x4)) U1)))) : EvK N X (D_friends_s20 (d + 1) x1 x2 x3 x4 U) R := by
  show Ev (am_kz N X) ((d + 1), 45, 20, [some (.inr (.inr 1)), some (.inl x1), some (.inl x2), some (.inl x3), some (.inl x4)], [], (am_sh, am_mm U)) R
  refine ev_br (P := (U 16 0) ≤ x4) (σ1 := ((d + 1), 45, 63, [some (.inr (.inr 1)), some (.inl x1), some (.inl x2), some (.inl x3), some (.inl x4)], [], (am_sh, am_mm U))) (σ2 := ((d + 1), 45, 32, [some (.inr (.inr 1)), some (.inl x1), some (.inl x2), some (.inl x3), some (.inl x4)], [], (am_sh, am_mm U))) 5 (fun _ => rfl) (fun hc => ?_) (fun hc => ?_)
  · have h1 := h.1 hc
    refine ev_seg (σ1 := ((d + 1), 45, 4, [some (.inr (.inr 1)), some (.inl x1), some (.inl x2), some (.inl (w32 (x3 + 1))), some (.inl x4)], [], (am_sh, am_mm U))) 2 (fun _ => rfl) ?_
    exact ev_le (L := [some (.inr (.inr 1)), some (.inl x1), some (.inl x2), some (.inl (w32 (x3 + 1))), none]) ⟨rfl, ⟨rfl, ⟨rfl, ⟨rfl, trivial⟩⟩⟩⟩ h1
  · have h2 := h.2 (Int.not_le.mp hc)
    refine ev_seg (σ1 := ((d + 1), 45, 36, [some (.inr (.inr 1)), some (.inl x1), some (.inl x2), some (.inl x3), some (.inl x4)], [.inl x4, .inl x3, .inr (.inr 1)], (am_sh, am_mm U))) 3 (fun _ => rfl) ?_
    obtain ⟨r1, U1, h2c, h2a⟩ := h2
    refine ev_cal (σc := (D_areFriends_s0 d x3 x4 U)) (fun _ => rfl) h2c ?_
    show Ev (am_kz N X) ((d + 1), 45, 39, [some (.inr (.inr 1)), some (.inl x1), some (.inl x2), some (.inl x3), some (.inl x4)], [.inl r1], (am_sh, am_mm U1)) R
    refine ev_br (P := r1 = 0) (σ1 := ((d + 1), 45, 57, [some (.inr (.inr 1)), some (.inl x1), some (.inl x2), some (.inl x3), some (.inl x4)], [], (am_sh, am_mm U1))) (σ2 := ((d + 1), 45, 42, [some (.inr (.inr 1)), some (.inl x1), some (.inl x2), some (.inl x3), some (.inl x4)], [], (am_sh, am_mm U1))) 1 (fun _ => rfl) (fun hc => ?_) (fun hc => ?_)
    · have h2a1 := h2a.1 hc
      refine ev_seg (σ1 := ((d + 1), 45, 20, [some (.inr (.inr 1)), some (.inl x1), some (.inl x2), some (.inl x3), some (.inl (w32 (x4 + 1)))], [], (am_sh, am_mm U1))) 2 (fun _ => rfl) ?_
      exact h2a1
    · have h2a2 := h2a.2 hc
      refine ev_br (P := ¬ x2 = 0) (σ1 := ((d + 1), 45, 54, [some (.inr (.inr 1)), some (.inl x1), some (.inl x2), some (.inl x3), some (.inl x4)], [], (am_sh, am_mm U1))) (σ2 := ((d + 1), 45, 46, [some (.inr (.inr 1)), some (.inl x1), some (.inl x2), some (.inl x3), some (.inl x4)], [], (am_sh, am_mm U1))) 2 (fun _ => rfl) (fun hc => ?_) (fun hc => ?_)
      · have h2a21 := h2a2.1 hc
        refine ev_seg (σ1 := ((d + 1), 45, 20, [some (.inr (.inr 1)), some (.inl x1), some (.inl (w32 (x2 + (-1)))), some (.inl x3), some (.inl (w32 (x4 + 1)))], [], (am_sh, am_mm U1))) 3 (fun _ => rfl) ?_
        exact h2a21
      · have h2a22 := h2a2.2 (Decidable.not_not.mp hc)
        subst h2a22
        exact ev_end 6 (fun _ => rfl)
set_option maxRecDepth 8000 in
theorem M_friends_r0 {N : Nat} {X : Nat → Int} {d : Nat} {x1 : Int} {U : am_U} {R : Option am_V × am_M} (h : ∃ (r1 : Int) (U1 : am_U), EvK N X (M_pairAt_s0 d x1 1 U) (rI r1 U1) ∧ R = rI r1 U1) : EvK N X (M_friends_s0 (d + 1) x1 U) R := by
  show Ev (am_kz N X) ((d + 1), 46, 0, [some (.inr (.inr 86)), some (.inl x1)], [], (am_sh, am_mm U)) R
  refine ev_seg (σ1 := ((d + 1), 46, 3, [some (.inr (.inr 86)), some (.inl x1)], [.inl 1, .inl x1, .inr (.inr 86)], (am_sh, am_mm U))) 3 (fun _ => rfl) ?_
  obtain ⟨r1, U1, hc, ha⟩ := h
  refine ev_cal (σc := (M_pairAt_s0 d x1 1 U)) (fun _ => rfl) hc ?_
  show Ev (am_kz N X) ((d + 1), 46, 6, [some (.inr (.inr 86)), some (.inl x1)], [.inl r1], (am_sh, am_mm U1)) R
  subst ha
  exact ev_end 1 (fun _ => rfl)
set_option maxRecDepth 8000 in
theorem D_factor_r0 {N : Nat} {X : Nat → Int} {d : Nat} {x1 x2 : Int} {U : am_U} {R : Option am_V × am_M} (h : ∃ (r1 : Int) (U1 : am_U), EvK N X (D_isPerson_s0 d x1 U) (rI r1 U1) ∧ ((r1 = 0) → R = rI (-1) U1) ∧ ((r1 ≠ 0) → ∃ (r2 : Int) (U2 : am_U), EvK N X (D_isPerson_s0 d x2 U1) (rI r2 U2) ∧ ((r2 ≠ 0) → (0 ≤ x1 ∧ x1 < 16) ∧ (0 ≤ x2 ∧ x2 < 16) ∧ ∃ (r3 : Int) (U3 : am_U), EvK N X (Nm_commonFactor_s0 d (U2 17 x1.toNat) (U2 17 x2.toNat) U2) (rI r3 U3) ∧ R = rI r3 U3) ∧ ((r2 = 0) → R = rI (-1) U2))) : EvK N X (D_factor_s0 (d + 1) x1 x2 U) R := by
  show Ev (am_kz N X) ((d + 1), 47, 0, [some (.inr (.inr 1)), some (.inl x1), some (.inl x2)], [], (am_sh, am_mm U)) R
  refine ev_seg (σ1 := ((d + 1), 47, 2, [some (.inr (.inr 1)), some (.inl x1), some (.inl x2)], [.inl x1, .inr (.inr 1)], (am_sh, am_mm U))) 2 (fun _ => rfl) ?_
  obtain ⟨r1, U1, hc, ha⟩ := h
  refine ev_cal (σc := (D_isPerson_s0 d x1 U)) (fun _ => rfl) hc ?_
  show Ev (am_kz N X) ((d + 1), 47, 5, [some (.inr (.inr 1)), some (.inl x1), some (.inl x2)], [.inl r1], (am_sh, am_mm U1)) R
  refine ev_br (P := r1 = 0) (σ1 := ((d + 1), 47, 16, [some (.inr (.inr 1)), some (.inl x1), some (.inl x2)], [], (am_sh, am_mm U1))) (σ2 := ((d + 1), 47, 8, [some (.inr (.inr 1)), some (.inl x1), some (.inl x2)], [], (am_sh, am_mm U1))) 1 (fun _ => rfl) (fun hc => ?_) (fun hc => ?_)
  · have ha1 := ha.1 hc
    subst ha1
    exact ev_end 2 (fun _ => rfl)
  · have ha2 := ha.2 hc
    refine ev_seg (σ1 := ((d + 1), 47, 10, [some (.inr (.inr 1)), some (.inl x1), some (.inl x2)], [.inl x2, .inr (.inr 1)], (am_sh, am_mm U1))) 2 (fun _ => rfl) ?_
    obtain ⟨r2, U2, ha2c, ha2a⟩ := ha2
    refine ev_cal (σc := (D_isPerson_s0 d x2 U1)) (fun _ => rfl) ha2c ?_
    show Ev (am_kz N X) ((d + 1), 47, 13, [some (.inr (.inr 1)), some (.inl x1), some (.inl x2)], [.inl r2], (am_sh, am_mm U2)) R
    refine ev_br (P := ¬ r2 = 0) (σ1 := ((d + 1), 47, 18, [some (.inr (.inr 1)), some (.inl x1), some (.inl x2)], [], (am_sh, am_mm U2))) (σ2 := ((d + 1), 47, 16, [some (.inr (.inr 1)), some (.inl x1), some (.inl x2)], [], (am_sh, am_mm U2))) 1 (fun _ => rfl) (fun hc => ?_) (fun hc => ?_)
    · have ha2a1 := ha2a.1 hc
      refine ev_seg (σ1 := ((d + 1), 47, 26, [some (.inr (.inr 1)), some (.inl x1), some (.inl x2)], [.inl x1, .inr (.inr 17)], (am_sh, am_mm U2))) 4 (fun _ => rfl) ?_
      refine eu_iald 17 (n := 16) rfl (by decide) rfl (fun _ => rfl) ha2a1.1 ?_
      show Ev (am_kz N X) ((d + 1), 47, 27, [some (.inr (.inr 1)), some (.inl x1), some (.inl x2)], [.inl (U2 17 x1.toNat)], (am_sh, am_mm U2)) R
      have ha2a1a := ha2a1.2
      refine ev_seg (σ1 := ((d + 1), 47, 35, [some (.inr (.inr 1)), some (.inl x1), some (.inl x2)], [.inl x2, .inr (.inr 17), .inl (U2 17 x1.toNat)], (am_sh, am_mm U2))) 4 (fun _ => rfl) ?_
      refine eu_iald 17 (n := 16) rfl (by decide) rfl (fun _ => rfl) ha2a1a.1 ?_
      show Ev (am_kz N X) ((d + 1), 47, 36, [some (.inr (.inr 1)), some (.inl x1), some (.inl x2)], [.inl (U2 17 x2.toNat), .inl (U2 17 x1.toNat)], (am_sh, am_mm U2)) R
      have ha2a1aa := ha2a1a.2
      obtain ⟨r3, U3, ha2a1aac, ha2a1aaa⟩ := ha2a1aa
      refine ev_cal (σc := (Nm_commonFactor_s0 d (U2 17 x1.toNat) (U2 17 x2.toNat) U2)) (fun _ => rfl) ha2a1aac ?_
      show Ev (am_kz N X) ((d + 1), 47, 39, [some (.inr (.inr 1)), some (.inl x1), some (.inl x2)], [.inl r3], (am_sh, am_mm U3)) R
      subst ha2a1aaa
      exact ev_end 1 (fun _ => rfl)
    · have ha2a2 := ha2a.2 (Decidable.not_not.mp hc)
      subst ha2a2
      exact ev_end 2 (fun _ => rfl)
set_option maxRecDepth 8000 in
theorem M_factor_r0 {N : Nat} {X : Nat → Int} {d : Nat} {x1 x2 : Int} {U : am_U} {R : Option am_V × am_M} (h : ∃ (r1 : Int) (U1 : am_U), EvK N X (M_isPerson_s0 d x1 U) (rI r1 U1) ∧ ((r1 = 0) → R = rI (-1) U1) ∧ ((r1 ≠ 0) → ∃ (r2 : Int) (U2 : am_U), EvK N X (M_isPerson_s0 d x2 U1) (rI r2 U2) ∧ ((r2 = 0) → R = rI (-1) U2) ∧ ((r2 ≠ 0) → (0 ≤ x1 ∧ x1 < 352) ∧ (0 ≤ x2 ∧ x2 < 352) ∧ ∃ (r3 : Int) (U3 : am_U), EvK N X (M_gcd_s0 d (U2 123 x1.toNat) (U2 123 x2.toNat) U2) (rJ r3 U3) ∧ R = rI (w32 r3) U3))) : EvK N X (M_factor_s0 (d + 1) x1 x2 U) R := by
  show Ev (am_kz N X) ((d + 1), 48, 0, [some (.inr (.inr 86)), some (.inl x1), some (.inl x2)], [], (am_sh, am_mm U)) R
  refine ev_seg (σ1 := ((d + 1), 48, 2, [some (.inr (.inr 86)), some (.inl x1), some (.inl x2)], [.inl x1, .inr (.inr 86)], (am_sh, am_mm U))) 2 (fun _ => rfl) ?_
  obtain ⟨r1, U1, hc, ha⟩ := h
  refine ev_cal (σc := (M_isPerson_s0 d x1 U)) (fun _ => rfl) hc ?_
  show Ev (am_kz N X) ((d + 1), 48, 5, [some (.inr (.inr 86)), some (.inl x1), some (.inl x2)], [.inl r1], (am_sh, am_mm U1)) R
  refine ev_br (P := r1 = 0) (σ1 := ((d + 1), 48, 37, [some (.inr (.inr 86)), some (.inl x1), some (.inl x2)], [], (am_sh, am_mm U1))) (σ2 := ((d + 1), 48, 8, [some (.inr (.inr 86)), some (.inl x1), some (.inl x2)], [], (am_sh, am_mm U1))) 1 (fun _ => rfl) (fun hc => ?_) (fun hc => ?_)
  · have ha1 := ha.1 hc
    subst ha1
    exact ev_end 2 (fun _ => rfl)
  · have ha2 := ha.2 hc
    refine ev_seg (σ1 := ((d + 1), 48, 10, [some (.inr (.inr 86)), some (.inl x1), some (.inl x2)], [.inl x2, .inr (.inr 86)], (am_sh, am_mm U1))) 2 (fun _ => rfl) ?_
    obtain ⟨r2, U2, ha2c, ha2a⟩ := ha2
    refine ev_cal (σc := (M_isPerson_s0 d x2 U1)) (fun _ => rfl) ha2c ?_
    show Ev (am_kz N X) ((d + 1), 48, 13, [some (.inr (.inr 86)), some (.inl x1), some (.inl x2)], [.inl r2], (am_sh, am_mm U2)) R
    refine ev_br (P := r2 = 0) (σ1 := ((d + 1), 48, 37, [some (.inr (.inr 86)), some (.inl x1), some (.inl x2)], [], (am_sh, am_mm U2))) (σ2 := ((d + 1), 48, 16, [some (.inr (.inr 86)), some (.inl x1), some (.inl x2)], [], (am_sh, am_mm U2))) 1 (fun _ => rfl) (fun hc => ?_) (fun hc => ?_)
    · have ha2a1 := ha2a.1 hc
      subst ha2a1
      exact ev_end 2 (fun _ => rfl)
    · have ha2a2 := ha2a.2 hc
      refine ev_seg (σ1 := ((d + 1), 48, 21, [some (.inr (.inr 86)), some (.inl x1), some (.inl x2)], [.inl x1, .inr (.inr 123)], (am_sh, am_mm U2))) 3 (fun _ => rfl) ?_
      refine eu_iald 123 (n := 352) rfl (by decide) rfl (fun _ => rfl) ha2a2.1 ?_
      show Ev (am_kz N X) ((d + 1), 48, 22, [some (.inr (.inr 86)), some (.inl x1), some (.inl x2)], [.inl (U2 123 x1.toNat)], (am_sh, am_mm U2)) R
      have ha2a2a := ha2a2.2
      refine ev_seg (σ1 := ((d + 1), 48, 28, [some (.inr (.inr 86)), some (.inl x1), some (.inl x2)], [.inl x2, .inr (.inr 123), .inr (.inl (U2 123 x1.toNat))], (am_sh, am_mm U2))) 4 (fun _ => rfl) ?_
      refine eu_iald 123 (n := 352) rfl (by decide) rfl (fun _ => rfl) ha2a2a.1 ?_
      show Ev (am_kz N X) ((d + 1), 48, 29, [some (.inr (.inr 86)), some (.inl x1), some (.inl x2)], [.inl (U2 123 x2.toNat), .inr (.inl (U2 123 x1.toNat))], (am_sh, am_mm U2)) R
      have ha2a2aa := ha2a2a.2
      refine ev_seg (σ1 := ((d + 1), 48, 30, [some (.inr (.inr 86)), some (.inl x1), some (.inl x2)], [.inr (.inl (U2 123 x2.toNat)), .inr (.inl (U2 123 x1.toNat))], (am_sh, am_mm U2))) 1 (fun _ => rfl) ?_
      obtain ⟨r3, U3, ha2a2aac, ha2a2aaa⟩ := ha2a2aa
      refine ev_cal (σc := (M_gcd_s0 d (U2 123 x1.toNat) (U2 123 x2.toNat) U2)) (fun _ => rfl) ha2a2aac ?_
      show Ev (am_kz N X) ((d + 1), 48, 33, [some (.inr (.inr 86)), some (.inl x1), some (.inl x2)], [.inr (.inl r3)], (am_sh, am_mm U3)) R
      subst ha2a2aaa
      exact ev_end 3 (fun _ => rfl)
set_option maxRecDepth 8000 in
theorem D_quarrel_r0 {N : Nat} {X : Nat → Int} {d : Nat} {x1 : Int} {U : am_U} {R : Option am_V × am_M} (h : EvK N X (D_quarrel_s4 (d + 1) x1 x1 0 U) R) : EvK N X (D_quarrel_s0 (d + 1) x1 U) R := by
  show Ev (am_kz N X) ((d + 1), 49, 0, [some (.inr (.inr 1)), some (.inl x1), none, none, none, none], [], (am_sh, am_mm U)) R
  refine ev_seg (σ1 := ((d + 1), 49, 4, [some (.inr (.inr 1)), some (.inl x1), some (.inl x1), some (.inl 0), none, none], [], (am_sh, am_mm U))) 4 (fun _ => rfl) ?_
  exact h
set_option maxRecDepth 8000 in
theorem D_quarrel_r4 {N : Nat} {X : Nat → Int} {d : Nat} {x1 x2 x3 : Int} {U : am_U} {R : Option am_V × am_M} (h : (((U 16 0) ≤ x3) → R = rI (-1) U) ∧ ((x3 < (U 16 0)) → ((x2 < 0) → R = rI (-1) U) ∧ ((0 ≤ x2) → ∃ (r1 : Int) (U1 : am_U), EvK N X (D_quarrelling_s0 d x3 U) (rI r1 U1) ∧ ∃ (r2 : Int) (U2 : am_U), EvK N X (In_bitCount_s0 d (am_and r1 (am_shl (-2) x3)) U1) (rI r2 U2) ∧ ((r2 ≤ x2) → EvK N X (D_quarrel_s4 (d + 1) x1 (w32 (x2 - r2)) (w32 (x3 + 1)) U2) R) ∧ ((x2 < r2) → ∃ (r3 : Int) (U3 : am_U), EvK N X (D_bitAt_s0 d (am_and r1 (am_shl (-2) x3)) x2 U2) (rI r3 U3) ∧ R = rI (w32 ((w32 (100 * x3)) + r3)) U3)))) : EvK N X (D_quarrel_s4 (d + 1) x1 x2 x3 U) R := by
  show Ev (am_kz N X) ((d + 1), 49, 4, [some (.inr (.inr 1)), some (.inl x1), some (.inl x2), some (.inl x3), none, none], [], (am_sh, am_mm U)) R
  refine ev_br (P := (U 16 0) ≤ x3) (σ1 := ((d + 1), 49, 67, [some (.inr (.inr 1)), some (.inl x1), some (.inl x2), some (.inl x3), none, none], [], (am_sh, am_mm U))) (σ2 := ((d + 1), 49, 15, [some (.inr (.inr 1)), some (.inl x1), some (.inl x2), some (.inl x3), none, none], [], (am_sh, am_mm U))) 5 (fun _ => rfl) (fun hc => ?_) (fun hc => ?_)
  · have h1 := h.1 hc
    subst h1
    exact ev_end 2 (fun _ => rfl)
  · have h2 := h.2 (Int.not_le.mp hc)
    refine ev_br (P := x2 < 0) (σ1 := ((d + 1), 49, 67, [some (.inr (.inr 1)), some (.inl x1), some (.inl x2), some (.inl x3), none, none], [], (am_sh, am_mm U))) (σ2 := ((d + 1), 49, 19, [some (.inr (.inr 1)), some (.inl x1), some (.inl x2), some (.inl x3), none, none], [], (am_sh, am_mm U))) 2 (fun _ => rfl) (fun hc => ?_) (fun hc => ?_)
    · have h21 := h2.1 hc
      subst h21
      exact ev_end 2 (fun _ => rfl)
    · have h22 := h2.2 (Int.not_lt.mp hc)
      refine ev_seg (σ1 := ((d + 1), 49, 21, [some (.inr (.inr 1)), some (.inl x1), some (.inl x2), some (.inl x3), none, none], [.inl x3, .inr (.inr 1)], (am_sh, am_mm U))) 2 (fun _ => rfl) ?_
      obtain ⟨r1, U1, h22c, h22a⟩ := h22
      refine ev_cal (σc := (D_quarrelling_s0 d x3 U)) (fun _ => rfl) h22c ?_
      show Ev (am_kz N X) ((d + 1), 49, 24, [some (.inr (.inr 1)), some (.inl x1), some (.inl x2), some (.inl x3), none, none], [.inl r1], (am_sh, am_mm U1)) R
      refine ev_seg (σ1 := ((d + 1), 49, 33, [some (.inr (.inr 1)), some (.inl x1), some (.inl x2), some (.inl x3), some (.inl (am_and r1 (am_shl (-2) x3))), none], [.inl (am_and r1 (am_shl (-2) x3))], (am_sh, am_mm U1))) 6 (fun _ => rfl) ?_
      obtain ⟨r2, U2, h22ac, h22aa⟩ := h22a
      refine ev_cal (σc := (In_bitCount_s0 d (am_and r1 (am_shl (-2) x3)) U1)) (fun _ => rfl) h22ac ?_
      show Ev (am_kz N X) ((d + 1), 49, 36, [some (.inr (.inr 1)), some (.inl x1), some (.inl x2), some (.inl x3), some (.inl (am_and r1 (am_shl (-2) x3))), none], [.inl r2], (am_sh, am_mm U2)) R
      refine ev_br (P := r2 ≤ x2) (σ1 := ((d + 1), 49, 56, [some (.inr (.inr 1)), some (.inl x1), some (.inl x2), some (.inl x3), some (.inl (am_and r1 (am_shl (-2) x3))), some (.inl r2)], [], (am_sh, am_mm U2))) (σ2 := ((d + 1), 49, 44, [some (.inr (.inr 1)), some (.inl x1), some (.inl x2), some (.inl x3), some (.inl (am_and r1 (am_shl (-2) x3))), some (.inl r2)], [], (am_sh, am_mm U2))) 4 (fun _ => rfl) (fun hc => ?_) (fun hc => ?_)
      · have h22aa1 := h22aa.1 hc
        refine ev_seg (σ1 := ((d + 1), 49, 4, [some (.inr (.inr 1)), some (.inl x1), some (.inl (w32 (x2 - r2))), some (.inl (w32 (x3 + 1))), some (.inl (am_and r1 (am_shl (-2) x3))), some (.inl r2)], [], (am_sh, am_mm U2))) 6 (fun _ => rfl) ?_
        exact ev_le (L := [some (.inr (.inr 1)), some (.inl x1), some (.inl (w32 (x2 - r2))), some (.inl (w32 (x3 + 1))), none, none]) ⟨rfl, ⟨rfl, ⟨rfl, ⟨rfl, trivial⟩⟩⟩⟩ h22aa1
      · have h22aa2 := h22aa.2 (Int.not_le.mp hc)
        refine ev_seg (σ1 := ((d + 1), 49, 51, [some (.inr (.inr 1)), some (.inl x1), some (.inl x2), some (.inl x3), some (.inl (am_and r1 (am_shl (-2) x3))), some (.inl r2)], [.inl x2, .inl (am_and r1 (am_shl (-2) x3)), .inl (w32 (100 * x3))], (am_sh, am_mm U2))) 5 (fun _ => rfl) ?_
        obtain ⟨r3, U3, h22aa2c, h22aa2a⟩ := h22aa2
        refine ev_cal (σc := (D_bitAt_s0 d (am_and r1 (am_shl (-2) x3)) x2 U2)) (fun _ => rfl) h22aa2c ?_
        show Ev (am_kz N X) ((d + 1), 49, 54, [some (.inr (.inr 1)), some (.inl x1), some (.inl x2), some (.inl x3), some (.inl (am_and r1 (am_shl (-2) x3))), some (.inl r2)], [.inl r3, .inl (w32 (100 * x3))], (am_sh, am_mm U3)) R
        subst h22aa2a
        exact ev_end 2 (fun _ => rfl)
set_option maxRecDepth 8000 in
theorem M_quarrel_r0 {N : Nat} {X : Nat → Int} {d : Nat} {x1 : Int} {U : am_U} {R : Option am_V × am_M} (h : ∃ (r1 : Int) (U1 : am_U), EvK N X (M_pairAt_s0 d x1 0 U) (rI r1 U1) ∧ R = rI r1 U1) : EvK N X (M_quarrel_s0 (d + 1) x1 U) R := by
  show Ev (am_kz N X) ((d + 1), 50, 0, [some (.inr (.inr 86)), some (.inl x1)], [], (am_sh, am_mm U)) R
  refine ev_seg (σ1 := ((d + 1), 50, 3, [some (.inr (.inr 86)), some (.inl x1)], [.inl 0, .inl x1, .inr (.inr 86)], (am_sh, am_mm U))) 3 (fun _ => rfl) ?_
  obtain ⟨r1, U1, hc, ha⟩ := h
  refine ev_cal (σc := (M_pairAt_s0 d x1 0 U)) (fun _ => rfl) hc ?_
  show Ev (am_kz N X) ((d + 1), 50, 6, [some (.inr (.inr 86)), some (.inl x1)], [.inl r1], (am_sh, am_mm U1)) R
  subst ha
  exact ev_end 1 (fun _ => rfl)
set_option maxRecDepth 8000 in
theorem D_twins_r0 {N : Nat} {X : Nat → Int} {d : Nat} {x1 x2 : Int} {U : am_U} {R : Option am_V × am_M} (h : ((x1 < 2) → R = rI (-1) U) ∧ ((2 ≤ x1) → ((x1 ≤ 99) → ((x2 ≠ (-1)) → ∃ (r1 : Int) (U1 : am_U), EvK N X (D_isPerson_s0 d x2 U) (rI r1 U1) ∧ ((r1 = 0) → R = rI (-1) U1) ∧ ((r1 ≠ 0) → ∃ (r2 : Int) (U2 : am_U), EvK N X (D_countLike_s0 d x1 x2 (U1 16 0) U1) (rI r2 U2) ∧ R = rI (w32 (r2 - 1)) U2)) ∧ ((x2 = (-1)) → ∃ (r3 : Int) (U3 : am_U), EvK N X (D_countRemainders_s0 d x1 U) (rI r3 U3) ∧ R = rI r3 U3)) ∧ ((99 < x1) → R = rI (-1) U))) : EvK N X (D_twins_s0 (d + 1) x1 x2 U) R := by
  show Ev (am_kz N X) ((d + 1), 51, 0, [some (.inr (.inr 1)), some (.inl x1), some (.inl x2)], [], (am_sh, am_mm U)) R
  refine ev_br (P := x1 < 2) (σ1 := ((d + 1), 51, 11, [some (.inr (.inr 1)), some (.inl x1), some (.inl x2)], [], (am_sh, am_mm U))) (σ2 := ((d + 1), 51, 5, [some (.inr (.inr 1)), some (.inl x1), some (.inl x2)], [], (am_sh, am_mm U))) 3 (fun _ => rfl) (fun hc => ?_) (fun hc => ?_)
  · have h1 := h.1 hc
    subst h1
    exact ev_end 2 (fun _ => rfl)
  · have h2 := h.2 (Int.not_lt.mp hc)
    refine ev_br (P := x1 ≤ 99) (σ1 := ((d + 1), 51, 13, [some (.inr (.inr 1)), some (.inl x1), some (.inl x2)], [], (am_sh, am_mm U))) (σ2 := ((d + 1), 51, 11, [some (.inr (.inr 1)), some (.inl x1), some (.inl x2)], [], (am_sh, am_mm U))) 3 (fun _ => rfl) (fun hc => ?_) (fun hc => ?_)
    · have h21 := h2.1 hc
      refine ev_br (P := ¬ x2 = (-1)) (σ1 := ((d + 1), 51, 24, [some (.inr (.inr 1)), some (.inl x1), some (.inl x2)], [], (am_sh, am_mm U))) (σ2 := ((d + 1), 51, 18, [some (.inr (.inr 1)), some (.inl x1), some (.inl x2)], [], (am_sh, am_mm U))) 3 (fun _ => rfl) (fun hc => ?_) (fun hc => ?_)
      · have h211 := h21.1 hc
        refine ev_seg (σ1 := ((d + 1), 51, 26, [some (.inr (.inr 1)), some (.inl x1), some (.inl x2)], [.inl x2, .inr (.inr 1)], (am_sh, am_mm U))) 2 (fun _ => rfl) ?_
        obtain ⟨r1, U1, h211c, h211a⟩ := h211
        refine ev_cal (σc := (D_isPerson_s0 d x2 U)) (fun _ => rfl) h211c ?_
        show Ev (am_kz N X) ((d + 1), 51, 29, [some (.inr (.inr 1)), some (.inl x1), some (.inl x2)], [.inl r1], (am_sh, am_mm U1)) R
        refine ev_br (P := r1 = 0) (σ1 := ((d + 1), 51, 50, [some (.inr (.inr 1)), some (.inl x1), some (.inl x2)], [], (am_sh, am_mm U1))) (σ2 := ((d + 1), 51, 32, [some (.inr (.inr 1)), some (.inl x1), some (.inl x2)], [], (am_sh, am_mm U1))) 1 (fun _ => rfl) (fun hc => ?_) (fun hc => ?_)
        · have h211a1 := h211a.1 hc
          subst h211a1
          exact ev_end 2 (fun _ => rfl)
        · have h211a2 := h211a.2 hc
          refine ev_seg (σ1 := ((d + 1), 51, 42, [some (.inr (.inr 1)), some (.inl x1), some (.inl x2)], [.inl (U1 16 0), .inl x2, .inl x1, .inr (.inr 1)], (am_sh, am_mm U1))) 6 (fun _ => rfl) ?_
          obtain ⟨r2, U2, h211a2c, h211a2a⟩ := h211a2
          refine ev_cal (σc := (D_countLike_s0 d x1 x2 (U1 16 0) U1)) (fun _ => rfl) h211a2c ?_
          show Ev (am_kz N X) ((d + 1), 51, 45, [some (.inr (.inr 1)), some (.inl x1), some (.inl x2)], [.inl r2], (am_sh, am_mm U2)) R
          subst h211a2a
          exact ev_end 4 (fun _ => rfl)
      · have h212 := h21.2 (Decidable.not_not.mp hc)
        refine ev_seg (σ1 := ((d + 1), 51, 20, [some (.inr (.inr 1)), some (.inl x1), some (.inl x2)], [.inl x1, .inr (.inr 1)], (am_sh, am_mm U))) 2 (fun _ => rfl) ?_
        obtain ⟨r3, U3, h212c, h212a⟩ := h212
        refine ev_cal (σc := (D_countRemainders_s0 d x1 U)) (fun _ => rfl) h212c ?_
        show Ev (am_kz N X) ((d + 1), 51, 23, [some (.inr (.inr 1)), some (.inl x1), some (.inl x2)], [.inl r3], (am_sh, am_mm U3)) R
        subst h212a
        exact ev_end 1 (fun _ => rfl)
    · have h22 := h2.2 (Int.not_le.mp hc)
      subst h22
      exact ev_end 2 (fun _ => rfl)
set_option maxRecDepth 8000 in
theorem M_twins_r0 {N : Nat} {X : Nat → Int} {d : Nat} {x1 x2 : Int} {U : am_U} {R : Option am_V × am_M} (h : ∃ (r1 : Int) (U1 : am_U), EvK N X (M_is_s0 d x1 2 99 U) (rI r1 U1) ∧ ((r1 = 0) → R = rI (-1) U1) ∧ ((r1 ≠ 0) → ((x2 = (-1)) → EvK N X (M_twins_s30 (d + 1) x1 x2 0 0 U1) R) ∧ ((x2 ≠ (-1)) → ∃ (r2 : Int) (U2 : am_U), EvK N X (M_isPerson_s0 d x2 U1) (rI r2 U2) ∧ ((r2 ≠ 0) → EvK N X (M_twins_s30 (d + 1) x1 x2 0 0 U2) R) ∧ ((r2 = 0) → R = rI (-1) U2)))) : EvK N X (M_twins_s0 (d + 1) x1 x2 U) R := by
  show Ev (am_kz N X) ((d + 1), 52, 0, [some (.inr (.inr 86)), some (.inl x1), some (.inl x2), none, none, none, none], [], (am_sh, am_mm U)) R
  refine ev_seg (σ1 := ((d + 1), 52, 4, [some (.inr (.inr 86)), some (.inl x1), some (.inl x2), none, none, none, none], [.inl 99, .inl 2, .inl x1], (am_sh, am_mm U))) 3 (fun _ => rfl) ?_
  obtain ⟨r1, U1, hc, ha⟩ := h
  refine ev_cal (σc := (M_is_s0 d x1 2 99 U)) (fun _ => rfl) hc ?_
  show Ev (am_kz N X) ((d + 1), 52, 7, [some (.inr (.inr 86)), some (.inl x1), some (.inl x2), none, none, none, none], [.inl r1], (am_sh, am_mm U1)) R
  refine ev_br (P := r1 = 0) (σ1 := ((d + 1), 52, 23, [some (.inr (.inr 86)), some (.inl x1), some (.inl x2), none, none, none, none], [], (am_sh, am_mm U1))) (σ2 := ((d + 1), 52, 10, [some (.inr (.inr 86)), some (.inl x1), some (.inl x2), none, none, none, none], [], (am_sh, am_mm U1))) 1 (fun _ => rfl) (fun hc => ?_) (fun hc => ?_)
  · have ha1 := ha.1 hc
    subst ha1
    exact ev_end 2 (fun _ => rfl)
  · have ha2 := ha.2 hc
    refine ev_br (P := x2 = (-1)) (σ1 := ((d + 1), 52, 25, [some (.inr (.inr 86)), some (.inl x1), some (.inl x2), none, none, none, none], [], (am_sh, am_mm U1))) (σ2 := ((d + 1), 52, 15, [some (.inr (.inr 86)), some (.inl x1), some (.inl x2), none, none, none, none], [], (am_sh, am_mm U1))) 3 (fun _ => rfl) (fun hc => ?_) (fun hc => ?_)
    · have ha21 := ha2.1 hc
      refine ev_seg (σ1 := ((d + 1), 52, 30, [some (.inr (.inr 86)), some (.inl x1), some (.inl x2), some (.inl 0), some (.inl 0), none, none], [], (am_sh, am_mm U1))) 4 (fun _ => rfl) ?_
      exact ha21
    · have ha22 := ha2.2 hc
      refine ev_seg (σ1 := ((d + 1), 52, 17, [some (.inr (.inr 86)), some (.inl x1), some (.inl x2), none, none, none, none], [.inl x2, .inr (.inr 86)], (am_sh, am_mm U1))) 2 (fun _ => rfl) ?_
      obtain ⟨r2, U2, ha22c, ha22a⟩ := ha22
      refine ev_cal (σc := (M_isPerson_s0 d x2 U1)) (fun _ => rfl) ha22c ?_
      show Ev (am_kz N X) ((d + 1), 52, 20, [some (.inr (.inr 86)), some (.inl x1), some (.inl x2), none, none, none, none], [.inl r2], (am_sh, am_mm U2)) R
      refine ev_br (P := ¬ r2 = 0) (σ1 := ((d + 1), 52, 25, [some (.inr (.inr 86)), some (.inl x1), some (.inl x2), none, none, none, none], [], (am_sh, am_mm U2))) (σ2 := ((d + 1), 52, 23, [some (.inr (.inr 86)), some (.inl x1), some (.inl x2), none, none, none, none], [], (am_sh, am_mm U2))) 1 (fun _ => rfl) (fun hc => ?_) (fun hc => ?_)
      · have ha22a1 := ha22a.1 hc
        refine ev_seg (σ1 := ((d + 1), 52, 30, [some (.inr (.inr 86)), some (.inl x1), some (.inl x2), some (.inl 0), some (.inl 0), none, none], [], (am_sh, am_mm U2))) 4 (fun _ => rfl) ?_
        exact ha22a1
      · have ha22a2 := ha22a.2 (Decidable.not_not.mp hc)
        subst ha22a2
        exact ev_end 2 (fun _ => rfl)
set_option maxRecDepth 8000 in
theorem M_twins_r30 {N : Nat} {X : Nat → Int} {d : Nat} {x1 x2 x3 x4 : Int} {U : am_U} {R : Option am_V × am_M} (h : (((U 122 0) ≤ x4) → R = rI x3 U) ∧ ((x4 < (U 122 0)) → ((x2 = (-1)) → EvK N X (M_twins_s73 (d + 1) x1 x2 x3 x4 1 0 U) R) ∧ ((x2 ≠ (-1)) → ((x4 = x2) → EvK N X (M_twins_s73 (d + 1) x1 x2 x3 x4 0 0 U) R) ∧ ((x4 ≠ x2) → ∃ (r1 : Int) (U1 : am_U), EvK N X (M_areTwins_s0 d x1 x4 x2 U) (rI r1 U1) ∧ ((r1 = 0) → EvK N X (M_twins_s73 (d + 1) x1 x2 x3 x4 0 0 U1) R) ∧ ((r1 ≠ 0) → EvK N X (M_twins_s73 (d + 1) x1 x2 x3 x4 1 0 U1) R))))) : EvK N X (M_twins_s30 (d + 1) x1 x2 x3 x4 U) R := by
  show Ev (am_kz N X) ((d + 1), 52, 30, [some (.inr (.inr 86)), some (.inl x1), some (.inl x2), some (.inl x3), some (.inl x4), none, none], [], (am_sh, am_mm U)) R
  refine ev_seg (σ1 := ((d + 1), 52, 37, [some (.inr (.inr 86)), some (.inl x1), some (.inl x2), some (.inl x3), some (.inl x4), none, none], [.inl 0, .inr (.inr 122), .inl x4], (am_sh, am_mm U))) 4 (fun _ => rfl) ?_
  refine eu_iald 122 (n := 22) rfl (by decide) rfl (fun _ => rfl) (by decide) ?_
  show Ev (am_kz N X) ((d + 1), 52, 38, [some (.inr (.inr 86)), some (.inl x1), some (.inl x2), some (.inl x3), some (.inl x4), none, none], [.inl (U 122 0), .inl x4], (am_sh, am_mm U)) R
  refine ev_br (P := (U 122 0) ≤ x4) (σ1 := ((d + 1), 52, 134, [some (.inr (.inr 86)), some (.inl x1), some (.inl x2), some (.inl x3), some (.inl x4), none, none], [], (am_sh, am_mm U))) (σ2 := ((d + 1), 52, 41, [some (.inr (.inr 86)), some (.inl x1), some (.inl x2), some (.inl x3), some (.inl x4), none, none], [], (am_sh, am_mm U))) 1 (fun _ => rfl) (fun hc => ?_) (fun hc => ?_)
  · have h1 := h.1 hc
    subst h1
    exact ev_end 2 (fun _ => rfl)
  · have h2 := h.2 (Int.not_le.mp hc)
    refine ev_br (P := x2 = (-1)) (σ1 := ((d + 1), 52, 63, [some (.inr (.inr 86)), some (.inl x1), some (.inl x2), some (.inl x3), some (.inl x4), none, none], [], (am_sh, am_mm U))) (σ2 := ((d + 1), 52, 46, [some (.inr (.inr 86)), some (.inl x1), some (.inl x2), some (.inl x3), some (.inl x4), none, none], [], (am_sh, am_mm U))) 3 (fun _ => rfl) (fun hc => ?_) (fun hc => ?_)
    · have h21 := h2.1 hc
      refine ev_seg (σ1 := ((d + 1), 52, 73, [some (.inr (.inr 86)), some (.inl x1), some (.inl x2), some (.inl x3), some (.inl x4), some (.inl 1), some (.inl 0)], [], (am_sh, am_mm U))) 5 (fun _ => rfl) ?_
      exact h21
    · have h22 := h2.2 hc
      refine ev_br (P := x4 = x2) (σ1 := ((d + 1), 52, 67, [some (.inr (.inr 86)), some (.inl x1), some (.inl x2), some (.inl x3), some (.inl x4), none, none], [], (am_sh, am_mm U))) (σ2 := ((d + 1), 52, 52, [some (.inr (.inr 86)), some (.inl x1), some (.inl x2), some (.inl x3), some (.inl x4), none, none], [], (am_sh, am_mm U))) 3 (fun _ => rfl) (fun hc => ?_) (fun hc => ?_)
      · have h221 := h22.1 hc
        refine ev_seg (σ1 := ((d + 1), 52, 73, [some (.inr (.inr 86)), some (.inl x1), some (.inl x2), some (.inl x3), some (.inl x4), some (.inl 0), some (.inl 0)], [], (am_sh, am_mm U))) 4 (fun _ => rfl) ?_
        exact h221
      · have h222 := h22.2 hc
        refine ev_seg (σ1 := ((d + 1), 52, 57, [some (.inr (.inr 86)), some (.inl x1), some (.inl x2), some (.inl x3), some (.inl x4), none, none], [.inl x2, .inl x4, .inl x1, .inr (.inr 86)], (am_sh, am_mm U))) 4 (fun _ => rfl) ?_
        obtain ⟨r1, U1, h222c, h222a⟩ := h222
        refine ev_cal (σc := (M_areTwins_s0 d x1 x4 x2 U)) (fun _ => rfl) h222c ?_
        show Ev (am_kz N X) ((d + 1), 52, 60, [some (.inr (.inr 86)), some (.inl x1), some (.inl x2), some (.inl x3), some (.inl x4), none, none], [.inl r1], (am_sh, am_mm U1)) R
        refine ev_br (P := r1 = 0) (σ1 := ((d + 1), 52, 67, [some (.inr (.inr 86)), some (.inl x1), some (.inl x2), some (.inl x3), some (.inl x4), none, none], [], (am_sh, am_mm U1))) (σ2 := ((d + 1), 52, 63, [some (.inr (.inr 86)), some (.inl x1), some (.inl x2), some (.inl x3), some (.inl x4), none, none], [], (am_sh, am_mm U1))) 1 (fun _ => rfl) (fun hc => ?_) (fun hc => ?_)
        · have h222a1 := h222a.1 hc
          refine ev_seg (σ1 := ((d + 1), 52, 73, [some (.inr (.inr 86)), some (.inl x1), some (.inl x2), some (.inl x3), some (.inl x4), some (.inl 0), some (.inl 0)], [], (am_sh, am_mm U1))) 4 (fun _ => rfl) ?_
          exact h222a1
        · have h222a2 := h222a.2 hc
          refine ev_seg (σ1 := ((d + 1), 52, 73, [some (.inr (.inr 86)), some (.inl x1), some (.inl x2), some (.inl x3), some (.inl x4), some (.inl 1), some (.inl 0)], [], (am_sh, am_mm U1))) 5 (fun _ => rfl) ?_
          exact h222a2
set_option maxRecDepth 8000 in
theorem M_twins_r73 {N : Nat} {X : Nat → Int} {d : Nat} {x1 x2 x3 x4 x5 x6 : Int} {U : am_U} {R : Option am_V × am_M} (h : ((x4 ≤ x6) → ((x5 = 0) → EvK N X (M_twins_s30 (d + 1) x1 x2 (w32 (x3 + 0)) (w32 (x4 + 1)) U) R) ∧ ((x5 ≠ 0) → EvK N X (M_twins_s30 (d + 1) x1 x2 (w32 (x3 + 1)) (w32 (x4 + 1)) U) R)) ∧ ((x6 < x4) → ((x2 ≠ (-1)) → ((x5 = 0) → EvK N X (M_twins_s30 (d + 1) x1 x2 (w32 (x3 + 0)) (w32 (x4 + 1)) U) R) ∧ ((x5 ≠ 0) → EvK N X (M_twins_s30 (d + 1) x1 x2 (w32 (x3 + 1)) (w32 (x4 + 1)) U) R)) ∧ ((x2 = (-1)) → ((x5 = 0) → EvK N X (M_twins_s73 (d + 1) x1 x2 x3 x4 0 (w32 (x6 + 1)) U) R) ∧ ((x5 ≠ 0) → ∃ (r1 : Int) (U1 : am_U), EvK N X (M_areTwins_s0 d x1 x4 x6 U) (rI r1 U1) ∧ ((r1 ≠ 0) → EvK N X (M_twins_s73 (d + 1) x1 x2 x3 x4 0 (w32 (x6 + 1)) U1) R) ∧ ((r1 = 0) → EvK N X (M_twins_s73 (d + 1) x1 x2 x3 x4 1 (w32 (x6 + 1)) U1) R))))) : EvK N X (M_twins_s73 (d + 1) x1 x2 x3 x4 x5 x6 U) R := by
  show Ev (am_kz N X) ((d + 1), 52, 73, [some (.inr (.inr 86)), some (.inl x1), some (.inl x2), some (.inl x3), some (.inl x4), some (.inl x5), some (.inl x6)], [], (am_sh, am_mm U)) R
  refine ev_br (P := x4 ≤ x6) (σ1 := ((d + 1), 52, 115, [some (.inr (.inr 86)), some (.inl x1), some (.inl x2), some (.inl x3), some (.inl x4), some (.inl x5), some (.inl x6)], [], (am_sh, am_mm U))) (σ2 := ((d + 1), 52, 80, [some (.inr (.inr 86)), some (.inl x1), some (.inl x2), some (.inl x3), some (.inl x4), some (.inl x5), some (.inl x6)], [], (am_sh, am_mm U))) 3 (fun _ => rfl) (fun hc => ?_) (fun hc => ?_)
  · have h1 := h.1 hc
    refine ev_br (P := x5 = 0) (σ1 := ((d + 1), 52, 125, [some (.inr (.inr 86)), some (.inl x1), some (.inl x2), some (.inl x3), some (.inl x4), some (.inl x5), some (.inl x6)], [.inl x3], (am_sh, am_mm U))) (σ2 := ((d + 1), 52, 121, [some (.inr (.inr 86)), some (.inl x1), some (.inl x2), some (.inl x3), some (.inl x4), some (.inl x5), some (.inl x6)], [.inl x3], (am_sh, am_mm U))) 3 (fun _ => rfl) (fun hc => ?_) (fun hc => ?_)
    · have h11 := h1.1 hc
      refine ev_seg (σ1 := ((d + 1), 52, 30, [some (.inr (.inr 86)), some (.inl x1), some (.inl x2), some (.inl (w32 (x3 + 0))), some (.inl (w32 (x4 + 1))), some (.inl x5), some (.inl x6)], [], (am_sh, am_mm U))) 5 (fun _ => rfl) ?_
      exact ev_le (L := [some (.inr (.inr 86)), some (.inl x1), some (.inl x2), some (.inl (w32 (x3 + 0))), some (.inl (w32 (x4 + 1))), none, none]) ⟨rfl, ⟨rfl, ⟨rfl, ⟨rfl, ⟨rfl, trivial⟩⟩⟩⟩⟩ h11
    · have h12 := h1.2 hc
      refine ev_seg (σ1 := ((d + 1), 52, 30, [some (.inr (.inr 86)), some (.inl x1), some (.inl x2), some (.inl (w32 (x3 + 1))), some (.inl (w32 (x4 + 1))), some (.inl x5), some (.inl x6)], [], (am_sh, am_mm U))) 6 (fun _ => rfl) ?_
      exact ev_le (L := [some (.inr (.inr 86)), some (.inl x1), some (.inl x2), some (.inl (w32 (x3 + 1))), some (.inl (w32 (x4 + 1))), none, none]) ⟨rfl, ⟨rfl, ⟨rfl, ⟨rfl, ⟨rfl, trivial⟩⟩⟩⟩⟩ h12
  · have h2 := h.2 (Int.not_le.mp hc)
    refine ev_br (P := ¬ x2 = (-1)) (σ1 := ((d + 1), 52, 115, [some (.inr (.inr 86)), some (.inl x1), some (.inl x2), some (.inl x3), some (.inl x4), some (.inl x5), some (.inl x6)], [], (am_sh, am_mm U))) (σ2 := ((d + 1), 52, 85, [some (.inr (.inr 86)), some (.inl x1), some (.inl x2), some (.inl x3), some (.inl x4), some (.inl x5), some (.inl x6)], [], (am_sh, am_mm U))) 3 (fun _ => rfl) (fun hc => ?_) (fun hc => ?_)
    · have h21 := h2.1 hc
      refine ev_br (P := x5 = 0) (σ1 := ((d + 1), 52, 125, [some (.inr (.inr 86)), some (.inl x1), some (.inl x2), some (.inl x3), some (.inl x4), some (.inl x5), some (.inl x6)], [.inl x3], (am_sh, am_mm U))) (σ2 := ((d + 1), 52, 121, [some (.inr (.inr 86)), some (.inl x1), some (.inl x2), some (.inl x3), some (.inl x4), some (.inl x5), some (.inl x6)], [.inl x3], (am_sh, am_mm U))) 3 (fun _ => rfl) (fun hc => ?_) (fun hc => ?_)
      · have h211 := h21.1 hc
        refine ev_seg (σ1 := ((d + 1), 52, 30, [some (.inr (.inr 86)), some (.inl x1), some (.inl x2), some (.inl (w32 (x3 + 0))), some (.inl (w32 (x4 + 1))), some (.inl x5), some (.inl x6)], [], (am_sh, am_mm U))) 5 (fun _ => rfl) ?_
        exact ev_le (L := [some (.inr (.inr 86)), some (.inl x1), some (.inl x2), some (.inl (w32 (x3 + 0))), some (.inl (w32 (x4 + 1))), none, none]) ⟨rfl, ⟨rfl, ⟨rfl, ⟨rfl, ⟨rfl, trivial⟩⟩⟩⟩⟩ h211
      · have h212 := h21.2 hc
        refine ev_seg (σ1 := ((d + 1), 52, 30, [some (.inr (.inr 86)), some (.inl x1), some (.inl x2), some (.inl (w32 (x3 + 1))), some (.inl (w32 (x4 + 1))), some (.inl x5), some (.inl x6)], [], (am_sh, am_mm U))) 6 (fun _ => rfl) ?_
        exact ev_le (L := [some (.inr (.inr 86)), some (.inl x1), some (.inl x2), some (.inl (w32 (x3 + 1))), some (.inl (w32 (x4 + 1))), none, none]) ⟨rfl, ⟨rfl, ⟨rfl, ⟨rfl, ⟨rfl, trivial⟩⟩⟩⟩⟩ h212
    · have h22 := h2.2 (Decidable.not_not.mp hc)
      refine ev_br (P := x5 = 0) (σ1 := ((d + 1), 52, 106, [some (.inr (.inr 86)), some (.inl x1), some (.inl x2), some (.inl x3), some (.inl x4), some (.inl x5), some (.inl x6)], [], (am_sh, am_mm U))) (σ2 := ((d + 1), 52, 90, [some (.inr (.inr 86)), some (.inl x1), some (.inl x2), some (.inl x3), some (.inl x4), some (.inl x5), some (.inl x6)], [], (am_sh, am_mm U))) 2 (fun _ => rfl) (fun hc => ?_) (fun hc => ?_)
      · have h221 := h22.1 hc
        refine ev_seg (σ1 := ((d + 1), 52, 73, [some (.inr (.inr 86)), some (.inl x1), some (.inl x2), some (.inl x3), some (.inl x4), some (.inl 0), some (.inl (w32 (x6 + 1)))], [], (am_sh, am_mm U))) 4 (fun _ => rfl) ?_
        exact h221
      · have h222 := h22.2 hc
        refine ev_seg (σ1 := ((d + 1), 52, 96, [some (.inr (.inr 86)), some (.inl x1), some (.inl x2), some (.inl x3), some (.inl x4), some (.inl x5), some (.inl x6)], [.inl x6, .inl x4, .inl x1, .inr (.inr 86)], (am_sh, am_mm U))) 4 (fun _ => rfl) ?_
        obtain ⟨r1, U1, h222c, h222a⟩ := h222
        refine ev_cal (σc := (M_areTwins_s0 d x1 x4 x6 U)) (fun _ => rfl) h222c ?_
        show Ev (am_kz N X) ((d + 1), 52, 99, [some (.inr (.inr 86)), some (.inl x1), some (.inl x2), some (.inl x3), some (.inl x4), some (.inl x5), some (.inl x6)], [.inl r1], (am_sh, am_mm U1)) R
        refine ev_br (P := ¬ r1 = 0) (σ1 := ((d + 1), 52, 106, [some (.inr (.inr 86)), some (.inl x1), some (.inl x2), some (.inl x3), some (.inl x4), some (.inl x5), some (.inl x6)], [], (am_sh, am_mm U1))) (σ2 := ((d + 1), 52, 102, [some (.inr (.inr 86)), some (.inl x1), some (.inl x2), some (.inl x3), some (.inl x4), some (.inl x5), some (.inl x6)], [], (am_sh, am_mm U1))) 1 (fun _ => rfl) (fun hc => ?_) (fun hc => ?_)
        · have h222a1 := h222a.1 hc
          refine ev_seg (σ1 := ((d + 1), 52, 73, [some (.inr (.inr 86)), some (.inl x1), some (.inl x2), some (.inl x3), some (.inl x4), some (.inl 0), some (.inl (w32 (x6 + 1)))], [], (am_sh, am_mm U1))) 4 (fun _ => rfl) ?_
          exact h222a1
        · have h222a2 := h222a.2 (Decidable.not_not.mp hc)
          refine ev_seg (σ1 := ((d + 1), 52, 73, [some (.inr (.inr 86)), some (.inl x1), some (.inl x2), some (.inl x3), some (.inl x4), some (.inl 1), some (.inl (w32 (x6 + 1)))], [], (am_sh, am_mm U1))) 5 (fun _ => rfl) ?_
          exact h222a2
set_option maxRecDepth 8000 in
theorem D_sum_r0 {N : Nat} {X : Nat → Int} {d : Nat} {x1 x2 : Int} {U : am_U} {R : Option am_V × am_M} (h : ((x1 < 0) → R = rI (-1) U) ∧ ((0 ≤ x1) → ((x1 < (U 3 0)) → ∃ U1 : am_U, EvK N X (Dg_set_s0 d 0 U) (rV U1) ∧ EvK N X (D_sum_s27 (d + 1) x1 x2 0 U1) R) ∧ (((U 3 0) ≤ x1) → R = rI (-1) U))) : EvK N X (D_sum_s0 (d + 1) x1 x2 U) R := by
  show Ev (am_kz N X) ((d + 1), 53, 0, [some (.inr (.inr 1)), some (.inl x1), some (.inl x2), none], [], (am_sh, am_mm U)) R
  refine ev_br (P := x1 < 0) (σ1 := ((d + 1), 53, 15, [some (.inr (.inr 1)), some (.inl x1), some (.inl x2), none], [], (am_sh, am_mm U))) (σ2 := ((d + 1), 53, 4, [some (.inr (.inr 1)), some (.inl x1), some (.inl x2), none], [], (am_sh, am_mm U))) 2 (fun _ => rfl) (fun hc => ?_) (fun hc => ?_)
  · have h1 := h.1 hc
    subst h1
    exact ev_end 2 (fun _ => rfl)
  · have h2 := h.2 (Int.not_lt.mp hc)
    refine ev_br (P := x1 < (U 3 0)) (σ1 := ((d + 1), 53, 17, [some (.inr (.inr 1)), some (.inl x1), some (.inl x2), none], [], (am_sh, am_mm U))) (σ2 := ((d + 1), 53, 15, [some (.inr (.inr 1)), some (.inl x1), some (.inl x2), none], [], (am_sh, am_mm U))) 5 (fun _ => rfl) (fun hc => ?_) (fun hc => ?_)
    · have h21 := h2.1 hc
      refine ev_seg (σ1 := ((d + 1), 53, 22, [some (.inr (.inr 1)), some (.inl x1), some (.inl x2), none], [.inr (.inl 0), .inr (.inr 82)], (am_sh, am_mm U))) 3 (fun _ => rfl) ?_
      obtain ⟨U1, h21c, h21a⟩ := h21
      refine ev_cal (σc := (Dg_set_s0 d 0 U)) (fun _ => rfl) h21c ?_
      show Ev (am_kz N X) ((d + 1), 53, 25, [some (.inr (.inr 1)), some (.inl x1), some (.inl x2), none], [], (am_sh, am_mm U1)) R
      refine ev_seg (σ1 := ((d + 1), 53, 27, [some (.inr (.inr 1)), some (.inl x1), some (.inl x2), some (.inl 0)], [], (am_sh, am_mm U1))) 2 (fun _ => rfl) ?_
      exact h21a
    · have h22 := h2.2 (Int.not_lt.mp hc)
      subst h22
      exact ev_end 2 (fun _ => rfl)
set_option maxRecDepth 8000 in
theorem D_sum_r27 {N : Nat} {X : Nat → Int} {d : Nat} {x1 x2 x3 : Int} {U : am_U} {R : Option am_V × am_M} (h : (((U 3 1) ≤ x3) → ((x2 ≠ 20) → ((x2 ≠ 21) → ∃ (r1 : Int) (U1 : am_U), EvK N X (Dg_tellOf_s0 d x2 U) (rI r1 U1) ∧ R = rI r1 U1) ∧ ((x2 = 21) → R = rI (U 82 3) U)) ∧ ((x2 = 20) → R = rI (U 82 2) U)) ∧ ((x3 < (U 3 1)) → (0 ≤ x3 ∧ x3 < 12) ∧ (((U 6 x3.toNat) ≠ x1) → EvK N X (D_sum_s27 (d + 1) x1 x2 (w32 (x3 + 1)) U) R) ∧ (((U 6 x3.toNat) = x1) → ∃ U2 : am_U, EvK N X (D_addDwellers_s0 d x3 U) (rV U2) ∧ EvK N X (D_sum_s27 (d + 1) x1 x2 (w32 (x3 + 1)) U2) R))) : EvK N X (D_sum_s27 (d + 1) x1 x2 x3 U) R := by
  show Ev (am_kz N X) ((d + 1), 53, 27, [some (.inr (.inr 1)), some (.inl x1), some (.inl x2), some (.inl x3)], [], (am_sh, am_mm U)) R
  refine ev_br (P := (U 3 1) ≤ x3) (σ1 := ((d + 1), 53, 62, [some (.inr (.inr 1)), some (.inl x1), some (.inl x2), some (.inl x3)], [], (am_sh, am_mm U))) (σ2 := ((d + 1), 53, 38, [some (.inr (.inr 1)), some (.inl x1), some (.inl x2), some (.inl x3)], [], (am_sh, am_mm U))) 5 (fun _ => rfl) (fun hc => ?_) (fun hc => ?_)
  · have h1 := h.1 hc
    refine ev_br (P := ¬ x2 = 20) (σ1 := ((d + 1), 53, 76, [some (.inr (.inr 1)), some (.inl x1), some (.inl x2), some (.inl x3)], [], (am_sh, am_mm U))) (σ2 := ((d + 1), 53, 68, [some (.inr (.inr 1)), some (.inl x1), some (.inl x2), some (.inl x3)], [], (am_sh, am_mm U))) 3 (fun _ => rfl) (fun hc => ?_) (fun hc => ?_)
    · have h11 := h1.1 hc
      refine ev_br (P := ¬ x2 = 21) (σ1 := ((d + 1), 53, 92, [some (.inr (.inr 1)), some (.inl x1), some (.inl x2), some (.inl x3)], [], (am_sh, am_mm U))) (σ2 := ((d + 1), 53, 82, [some (.inr (.inr 1)), some (.inl x1), some (.inl x2), some (.inl x3)], [], (am_sh, am_mm U))) 3 (fun _ => rfl) (fun hc => ?_) (fun hc => ?_)
      · have h111 := h11.1 hc
        refine ev_seg (σ1 := ((d + 1), 53, 97, [some (.inr (.inr 1)), some (.inl x1), some (.inl x2), some (.inl x3)], [.inl x2, .inr (.inr 82)], (am_sh, am_mm U))) 3 (fun _ => rfl) ?_
        obtain ⟨r1, U1, h111c, h111a⟩ := h111
        refine ev_cal (σc := (Dg_tellOf_s0 d x2 U)) (fun _ => rfl) h111c ?_
        show Ev (am_kz N X) ((d + 1), 53, 100, [some (.inr (.inr 1)), some (.inl x1), some (.inl x2), some (.inl x3)], [.inl r1], (am_sh, am_mm U1)) R
        subst h111a
        exact ev_end 1 (fun _ => rfl)
      · have h112 := h11.2 (Decidable.not_not.mp hc)
        subst h112
        exact ev_end 5 (fun _ => rfl)
    · have h12 := h1.2 (Decidable.not_not.mp hc)
      subst h12
      exact ev_end 4 (fun _ => rfl)
  · have h2 := h.2 (Int.not_le.mp hc)
    refine ev_seg (σ1 := ((d + 1), 53, 46, [some (.inr (.inr 1)), some (.inl x1), some (.inl x2), some (.inl x3)], [.inl x3, .inr (.inr 6)], (am_sh, am_mm U))) 4 (fun _ => rfl) ?_
    refine eu_iald 6 (n := 12) rfl (by decide) rfl (fun _ => rfl) h2.1 ?_
    show Ev (am_kz N X) ((d + 1), 53, 47, [some (.inr (.inr 1)), some (.inl x1), some (.inl x2), some (.inl x3)], [.inl (U 6 x3.toNat)], (am_sh, am_mm U)) R
    have h2a := h2.2
    refine ev_br (P := ¬ (U 6 x3.toNat) = x1) (σ1 := ((d + 1), 53, 56, [some (.inr (.inr 1)), some (.inl x1), some (.inl x2), some (.inl x3)], [], (am_sh, am_mm U))) (σ2 := ((d + 1), 53, 51, [some (.inr (.inr 1)), some (.inl x1), some (.inl x2), some (.inl x3)], [], (am_sh, am_mm U))) 2 (fun _ => rfl) (fun hc => ?_) (fun hc => ?_)
    · have h2a1 := h2a.1 hc
      refine ev_seg (σ1 := ((d + 1), 53, 27, [some (.inr (.inr 1)), some (.inl x1), some (.inl x2), some (.inl (w32 (x3 + 1)))], [], (am_sh, am_mm U))) 2 (fun _ => rfl) ?_
      exact h2a1
    · have h2a2 := h2a.2 (Decidable.not_not.mp hc)
      refine ev_seg (σ1 := ((d + 1), 53, 53, [some (.inr (.inr 1)), some (.inl x1), some (.inl x2), some (.inl x3)], [.inl x3, .inr (.inr 1)], (am_sh, am_mm U))) 2 (fun _ => rfl) ?_
      obtain ⟨U2, h2a2c, h2a2a⟩ := h2a2
      refine ev_cal (σc := (D_addDwellers_s0 d x3 U)) (fun _ => rfl) h2a2c ?_
      show Ev (am_kz N X) ((d + 1), 53, 56, [some (.inr (.inr 1)), some (.inl x1), some (.inl x2), some (.inl x3)], [], (am_sh, am_mm U2)) R
      refine ev_seg (σ1 := ((d + 1), 53, 27, [some (.inr (.inr 1)), some (.inl x1), some (.inl x2), some (.inl (w32 (x3 + 1)))], [], (am_sh, am_mm U2))) 2 (fun _ => rfl) ?_
      exact h2a2a
set_option maxRecDepth 8000 in
theorem M_sum_r0 {N : Nat} {X : Nat → Int} {d : Nat} {x1 x2 : Int} {U : am_U} {R : Option am_V × am_M} (h : ∃ (r1 : Int) (U1 : am_U), EvK N X (M_isStreet_s0 d x1 U) (rI r1 U1) ∧ ((r1 = 0) → R = rI (-1) U1) ∧ ((r1 ≠ 0) → ∃ (r2 : Int) (U2 : am_U), EvK N X (M_is_s0 d x2 (-1) 21 U1) (rI r2 U2) ∧ ((r2 ≠ 0) → EvK N X (M_sum_s37 (d + 1) x1 x2 0 (am_upd (am_upd (am_upd U2 86 76 0) 86 77 0) 86 78 0)) R) ∧ ((r2 = 0) → R = rI (-1) U2))) : EvK N X (M_sum_s0 (d + 1) x1 x2 U) R := by
  show Ev (am_kz N X) ((d + 1), 54, 0, [some (.inr (.inr 86)), some (.inl x1), some (.inl x2), none, none], [], (am_sh, am_mm U)) R
  refine ev_seg (σ1 := ((d + 1), 54, 2, [some (.inr (.inr 86)), some (.inl x1), some (.inl x2), none, none], [.inl x1, .inr (.inr 86)], (am_sh, am_mm U))) 2 (fun _ => rfl) ?_
  obtain ⟨r1, U1, hc, ha⟩ := h
  refine ev_cal (σc := (M_isStreet_s0 d x1 U)) (fun _ => rfl) hc ?_
  show Ev (am_kz N X) ((d + 1), 54, 5, [some (.inr (.inr 86)), some (.inl x1), some (.inl x2), none, none], [.inl r1], (am_sh, am_mm U1)) R
  refine ev_br (P := r1 = 0) (σ1 := ((d + 1), 54, 18, [some (.inr (.inr 86)), some (.inl x1), some (.inl x2), none, none], [], (am_sh, am_mm U1))) (σ2 := ((d + 1), 54, 8, [some (.inr (.inr 86)), some (.inl x1), some (.inl x2), none, none], [], (am_sh, am_mm U1))) 1 (fun _ => rfl) (fun hc => ?_) (fun hc => ?_)
  · have ha1 := ha.1 hc
    subst ha1
    exact ev_end 2 (fun _ => rfl)
  · have ha2 := ha.2 hc
    refine ev_seg (σ1 := ((d + 1), 54, 12, [some (.inr (.inr 86)), some (.inl x1), some (.inl x2), none, none], [.inl 21, .inl (-1), .inl x2], (am_sh, am_mm U1))) 3 (fun _ => rfl) ?_
    obtain ⟨r2, U2, ha2c, ha2a⟩ := ha2
    refine ev_cal (σc := (M_is_s0 d x2 (-1) 21 U1)) (fun _ => rfl) ha2c ?_
    show Ev (am_kz N X) ((d + 1), 54, 15, [some (.inr (.inr 86)), some (.inl x1), some (.inl x2), none, none], [.inl r2], (am_sh, am_mm U2)) R
    refine ev_br (P := ¬ r2 = 0) (σ1 := ((d + 1), 54, 20, [some (.inr (.inr 86)), some (.inl x1), some (.inl x2), none, none], [], (am_sh, am_mm U2))) (σ2 := ((d + 1), 54, 18, [some (.inr (.inr 86)), some (.inl x1), some (.inl x2), none, none], [], (am_sh, am_mm U2))) 1 (fun _ => rfl) (fun hc => ?_) (fun hc => ?_)
    · have ha2a1 := ha2a.1 hc
      refine ev_seg (σ1 := ((d + 1), 54, 22, [some (.inr (.inr 86)), some (.inl x1), some (.inl x2), none, none], [.inr (.inl 0), .inr (.inr 86)], (am_sh, am_mm U2))) 2 (fun _ => rfl) ?_
      refine eu_putj 86 (n := 90) rfl (by decide) rfl rfl ?_
      show Ev (am_kz N X) ((d + 1), 54, 25, [some (.inr (.inr 86)), some (.inl x1), some (.inl x2), none, none], [], (am_sh, am_mm (am_upd U2 86 76 0))) R
      refine ev_seg (σ1 := ((d + 1), 54, 27, [some (.inr (.inr 86)), some (.inl x1), some (.inl x2), none, none], [.inl 0, .inr (.inr 86)], (am_sh, am_mm (am_upd U2 86 76 0)))) 2 (fun _ => rfl) ?_
      refine eu_puti 86 (n := 90) rfl (by decide) rfl rfl ?_
      show Ev (am_kz N X) ((d + 1), 54, 30, [some (.inr (.inr 86)), some (.inl x1), some (.inl x2), none, none], [], (am_sh, am_mm (am_upd (am_upd U2 86 76 0) 86 77 0))) R
      refine ev_seg (σ1 := ((d + 1), 54, 32, [some (.inr (.inr 86)), some (.inl x1), some (.inl x2), none, none], [.inl 0, .inr (.inr 86)], (am_sh, am_mm (am_upd (am_upd U2 86 76 0) 86 77 0)))) 2 (fun _ => rfl) ?_
      refine eu_puti 86 (n := 90) rfl (by decide) rfl rfl ?_
      show Ev (am_kz N X) ((d + 1), 54, 35, [some (.inr (.inr 86)), some (.inl x1), some (.inl x2), none, none], [], (am_sh, am_mm (am_upd (am_upd (am_upd U2 86 76 0) 86 77 0) 86 78 0))) R
      refine ev_seg (σ1 := ((d + 1), 54, 37, [some (.inr (.inr 86)), some (.inl x1), some (.inl x2), some (.inl 0), none], [], (am_sh, am_mm (am_upd (am_upd (am_upd U2 86 76 0) 86 77 0) 86 78 0)))) 2 (fun _ => rfl) ?_
      exact ha2a1
    · have ha2a2 := ha2a.2 (Decidable.not_not.mp hc)
      subst ha2a2
      exact ev_end 2 (fun _ => rfl)
set_option maxRecDepth 8000 in
theorem M_sum_r37 {N : Nat} {X : Nat → Int} {d : Nat} {x1 x2 x3 : Int} {U : am_U} {R : Option am_V × am_M} (h : (0 ≤ (U 86 13) ∧ (U 86 13) < 2) ∧ (((U 90 ((U 86 13).toNat)) ≤ x3) → ((x2 ≠ (-1)) → ((x2 ≠ 20) → ((x2 ≠ 21) → ∃ (r1 : Int) (U1 : am_U), EvK N X (M_digit_s0 d (U 86 76) x2 U) (rI r1 U1) ∧ R = rI r1 U1) ∧ ((x2 = 21) → R = rI (U 86 78) U)) ∧ ((x2 = 20) → R = rI (U 86 77) U)) ∧ ((x2 = (-1)) → ∃ (r2 : Int) (U2 : am_U), EvK N X (M_digits_s0 d (U 86 76) U) (rI r2 U2) ∧ R = rI r2 U2)) ∧ ((x3 < (U 90 ((U 86 13).toNat))) → EvK N X (M_sum_s53 (d + 1) x1 x2 x3 0 U) R)) : EvK N X (M_sum_s37 (d + 1) x1 x2 x3 U) R := by
  show Ev (am_kz N X) ((d + 1), 54, 37, [some (.inr (.inr 86)), some (.inl x1), some (.inl x2), some (.inl x3), none], [], (am_sh, am_mm U)) R
  refine ev_seg (σ1 := ((d + 1), 54, 46, [some (.inr (.inr 86)), some (.inl x1), some (.inl x2), some (.inl x3), none], [.inl (U 86 13), .inr (.inr 90), .inl x3], (am_sh, am_mm U))) 5 (fun _ => rfl) ?_
  refine eu_iald 90 (n := 2) rfl (by decide) rfl (fun _ => rfl) h.1 ?_
  show Ev (am_kz N X) ((d + 1), 54, 47, [some (.inr (.inr 86)), some (.inl x1), some (.inl x2), some (.inl x3), none], [.inl (U 90 ((U 86 13).toNat)), .inl x3], (am_sh, am_mm U)) R
  have ha := h.2
  refine ev_br (P := (U 90 ((U 86 13).toNat)) ≤ x3) (σ1 := ((d + 1), 54, 106, [some (.inr (.inr 86)), some (.inl x1), some (.inl x2), some (.inl x3), none], [], (am_sh, am_mm U))) (σ2 := ((d + 1), 54, 50, [some (.inr (.inr 86)), some (.inl x1), some (.inl x2), some (.inl x3), none], [], (am_sh, am_mm U))) 1 (fun _ => rfl) (fun hc => ?_) (fun hc => ?_)
  · have ha1 := ha.1 hc
    refine ev_br (P := ¬ x2 = (-1)) (σ1 := ((d + 1), 54, 121, [some (.inr (.inr 86)), some (.inl x1), some (.inl x2), some (.inl x3), none], [], (am_sh, am_mm U))) (σ2 := ((d + 1), 54, 111, [some (.inr (.inr 86)), some (.inl x1), some (.inl x2), some (.inl x3), none], [], (am_sh, am_mm U))) 3 (fun _ => rfl) (fun hc => ?_) (fun hc => ?_)
    · have ha11 := ha1.1 hc
      refine ev_br (P := ¬ x2 = 20) (σ1 := ((d + 1), 54, 134, [some (.inr (.inr 86)), some (.inl x1), some (.inl x2), some (.inl x3), none], [], (am_sh, am_mm U))) (σ2 := ((d + 1), 54, 127, [some (.inr (.inr 86)), some (.inl x1), some (.inl x2), some (.inl x3), none], [], (am_sh, am_mm U))) 3 (fun _ => rfl) (fun hc => ?_) (fun hc => ?_)
      · have ha111 := ha11.1 hc
        refine ev_br (P := ¬ x2 = 21) (σ1 := ((d + 1), 54, 147, [some (.inr (.inr 86)), some (.inl x1), some (.inl x2), some (.inl x3), none], [], (am_sh, am_mm U))) (σ2 := ((d + 1), 54, 140, [some (.inr (.inr 86)), some (.inl x1), some (.inl x2), some (.inl x3), none], [], (am_sh, am_mm U))) 3 (fun _ => rfl) (fun hc => ?_) (fun hc => ?_)
        · have ha1111 := ha111.1 hc
          refine ev_seg (σ1 := ((d + 1), 54, 152, [some (.inr (.inr 86)), some (.inl x1), some (.inl x2), some (.inl x3), none], [.inl x2, .inr (.inl (U 86 76))], (am_sh, am_mm U))) 3 (fun _ => rfl) ?_
          obtain ⟨r1, U1, ha1111c, ha1111a⟩ := ha1111
          refine ev_cal (σc := (M_digit_s0 d (U 86 76) x2 U)) (fun _ => rfl) ha1111c ?_
          show Ev (am_kz N X) ((d + 1), 54, 155, [some (.inr (.inr 86)), some (.inl x1), some (.inl x2), some (.inl x3), none], [.inl r1], (am_sh, am_mm U1)) R
          subst ha1111a
          exact ev_end 1 (fun _ => rfl)
        · have ha1112 := ha111.2 (Decidable.not_not.mp hc)
          subst ha1112
          exact ev_end 4 (fun _ => rfl)
      · have ha112 := ha11.2 (Decidable.not_not.mp hc)
        subst ha112
        exact ev_end 4 (fun _ => rfl)
    · have ha12 := ha1.2 (Decidable.not_not.mp hc)
      refine ev_seg (σ1 := ((d + 1), 54, 115, [some (.inr (.inr 86)), some (.inl x1), some (.inl x2), some (.inl x3), none], [.inr (.inl (U 86 76))], (am_sh, am_mm U))) 2 (fun _ => rfl) ?_
      obtain ⟨r2, U2, ha12c, ha12a⟩ := ha12
      refine ev_cal (σc := (M_digits_s0 d (U 86 76) U)) (fun _ => rfl) ha12c ?_
      show Ev (am_kz N X) ((d + 1), 54, 118, [some (.inr (.inr 86)), some (.inl x1), some (.inl x2), some (.inl x3), none], [.inl r2], (am_sh, am_mm U2)) R
      subst ha12a
      exact ev_end 2 (fun _ => rfl)
  · have ha2 := ha.2 (Int.not_le.mp hc)
    refine ev_seg (σ1 := ((d + 1), 54, 53, [some (.inr (.inr 86)), some (.inl x1), some (.inl x2), some (.inl x3), some (.inl 0)], [], (am_sh, am_mm U))) 2 (fun _ => rfl) ?_
    exact ha2
set_option maxRecDepth 8000 in
theorem M_sum_r53 {N : Nat} {X : Nat → Int} {d : Nat} {x1 x2 x3 x4 : Int} {U : am_U} {R : Option am_V × am_M} (h : (((U 122 0) ≤ x4) → EvK N X (M_sum_s37 (d + 1) x1 x2 (w32 (x3 + 1)) U) R) ∧ ((x4 < (U 122 0)) → ∃ (r1 : Int) (U1 : am_U), EvK N X (M_streetOf_s0 d x3 U) (rI r1 U1) ∧ ((r1 ≠ x1) → EvK N X (M_sum_s53 (d + 1) x1 x2 x3 (w32 (x4 + 1)) U1) R) ∧ ((r1 = x1) → (0 ≤ x4 ∧ x4 < 352) ∧ (((U1 124 x4.toNat) ≠ x3) → EvK N X (M_sum_s53 (d + 1) x1 x2 x3 (w32 (x4 + 1)) U1) R) ∧ (((U1 124 x4.toNat) = x3) → ∃ (r2 : Int) (U2 : am_U), EvK N X (M_sizeOf_s0 d x4 U1) (rJ r2 U2) ∧ ∃ U3 : am_U, EvK N X (M_adds_s0 d r2 U2) (rV U3) ∧ EvK N X (M_sum_s53 (d + 1) x1 x2 x3 (w32 (x4 + 1)) U3) R)))) : EvK N X (M_sum_s53 (d + 1) x1 x2 x3 x4 U) R := by
  show Ev (am_kz N X) ((d + 1), 54, 53, [some (.inr (.inr 86)), some (.inl x1), some (.inl x2), some (.inl x3), some (.inl x4)], [], (am_sh, am_mm U)) R
  refine ev_seg (σ1 := ((d + 1), 54, 60, [some (.inr (.inr 86)), some (.inl x1), some (.inl x2), some (.inl x3), some (.inl x4)], [.inl 0, .inr (.inr 122), .inl x4], (am_sh, am_mm U))) 4 (fun _ => rfl) ?_
  refine eu_iald 122 (n := 22) rfl (by decide) rfl (fun _ => rfl) (by decide) ?_
  show Ev (am_kz N X) ((d + 1), 54, 61, [some (.inr (.inr 86)), some (.inl x1), some (.inl x2), some (.inl x3), some (.inl x4)], [.inl (U 122 0), .inl x4], (am_sh, am_mm U)) R
  refine ev_br (P := (U 122 0) ≤ x4) (σ1 := ((d + 1), 54, 100, [some (.inr (.inr 86)), some (.inl x1), some (.inl x2), some (.inl x3), some (.inl x4)], [], (am_sh, am_mm U))) (σ2 := ((d + 1), 54, 64, [some (.inr (.inr 86)), some (.inl x1), some (.inl x2), some (.inl x3), some (.inl x4)], [], (am_sh, am_mm U))) 1 (fun _ => rfl) (fun hc => ?_) (fun hc => ?_)
  · have h1 := h.1 hc
    refine ev_seg (σ1 := ((d + 1), 54, 37, [some (.inr (.inr 86)), some (.inl x1), some (.inl x2), some (.inl (w32 (x3 + 1))), some (.inl x4)], [], (am_sh, am_mm U))) 2 (fun _ => rfl) ?_
    exact ev_le (L := [some (.inr (.inr 86)), some (.inl x1), some (.inl x2), some (.inl (w32 (x3 + 1))), none]) ⟨rfl, ⟨rfl, ⟨rfl, ⟨rfl, trivial⟩⟩⟩⟩ h1
  · have h2 := h.2 (Int.not_le.mp hc)
    refine ev_seg (σ1 := ((d + 1), 54, 66, [some (.inr (.inr 86)), some (.inl x1), some (.inl x2), some (.inl x3), some (.inl x4)], [.inl x3, .inr (.inr 86)], (am_sh, am_mm U))) 2 (fun _ => rfl) ?_
    obtain ⟨r1, U1, h2c, h2a⟩ := h2
    refine ev_cal (σc := (M_streetOf_s0 d x3 U)) (fun _ => rfl) h2c ?_
    show Ev (am_kz N X) ((d + 1), 54, 69, [some (.inr (.inr 86)), some (.inl x1), some (.inl x2), some (.inl x3), some (.inl x4)], [.inl r1], (am_sh, am_mm U1)) R
    refine ev_br (P := ¬ r1 = x1) (σ1 := ((d + 1), 54, 94, [some (.inr (.inr 86)), some (.inl x1), some (.inl x2), some (.inl x3), some (.inl x4)], [], (am_sh, am_mm U1))) (σ2 := ((d + 1), 54, 73, [some (.inr (.inr 86)), some (.inl x1), some (.inl x2), some (.inl x3), some (.inl x4)], [], (am_sh, am_mm U1))) 2 (fun _ => rfl) (fun hc => ?_) (fun hc => ?_)
    · have h2a1 := h2a.1 hc
      refine ev_seg (σ1 := ((d + 1), 54, 53, [some (.inr (.inr 86)), some (.inl x1), some (.inl x2), some (.inl x3), some (.inl (w32 (x4 + 1)))], [], (am_sh, am_mm U1))) 2 (fun _ => rfl) ?_
      exact h2a1
    · have h2a2 := h2a.2 (Decidable.not_not.mp hc)
      refine ev_seg (σ1 := ((d + 1), 54, 79, [some (.inr (.inr 86)), some (.inl x1), some (.inl x2), some (.inl x3), some (.inl x4)], [.inl x4, .inr (.inr 124)], (am_sh, am_mm U1))) 3 (fun _ => rfl) ?_
      refine eu_iald 124 (n := 352) rfl (by decide) rfl (fun _ => rfl) h2a2.1 ?_
      show Ev (am_kz N X) ((d + 1), 54, 80, [some (.inr (.inr 86)), some (.inl x1), some (.inl x2), some (.inl x3), some (.inl x4)], [.inl (U1 124 x4.toNat)], (am_sh, am_mm U1)) R
      have h2a2a := h2a2.2
      refine ev_br (P := ¬ (U1 124 x4.toNat) = x3) (σ1 := ((d + 1), 54, 94, [some (.inr (.inr 86)), some (.inl x1), some (.inl x2), some (.inl x3), some (.inl x4)], [], (am_sh, am_mm U1))) (σ2 := ((d + 1), 54, 84, [some (.inr (.inr 86)), some (.inl x1), some (.inl x2), some (.inl x3), some (.inl x4)], [], (am_sh, am_mm U1))) 2 (fun _ => rfl) (fun hc => ?_) (fun hc => ?_)
      · have h2a2a1 := h2a2a.1 hc
        refine ev_seg (σ1 := ((d + 1), 54, 53, [some (.inr (.inr 86)), some (.inl x1), some (.inl x2), some (.inl x3), some (.inl (w32 (x4 + 1)))], [], (am_sh, am_mm U1))) 2 (fun _ => rfl) ?_
        exact h2a2a1
      · have h2a2a2 := h2a2a.2 (Decidable.not_not.mp hc)
        refine ev_seg (σ1 := ((d + 1), 54, 88, [some (.inr (.inr 86)), some (.inl x1), some (.inl x2), some (.inl x3), some (.inl x4)], [.inl x4, .inr (.inr 86), .inr (.inr 86)], (am_sh, am_mm U1))) 3 (fun _ => rfl) ?_
        obtain ⟨r2, U2, h2a2a2c, h2a2a2a⟩ := h2a2a2
        refine ev_cal (σc := (M_sizeOf_s0 d x4 U1)) (fun _ => rfl) h2a2a2c ?_
        show Ev (am_kz N X) ((d + 1), 54, 91, [some (.inr (.inr 86)), some (.inl x1), some (.inl x2), some (.inl x3), some (.inl x4)], [.inr (.inl r2), .inr (.inr 86)], (am_sh, am_mm U2)) R
        obtain ⟨U3, h2a2a2ac, h2a2a2aa⟩ := h2a2a2a
        refine ev_cal (σc := (M_adds_s0 d r2 U2)) (fun _ => rfl) h2a2a2ac ?_
        show Ev (am_kz N X) ((d + 1), 54, 94, [some (.inr (.inr 86)), some (.inl x1), some (.inl x2), some (.inl x3), some (.inl x4)], [], (am_sh, am_mm U3)) R
        refine ev_seg (σ1 := ((d + 1), 54, 53, [some (.inr (.inr 86)), some (.inl x1), some (.inl x2), some (.inl x3), some (.inl (w32 (x4 + 1)))], [], (am_sh, am_mm U3))) 2 (fun _ => rfl) ?_
        exact h2a2a2aa
set_option maxRecDepth 8000 in
theorem D_rent_r0 {N : Nat} {X : Nat → Int} {d : Nat} {x1 x2 : Int} {U : am_U} {R : Option am_V × am_M} (h : ∃ (r1 : Int) (U1 : am_U), EvK N X (D_isHouse_s0 d x1 U) (rI r1 U1) ∧ ((r1 ≠ 0) → ∃ (r2 : Int) (U2 : am_U), EvK N X (Fk_living_16_s0 d x1 U1) (rI r2 U2) ∧ ((r2 ≠ 0) → ∃ U3 : am_U, EvK N X (Dg_set_s0 d 1 U2) (rV U3) ∧ EvK N X (D_rent_s35 (d + 1) x1 x2 0 U3) R) ∧ ((r2 = 0) → ∃ U4 : am_U, EvK N X (Dg_set_s0 d 0 U2) (rV U4) ∧ EvK N X (D_rent_s35 (d + 1) x1 x2 0 U4) R)) ∧ ((r1 = 0) → R = rI (-1) U1)) : EvK N X (D_rent_s0 (d + 1) x1 x2 U) R := by
  show Ev (am_kz N X) ((d + 1), 55, 0, [some (.inr (.inr 1)), some (.inl x1), some (.inl x2), none], [], (am_sh, am_mm U)) R
  refine ev_seg (σ1 := ((d + 1), 55, 2, [some (.inr (.inr 1)), some (.inl x1), some (.inl x2), none], [.inl x1, .inr (.inr 1)], (am_sh, am_mm U))) 2 (fun _ => rfl) ?_
  obtain ⟨r1, U1, hc, ha⟩ := h
  refine ev_cal (σc := (D_isHouse_s0 d x1 U)) (fun _ => rfl) hc ?_
  show Ev (am_kz N X) ((d + 1), 55, 5, [some (.inr (.inr 1)), some (.inl x1), some (.inl x2), none], [.inl r1], (am_sh, am_mm U1)) R
  refine ev_br (P := ¬ r1 = 0) (σ1 := ((d + 1), 55, 10, [some (.inr (.inr 1)), some (.inl x1), some (.inl x2), none], [], (am_sh, am_mm U1))) (σ2 := ((d + 1), 55, 8, [some (.inr (.inr 1)), some (.inl x1), some (.inl x2), none], [], (am_sh, am_mm U1))) 1 (fun _ => rfl) (fun hc => ?_) (fun hc => ?_)
  · have ha1 := ha.1 hc
    refine ev_seg (σ1 := ((d + 1), 55, 19, [some (.inr (.inr 1)), some (.inl x1), some (.inl x2), none], [.inl x1, .inr (.inr 16), .inr (.inr 82)], (am_sh, am_mm U1))) 5 (fun _ => rfl) ?_
    obtain ⟨r2, U2, ha1c, ha1a⟩ := ha1
    refine ev_cal (σc := (Fk_living_16_s0 d x1 U1)) (fun _ => rfl) ha1c ?_
    show Ev (am_kz N X) ((d + 1), 55, 22, [some (.inr (.inr 1)), some (.inl x1), some (.inl x2), none], [.inl r2, .inr (.inr 82)], (am_sh, am_mm U2)) R
    refine ev_br (P := ¬ r2 = 0) (σ1 := ((d + 1), 55, 29, [some (.inr (.inr 1)), some (.inl x1), some (.inl x2), none], [.inr (.inr 82)], (am_sh, am_mm U2))) (σ2 := ((d + 1), 55, 25, [some (.inr (.inr 1)), some (.inl x1), some (.inl x2), none], [.inr (.inr 82)], (am_sh, am_mm U2))) 1 (fun _ => rfl) (fun hc => ?_) (fun hc => ?_)
    · have ha1a1 := ha1a.1 hc
      refine ev_seg (σ1 := ((d + 1), 55, 30, [some (.inr (.inr 1)), some (.inl x1), some (.inl x2), none], [.inr (.inl 1), .inr (.inr 82)], (am_sh, am_mm U2))) 1 (fun _ => rfl) ?_
      obtain ⟨U3, ha1a1c, ha1a1a⟩ := ha1a1
      refine ev_cal (σc := (Dg_set_s0 d 1 U2)) (fun _ => rfl) ha1a1c ?_
      show Ev (am_kz N X) ((d + 1), 55, 33, [some (.inr (.inr 1)), some (.inl x1), some (.inl x2), none], [], (am_sh, am_mm U3)) R
      refine ev_seg (σ1 := ((d + 1), 55, 35, [some (.inr (.inr 1)), some (.inl x1), some (.inl x2), some (.inl 0)], [], (am_sh, am_mm U3))) 2 (fun _ => rfl) ?_
      exact ha1a1a
    · have ha1a2 := ha1a.2 (Decidable.not_not.mp hc)
      refine ev_seg (σ1 := ((d + 1), 55, 30, [some (.inr (.inr 1)), some (.inl x1), some (.inl x2), none], [.inr (.inl 0), .inr (.inr 82)], (am_sh, am_mm U2))) 2 (fun _ => rfl) ?_
      obtain ⟨U4, ha1a2c, ha1a2a⟩ := ha1a2
      refine ev_cal (σc := (Dg_set_s0 d 0 U2)) (fun _ => rfl) ha1a2c ?_
      show Ev (am_kz N X) ((d + 1), 55, 33, [some (.inr (.inr 1)), some (.inl x1), some (.inl x2), none], [], (am_sh, am_mm U4)) R
      refine ev_seg (σ1 := ((d + 1), 55, 35, [some (.inr (.inr 1)), some (.inl x1), some (.inl x2), some (.inl 0)], [], (am_sh, am_mm U4))) 2 (fun _ => rfl) ?_
      exact ha1a2a
  · have ha2 := ha.2 (Decidable.not_not.mp hc)
    subst ha2
    exact ev_end 2 (fun _ => rfl)
set_option maxRecDepth 8000 in
theorem D_rent_r35 {N : Nat} {X : Nat → Int} {d : Nat} {x1 x2 x3 : Int} {U : am_U} {R : Option am_V × am_M} (h : (((U 16 0) ≤ x3) → ∃ (r1 : Int) (U1 : am_U), EvK N X (Dg_tellOf_s0 d x2 U) (rI r1 U1) ∧ R = rI r1 U1) ∧ ((x3 < (U 16 0)) → (0 ≤ x3 ∧ x3 < 16) ∧ (((U 18 x3.toNat) ≠ x1) → EvK N X (D_rent_s35 (d + 1) x1 x2 (w32 (x3 + 1)) U) R) ∧ (((U 18 x3.toNat) = x1) → ∃ U2 : am_U, EvK N X (Dg_times_s0 d (if 0 ≤ (U 17 x3.toNat) then (U 17 x3.toNat) else w32 (-(U 17 x3.toNat))) U) (rV U2) ∧ EvK N X (D_rent_s35 (d + 1) x1 x2 (w32 (x3 + 1)) U2) R))) : EvK N X (D_rent_s35 (d + 1) x1 x2 x3 U) R := by
  show Ev (am_kz N X) ((d + 1), 55, 35, [some (.inr (.inr 1)), some (.inl x1), some (.inl x2), some (.inl x3)], [], (am_sh, am_mm U)) R
  refine ev_br (P := (U 16 0) ≤ x3) (σ1 := ((d + 1), 55, 84, [some (.inr (.inr 1)), some (.inl x1), some (.inl x2), some (.inl x3)], [], (am_sh, am_mm U))) (σ2 := ((d + 1), 55, 46, [some (.inr (.inr 1)), some (.inl x1), some (.inl x2), some (.inl x3)], [], (am_sh, am_mm U))) 5 (fun _ => rfl) (fun hc => ?_) (fun hc => ?_)
  · have h1 := h.1 hc
    refine ev_seg (σ1 := ((d + 1), 55, 89, [some (.inr (.inr 1)), some (.inl x1), some (.inl x2), some (.inl x3)], [.inl x2, .inr (.inr 82)], (am_sh, am_mm U))) 3 (fun _ => rfl) ?_
    obtain ⟨r1, U1, h1c, h1a⟩ := h1
    refine ev_cal (σc := (Dg_tellOf_s0 d x2 U)) (fun _ => rfl) h1c ?_
    show Ev (am_kz N X) ((d + 1), 55, 92, [some (.inr (.inr 1)), some (.inl x1), some (.inl x2), some (.inl x3)], [.inl r1], (am_sh, am_mm U1)) R
    subst h1a
    exact ev_end 1 (fun _ => rfl)
  · have h2 := h.2 (Int.not_le.mp hc)
    refine ev_seg (σ1 := ((d + 1), 55, 54, [some (.inr (.inr 1)), some (.inl x1), some (.inl x2), some (.inl x3)], [.inl x3, .inr (.inr 18)], (am_sh, am_mm U))) 4 (fun _ => rfl) ?_
    refine eu_iald 18 (n := 16) rfl (by decide) rfl (fun _ => rfl) h2.1 ?_
    show Ev (am_kz N X) ((d + 1), 55, 55, [some (.inr (.inr 1)), some (.inl x1), some (.inl x2), some (.inl x3)], [.inl (U 18 x3.toNat)], (am_sh, am_mm U)) R
    have h2a := h2.2
    refine ev_br (P := ¬ (U 18 x3.toNat) = x1) (σ1 := ((d + 1), 55, 78, [some (.inr (.inr 1)), some (.inl x1), some (.inl x2), some (.inl x3)], [], (am_sh, am_mm U))) (σ2 := ((d + 1), 55, 59, [some (.inr (.inr 1)), some (.inl x1), some (.inl x2), some (.inl x3)], [], (am_sh, am_mm U))) 2 (fun _ => rfl) (fun hc => ?_) (fun hc => ?_)
    · have h2a1 := h2a.1 hc
      refine ev_seg (σ1 := ((d + 1), 55, 35, [some (.inr (.inr 1)), some (.inl x1), some (.inl x2), some (.inl (w32 (x3 + 1)))], [], (am_sh, am_mm U))) 2 (fun _ => rfl) ?_
      exact h2a1
    · have h2a2 := h2a.2 (Decidable.not_not.mp hc)
      refine ev_seg (σ1 := ((d + 1), 55, 71, [some (.inr (.inr 1)), some (.inl x1), some (.inl x2), some (.inl x3)], [.inl x3, .inr (.inr 17), .inr (.inr 82)], (am_sh, am_mm U))) 6 (fun _ => rfl) ?_
      refine eu_iald 17 (n := 16) rfl (by decide) rfl (fun _ => rfl) h2.1 ?_
      show Ev (am_kz N X) ((d + 1), 55, 72, [some (.inr (.inr 1)), some (.inl x1), some (.inl x2), some (.inl x3)], [.inl (U 17 x3.toNat), .inr (.inr 82)], (am_sh, am_mm U)) R
      refine ev_seg (σ1 := ((d + 1), 55, 75, [some (.inr (.inr 1)), some (.inl x1), some (.inl x2), some (.inl x3)], [.inl (if 0 ≤ (U 17 x3.toNat) then (U 17 x3.toNat) else w32 (-(U 17 x3.toNat))), .inr (.inr 82)], (am_sh, am_mm U))) 1 (fun _ => rfl) ?_
      obtain ⟨U2, h2a2c, h2a2a⟩ := h2a2
      refine ev_cal (σc := (Dg_times_s0 d (if 0 ≤ (U 17 x3.toNat) then (U 17 x3.toNat) else w32 (-(U 17 x3.toNat))) U)) (fun _ => rfl) h2a2c ?_
      show Ev (am_kz N X) ((d + 1), 55, 78, [some (.inr (.inr 1)), some (.inl x1), some (.inl x2), some (.inl x3)], [], (am_sh, am_mm U2)) R
      refine ev_seg (σ1 := ((d + 1), 55, 35, [some (.inr (.inr 1)), some (.inl x1), some (.inl x2), some (.inl (w32 (x3 + 1)))], [], (am_sh, am_mm U2))) 2 (fun _ => rfl) ?_
      exact h2a2a
