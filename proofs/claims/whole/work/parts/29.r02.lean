set_option maxRecDepth 8000 in
theorem Jg_findBreach_r0 {N : Nat} {X : Nat → Int} {d : Nat} {x1 : Int} {U : am_U} {R : Option am_V × am_M} (h : ∃ U1 : am_U, EvK N X (Jg_look_s0 d U) (rV U1) ∧ EvK N X (Jg_findBreach_s8 (d + 1) x1 x1 0 U1) R) : EvK N X (Jg_findBreach_s0 (d + 1) x1 U) R := by
  show Ev (am_kz N X) ((d + 1), 124, 0, [some (.inr (.inr 45)), some (.inl x1), none, none, none], [], (am_sh, am_mm U)) R
  refine ev_seg (σ1 := ((d + 1), 124, 1, [some (.inr (.inr 45)), some (.inl x1), none, none, none], [.inr (.inr 45)], (am_sh, am_mm U))) 1 (fun _ => rfl) ?_
  obtain ⟨U1, hc, ha⟩ := h
  refine ev_cal (σc := (Jg_look_s0 d U)) (fun _ => rfl) hc ?_
  show Ev (am_kz N X) ((d + 1), 124, 4, [some (.inr (.inr 45)), some (.inl x1), none, none, none], [], (am_sh, am_mm U1)) R
  refine ev_seg (σ1 := ((d + 1), 124, 8, [some (.inr (.inr 45)), some (.inl x1), some (.inl x1), some (.inl 0), none], [], (am_sh, am_mm U1))) 4 (fun _ => rfl) ?_
  exact ha
set_option maxRecDepth 8000 in
theorem Jg_findBreach_r8 {N : Nat} {X : Nat → Int} {d : Nat} {x1 x2 x3 : Int} {U : am_U} {R : Option am_V × am_M} (h : ((128 ≤ x3) → R = rI (-1) U) ∧ ((x3 < 128) → ((x2 < 0) → R = rI (-1) U) ∧ ((0 ≤ x2) → (0 ≤ x3 ∧ x3 < 128) ∧ ∃ (r1 : Int) (U1 : am_U), EvK N X (In_bitCount_s0 d (U 47 x3.toNat) U) (rI r1 U1) ∧ ((r1 ≤ x2) → EvK N X (Jg_findBreach_s8 (d + 1) x1 (w32 (x2 - r1)) (w32 (x3 + 1)) U1) R) ∧ ((x2 < r1) → ∃ (r2 : Int) (U2 : am_U), EvK N X (D_bitAt_s0 d (U1 47 x3.toNat) x2 U1) (rI r2 U2) ∧ R = rI (w32 ((w32 (32 * x3)) + r2)) U2)))) : EvK N X (Jg_findBreach_s8 (d + 1) x1 x2 x3 U) R := by
  show Ev (am_kz N X) ((d + 1), 124, 8, [some (.inr (.inr 45)), some (.inl x1), some (.inl x2), some (.inl x3), none], [], (am_sh, am_mm U)) R
  refine ev_br (P := 128 ≤ x3) (σ1 := ((d + 1), 124, 65, [some (.inr (.inr 45)), some (.inl x1), some (.inl x2), some (.inl x3), none], [], (am_sh, am_mm U))) (σ2 := ((d + 1), 124, 17, [some (.inr (.inr 45)), some (.inl x1), some (.inl x2), some (.inl x3), none], [], (am_sh, am_mm U))) 5 (fun _ => rfl) (fun hc => ?_) (fun hc => ?_)
  · have h1 := h.1 hc
    subst h1
    exact ev_end 2 (fun _ => rfl)
  · have h2 := h.2 (Int.not_le.mp hc)
    refine ev_br (P := x2 < 0) (σ1 := ((d + 1), 124, 65, [some (.inr (.inr 45)), some (.inl x1), some (.inl x2), some (.inl x3), none], [], (am_sh, am_mm U))) (σ2 := ((d + 1), 124, 21, [some (.inr (.inr 45)), some (.inl x1), some (.inl x2), some (.inl x3), none], [], (am_sh, am_mm U))) 2 (fun _ => rfl) (fun hc => ?_) (fun hc => ?_)
    · have h21 := h2.1 hc
      subst h21
      exact ev_end 2 (fun _ => rfl)
    · have h22 := h2.2 (Int.not_lt.mp hc)
      refine ev_seg (σ1 := ((d + 1), 124, 26, [some (.inr (.inr 45)), some (.inl x1), some (.inl x2), some (.inl x3), none], [.inl x3, .inr (.inr 47)], (am_sh, am_mm U))) 3 (fun _ => rfl) ?_
      refine eu_iald 47 (n := 128) rfl (by decide) rfl (fun _ => rfl) h22.1 ?_
      show Ev (am_kz N X) ((d + 1), 124, 27, [some (.inr (.inr 45)), some (.inl x1), some (.inl x2), some (.inl x3), none], [.inl (U 47 x3.toNat)], (am_sh, am_mm U)) R
      have h22a := h22.2
      obtain ⟨r1, U1, h22ac, h22aa⟩ := h22a
      refine ev_cal (σc := (In_bitCount_s0 d (U 47 x3.toNat) U)) (fun _ => rfl) h22ac ?_
      show Ev (am_kz N X) ((d + 1), 124, 30, [some (.inr (.inr 45)), some (.inl x1), some (.inl x2), some (.inl x3), none], [.inl r1], (am_sh, am_mm U1)) R
      refine ev_br (P := r1 ≤ x2) (σ1 := ((d + 1), 124, 54, [some (.inr (.inr 45)), some (.inl x1), some (.inl x2), some (.inl x3), some (.inl r1)], [], (am_sh, am_mm U1))) (σ2 := ((d + 1), 124, 38, [some (.inr (.inr 45)), some (.inl x1), some (.inl x2), some (.inl x3), some (.inl r1)], [], (am_sh, am_mm U1))) 4 (fun _ => rfl) (fun hc => ?_) (fun hc => ?_)
      · have h22aa1 := h22aa.1 hc
        refine ev_seg (σ1 := ((d + 1), 124, 8, [some (.inr (.inr 45)), some (.inl x1), some (.inl (w32 (x2 - r1))), some (.inl (w32 (x3 + 1))), some (.inl r1)], [], (am_sh, am_mm U1))) 6 (fun _ => rfl) ?_
        exact ev_le (L := [some (.inr (.inr 45)), some (.inl x1), some (.inl (w32 (x2 - r1))), some (.inl (w32 (x3 + 1))), none]) ⟨rfl, ⟨rfl, ⟨rfl, ⟨rfl, trivial⟩⟩⟩⟩ h22aa1
      · have h22aa2 := h22aa.2 (Int.not_le.mp hc)
        refine ev_seg (σ1 := ((d + 1), 124, 47, [some (.inr (.inr 45)), some (.inl x1), some (.inl x2), some (.inl x3), some (.inl r1)], [.inl x3, .inr (.inr 47), .inl (w32 (32 * x3))], (am_sh, am_mm U1))) 6 (fun _ => rfl) ?_
        refine eu_iald 47 (n := 128) rfl (by decide) rfl (fun _ => rfl) h22.1 ?_
        show Ev (am_kz N X) ((d + 1), 124, 48, [some (.inr (.inr 45)), some (.inl x1), some (.inl x2), some (.inl x3), some (.inl r1)], [.inl (U1 47 x3.toNat), .inl (w32 (32 * x3))], (am_sh, am_mm U1)) R
        refine ev_seg (σ1 := ((d + 1), 124, 49, [some (.inr (.inr 45)), some (.inl x1), some (.inl x2), some (.inl x3), some (.inl r1)], [.inl x2, .inl (U1 47 x3.toNat), .inl (w32 (32 * x3))], (am_sh, am_mm U1))) 1 (fun _ => rfl) ?_
        obtain ⟨r2, U2, h22aa2c, h22aa2a⟩ := h22aa2
        refine ev_cal (σc := (D_bitAt_s0 d (U1 47 x3.toNat) x2 U1)) (fun _ => rfl) h22aa2c ?_
        show Ev (am_kz N X) ((d + 1), 124, 52, [some (.inr (.inr 45)), some (.inl x1), some (.inl x2), some (.inl x3), some (.inl r1)], [.inl r2, .inl (w32 (32 * x3))], (am_sh, am_mm U2)) R
        subst h22aa2a
        exact ev_end 2 (fun _ => rfl)
set_option maxRecDepth 8000 in
theorem Jg_lawOf_r0 {N : Nat} {X : Nat → Int} {d : Nat} {x0 : Int} {U : am_U} {R : Option am_V × am_M} (h : R = rI (w32 (Int.tdiv (w32 (Int.tdiv x0 32)) 16)) U) : EvK N X (Jg_lawOf_s0 d x0 U) R := by
  show Ev (am_kz N X) (d, 125, 0, [some (.inl x0)], [], (am_sh, am_mm U)) R
  refine ev_seg (σ1 := (d, 125, 3, [some (.inl x0)], [.inl 32, .inl x0], (am_sh, am_mm U))) 2 (fun _ => rfl) ?_
  refine ev_idiv rfl (by decide) ?_
  show Ev (am_kz N X) (d, 125, 4, [some (.inl x0)], [.inl (w32 (Int.tdiv x0 32))], (am_sh, am_mm U)) R
  refine ev_seg (σ1 := (d, 125, 6, [some (.inl x0)], [.inl 16, .inl (w32 (Int.tdiv x0 32))], (am_sh, am_mm U))) 1 (fun _ => rfl) ?_
  refine ev_idiv rfl (by decide) ?_
  show Ev (am_kz N X) (d, 125, 7, [some (.inl x0)], [.inl (w32 (Int.tdiv (w32 (Int.tdiv x0 32)) 16))], (am_sh, am_mm U)) R
  subst h
  exact ev_end 1 (fun _ => rfl)
set_option maxRecDepth 8000 in
theorem Jg_meOf_r0 {N : Nat} {X : Nat → Int} {d : Nat} {x0 : Int} {U : am_U} {R : Option am_V × am_M} (h : R = rI (Int.tmod (w32 (Int.tdiv x0 32)) 16) U) : EvK N X (Jg_meOf_s0 d x0 U) R := by
  show Ev (am_kz N X) (d, 126, 0, [some (.inl x0)], [], (am_sh, am_mm U)) R
  refine ev_seg (σ1 := (d, 126, 3, [some (.inl x0)], [.inl 32, .inl x0], (am_sh, am_mm U))) 2 (fun _ => rfl) ?_
  refine ev_idiv rfl (by decide) ?_
  show Ev (am_kz N X) (d, 126, 4, [some (.inl x0)], [.inl (w32 (Int.tdiv x0 32))], (am_sh, am_mm U)) R
  refine ev_seg (σ1 := (d, 126, 6, [some (.inl x0)], [.inl 16, .inl (w32 (Int.tdiv x0 32))], (am_sh, am_mm U))) 1 (fun _ => rfl) ?_
  refine ev_irem rfl (by decide) ?_
  show Ev (am_kz N X) (d, 126, 7, [some (.inl x0)], [.inl (Int.tmod (w32 (Int.tdiv x0 32)) 16)], (am_sh, am_mm U)) R
  subst h
  exact ev_end 1 (fun _ => rfl)
set_option maxRecDepth 8000 in
theorem Jg_otherOf_r0 {N : Nat} {X : Nat → Int} {d : Nat} {x0 : Int} {U : am_U} {R : Option am_V × am_M} (h : (((Int.tmod x0 32) ≠ 16) → R = rI (Int.tmod x0 32) U) ∧ (((Int.tmod x0 32) = 16) → R = rI (-1) U)) : EvK N X (Jg_otherOf_s0 d x0 U) R := by
  show Ev (am_kz N X) (d, 127, 0, [some (.inl x0)], [], (am_sh, am_mm U)) R
  refine ev_seg (σ1 := (d, 127, 3, [some (.inl x0)], [.inl 32, .inl x0], (am_sh, am_mm U))) 2 (fun _ => rfl) ?_
  refine ev_irem rfl (by decide) ?_
  show Ev (am_kz N X) (d, 127, 4, [some (.inl x0)], [.inl (Int.tmod x0 32)], (am_sh, am_mm U)) R
  refine ev_br (P := ¬ (Int.tmod x0 32) = 16) (σ1 := (d, 127, 13, [some (.inl x0)], [], (am_sh, am_mm U))) (σ2 := (d, 127, 9, [some (.inl x0)], [], (am_sh, am_mm U))) 2 (fun _ => rfl) (fun hc => ?_) (fun hc => ?_)
  · have h1 := h.1 hc
    refine ev_seg (σ1 := (d, 127, 16, [some (.inl x0)], [.inl 32, .inl x0], (am_sh, am_mm U))) 2 (fun _ => rfl) ?_
    refine ev_irem rfl (by decide) ?_
    show Ev (am_kz N X) (d, 127, 17, [some (.inl x0)], [.inl (Int.tmod x0 32)], (am_sh, am_mm U)) R
    subst h1
    exact ev_end 1 (fun _ => rfl)
  · have h2 := h.2 (Decidable.not_not.mp hc)
    subst h2
    exact ev_end 3 (fun _ => rfl)
set_option maxRecDepth 8000 in
theorem Jg_mayLive_r0 {N : Nat} {X : Nat → Int} {d : Nat} {x1 x2 : Int} {U : am_U} {R : Option am_V × am_M} (h : (0 ≤ x1 ∧ x1 < 16) ∧ (((U 18 x1.toNat) = x2) → R = rI 0 U) ∧ (((U 18 x1.toNat) ≠ x2) → ∃ (r1 : Int) (U1 : am_U), EvK N X (Fk_living_16_s0 d x2 U) (rI r1 U1) ∧ (0 ≤ x2 ∧ x2 < 12) ∧ ((r1 < (U1 8 x2.toNat)) → ∃ U2 : am_U, EvK N X (Fk_settle_16_s0 d x1 x2 U1) (rV U2) ∧ ∃ (r3 : Int) (U3 : am_U), EvK N X (Jg_isInBreach_s0 d x1 U2) (rI r3 U3) ∧ ∃ U4 : am_U, EvK N X (Fk_settle_16_s0 d x1 (U 18 x1.toNat) U3) (rV U4) ∧ ((r3 ≠ 0) → R = rI 0 U4) ∧ ((r3 = 0) → R = rI 1 U4)) ∧ (((U1 8 x2.toNat) ≤ r1) → R = rI 0 U1))) : EvK N X (Jg_mayLive_s0 (d + 1) x1 x2 U) R := by
  show Ev (am_kz N X) ((d + 1), 128, 0, [some (.inr (.inr 45)), some (.inl x1), some (.inl x2), none, none], [], (am_sh, am_mm U)) R
  refine ev_seg (σ1 := ((d + 1), 128, 8, [some (.inr (.inr 45)), some (.inl x1), some (.inl x2), none, none], [.inl x1, .inr (.inr 18)], (am_sh, am_mm U))) 4 (fun _ => rfl) ?_
  refine eu_iald 18 (n := 16) rfl (by decide) rfl (fun _ => rfl) h.1 ?_
  show Ev (am_kz N X) ((d + 1), 128, 9, [some (.inr (.inr 45)), some (.inl x1), some (.inl x2), none, none], [.inl (U 18 x1.toNat)], (am_sh, am_mm U)) R
  have ha := h.2
  refine ev_br (P := (U 18 x1.toNat) = x2) (σ1 := ((d + 1), 128, 35, [some (.inr (.inr 45)), some (.inl x1), some (.inl x2), some (.inl (U 18 x1.toNat)), none], [], (am_sh, am_mm U))) (σ2 := ((d + 1), 128, 15, [some (.inr (.inr 45)), some (.inl x1), some (.inl x2), some (.inl (U 18 x1.toNat)), none], [], (am_sh, am_mm U))) 4 (fun _ => rfl) (fun hc => ?_) (fun hc => ?_)
  · have ha1 := ha.1 hc
    subst ha1
    exact ev_end 2 (fun _ => rfl)
  · have ha2 := ha.2 hc
    refine ev_seg (σ1 := ((d + 1), 128, 20, [some (.inr (.inr 45)), some (.inl x1), some (.inl x2), some (.inl (U 18 x1.toNat)), none], [.inl x2, .inr (.inr 16)], (am_sh, am_mm U))) 3 (fun _ => rfl) ?_
    obtain ⟨r1, U1, ha2c, ha2a⟩ := ha2
    refine ev_cal (σc := (Fk_living_16_s0 d x2 U)) (fun _ => rfl) ha2c ?_
    show Ev (am_kz N X) ((d + 1), 128, 23, [some (.inr (.inr 45)), some (.inl x1), some (.inl x2), some (.inl (U 18 x1.toNat)), none], [.inl r1], (am_sh, am_mm U1)) R
    refine ev_seg (σ1 := ((d + 1), 128, 31, [some (.inr (.inr 45)), some (.inl x1), some (.inl x2), some (.inl (U 18 x1.toNat)), none], [.inl x2, .inr (.inr 8), .inl r1], (am_sh, am_mm U1))) 4 (fun _ => rfl) ?_
    refine eu_iald 8 (n := 12) rfl (by decide) rfl (fun _ => rfl) ha2a.1 ?_
    show Ev (am_kz N X) ((d + 1), 128, 32, [some (.inr (.inr 45)), some (.inl x1), some (.inl x2), some (.inl (U 18 x1.toNat)), none], [.inl (U1 8 x2.toNat), .inl r1], (am_sh, am_mm U1)) R
    have ha2aa := ha2a.2
    refine ev_br (P := r1 < (U1 8 x2.toNat)) (σ1 := ((d + 1), 128, 37, [some (.inr (.inr 45)), some (.inl x1), some (.inl x2), some (.inl (U 18 x1.toNat)), none], [], (am_sh, am_mm U1))) (σ2 := ((d + 1), 128, 35, [some (.inr (.inr 45)), some (.inl x1), some (.inl x2), some (.inl (U 18 x1.toNat)), none], [], (am_sh, am_mm U1))) 1 (fun _ => rfl) (fun hc => ?_) (fun hc => ?_)
    · have ha2aa1 := ha2aa.1 hc
      refine ev_seg (σ1 := ((d + 1), 128, 43, [some (.inr (.inr 45)), some (.inl x1), some (.inl x2), some (.inl (U 18 x1.toNat)), none], [.inl x2, .inl x1, .inr (.inr 16)], (am_sh, am_mm U1))) 4 (fun _ => rfl) ?_
      obtain ⟨U2, ha2aa1c, ha2aa1a⟩ := ha2aa1
      refine ev_cal (σc := (Fk_settle_16_s0 d x1 x2 U1)) (fun _ => rfl) ha2aa1c ?_
      show Ev (am_kz N X) ((d + 1), 128, 46, [some (.inr (.inr 45)), some (.inl x1), some (.inl x2), some (.inl (U 18 x1.toNat)), none], [], (am_sh, am_mm U2)) R
      refine ev_seg (σ1 := ((d + 1), 128, 48, [some (.inr (.inr 45)), some (.inl x1), some (.inl x2), some (.inl (U 18 x1.toNat)), none], [.inl x1, .inr (.inr 45)], (am_sh, am_mm U2))) 2 (fun _ => rfl) ?_
      obtain ⟨r3, U3, ha2aa1ac, ha2aa1aa⟩ := ha2aa1a
      refine ev_cal (σc := (Jg_isInBreach_s0 d x1 U2)) (fun _ => rfl) ha2aa1ac ?_
      show Ev (am_kz N X) ((d + 1), 128, 51, [some (.inr (.inr 45)), some (.inl x1), some (.inl x2), some (.inl (U 18 x1.toNat)), none], [.inl r3], (am_sh, am_mm U3)) R
      refine ev_seg (σ1 := ((d + 1), 128, 59, [some (.inr (.inr 45)), some (.inl x1), some (.inl x2), some (.inl (U 18 x1.toNat)), some (.inl r3)], [.inl (U 18 x1.toNat), .inl x1, .inr (.inr 16)], (am_sh, am_mm U3))) 5 (fun _ => rfl) ?_
      obtain ⟨U4, ha2aa1aac, ha2aa1aaa⟩ := ha2aa1aa
      refine ev_cal (σc := (Fk_settle_16_s0 d x1 (U 18 x1.toNat) U3)) (fun _ => rfl) ha2aa1aac ?_
      show Ev (am_kz N X) ((d + 1), 128, 62, [some (.inr (.inr 45)), some (.inl x1), some (.inl x2), some (.inl (U 18 x1.toNat)), some (.inl r3)], [], (am_sh, am_mm U4)) R
      refine ev_br (P := ¬ r3 = 0) (σ1 := ((d + 1), 128, 71, [some (.inr (.inr 45)), some (.inl x1), some (.inl x2), some (.inl (U 18 x1.toNat)), some (.inl r3)], [], (am_sh, am_mm U4))) (σ2 := ((d + 1), 128, 67, [some (.inr (.inr 45)), some (.inl x1), some (.inl x2), some (.inl (U 18 x1.toNat)), some (.inl r3)], [], (am_sh, am_mm U4))) 2 (fun _ => rfl) (fun hc => ?_) (fun hc => ?_)
      · have ha2aa1aaa1 := ha2aa1aaa.1 hc
        subst ha2aa1aaa1
        exact ev_end 2 (fun _ => rfl)
      · have ha2aa1aaa2 := ha2aa1aaa.2 (Decidable.not_not.mp hc)
        subst ha2aa1aaa2
        exact ev_end 3 (fun _ => rfl)
    · have ha2aa2 := ha2aa.2 (Int.not_lt.mp hc)
      subst ha2aa2
      exact ev_end 2 (fun _ => rfl)
set_option maxRecDepth 8000 in
theorem M_mayLive_r0 {N : Nat} {X : Nat → Int} {d : Nat} {x1 x2 x3 : Int} {U : am_U} {R : Option am_V × am_M} (h : ∃ (r1 : Int) (U1 : am_U), EvK N X (M_homeOf_s0 d x1 x2 U) (rI r1 U1) ∧ ((r1 = x3) → R = rI 0 U1) ∧ ((r1 ≠ x3) → ∃ (r2 : Int) (U2 : am_U), EvK N X (M_living_s0 d x1 x3 U1) (rI r2 U2) ∧ ∃ (r3 : Int) (U3 : am_U), EvK N X (M_roomsOf_s0 d x3 U2) (rI r3 U3) ∧ ((r2 < r3) → (0 ≤ (w32 ((w32 (16 * x1)) + x2)) ∧ (w32 ((w32 (16 * x1)) + x2)) < 352) ∧ ∃ (r4 : Int) (U4 : am_U), EvK N X (M_scans_s0 d x1 x2 (-1) (am_upd U3 124 ((w32 ((w32 (16 * x1)) + x2)).toNat) x3)) (rI r4 U4) ∧ ((r4 ≠ 0) → R = rI 0 (am_upd U4 124 ((w32 ((w32 (16 * x1)) + x2)).toNat) r1)) ∧ ((r4 = 0) → R = rI 1 (am_upd U4 124 ((w32 ((w32 (16 * x1)) + x2)).toNat) r1))) ∧ ((r3 ≤ r2) → R = rI 0 U3))) : EvK N X (M_mayLive_s0 (d + 1) x1 x2 x3 U) R := by
  show Ev (am_kz N X) ((d + 1), 129, 0, [some (.inr (.inr 86)), some (.inl x1), some (.inl x2), some (.inl x3), none, none], [], (am_sh, am_mm U)) R
  refine ev_seg (σ1 := ((d + 1), 129, 3, [some (.inr (.inr 86)), some (.inl x1), some (.inl x2), some (.inl x3), none, none], [.inl x2, .inl x1, .inr (.inr 86)], (am_sh, am_mm U))) 3 (fun _ => rfl) ?_
  obtain ⟨r1, U1, hc, ha⟩ := h
  refine ev_cal (σc := (M_homeOf_s0 d x1 x2 U)) (fun _ => rfl) hc ?_
  show Ev (am_kz N X) ((d + 1), 129, 6, [some (.inr (.inr 86)), some (.inl x1), some (.inl x2), some (.inl x3), none, none], [.inl r1], (am_sh, am_mm U1)) R
  refine ev_br (P := r1 = x3) (σ1 := ((d + 1), 129, 28, [some (.inr (.inr 86)), some (.inl x1), some (.inl x2), some (.inl x3), some (.inl r1), none], [], (am_sh, am_mm U1))) (σ2 := ((d + 1), 129, 14, [some (.inr (.inr 86)), some (.inl x1), some (.inl x2), some (.inl x3), some (.inl r1), none], [], (am_sh, am_mm U1))) 4 (fun _ => rfl) (fun hc => ?_) (fun hc => ?_)
  · have ha1 := ha.1 hc
    subst ha1
    exact ev_end 2 (fun _ => rfl)
  · have ha2 := ha.2 hc
    refine ev_seg (σ1 := ((d + 1), 129, 17, [some (.inr (.inr 86)), some (.inl x1), some (.inl x2), some (.inl x3), some (.inl r1), none], [.inl x3, .inl x1, .inr (.inr 86)], (am_sh, am_mm U1))) 3 (fun _ => rfl) ?_
    obtain ⟨r2, U2, ha2c, ha2a⟩ := ha2
    refine ev_cal (σc := (M_living_s0 d x1 x3 U1)) (fun _ => rfl) ha2c ?_
    show Ev (am_kz N X) ((d + 1), 129, 20, [some (.inr (.inr 86)), some (.inl x1), some (.inl x2), some (.inl x3), some (.inl r1), none], [.inl r2], (am_sh, am_mm U2)) R
    refine ev_seg (σ1 := ((d + 1), 129, 22, [some (.inr (.inr 86)), some (.inl x1), some (.inl x2), some (.inl x3), some (.inl r1), none], [.inl x3, .inr (.inr 86), .inl r2], (am_sh, am_mm U2))) 2 (fun _ => rfl) ?_
    obtain ⟨r3, U3, ha2ac, ha2aa⟩ := ha2a
    refine ev_cal (σc := (M_roomsOf_s0 d x3 U2)) (fun _ => rfl) ha2ac ?_
    show Ev (am_kz N X) ((d + 1), 129, 25, [some (.inr (.inr 86)), some (.inl x1), some (.inl x2), some (.inl x3), some (.inl r1), none], [.inl r3, .inl r2], (am_sh, am_mm U3)) R
    refine ev_br (P := r2 < r3) (σ1 := ((d + 1), 129, 30, [some (.inr (.inr 86)), some (.inl x1), some (.inl x2), some (.inl x3), some (.inl r1), none], [], (am_sh, am_mm U3))) (σ2 := ((d + 1), 129, 28, [some (.inr (.inr 86)), some (.inl x1), some (.inl x2), some (.inl x3), some (.inl r1), none], [], (am_sh, am_mm U3))) 1 (fun _ => rfl) (fun hc => ?_) (fun hc => ?_)
    · have ha2aa1 := ha2aa.1 hc
      refine ev_seg (σ1 := ((d + 1), 129, 41, [some (.inr (.inr 86)), some (.inl x1), some (.inl x2), some (.inl x3), some (.inl r1), none], [.inl x3, .inl (w32 ((w32 (16 * x1)) + x2)), .inr (.inr 124)], (am_sh, am_mm U3))) 8 (fun _ => rfl) ?_
      refine eu_iast 124 (n := 352) rfl (by decide) rfl (fun _ => rfl) ha2aa1.1 ?_
      show Ev (am_kz N X) ((d + 1), 129, 42, [some (.inr (.inr 86)), some (.inl x1), some (.inl x2), some (.inl x3), some (.inl r1), none], [], (am_sh, am_mm (am_upd U3 124 ((w32 ((w32 (16 * x1)) + x2)).toNat) x3))) R
      have ha2aa1a := ha2aa1.2
      refine ev_seg (σ1 := ((d + 1), 129, 46, [some (.inr (.inr 86)), some (.inl x1), some (.inl x2), some (.inl x3), some (.inl r1), none], [.inl (-1), .inl x2, .inl x1, .inr (.inr 86)], (am_sh, am_mm (am_upd U3 124 ((w32 ((w32 (16 * x1)) + x2)).toNat) x3)))) 4 (fun _ => rfl) ?_
      obtain ⟨r4, U4, ha2aa1ac, ha2aa1aa⟩ := ha2aa1a
      refine ev_cal (σc := (M_scans_s0 d x1 x2 (-1) (am_upd U3 124 ((w32 ((w32 (16 * x1)) + x2)).toNat) x3))) (fun _ => rfl) ha2aa1ac ?_
      show Ev (am_kz N X) ((d + 1), 129, 49, [some (.inr (.inr 86)), some (.inl x1), some (.inl x2), some (.inl x3), some (.inl r1), none], [.inl r4], (am_sh, am_mm U4)) R
      refine ev_br (P := ¬ r4 = 0) (σ1 := ((d + 1), 129, 56, [some (.inr (.inr 86)), some (.inl x1), some (.inl x2), some (.inl x3), some (.inl r1), none], [], (am_sh, am_mm U4))) (σ2 := ((d + 1), 129, 52, [some (.inr (.inr 86)), some (.inl x1), some (.inl x2), some (.inl x3), some (.inl r1), none], [], (am_sh, am_mm U4))) 1 (fun _ => rfl) (fun hc => ?_) (fun hc => ?_)
      · have ha2aa1aa1 := ha2aa1aa.1 hc
        refine ev_seg (σ1 := ((d + 1), 129, 71, [some (.inr (.inr 86)), some (.inl x1), some (.inl x2), some (.inl x3), some (.inl r1), some (.inl 0)], [.inl r1, .inl (w32 ((w32 (16 * x1)) + x2)), .inr (.inr 124)], (am_sh, am_mm U4))) 10 (fun _ => rfl) ?_
        refine eu_iast 124 (n := 352) rfl (by decide) rfl (fun _ => rfl) ha2aa1.1 ?_
        show Ev (am_kz N X) ((d + 1), 129, 72, [some (.inr (.inr 86)), some (.inl x1), some (.inl x2), some (.inl x3), some (.inl r1), some (.inl 0)], [], (am_sh, am_mm (am_upd U4 124 ((w32 ((w32 (16 * x1)) + x2)).toNat) r1))) R
        subst ha2aa1aa1
        exact ev_end 2 (fun _ => rfl)
      · have ha2aa1aa2 := ha2aa1aa.2 (Decidable.not_not.mp hc)
        refine ev_seg (σ1 := ((d + 1), 129, 71, [some (.inr (.inr 86)), some (.inl x1), some (.inl x2), some (.inl x3), some (.inl r1), some (.inl 1)], [.inl r1, .inl (w32 ((w32 (16 * x1)) + x2)), .inr (.inr 124)], (am_sh, am_mm U4))) 11 (fun _ => rfl) ?_
        refine eu_iast 124 (n := 352) rfl (by decide) rfl (fun _ => rfl) ha2aa1.1 ?_
        show Ev (am_kz N X) ((d + 1), 129, 72, [some (.inr (.inr 86)), some (.inl x1), some (.inl x2), some (.inl x3), some (.inl r1), some (.inl 1)], [], (am_sh, am_mm (am_upd U4 124 ((w32 ((w32 (16 * x1)) + x2)).toNat) r1))) R
        subst ha2aa1aa2
        exact ev_end 2 (fun _ => rfl)
    · have ha2aa2 := ha2aa.2 (Int.not_lt.mp hc)
      subst ha2aa2
      exact ev_end 2 (fun _ => rfl)
set_option maxRecDepth 8000 in
theorem Pl_look_r0 {N : Nat} {X : Nat → Int} {d : Nat} {U : am_U} {R : Option am_V × am_M} (h : (((U 48 9) = 0) → ∃ (r1 : Int) (U1 : am_U), EvK N X (Fk_waiting_s0 d (am_upd (am_upd U 48 9 1) 48 8 (-1))) (rI r1 U1) ∧ ∃ (r2 : Int) (U2 : am_U), EvK N X (In_bitCount_s0 d r1 (am_upd U1 48 7 r1)) (rI r2 U2) ∧ ((r2 ≤ 3) → EvK N X (Pl_look_s53 (d + 1) 1 0 (am_upd U2 48 6 r2)) R) ∧ ((3 < r2) → R = rV (am_upd U2 48 6 r2))) ∧ (((U 48 9) ≠ 0) → R = rV U)) : EvK N X (Pl_look_s0 (d + 1) U) R := by
  show Ev (am_kz N X) ((d + 1), 130, 0, [some (.inr (.inr 48)), none, none, none], [], (am_sh, am_mm U)) R
  refine ev_br (P := (U 48 9) = 0) (σ1 := ((d + 1), 130, 8, [some (.inr (.inr 48)), none, none, none], [], (am_sh, am_mm U))) (σ2 := ((d + 1), 130, 7, [some (.inr (.inr 48)), none, none, none], [], (am_sh, am_mm U))) 3 (fun _ => rfl) (fun hc => ?_) (fun hc => ?_)
  · have h1 := h.1 hc
    refine ev_seg (σ1 := ((d + 1), 130, 10, [some (.inr (.inr 48)), none, none, none], [.inl 1, .inr (.inr 48)], (am_sh, am_mm U))) 2 (fun _ => rfl) ?_
    refine eu_putz 48 (n := 10) rfl (by decide) rfl rfl (by decide) ?_
    show Ev (am_kz N X) ((d + 1), 130, 13, [some (.inr (.inr 48)), none, none, none], [], (am_sh, am_mm (am_upd U 48 9 1))) R
    refine ev_seg (σ1 := ((d + 1), 130, 15, [some (.inr (.inr 48)), none, none, none], [.inl (-1), .inr (.inr 48)], (am_sh, am_mm (am_upd U 48 9 1)))) 2 (fun _ => rfl) ?_
    refine eu_puti 48 (n := 10) rfl (by decide) rfl rfl ?_
    show Ev (am_kz N X) ((d + 1), 130, 18, [some (.inr (.inr 48)), none, none, none], [], (am_sh, am_mm (am_upd (am_upd U 48 9 1) 48 8 (-1)))) R
    refine ev_seg (σ1 := ((d + 1), 130, 23, [some (.inr (.inr 48)), none, none, none], [.inr (.inr 16), .inr (.inr 48)], (am_sh, am_mm (am_upd (am_upd U 48 9 1) 48 8 (-1))))) 3 (fun _ => rfl) ?_
    obtain ⟨r1, U1, h1c, h1a⟩ := h1
    refine ev_cal (σc := (Fk_waiting_s0 d (am_upd (am_upd U 48 9 1) 48 8 (-1)))) (fun _ => rfl) h1c ?_
    show Ev (am_kz N X) ((d + 1), 130, 26, [some (.inr (.inr 48)), none, none, none], [.inl r1, .inr (.inr 48)], (am_sh, am_mm U1)) R
    refine eu_puti 48 (n := 10) rfl (by decide) rfl rfl ?_
    show Ev (am_kz N X) ((d + 1), 130, 29, [some (.inr (.inr 48)), none, none, none], [], (am_sh, am_mm (am_upd U1 48 7 r1))) R
    refine ev_seg (σ1 := ((d + 1), 130, 34, [some (.inr (.inr 48)), none, none, none], [.inl r1, .inr (.inr 48)], (am_sh, am_mm (am_upd U1 48 7 r1)))) 3 (fun _ => rfl) ?_
    obtain ⟨r2, U2, h1ac, h1aa⟩ := h1a
    refine ev_cal (σc := (In_bitCount_s0 d r1 (am_upd U1 48 7 r1))) (fun _ => rfl) h1ac ?_
    show Ev (am_kz N X) ((d + 1), 130, 37, [some (.inr (.inr 48)), none, none, none], [.inl r2, .inr (.inr 48)], (am_sh, am_mm U2)) R
    refine eu_puti 48 (n := 10) rfl (by decide) rfl rfl ?_
    show Ev (am_kz N X) ((d + 1), 130, 40, [some (.inr (.inr 48)), none, none, none], [], (am_sh, am_mm (am_upd U2 48 6 r2))) R
    refine ev_br (P := r2 ≤ 3) (σ1 := ((d + 1), 130, 49, [some (.inr (.inr 48)), none, none, none], [], (am_sh, am_mm (am_upd U2 48 6 r2)))) (σ2 := ((d + 1), 130, 48, [some (.inr (.inr 48)), none, none, none], [], (am_sh, am_mm (am_upd U2 48 6 r2)))) 4 (fun _ => rfl) (fun hc => ?_) (fun hc => ?_)
    · have h1aa1 := h1aa.1 hc
      refine ev_seg (σ1 := ((d + 1), 130, 53, [some (.inr (.inr 48)), some (.inl 1), some (.inl 0), none], [], (am_sh, am_mm (am_upd U2 48 6 r2)))) 4 (fun _ => rfl) ?_
      exact h1aa1
    · have h1aa2 := h1aa.2 (Int.not_le.mp hc)
      subst h1aa2
      exact ev_end 1 (fun _ => rfl)
  · have h2 := h.2 hc
    subst h2
    exact ev_end 1 (fun _ => rfl)
set_option maxRecDepth 8000 in
theorem Pl_look_r53 {N : Nat} {X : Nat → Int} {d : Nat} {x1 x2 : Int} {U : am_U} {R : Option am_V × am_M} (h : (((U 48 6) ≤ x2) → ∃ U1 : am_U, EvK N X (Ar_fill_II_51_s0 d 0 U) (rV U1) ∧ EvK N X (Pl_look_s103 (d + 1) x1 0 U1) R) ∧ ((x2 < (U 48 6)) → ∃ (r2 : Int) (U2 : am_U), EvK N X (D_bitAt_s0 d (U 48 7) x2 U) (rI r2 U2) ∧ (0 ≤ x2 ∧ x2 < 3) ∧ EvK N X (Pl_look_s53 (d + 1) (w32 (x1 * (w32 ((U2 3 1) + 1)))) (w32 (x2 + 1)) (am_upd U2 49 x2.toNat r2)) R)) : EvK N X (Pl_look_s53 (d + 1) x1 x2 U) R := by
  show Ev (am_kz N X) ((d + 1), 130, 53, [some (.inr (.inr 48)), some (.inl x1), some (.inl x2), none], [], (am_sh, am_mm U)) R
  refine ev_br (P := (U 48 6) ≤ x2) (σ1 := ((d + 1), 130, 93, [some (.inr (.inr 48)), some (.inl x1), some (.inl x2), none], [], (am_sh, am_mm U))) (σ2 := ((d + 1), 130, 61, [some (.inr (.inr 48)), some (.inl x1), some (.inl x2), none], [], (am_sh, am_mm U))) 4 (fun _ => rfl) (fun hc => ?_) (fun hc => ?_)
  · have h1 := h.1 hc
    refine ev_seg (σ1 := ((d + 1), 130, 98, [some (.inr (.inr 48)), some (.inl x1), some (.inl x2), none], [.inl 0, .inr (.inr 51)], (am_sh, am_mm U))) 3 (fun _ => rfl) ?_
    obtain ⟨U1, h1c, h1a⟩ := h1
    refine ev_cal (σc := (Ar_fill_II_51_s0 d 0 U)) (fun _ => rfl) h1c ?_
    show Ev (am_kz N X) ((d + 1), 130, 101, [some (.inr (.inr 48)), some (.inl x1), some (.inl x2), none], [], (am_sh, am_mm U1)) R
    refine ev_seg (σ1 := ((d + 1), 130, 103, [some (.inr (.inr 48)), some (.inl x1), some (.inl 0), none], [], (am_sh, am_mm U1))) 2 (fun _ => rfl) ?_
    exact h1a
  · have h2 := h.2 (Int.not_le.mp hc)
    refine ev_seg (σ1 := ((d + 1), 130, 71, [some (.inr (.inr 48)), some (.inl x1), some (.inl x2), none], [.inl x2, .inl (U 48 7), .inl x2, .inr (.inr 49)], (am_sh, am_mm U))) 6 (fun _ => rfl) ?_
    obtain ⟨r2, U2, h2c, h2a⟩ := h2
    refine ev_cal (σc := (D_bitAt_s0 d (U 48 7) x2 U)) (fun _ => rfl) h2c ?_
    show Ev (am_kz N X) ((d + 1), 130, 74, [some (.inr (.inr 48)), some (.inl x1), some (.inl x2), none], [.inl r2, .inl x2, .inr (.inr 49)], (am_sh, am_mm U2)) R
    refine eu_iast 49 (n := 3) rfl (by decide) rfl (fun _ => rfl) h2a.1 ?_
    show Ev (am_kz N X) ((d + 1), 130, 75, [some (.inr (.inr 48)), some (.inl x1), some (.inl x2), none], [], (am_sh, am_mm (am_upd U2 49 x2.toNat r2))) R
    have h2aa := h2a.2
    refine ev_seg (σ1 := ((d + 1), 130, 53, [some (.inr (.inr 48)), some (.inl (w32 (x1 * (w32 ((U2 3 1) + 1))))), some (.inl (w32 (x2 + 1))), none], [], (am_sh, am_mm (am_upd U2 49 x2.toNat r2)))) 10 (fun _ => rfl) ?_
    exact h2aa
set_option maxRecDepth 8000 in
theorem Pl_look_r103 {N : Nat} {X : Nat → Int} {d : Nat} {x1 x2 : Int} {U : am_U} {R : Option am_V × am_M} (h : ((x1 ≤ x2) → R = rV U) ∧ ((x2 < x1) → (((U 48 6) ≤ (U 48 8)) → R = rV U) ∧ (((U 48 8) < (U 48 6)) → ∃ (r1 : Int) (U1 : am_U), EvK N X (Pl_settleAll_s0 d x2 U) (rI r1 U1) ∧ ((r1 ≤ (U1 48 8)) → ∃ U2 : am_U, EvK N X (Pl_sendBack_s0 d U1) (rV U2) ∧ EvK N X (Pl_look_s103 (d + 1) x1 (w32 (x2 + 1)) U2) R) ∧ (((U1 48 8) < r1) → ∃ (r3 : Int) (U3 : am_U), EvK N X (Pl_isLawful_s0 d U1) (rI r3 U3) ∧ ((r3 = 0) → ∃ U4 : am_U, EvK N X (Pl_sendBack_s0 d U3) (rV U4) ∧ EvK N X (Pl_look_s103 (d + 1) x1 (w32 (x2 + 1)) U4) R) ∧ ((r3 ≠ 0) → ∃ U5 : am_U, EvK N X (Pl_keep_s0 d r1 U3) (rV U5) ∧ ∃ U6 : am_U, EvK N X (Pl_sendBack_s0 d U5) (rV U6) ∧ EvK N X (Pl_look_s103 (d + 1) x1 (w32 (x2 + 1)) U6) R))))) : EvK N X (Pl_look_s103 (d + 1) x1 x2 U) R := by
  show Ev (am_kz N X) ((d + 1), 130, 103, [some (.inr (.inr 48)), some (.inl x1), some (.inl x2), none], [], (am_sh, am_mm U)) R
  refine ev_br (P := x1 ≤ x2) (σ1 := ((d + 1), 130, 155, [some (.inr (.inr 48)), some (.inl x1), some (.inl x2), none], [], (am_sh, am_mm U))) (σ2 := ((d + 1), 130, 108, [some (.inr (.inr 48)), some (.inl x1), some (.inl x2), none], [], (am_sh, am_mm U))) 3 (fun _ => rfl) (fun hc => ?_) (fun hc => ?_)
  · have h1 := h.1 hc
    subst h1
    exact ev_end 1 (fun _ => rfl)
  · have h2 := h.2 (Int.not_le.mp hc)
    refine ev_br (P := (U 48 6) ≤ (U 48 8)) (σ1 := ((d + 1), 130, 155, [some (.inr (.inr 48)), some (.inl x1), some (.inl x2), none], [], (am_sh, am_mm U))) (σ2 := ((d + 1), 130, 119, [some (.inr (.inr 48)), some (.inl x1), some (.inl x2), none], [], (am_sh, am_mm U))) 5 (fun _ => rfl) (fun hc => ?_) (fun hc => ?_)
    · have h21 := h2.1 hc
      subst h21
      exact ev_end 1 (fun _ => rfl)
    · have h22 := h2.2 (Int.not_le.mp hc)
      refine ev_seg (σ1 := ((d + 1), 130, 121, [some (.inr (.inr 48)), some (.inl x1), some (.inl x2), none], [.inl x2, .inr (.inr 48)], (am_sh, am_mm U))) 2 (fun _ => rfl) ?_
      obtain ⟨r1, U1, h22c, h22a⟩ := h22
      refine ev_cal (σc := (Pl_settleAll_s0 d x2 U)) (fun _ => rfl) h22c ?_
      show Ev (am_kz N X) ((d + 1), 130, 124, [some (.inr (.inr 48)), some (.inl x1), some (.inl x2), none], [.inl r1], (am_sh, am_mm U1)) R
      refine ev_br (P := r1 ≤ (U1 48 8)) (σ1 := ((d + 1), 130, 145, [some (.inr (.inr 48)), some (.inl x1), some (.inl x2), some (.inl r1)], [], (am_sh, am_mm U1))) (σ2 := ((d + 1), 130, 133, [some (.inr (.inr 48)), some (.inl x1), some (.inl x2), some (.inl r1)], [], (am_sh, am_mm U1))) 5 (fun _ => rfl) (fun hc => ?_) (fun hc => ?_)
      · have h22a1 := h22a.1 hc
        refine ev_seg (σ1 := ((d + 1), 130, 146, [some (.inr (.inr 48)), some (.inl x1), some (.inl x2), some (.inl r1)], [.inr (.inr 48)], (am_sh, am_mm U1))) 1 (fun _ => rfl) ?_
        obtain ⟨U2, h22a1c, h22a1a⟩ := h22a1
        refine ev_cal (σc := (Pl_sendBack_s0 d U1)) (fun _ => rfl) h22a1c ?_
        show Ev (am_kz N X) ((d + 1), 130, 149, [some (.inr (.inr 48)), some (.inl x1), some (.inl x2), some (.inl r1)], [], (am_sh, am_mm U2)) R
        refine ev_seg (σ1 := ((d + 1), 130, 103, [some (.inr (.inr 48)), some (.inl x1), some (.inl (w32 (x2 + 1))), some (.inl r1)], [], (am_sh, am_mm U2))) 2 (fun _ => rfl) ?_
        exact ev_le (L := [some (.inr (.inr 48)), some (.inl x1), some (.inl (w32 (x2 + 1))), none]) ⟨rfl, ⟨rfl, ⟨rfl, trivial⟩⟩⟩ h22a1a
      · have h22a2 := h22a.2 (Int.not_le.mp hc)
        refine ev_seg (σ1 := ((d + 1), 130, 134, [some (.inr (.inr 48)), some (.inl x1), some (.inl x2), some (.inl r1)], [.inr (.inr 48)], (am_sh, am_mm U1))) 1 (fun _ => rfl) ?_
        obtain ⟨r3, U3, h22a2c, h22a2a⟩ := h22a2
        refine ev_cal (σc := (Pl_isLawful_s0 d U1)) (fun _ => rfl) h22a2c ?_
        show Ev (am_kz N X) ((d + 1), 130, 137, [some (.inr (.inr 48)), some (.inl x1), some (.inl x2), some (.inl r1)], [.inl r3], (am_sh, am_mm U3)) R
        refine ev_br (P := r3 = 0) (σ1 := ((d + 1), 130, 145, [some (.inr (.inr 48)), some (.inl x1), some (.inl x2), some (.inl r1)], [], (am_sh, am_mm U3))) (σ2 := ((d + 1), 130, 140, [some (.inr (.inr 48)), some (.inl x1), some (.inl x2), some (.inl r1)], [], (am_sh, am_mm U3))) 1 (fun _ => rfl) (fun hc => ?_) (fun hc => ?_)
        · have h22a2a1 := h22a2a.1 hc
          refine ev_seg (σ1 := ((d + 1), 130, 146, [some (.inr (.inr 48)), some (.inl x1), some (.inl x2), some (.inl r1)], [.inr (.inr 48)], (am_sh, am_mm U3))) 1 (fun _ => rfl) ?_
          obtain ⟨U4, h22a2a1c, h22a2a1a⟩ := h22a2a1
          refine ev_cal (σc := (Pl_sendBack_s0 d U3)) (fun _ => rfl) h22a2a1c ?_
          show Ev (am_kz N X) ((d + 1), 130, 149, [some (.inr (.inr 48)), some (.inl x1), some (.inl x2), some (.inl r1)], [], (am_sh, am_mm U4)) R
          refine ev_seg (σ1 := ((d + 1), 130, 103, [some (.inr (.inr 48)), some (.inl x1), some (.inl (w32 (x2 + 1))), some (.inl r1)], [], (am_sh, am_mm U4))) 2 (fun _ => rfl) ?_
          exact ev_le (L := [some (.inr (.inr 48)), some (.inl x1), some (.inl (w32 (x2 + 1))), none]) ⟨rfl, ⟨rfl, ⟨rfl, trivial⟩⟩⟩ h22a2a1a
        · have h22a2a2 := h22a2a.2 hc
          refine ev_seg (σ1 := ((d + 1), 130, 142, [some (.inr (.inr 48)), some (.inl x1), some (.inl x2), some (.inl r1)], [.inl r1, .inr (.inr 48)], (am_sh, am_mm U3))) 2 (fun _ => rfl) ?_
          obtain ⟨U5, h22a2a2c, h22a2a2a⟩ := h22a2a2
          refine ev_cal (σc := (Pl_keep_s0 d r1 U3)) (fun _ => rfl) h22a2a2c ?_
          show Ev (am_kz N X) ((d + 1), 130, 145, [some (.inr (.inr 48)), some (.inl x1), some (.inl x2), some (.inl r1)], [], (am_sh, am_mm U5)) R
          refine ev_seg (σ1 := ((d + 1), 130, 146, [some (.inr (.inr 48)), some (.inl x1), some (.inl x2), some (.inl r1)], [.inr (.inr 48)], (am_sh, am_mm U5))) 1 (fun _ => rfl) ?_
          obtain ⟨U6, h22a2a2ac, h22a2a2aa⟩ := h22a2a2a
          refine ev_cal (σc := (Pl_sendBack_s0 d U5)) (fun _ => rfl) h22a2a2ac ?_
          show Ev (am_kz N X) ((d + 1), 130, 149, [some (.inr (.inr 48)), some (.inl x1), some (.inl x2), some (.inl r1)], [], (am_sh, am_mm U6)) R
          refine ev_seg (σ1 := ((d + 1), 130, 103, [some (.inr (.inr 48)), some (.inl x1), some (.inl (w32 (x2 + 1))), some (.inl r1)], [], (am_sh, am_mm U6))) 2 (fun _ => rfl) ?_
          exact ev_le (L := [some (.inr (.inr 48)), some (.inl x1), some (.inl (w32 (x2 + 1))), none]) ⟨rfl, ⟨rfl, ⟨rfl, trivial⟩⟩⟩ h22a2a2aa
set_option maxRecDepth 8000 in
theorem Pl_tellOf_r0 {N : Nat} {X : Nat → Int} {d : Nat} {x1 : Int} {U : am_U} {R : Option am_V × am_M} (h : ((x1 = (-1)) → R = rI (U 48 8) U) ∧ ((x1 ≠ (-1)) → (((U 48 8) ≠ (-1)) → EvK N X (Pl_tellOf_s20 d x1 0 U) R) ∧ (((U 48 8) = (-1)) → R = rI (U 48 8) U))) : EvK N X (Pl_tellOf_s0 d x1 U) R := by
  show Ev (am_kz N X) (d, 131, 0, [some (.inr (.inr 48)), some (.inl x1), none], [], (am_sh, am_mm U)) R
  refine ev_br (P := x1 = (-1)) (σ1 := (d, 131, 13, [some (.inr (.inr 48)), some (.inl x1), none], [], (am_sh, am_mm U))) (σ2 := (d, 131, 5, [some (.inr (.inr 48)), some (.inl x1), none], [], (am_sh, am_mm U))) 3 (fun _ => rfl) (fun hc => ?_) (fun hc => ?_)
  · have h1 := h.1 hc
    subst h1
    exact ev_end 3 (fun _ => rfl)
  · have h2 := h.2 hc
    refine ev_br (P := ¬ (U 48 8) = (-1)) (σ1 := (d, 131, 18, [some (.inr (.inr 48)), some (.inl x1), none], [], (am_sh, am_mm U))) (σ2 := (d, 131, 13, [some (.inr (.inr 48)), some (.inl x1), none], [], (am_sh, am_mm U))) 4 (fun _ => rfl) (fun hc => ?_) (fun hc => ?_)
    · have h21 := h2.1 hc
      refine ev_seg (σ1 := (d, 131, 20, [some (.inr (.inr 48)), some (.inl x1), some (.inl 0)], [], (am_sh, am_mm U))) 2 (fun _ => rfl) ?_
      exact h21
    · have h22 := h2.2 (Decidable.not_not.mp hc)
      subst h22
      exact ev_end 3 (fun _ => rfl)
set_option maxRecDepth 8000 in
theorem Pl_tellOf_r20 {N : Nat} {X : Nat → Int} {d : Nat} {x1 x2 : Int} {U : am_U} {R : Option am_V × am_M} (h : (((U 48 6) ≤ x2) → R = rI (-1) U) ∧ ((x2 < (U 48 6)) → (0 ≤ x2 ∧ x2 < 3) ∧ (((U 49 x2.toNat) ≠ x1) → EvK N X (Pl_tellOf_s20 d x1 (w32 (x2 + 1)) U) R) ∧ (((U 49 x2.toNat) = x1) → (((U 50 x2.toNat) ≠ (-1)) → R = rI (U 50 x2.toNat) U) ∧ (((U 50 x2.toNat) = (-1)) → R = rI 20 U)))) : EvK N X (Pl_tellOf_s20 d x1 x2 U) R := by
  show Ev (am_kz N X) (d, 131, 20, [some (.inr (.inr 48)), some (.inl x1), some (.inl x2)], [], (am_sh, am_mm U)) R
  refine ev_br (P := (U 48 6) ≤ x2) (σ1 := (d, 131, 66, [some (.inr (.inr 48)), some (.inl x1), some (.inl x2)], [], (am_sh, am_mm U))) (σ2 := (d, 131, 28, [some (.inr (.inr 48)), some (.inl x1), some (.inl x2)], [], (am_sh, am_mm U))) 4 (fun _ => rfl) (fun hc => ?_) (fun hc => ?_)
  · have h1 := h.1 hc
    subst h1
    exact ev_end 2 (fun _ => rfl)
  · have h2 := h.2 (Int.not_le.mp hc)
    refine ev_seg (σ1 := (d, 131, 33, [some (.inr (.inr 48)), some (.inl x1), some (.inl x2)], [.inl x2, .inr (.inr 49)], (am_sh, am_mm U))) 3 (fun _ => rfl) ?_
    refine eu_iald 49 (n := 3) rfl (by decide) rfl (fun _ => rfl) h2.1 ?_
    show Ev (am_kz N X) (d, 131, 34, [some (.inr (.inr 48)), some (.inl x1), some (.inl x2)], [.inl (U 49 x2.toNat)], (am_sh, am_mm U)) R
    have h2a := h2.2
    refine ev_br (P := ¬ (U 49 x2.toNat) = x1) (σ1 := (d, 131, 60, [some (.inr (.inr 48)), some (.inl x1), some (.inl x2)], [], (am_sh, am_mm U))) (σ2 := (d, 131, 38, [some (.inr (.inr 48)), some (.inl x1), some (.inl x2)], [], (am_sh, am_mm U))) 2 (fun _ => rfl) (fun hc => ?_) (fun hc => ?_)
    · have h2a1 := h2a.1 hc
      refine ev_seg (σ1 := (d, 131, 20, [some (.inr (.inr 48)), some (.inl x1), some (.inl (w32 (x2 + 1)))], [], (am_sh, am_mm U))) 2 (fun _ => rfl) ?_
      exact h2a1
    · have h2a2 := h2a.2 (Decidable.not_not.mp hc)
      refine ev_seg (σ1 := (d, 131, 43, [some (.inr (.inr 48)), some (.inl x1), some (.inl x2)], [.inl x2, .inr (.inr 50)], (am_sh, am_mm U))) 3 (fun _ => rfl) ?_
      refine eu_iald 50 (n := 3) rfl (by decide) rfl (fun _ => rfl) h2.1 ?_
      show Ev (am_kz N X) (d, 131, 44, [some (.inr (.inr 48)), some (.inl x1), some (.inl x2)], [.inl (U 50 x2.toNat)], (am_sh, am_mm U)) R
      refine ev_br (P := ¬ (U 50 x2.toNat) = (-1)) (σ1 := (d, 131, 53, [some (.inr (.inr 48)), some (.inl x1), some (.inl x2)], [], (am_sh, am_mm U))) (σ2 := (d, 131, 48, [some (.inr (.inr 48)), some (.inl x1), some (.inl x2)], [], (am_sh, am_mm U))) 2 (fun _ => rfl) (fun hc => ?_) (fun hc => ?_)
      · have h2a21 := h2a2.1 hc
        refine ev_seg (σ1 := (d, 131, 58, [some (.inr (.inr 48)), some (.inl x1), some (.inl x2)], [.inl x2, .inr (.inr 50)], (am_sh, am_mm U))) 3 (fun _ => rfl) ?_
        refine eu_iald 50 (n := 3) rfl (by decide) rfl (fun _ => rfl) h2.1 ?_
        show Ev (am_kz N X) (d, 131, 59, [some (.inr (.inr 48)), some (.inl x1), some (.inl x2)], [.inl (U 50 x2.toNat)], (am_sh, am_mm U)) R
        subst h2a21
        exact ev_end 1 (fun _ => rfl)
      · have h2a22 := h2a2.2 (Decidable.not_not.mp hc)
        subst h2a22
        exact ev_end 3 (fun _ => rfl)
set_option maxRecDepth 8000 in
theorem M_places_r0 {N : Nat} {X : Nat → Int} {d : Nat} {U : am_U} {R : Option am_V × am_M} (h : ∃ U1 : am_U, EvK N X (M_copies_s0 d 1 0 U) (rV U1) ∧ ∃ U2 : am_U, EvK N X (M_forgetsAnswers_s0 d U1) (rV U2) ∧ EvK N X (M_places_s14 (d + 1) 1 0 U2) R) : EvK N X (M_places_s0 (d + 1) U) R := by
  show Ev (am_kz N X) ((d + 1), 132, 0, [some (.inr (.inr 86)), none, none, none, none, none, none, none], [], (am_sh, am_mm U)) R
  refine ev_seg (σ1 := ((d + 1), 132, 3, [some (.inr (.inr 86)), none, none, none, none, none, none, none], [.inl 0, .inl 1, .inr (.inr 86)], (am_sh, am_mm U))) 3 (fun _ => rfl) ?_
  obtain ⟨U1, hc, ha⟩ := h
  refine ev_cal (σc := (M_copies_s0 d 1 0 U)) (fun _ => rfl) hc ?_
  show Ev (am_kz N X) ((d + 1), 132, 6, [some (.inr (.inr 86)), none, none, none, none, none, none, none], [], (am_sh, am_mm U1)) R
  refine ev_seg (σ1 := ((d + 1), 132, 7, [some (.inr (.inr 86)), none, none, none, none, none, none, none], [.inr (.inr 86)], (am_sh, am_mm U1))) 1 (fun _ => rfl) ?_
  obtain ⟨U2, hac, haa⟩ := ha
  refine ev_cal (σc := (M_forgetsAnswers_s0 d U1)) (fun _ => rfl) hac ?_
  show Ev (am_kz N X) ((d + 1), 132, 10, [some (.inr (.inr 86)), none, none, none, none, none, none, none], [], (am_sh, am_mm U2)) R
  refine ev_seg (σ1 := ((d + 1), 132, 14, [some (.inr (.inr 86)), some (.inl 1), some (.inl 0), none, none, none, none, none], [], (am_sh, am_mm U2))) 4 (fun _ => rfl) ?_
  exact haa
set_option maxRecDepth 8000 in
theorem M_places_r14 {N : Nat} {X : Nat → Int} {d : Nat} {x1 x2 : Int} {U : am_U} {R : Option am_V × am_M} (h : (((U 86 70) ≤ x2) → EvK N X (M_places_s46 (d + 1) x1 (-1) 0 U) R) ∧ ((x2 < (U 86 70)) → (0 ≤ (U 86 13) ∧ (U 86 13) < 2) ∧ EvK N X (M_places_s14 (d + 1) (w32 (x1 * (w32 ((U 90 ((U 86 13).toNat)) + 1)))) (w32 (x2 + 1)) U) R)) : EvK N X (M_places_s14 (d + 1) x1 x2 U) R := by
  show Ev (am_kz N X) ((d + 1), 132, 14, [some (.inr (.inr 86)), some (.inl x1), some (.inl x2), none, none, none, none, none], [], (am_sh, am_mm U)) R
  refine ev_br (P := (U 86 70) ≤ x2) (σ1 := ((d + 1), 132, 42, [some (.inr (.inr 86)), some (.inl x1), some (.inl x2), none, none, none, none, none], [], (am_sh, am_mm U))) (σ2 := ((d + 1), 132, 22, [some (.inr (.inr 86)), some (.inl x1), some (.inl x2), none, none, none, none, none], [], (am_sh, am_mm U))) 4 (fun _ => rfl) (fun hc => ?_) (fun hc => ?_)
  · have h1 := h.1 hc
    refine ev_seg (σ1 := ((d + 1), 132, 46, [some (.inr (.inr 86)), some (.inl x1), some (.inl (-1)), some (.inl 0), none, none, none, none], [], (am_sh, am_mm U))) 4 (fun _ => rfl) ?_
    exact h1
  · have h2 := h.2 (Int.not_le.mp hc)
    refine ev_seg (σ1 := ((d + 1), 132, 31, [some (.inr (.inr 86)), some (.inl x1), some (.inl x2), none, none, none, none, none], [.inl (U 86 13), .inr (.inr 90), .inl x1], (am_sh, am_mm U))) 5 (fun _ => rfl) ?_
    refine eu_iald 90 (n := 2) rfl (by decide) rfl (fun _ => rfl) h2.1 ?_
    show Ev (am_kz N X) ((d + 1), 132, 32, [some (.inr (.inr 86)), some (.inl x1), some (.inl x2), none, none, none, none, none], [.inl (U 90 ((U 86 13).toNat)), .inl x1], (am_sh, am_mm U)) R
    have h2a := h2.2
    refine ev_seg (σ1 := ((d + 1), 132, 14, [some (.inr (.inr 86)), some (.inl (w32 (x1 * (w32 ((U 90 ((U 86 13).toNat)) + 1))))), some (.inl (w32 (x2 + 1))), none, none, none, none, none], [], (am_sh, am_mm U))) 6 (fun _ => rfl) ?_
    exact h2a
set_option maxRecDepth 8000 in
theorem M_places_r46 {N : Nat} {X : Nat → Int} {d : Nat} {x1 x2 x3 : Int} {U : am_U} {R : Option am_V × am_M} (h : ((x1 ≤ x3) → R = rI x2 U) ∧ ((x3 < x1) → EvK N X (M_places_s65 (d + 1) x1 x2 x3 x3 0 (w32 ((U 86 70) - 1)) U) R)) : EvK N X (M_places_s46 (d + 1) x1 x2 x3 U) R := by
  show Ev (am_kz N X) ((d + 1), 132, 46, [some (.inr (.inr 86)), some (.inl x1), some (.inl x2), some (.inl x3), none, none, none, none], [], (am_sh, am_mm U)) R
  refine ev_br (P := x1 ≤ x3) (σ1 := ((d + 1), 132, 242, [some (.inr (.inr 86)), some (.inl x1), some (.inl x2), some (.inl x3), none, none, none, none], [], (am_sh, am_mm U))) (σ2 := ((d + 1), 132, 51, [some (.inr (.inr 86)), some (.inl x1), some (.inl x2), some (.inl x3), none, none, none, none], [], (am_sh, am_mm U))) 3 (fun _ => rfl) (fun hc => ?_) (fun hc => ?_)
  · have h1 := h.1 hc
    subst h1
    exact ev_end 2 (fun _ => rfl)
  · have h2 := h.2 (Int.not_le.mp hc)
    refine ev_seg (σ1 := ((d + 1), 132, 65, [some (.inr (.inr 86)), some (.inl x1), some (.inl x2), some (.inl x3), some (.inl x3), some (.inl 0), some (.inl (w32 ((U 86 70) - 1))), none], [], (am_sh, am_mm U))) 9 (fun _ => rfl) ?_
    exact h2
set_option maxRecDepth 8000 in
theorem M_places_r65 {N : Nat} {X : Nat → Int} {d : Nat} {x1 x2 x3 x4 x5 x6 : Int} {U : am_U} {R : Option am_V × am_M} (h : ((x6 < 0) → ((x5 ≤ x2) → EvK N X (M_places_s46 (d + 1) x1 x2 (w32 (x3 + 1)) U) R) ∧ ((x2 < x5) → ∃ (r1 : Int) (U1 : am_U), EvK N X (M_areRooms_s0 d 1 U) (rI r1 U1) ∧ ((r1 = 0) → EvK N X (M_places_s46 (d + 1) x1 x2 (w32 (x3 + 1)) U1) R) ∧ ((r1 ≠ 0) → ∃ (r2 : Int) (U2 : am_U), EvK N X (M_isTryLawful_s0 d U1) (rI r2 U2) ∧ ((r2 ≠ 0) → EvK N X (M_places_s197 (d + 1) x1 x5 x3 x4 x5 0 U2) R) ∧ ((r2 = 0) → EvK N X (M_places_s46 (d + 1) x1 x2 (w32 (x3 + 1)) U2) R)))) ∧ ((0 ≤ x6) → (0 ≤ (U 86 13) ∧ (U 86 13) < 2) ∧ (w32 ((U 90 ((U 86 13).toNat)) + 1)) ≠ 0 ∧ (w32 ((U 90 ((U 86 13).toNat)) + 1)) ≠ 0 ∧ (0 ≤ x6 ∧ x6 < 16) ∧ (((Int.tmod x4 (w32 ((U 90 ((U 86 13).toNat)) + 1))) ≠ (U 90 ((U 86 13).toNat))) → (0 ≤ (w32 (16 + (U 126 x6.toNat))) ∧ (w32 (16 + (U 126 x6.toNat))) < 352) ∧ EvK N X (M_places_s65 (d + 1) x1 x2 x3 (w32 (Int.tdiv x4 (w32 ((U 90 ((U 86 13).toNat)) + 1)))) (w32 (x5 + 1)) (w32 (x6 + (-1))) (am_upd U 124 ((w32 (16 + (U 126 x6.toNat))).toNat) (Int.tmod x4 (w32 ((U 90 ((U 86 13).toNat)) + 1))))) R) ∧ (((Int.tmod x4 (w32 ((U 90 ((U 86 13).toNat)) + 1))) = (U 90 ((U 86 13).toNat))) → (0 ≤ (w32 (16 + (U 126 x6.toNat))) ∧ (w32 (16 + (U 126 x6.toNat))) < 352) ∧ EvK N X (M_places_s65 (d + 1) x1 x2 x3 (w32 (Int.tdiv x4 (w32 ((U 90 ((U 86 13).toNat)) + 1)))) (w32 (x5 + 0)) (w32 (x6 + (-1))) (am_upd U 124 ((w32 (16 + (U 126 x6.toNat))).toNat) (-1))) R))) : EvK N X (M_places_s65 (d + 1) x1 x2 x3 x4 x5 x6 U) R := by
  show Ev (am_kz N X) ((d + 1), 132, 65, [some (.inr (.inr 86)), some (.inl x1), some (.inl x2), some (.inl x3), some (.inl x4), some (.inl x5), some (.inl x6), none], [], (am_sh, am_mm U)) R
  refine ev_br (P := x6 < 0) (σ1 := ((d + 1), 132, 167, [some (.inr (.inr 86)), some (.inl x1), some (.inl x2), some (.inl x3), some (.inl x4), some (.inl x5), some (.inl x6), none], [], (am_sh, am_mm U))) (σ2 := ((d + 1), 132, 70, [some (.inr (.inr 86)), some (.inl x1), some (.inl x2), some (.inl x3), some (.inl x4), some (.inl x5), some (.inl x6), none], [], (am_sh, am_mm U))) 2 (fun _ => rfl) (fun hc => ?_) (fun hc => ?_)
  · have h1 := h.1 hc
    refine ev_br (P := x5 ≤ x2) (σ1 := ((d + 1), 132, 236, [some (.inr (.inr 86)), some (.inl x1), some (.inl x2), some (.inl x3), some (.inl x4), some (.inl x5), some (.inl x6), none], [], (am_sh, am_mm U))) (σ2 := ((d + 1), 132, 173, [some (.inr (.inr 86)), some (.inl x1), some (.inl x2), some (.inl x3), some (.inl x4), some (.inl x5), some (.inl x6), none], [], (am_sh, am_mm U))) 3 (fun _ => rfl) (fun hc => ?_) (fun hc => ?_)
    · have h11 := h1.1 hc
      refine ev_seg (σ1 := ((d + 1), 132, 46, [some (.inr (.inr 86)), some (.inl x1), some (.inl x2), some (.inl (w32 (x3 + 1))), some (.inl x4), some (.inl x5), some (.inl x6), none], [], (am_sh, am_mm U))) 2 (fun _ => rfl) ?_
      exact ev_le (L := [some (.inr (.inr 86)), some (.inl x1), some (.inl x2), some (.inl (w32 (x3 + 1))), none, none, none, none]) ⟨rfl, ⟨rfl, ⟨rfl, ⟨rfl, trivial⟩⟩⟩⟩ h11
    · have h12 := h1.2 (Int.not_le.mp hc)
      refine ev_seg (σ1 := ((d + 1), 132, 175, [some (.inr (.inr 86)), some (.inl x1), some (.inl x2), some (.inl x3), some (.inl x4), some (.inl x5), some (.inl x6), none], [.inl 1, .inr (.inr 86)], (am_sh, am_mm U))) 2 (fun _ => rfl) ?_
      obtain ⟨r1, U1, h12c, h12a⟩ := h12
      refine ev_cal (σc := (M_areRooms_s0 d 1 U)) (fun _ => rfl) h12c ?_
      show Ev (am_kz N X) ((d + 1), 132, 178, [some (.inr (.inr 86)), some (.inl x1), some (.inl x2), some (.inl x3), some (.inl x4), some (.inl x5), some (.inl x6), none], [.inl r1], (am_sh, am_mm U1)) R
      refine ev_br (P := r1 = 0) (σ1 := ((d + 1), 132, 236, [some (.inr (.inr 86)), some (.inl x1), some (.inl x2), some (.inl x3), some (.inl x4), some (.inl x5), some (.inl x6), none], [], (am_sh, am_mm U1))) (σ2 := ((d + 1), 132, 181, [some (.inr (.inr 86)), some (.inl x1), some (.inl x2), some (.inl x3), some (.inl x4), some (.inl x5), some (.inl x6), none], [], (am_sh, am_mm U1))) 1 (fun _ => rfl) (fun hc => ?_) (fun hc => ?_)
      · have h12a1 := h12a.1 hc
        refine ev_seg (σ1 := ((d + 1), 132, 46, [some (.inr (.inr 86)), some (.inl x1), some (.inl x2), some (.inl (w32 (x3 + 1))), some (.inl x4), some (.inl x5), some (.inl x6), none], [], (am_sh, am_mm U1))) 2 (fun _ => rfl) ?_
        exact ev_le (L := [some (.inr (.inr 86)), some (.inl x1), some (.inl x2), some (.inl (w32 (x3 + 1))), none, none, none, none]) ⟨rfl, ⟨rfl, ⟨rfl, ⟨rfl, trivial⟩⟩⟩⟩ h12a1
      · have h12a2 := h12a.2 hc
        refine ev_seg (σ1 := ((d + 1), 132, 182, [some (.inr (.inr 86)), some (.inl x1), some (.inl x2), some (.inl x3), some (.inl x4), some (.inl x5), some (.inl x6), none], [.inr (.inr 86)], (am_sh, am_mm U1))) 1 (fun _ => rfl) ?_
        obtain ⟨r2, U2, h12a2c, h12a2a⟩ := h12a2
        refine ev_cal (σc := (M_isTryLawful_s0 d U1)) (fun _ => rfl) h12a2c ?_
        show Ev (am_kz N X) ((d + 1), 132, 185, [some (.inr (.inr 86)), some (.inl x1), some (.inl x2), some (.inl x3), some (.inl x4), some (.inl x5), some (.inl x6), none], [.inl r2], (am_sh, am_mm U2)) R
        refine ev_br (P := ¬ r2 = 0) (σ1 := ((d + 1), 132, 191, [some (.inr (.inr 86)), some (.inl x1), some (.inl x2), some (.inl x3), some (.inl x4), some (.inl x5), some (.inl x6), none], [], (am_sh, am_mm U2))) (σ2 := ((d + 1), 132, 188, [some (.inr (.inr 86)), some (.inl x1), some (.inl x2), some (.inl x3), some (.inl x4), some (.inl x5), some (.inl x6), none], [], (am_sh, am_mm U2))) 1 (fun _ => rfl) (fun hc => ?_) (fun hc => ?_)
        · have h12a2a1 := h12a2a.1 hc
          refine ev_seg (σ1 := ((d + 1), 132, 197, [some (.inr (.inr 86)), some (.inl x1), some (.inl x5), some (.inl x3), some (.inl x4), some (.inl x5), some (.inl 0), none], [], (am_sh, am_mm U2))) 4 (fun _ => rfl) ?_
          exact h12a2a1
        · have h12a2a2 := h12a2a.2 (Decidable.not_not.mp hc)
          refine ev_seg (σ1 := ((d + 1), 132, 46, [some (.inr (.inr 86)), some (.inl x1), some (.inl x2), some (.inl (w32 (x3 + 1))), some (.inl x4), some (.inl x5), some (.inl x6), none], [], (am_sh, am_mm U2))) 3 (fun _ => rfl) ?_
          exact ev_le (L := [some (.inr (.inr 86)), some (.inl x1), some (.inl x2), some (.inl (w32 (x3 + 1))), none, none, none, none]) ⟨rfl, ⟨rfl, ⟨rfl, ⟨rfl, trivial⟩⟩⟩⟩ h12a2a2
  · have h2 := h.2 (Int.not_lt.mp hc)
    refine ev_seg (σ1 := ((d + 1), 132, 80, [some (.inr (.inr 86)), some (.inl x1), some (.inl x2), some (.inl x3), some (.inl x4), some (.inl x5), some (.inl x6), none], [.inl (U 86 13), .inr (.inr 90), .inl x4], (am_sh, am_mm U))) 5 (fun _ => rfl) ?_
    refine eu_iald 90 (n := 2) rfl (by decide) rfl (fun _ => rfl) h2.1 ?_
    show Ev (am_kz N X) ((d + 1), 132, 81, [some (.inr (.inr 86)), some (.inl x1), some (.inl x2), some (.inl x3), some (.inl x4), some (.inl x5), some (.inl x6), none], [.inl (U 90 ((U 86 13).toNat)), .inl x4], (am_sh, am_mm U)) R
    have h2a := h2.2
    refine ev_seg (σ1 := ((d + 1), 132, 83, [some (.inr (.inr 86)), some (.inl x1), some (.inl x2), some (.inl x3), some (.inl x4), some (.inl x5), some (.inl x6), none], [.inl (w32 ((U 90 ((U 86 13).toNat)) + 1)), .inl x4], (am_sh, am_mm U))) 2 (fun _ => rfl) ?_
    refine ev_irem rfl h2a.1 ?_
    show Ev (am_kz N X) ((d + 1), 132, 84, [some (.inr (.inr 86)), some (.inl x1), some (.inl x2), some (.inl x3), some (.inl x4), some (.inl x5), some (.inl x6), none], [.inl (Int.tmod x4 (w32 ((U 90 ((U 86 13).toNat)) + 1)))], (am_sh, am_mm U)) R
    have h2aa := h2a.2
    refine ev_seg (σ1 := ((d + 1), 132, 96, [some (.inr (.inr 86)), some (.inl x1), some (.inl x2), some (.inl x3), some (.inl x4), some (.inl x5), some (.inl x6), some (.inl (Int.tmod x4 (w32 ((U 90 ((U 86 13).toNat)) + 1))))], [.inl (U 86 13), .inr (.inr 90), .inl x4], (am_sh, am_mm U))) 6 (fun _ => rfl) ?_
    refine eu_iald 90 (n := 2) rfl (by decide) rfl (fun _ => rfl) h2.1 ?_
    show Ev (am_kz N X) ((d + 1), 132, 97, [some (.inr (.inr 86)), some (.inl x1), some (.inl x2), some (.inl x3), some (.inl x4), some (.inl x5), some (.inl x6), some (.inl (Int.tmod x4 (w32 ((U 90 ((U 86 13).toNat)) + 1))))], [.inl (U 90 ((U 86 13).toNat)), .inl x4], (am_sh, am_mm U)) R
    refine ev_seg (σ1 := ((d + 1), 132, 99, [some (.inr (.inr 86)), some (.inl x1), some (.inl x2), some (.inl x3), some (.inl x4), some (.inl x5), some (.inl x6), some (.inl (Int.tmod x4 (w32 ((U 90 ((U 86 13).toNat)) + 1))))], [.inl (w32 ((U 90 ((U 86 13).toNat)) + 1)), .inl x4], (am_sh, am_mm U))) 2 (fun _ => rfl) ?_
    refine ev_idiv rfl h2aa.1 ?_
    show Ev (am_kz N X) ((d + 1), 132, 100, [some (.inr (.inr 86)), some (.inl x1), some (.inl x2), some (.inl x3), some (.inl x4), some (.inl x5), some (.inl x6), some (.inl (Int.tmod x4 (w32 ((U 90 ((U 86 13).toNat)) + 1))))], [.inl (w32 (Int.tdiv x4 (w32 ((U 90 ((U 86 13).toNat)) + 1))))], (am_sh, am_mm U)) R
    have h2aaa := h2aa.2
    refine ev_seg (σ1 := ((d + 1), 132, 114, [some (.inr (.inr 86)), some (.inl x1), some (.inl x2), some (.inl x3), some (.inl (w32 (Int.tdiv x4 (w32 ((U 90 ((U 86 13).toNat)) + 1))))), some (.inl x5), some (.inl x6), some (.inl (Int.tmod x4 (w32 ((U 90 ((U 86 13).toNat)) + 1))))], [.inl x6, .inr (.inr 126), .inl 16, .inr (.inr 124)], (am_sh, am_mm U))) 7 (fun _ => rfl) ?_
    refine eu_iald 126 (n := 16) rfl (by decide) rfl (fun _ => rfl) h2aaa.1 ?_
    show Ev (am_kz N X) ((d + 1), 132, 115, [some (.inr (.inr 86)), some (.inl x1), some (.inl x2), some (.inl x3), some (.inl (w32 (Int.tdiv x4 (w32 ((U 90 ((U 86 13).toNat)) + 1))))), some (.inl x5), some (.inl x6), some (.inl (Int.tmod x4 (w32 ((U 90 ((U 86 13).toNat)) + 1))))], [.inl (U 126 x6.toNat), .inl 16, .inr (.inr 124)], (am_sh, am_mm U)) R
    have h2aaaa := h2aaa.2
    refine ev_seg (σ1 := ((d + 1), 132, 126, [some (.inr (.inr 86)), some (.inl x1), some (.inl x2), some (.inl x3), some (.inl (w32 (Int.tdiv x4 (w32 ((U 90 ((U 86 13).toNat)) + 1))))), some (.inl x5), some (.inl x6), some (.inl (Int.tmod x4 (w32 ((U 90 ((U 86 13).toNat)) + 1))))], [.inl (U 86 13), .inr (.inr 90), .inl (Int.tmod x4 (w32 ((U 90 ((U 86 13).toNat)) + 1))), .inl (w32 (16 + (U 126 x6.toNat))), .inr (.inr 124)], (am_sh, am_mm U))) 6 (fun _ => rfl) ?_
    refine eu_iald 90 (n := 2) rfl (by decide) rfl (fun _ => rfl) h2.1 ?_
    show Ev (am_kz N X) ((d + 1), 132, 127, [some (.inr (.inr 86)), some (.inl x1), some (.inl x2), some (.inl x3), some (.inl (w32 (Int.tdiv x4 (w32 ((U 90 ((U 86 13).toNat)) + 1))))), some (.inl x5), some (.inl x6), some (.inl (Int.tmod x4 (w32 ((U 90 ((U 86 13).toNat)) + 1))))], [.inl (U 90 ((U 86 13).toNat)), .inl (Int.tmod x4 (w32 ((U 90 ((U 86 13).toNat)) + 1))), .inl (w32 (16 + (U 126 x6.toNat))), .inr (.inr 124)], (am_sh, am_mm U)) R
    refine ev_br (P := ¬ (Int.tmod x4 (w32 ((U 90 ((U 86 13).toNat)) + 1))) = (U 90 ((U 86 13).toNat))) (σ1 := ((d + 1), 132, 134, [some (.inr (.inr 86)), some (.inl x1), some (.inl x2), some (.inl x3), some (.inl (w32 (Int.tdiv x4 (w32 ((U 90 ((U 86 13).toNat)) + 1))))), some (.inl x5), some (.inl x6), some (.inl (Int.tmod x4 (w32 ((U 90 ((U 86 13).toNat)) + 1))))], [.inl (w32 (16 + (U 126 x6.toNat))), .inr (.inr 124)], (am_sh, am_mm U))) (σ2 := ((d + 1), 132, 130, [some (.inr (.inr 86)), some (.inl x1), some (.inl x2), some (.inl x3), some (.inl (w32 (Int.tdiv x4 (w32 ((U 90 ((U 86 13).toNat)) + 1))))), some (.inl x5), some (.inl x6), some (.inl (Int.tmod x4 (w32 ((U 90 ((U 86 13).toNat)) + 1))))], [.inl (w32 (16 + (U 126 x6.toNat))), .inr (.inr 124)], (am_sh, am_mm U))) 1 (fun _ => rfl) (fun hc => ?_) (fun hc => ?_)
    · have h2aaaa1 := h2aaaa.1 hc
      have h2aaaaq := hc
      refine ev_seg (σ1 := ((d + 1), 132, 136, [some (.inr (.inr 86)), some (.inl x1), some (.inl x2), some (.inl x3), some (.inl (w32 (Int.tdiv x4 (w32 ((U 90 ((U 86 13).toNat)) + 1))))), some (.inl x5), some (.inl x6), some (.inl (Int.tmod x4 (w32 ((U 90 ((U 86 13).toNat)) + 1))))], [.inl (Int.tmod x4 (w32 ((U 90 ((U 86 13).toNat)) + 1))), .inl (w32 (16 + (U 126 x6.toNat))), .inr (.inr 124)], (am_sh, am_mm U))) 1 (fun _ => rfl) ?_
      refine eu_iast 124 (n := 352) rfl (by decide) rfl (fun _ => rfl) h2aaaa1.1 ?_
      show Ev (am_kz N X) ((d + 1), 132, 137, [some (.inr (.inr 86)), some (.inl x1), some (.inl x2), some (.inl x3), some (.inl (w32 (Int.tdiv x4 (w32 ((U 90 ((U 86 13).toNat)) + 1))))), some (.inl x5), some (.inl x6), some (.inl (Int.tmod x4 (w32 ((U 90 ((U 86 13).toNat)) + 1))))], [], (am_sh, am_mm (am_upd U 124 ((w32 (16 + (U 126 x6.toNat))).toNat) (Int.tmod x4 (w32 ((U 90 ((U 86 13).toNat)) + 1)))))) R
      have h2aaaa1a := h2aaaa1.2
      refine ev_seg (σ1 := ((d + 1), 132, 149, [some (.inr (.inr 86)), some (.inl x1), some (.inl x2), some (.inl x3), some (.inl (w32 (Int.tdiv x4 (w32 ((U 90 ((U 86 13).toNat)) + 1))))), some (.inl x5), some (.inl x6), some (.inl (Int.tmod x4 (w32 ((U 90 ((U 86 13).toNat)) + 1))))], [.inl (U 86 13), .inr (.inr 90), .inl (Int.tmod x4 (w32 ((U 90 ((U 86 13).toNat)) + 1))), .inl x5], (am_sh, am_mm (am_upd U 124 ((w32 (16 + (U 126 x6.toNat))).toNat) (Int.tmod x4 (w32 ((U 90 ((U 86 13).toNat)) + 1))))))) 6 (fun _ => rfl) ?_
      refine eu_iald 90 (n := 2) rfl (by decide) rfl (fun _ => rfl) h2.1 ?_
      show Ev (am_kz N X) ((d + 1), 132, 150, [some (.inr (.inr 86)), some (.inl x1), some (.inl x2), some (.inl x3), some (.inl (w32 (Int.tdiv x4 (w32 ((U 90 ((U 86 13).toNat)) + 1))))), some (.inl x5), some (.inl x6), some (.inl (Int.tmod x4 (w32 ((U 90 ((U 86 13).toNat)) + 1))))], [.inl (U 90 ((U 86 13).toNat)), .inl (Int.tmod x4 (w32 ((U 90 ((U 86 13).toNat)) + 1))), .inl x5], (am_sh, am_mm (am_upd U 124 ((w32 (16 + (U 126 x6.toNat))).toNat) (Int.tmod x4 (w32 ((U 90 ((U 86 13).toNat)) + 1)))))) R
      refine ev_br (P := ¬ (Int.tmod x4 (w32 ((U 90 ((U 86 13).toNat)) + 1))) = (U 90 ((U 86 13).toNat))) (σ1 := ((d + 1), 132, 157, [some (.inr (.inr 86)), some (.inl x1), some (.inl x2), some (.inl x3), some (.inl (w32 (Int.tdiv x4 (w32 ((U 90 ((U 86 13).toNat)) + 1))))), some (.inl x5), some (.inl x6), some (.inl (Int.tmod x4 (w32 ((U 90 ((U 86 13).toNat)) + 1))))], [.inl x5], (am_sh, am_mm (am_upd U 124 ((w32 (16 + (U 126 x6.toNat))).toNat) (Int.tmod x4 (w32 ((U 90 ((U 86 13).toNat)) + 1))))))) (σ2 := ((d + 1), 132, 153, [some (.inr (.inr 86)), some (.inl x1), some (.inl x2), some (.inl x3), some (.inl (w32 (Int.tdiv x4 (w32 ((U 90 ((U 86 13).toNat)) + 1))))), some (.inl x5), some (.inl x6), some (.inl (Int.tmod x4 (w32 ((U 90 ((U 86 13).toNat)) + 1))))], [.inl x5], (am_sh, am_mm (am_upd U 124 ((w32 (16 + (U 126 x6.toNat))).toNat) (Int.tmod x4 (w32 ((U 90 ((U 86 13).toNat)) + 1))))))) 1 (fun _ => rfl) (fun hc => ?_) (fun hc => absurd h2aaaaq (fun h0 => by have h1 := (Decidable.not_not.mp hc); omega))
      refine ev_seg (σ1 := ((d + 1), 132, 65, [some (.inr (.inr 86)), some (.inl x1), some (.inl x2), some (.inl x3), some (.inl (w32 (Int.tdiv x4 (w32 ((U 90 ((U 86 13).toNat)) + 1))))), some (.inl (w32 (x5 + 1))), some (.inl (w32 (x6 + (-1)))), some (.inl (Int.tmod x4 (w32 ((U 90 ((U 86 13).toNat)) + 1))))], [], (am_sh, am_mm (am_upd U 124 ((w32 (16 + (U 126 x6.toNat))).toNat) (Int.tmod x4 (w32 ((U 90 ((U 86 13).toNat)) + 1))))))) 5 (fun _ => rfl) ?_
      exact ev_le (L := [some (.inr (.inr 86)), some (.inl x1), some (.inl x2), some (.inl x3), some (.inl (w32 (Int.tdiv x4 (w32 ((U 90 ((U 86 13).toNat)) + 1))))), some (.inl (w32 (x5 + 1))), some (.inl (w32 (x6 + (-1)))), none]) ⟨rfl, ⟨rfl, ⟨rfl, ⟨rfl, ⟨rfl, ⟨rfl, ⟨rfl, trivial⟩⟩⟩⟩⟩⟩⟩ h2aaaa1a
    · have h2aaaa2 := h2aaaa.2 (Decidable.not_not.mp hc)
      have h2aaaaq := (Decidable.not_not.mp hc)
      refine ev_seg (σ1 := ((d + 1), 132, 136, [some (.inr (.inr 86)), some (.inl x1), some (.inl x2), some (.inl x3), some (.inl (w32 (Int.tdiv x4 (w32 ((U 90 ((U 86 13).toNat)) + 1))))), some (.inl x5), some (.inl x6), some (.inl (Int.tmod x4 (w32 ((U 90 ((U 86 13).toNat)) + 1))))], [.inl (-1), .inl (w32 (16 + (U 126 x6.toNat))), .inr (.inr 124)], (am_sh, am_mm U))) 2 (fun _ => rfl) ?_
      refine eu_iast 124 (n := 352) rfl (by decide) rfl (fun _ => rfl) h2aaaa2.1 ?_
      show Ev (am_kz N X) ((d + 1), 132, 137, [some (.inr (.inr 86)), some (.inl x1), some (.inl x2), some (.inl x3), some (.inl (w32 (Int.tdiv x4 (w32 ((U 90 ((U 86 13).toNat)) + 1))))), some (.inl x5), some (.inl x6), some (.inl (Int.tmod x4 (w32 ((U 90 ((U 86 13).toNat)) + 1))))], [], (am_sh, am_mm (am_upd U 124 ((w32 (16 + (U 126 x6.toNat))).toNat) (-1)))) R
      have h2aaaa2a := h2aaaa2.2
      refine ev_seg (σ1 := ((d + 1), 132, 149, [some (.inr (.inr 86)), some (.inl x1), some (.inl x2), some (.inl x3), some (.inl (w32 (Int.tdiv x4 (w32 ((U 90 ((U 86 13).toNat)) + 1))))), some (.inl x5), some (.inl x6), some (.inl (Int.tmod x4 (w32 ((U 90 ((U 86 13).toNat)) + 1))))], [.inl (U 86 13), .inr (.inr 90), .inl (Int.tmod x4 (w32 ((U 90 ((U 86 13).toNat)) + 1))), .inl x5], (am_sh, am_mm (am_upd U 124 ((w32 (16 + (U 126 x6.toNat))).toNat) (-1))))) 6 (fun _ => rfl) ?_
      refine eu_iald 90 (n := 2) rfl (by decide) rfl (fun _ => rfl) h2.1 ?_
      show Ev (am_kz N X) ((d + 1), 132, 150, [some (.inr (.inr 86)), some (.inl x1), some (.inl x2), some (.inl x3), some (.inl (w32 (Int.tdiv x4 (w32 ((U 90 ((U 86 13).toNat)) + 1))))), some (.inl x5), some (.inl x6), some (.inl (Int.tmod x4 (w32 ((U 90 ((U 86 13).toNat)) + 1))))], [.inl (U 90 ((U 86 13).toNat)), .inl (Int.tmod x4 (w32 ((U 90 ((U 86 13).toNat)) + 1))), .inl x5], (am_sh, am_mm (am_upd U 124 ((w32 (16 + (U 126 x6.toNat))).toNat) (-1)))) R
      refine ev_br (P := ¬ (Int.tmod x4 (w32 ((U 90 ((U 86 13).toNat)) + 1))) = (U 90 ((U 86 13).toNat))) (σ1 := ((d + 1), 132, 157, [some (.inr (.inr 86)), some (.inl x1), some (.inl x2), some (.inl x3), some (.inl (w32 (Int.tdiv x4 (w32 ((U 90 ((U 86 13).toNat)) + 1))))), some (.inl x5), some (.inl x6), some (.inl (Int.tmod x4 (w32 ((U 90 ((U 86 13).toNat)) + 1))))], [.inl x5], (am_sh, am_mm (am_upd U 124 ((w32 (16 + (U 126 x6.toNat))).toNat) (-1))))) (σ2 := ((d + 1), 132, 153, [some (.inr (.inr 86)), some (.inl x1), some (.inl x2), some (.inl x3), some (.inl (w32 (Int.tdiv x4 (w32 ((U 90 ((U 86 13).toNat)) + 1))))), some (.inl x5), some (.inl x6), some (.inl (Int.tmod x4 (w32 ((U 90 ((U 86 13).toNat)) + 1))))], [.inl x5], (am_sh, am_mm (am_upd U 124 ((w32 (16 + (U 126 x6.toNat))).toNat) (-1))))) 1 (fun _ => rfl) (fun hc => absurd h2aaaaq (fun h0 => by have h1 := hc; omega)) (fun hc => ?_)
      refine ev_seg (σ1 := ((d + 1), 132, 65, [some (.inr (.inr 86)), some (.inl x1), some (.inl x2), some (.inl x3), some (.inl (w32 (Int.tdiv x4 (w32 ((U 90 ((U 86 13).toNat)) + 1))))), some (.inl (w32 (x5 + 0))), some (.inl (w32 (x6 + (-1)))), some (.inl (Int.tmod x4 (w32 ((U 90 ((U 86 13).toNat)) + 1))))], [], (am_sh, am_mm (am_upd U 124 ((w32 (16 + (U 126 x6.toNat))).toNat) (-1))))) 6 (fun _ => rfl) ?_
      exact ev_le (L := [some (.inr (.inr 86)), some (.inl x1), some (.inl x2), some (.inl x3), some (.inl (w32 (Int.tdiv x4 (w32 ((U 90 ((U 86 13).toNat)) + 1))))), some (.inl (w32 (x5 + 0))), some (.inl (w32 (x6 + (-1)))), none]) ⟨rfl, ⟨rfl, ⟨rfl, ⟨rfl, ⟨rfl, ⟨rfl, ⟨rfl, trivial⟩⟩⟩⟩⟩⟩⟩ h2aaaa2a
set_option maxRecDepth 8000 in
theorem M_places_r197 {N : Nat} {X : Nat → Int} {d : Nat} {x1 x2 x3 x4 x5 x6 : Int} {U : am_U} {R : Option am_V × am_M} (h : (((U 86 70) ≤ x6) → EvK N X (M_places_s46 (d + 1) x1 x2 (w32 (x3 + 1)) U) R) ∧ ((x6 < (U 86 70)) → (0 ≤ x6 ∧ x6 < 16) ∧ ∃ (r1 : Int) (U1 : am_U), EvK N X (M_homeOf_s0 d 1 (U 126 x6.toNat) U) (rI r1 U1) ∧ (0 ≤ (U 126 x6.toNat) ∧ (U 126 x6.toNat) < 16) ∧ EvK N X (M_places_s197 (d + 1) x1 x2 x3 x4 x5 (w32 (x6 + 1)) (am_upd U1 127 ((U 126 x6.toNat).toNat) r1)) R)) : EvK N X (M_places_s197 (d + 1) x1 x2 x3 x4 x5 x6 U) R := by
  show Ev (am_kz N X) ((d + 1), 132, 197, [some (.inr (.inr 86)), some (.inl x1), some (.inl x2), some (.inl x3), some (.inl x4), some (.inl x5), some (.inl x6), none], [], (am_sh, am_mm U)) R
  refine ev_br (P := (U 86 70) ≤ x6) (σ1 := ((d + 1), 132, 236, [some (.inr (.inr 86)), some (.inl x1), some (.inl x2), some (.inl x3), some (.inl x4), some (.inl x5), some (.inl x6), none], [], (am_sh, am_mm U))) (σ2 := ((d + 1), 132, 206, [some (.inr (.inr 86)), some (.inl x1), some (.inl x2), some (.inl x3), some (.inl x4), some (.inl x5), some (.inl x6), none], [], (am_sh, am_mm U))) 4 (fun _ => rfl) (fun hc => ?_) (fun hc => ?_)
  · have h1 := h.1 hc
    refine ev_seg (σ1 := ((d + 1), 132, 46, [some (.inr (.inr 86)), some (.inl x1), some (.inl x2), some (.inl (w32 (x3 + 1))), some (.inl x4), some (.inl x5), some (.inl x6), none], [], (am_sh, am_mm U))) 2 (fun _ => rfl) ?_
    exact ev_le (L := [some (.inr (.inr 86)), some (.inl x1), some (.inl x2), some (.inl (w32 (x3 + 1))), none, none, none, none]) ⟨rfl, ⟨rfl, ⟨rfl, ⟨rfl, trivial⟩⟩⟩⟩ h1
  · have h2 := h.2 (Int.not_le.mp hc)
    refine ev_seg (σ1 := ((d + 1), 132, 216, [some (.inr (.inr 86)), some (.inl x1), some (.inl x2), some (.inl x3), some (.inl x4), some (.inl x5), some (.inl x6), none], [.inl x6, .inr (.inr 126), .inr (.inr 127)], (am_sh, am_mm U))) 5 (fun _ => rfl) ?_
    refine eu_iald 126 (n := 16) rfl (by decide) rfl (fun _ => rfl) h2.1 ?_
    show Ev (am_kz N X) ((d + 1), 132, 217, [some (.inr (.inr 86)), some (.inl x1), some (.inl x2), some (.inl x3), some (.inl x4), some (.inl x5), some (.inl x6), none], [.inl (U 126 x6.toNat), .inr (.inr 127)], (am_sh, am_mm U)) R
    have h2a := h2.2
    refine ev_seg (σ1 := ((d + 1), 132, 225, [some (.inr (.inr 86)), some (.inl x1), some (.inl x2), some (.inl x3), some (.inl x4), some (.inl x5), some (.inl x6), none], [.inl x6, .inr (.inr 126), .inl 1, .inr (.inr 86), .inl (U 126 x6.toNat), .inr (.inr 127)], (am_sh, am_mm U))) 5 (fun _ => rfl) ?_
    refine eu_iald 126 (n := 16) rfl (by decide) rfl (fun _ => rfl) h2.1 ?_
    show Ev (am_kz N X) ((d + 1), 132, 226, [some (.inr (.inr 86)), some (.inl x1), some (.inl x2), some (.inl x3), some (.inl x4), some (.inl x5), some (.inl x6), none], [.inl (U 126 x6.toNat), .inl 1, .inr (.inr 86), .inl (U 126 x6.toNat), .inr (.inr 127)], (am_sh, am_mm U)) R
    obtain ⟨r1, U1, h2ac, h2aa⟩ := h2a
    refine ev_cal (σc := (M_homeOf_s0 d 1 (U 126 x6.toNat) U)) (fun _ => rfl) h2ac ?_
    show Ev (am_kz N X) ((d + 1), 132, 229, [some (.inr (.inr 86)), some (.inl x1), some (.inl x2), some (.inl x3), some (.inl x4), some (.inl x5), some (.inl x6), none], [.inl r1, .inl (U 126 x6.toNat), .inr (.inr 127)], (am_sh, am_mm U1)) R
    refine eu_iast 127 (n := 16) rfl (by decide) rfl (fun _ => rfl) h2aa.1 ?_
    show Ev (am_kz N X) ((d + 1), 132, 230, [some (.inr (.inr 86)), some (.inl x1), some (.inl x2), some (.inl x3), some (.inl x4), some (.inl x5), some (.inl x6), none], [], (am_sh, am_mm (am_upd U1 127 ((U 126 x6.toNat).toNat) r1))) R
    have h2aaa := h2aa.2
    refine ev_seg (σ1 := ((d + 1), 132, 197, [some (.inr (.inr 86)), some (.inl x1), some (.inl x2), some (.inl x3), some (.inl x4), some (.inl x5), some (.inl (w32 (x6 + 1))), none], [], (am_sh, am_mm (am_upd U1 127 ((U 126 x6.toNat).toNat) r1)))) 2 (fun _ => rfl) ?_
    exact h2aaa
set_option maxRecDepth 8000 in
theorem Tw_hasTest_3_r0 {N : Nat} {X : Nat → Int} {d : Nat} {x1 : Int} {U : am_U} {R : Option am_V × am_M} (h : ((x1 < 0) → ((x1 ≠ 8) → R = rI 0 U) ∧ ((x1 = 8) → (0 ≤ x1 ∧ x1 < 9) ∧ (((U 14 x1.toNat) ≤ (U 13 x1.toNat)) → R = rI 0 U) ∧ (((U 13 x1.toNat) < (U 14 x1.toNat)) → R = rI 1 U))) ∧ ((0 ≤ x1) → ((x1 < (U 3 4)) → R = rI 1 U) ∧ (((U 3 4) ≤ x1) → ((x1 ≠ 8) → R = rI 0 U) ∧ ((x1 = 8) → (0 ≤ x1 ∧ x1 < 9) ∧ (((U 14 x1.toNat) ≤ (U 13 x1.toNat)) → R = rI 0 U) ∧ (((U 13 x1.toNat) < (U 14 x1.toNat)) → R = rI 1 U))))) : EvK N X (Tw_hasTest_3_s0 d x1 U) R := by
  show Ev (am_kz N X) (d, 133, 0, [some (.inr (.inr 3)), some (.inl x1)], [], (am_sh, am_mm U)) R
  refine ev_br (P := x1 < 0) (σ1 := (d, 133, 12, [some (.inr (.inr 3)), some (.inl x1)], [], (am_sh, am_mm U))) (σ2 := (d, 133, 4, [some (.inr (.inr 3)), some (.inl x1)], [], (am_sh, am_mm U))) 2 (fun _ => rfl) (fun hc => ?_) (fun hc => ?_)
  · have h1 := h.1 hc
    refine ev_br (P := ¬ x1 = 8) (σ1 := (d, 133, 37, [some (.inr (.inr 3)), some (.inl x1)], [], (am_sh, am_mm U))) (σ2 := (d, 133, 18, [some (.inr (.inr 3)), some (.inl x1)], [], (am_sh, am_mm U))) 3 (fun _ => rfl) (fun hc => ?_) (fun hc => ?_)
    · have h11 := h1.1 hc
      subst h11
      exact ev_end 2 (fun _ => rfl)
    · have h12 := h1.2 (Decidable.not_not.mp hc)
      refine ev_seg (σ1 := (d, 133, 23, [some (.inr (.inr 3)), some (.inl x1)], [.inl x1, .inr (.inr 13)], (am_sh, am_mm U))) 3 (fun _ => rfl) ?_
      refine eu_iald 13 (n := 9) rfl (by decide) rfl (fun _ => rfl) h12.1 ?_
      show Ev (am_kz N X) (d, 133, 24, [some (.inr (.inr 3)), some (.inl x1)], [.inl (U 13 x1.toNat)], (am_sh, am_mm U)) R
      have h12a := h12.2
      refine ev_seg (σ1 := (d, 133, 29, [some (.inr (.inr 3)), some (.inl x1)], [.inl x1, .inr (.inr 14), .inl (U 13 x1.toNat)], (am_sh, am_mm U))) 3 (fun _ => rfl) ?_
      refine eu_iald 14 (n := 9) rfl (by decide) rfl (fun _ => rfl) h12.1 ?_
      show Ev (am_kz N X) (d, 133, 30, [some (.inr (.inr 3)), some (.inl x1)], [.inl (U 14 x1.toNat), .inl (U 13 x1.toNat)], (am_sh, am_mm U)) R
      refine ev_br (P := (U 14 x1.toNat) ≤ (U 13 x1.toNat)) (σ1 := (d, 133, 37, [some (.inr (.inr 3)), some (.inl x1)], [], (am_sh, am_mm U))) (σ2 := (d, 133, 33, [some (.inr (.inr 3)), some (.inl x1)], [], (am_sh, am_mm U))) 1 (fun _ => rfl) (fun hc => ?_) (fun hc => ?_)
      · have h12a1 := h12a.1 hc
        subst h12a1
        exact ev_end 2 (fun _ => rfl)
      · have h12a2 := h12a.2 (Int.not_le.mp hc)
        subst h12a2
        exact ev_end 3 (fun _ => rfl)
  · have h2 := h.2 (Int.not_lt.mp hc)
    refine ev_br (P := x1 < (U 3 4)) (σ1 := (d, 133, 33, [some (.inr (.inr 3)), some (.inl x1)], [], (am_sh, am_mm U))) (σ2 := (d, 133, 12, [some (.inr (.inr 3)), some (.inl x1)], [], (am_sh, am_mm U))) 4 (fun _ => rfl) (fun hc => ?_) (fun hc => ?_)
    · have h21 := h2.1 hc
      subst h21
      exact ev_end 3 (fun _ => rfl)
    · have h22 := h2.2 (Int.not_lt.mp hc)
      refine ev_br (P := ¬ x1 = 8) (σ1 := (d, 133, 37, [some (.inr (.inr 3)), some (.inl x1)], [], (am_sh, am_mm U))) (σ2 := (d, 133, 18, [some (.inr (.inr 3)), some (.inl x1)], [], (am_sh, am_mm U))) 3 (fun _ => rfl) (fun hc => ?_) (fun hc => ?_)
      · have h221 := h22.1 hc
        subst h221
        exact ev_end 2 (fun _ => rfl)
      · have h222 := h22.2 (Decidable.not_not.mp hc)
        refine ev_seg (σ1 := (d, 133, 23, [some (.inr (.inr 3)), some (.inl x1)], [.inl x1, .inr (.inr 13)], (am_sh, am_mm U))) 3 (fun _ => rfl) ?_
        refine eu_iald 13 (n := 9) rfl (by decide) rfl (fun _ => rfl) h222.1 ?_
        show Ev (am_kz N X) (d, 133, 24, [some (.inr (.inr 3)), some (.inl x1)], [.inl (U 13 x1.toNat)], (am_sh, am_mm U)) R
        have h222a := h222.2
        refine ev_seg (σ1 := (d, 133, 29, [some (.inr (.inr 3)), some (.inl x1)], [.inl x1, .inr (.inr 14), .inl (U 13 x1.toNat)], (am_sh, am_mm U))) 3 (fun _ => rfl) ?_
        refine eu_iald 14 (n := 9) rfl (by decide) rfl (fun _ => rfl) h222.1 ?_
        show Ev (am_kz N X) (d, 133, 30, [some (.inr (.inr 3)), some (.inl x1)], [.inl (U 14 x1.toNat), .inl (U 13 x1.toNat)], (am_sh, am_mm U)) R
        refine ev_br (P := (U 14 x1.toNat) ≤ (U 13 x1.toNat)) (σ1 := (d, 133, 37, [some (.inr (.inr 3)), some (.inl x1)], [], (am_sh, am_mm U))) (σ2 := (d, 133, 33, [some (.inr (.inr 3)), some (.inl x1)], [], (am_sh, am_mm U))) 1 (fun _ => rfl) (fun hc => ?_) (fun hc => ?_)
        · have h222a1 := h222a.1 hc
          subst h222a1
          exact ev_end 2 (fun _ => rfl)
        · have h222a2 := h222a.2 (Int.not_le.mp hc)
          subst h222a2
          exact ev_end 3 (fun _ => rfl)
set_option maxRecDepth 8000 in
theorem Jg_isTrue_r0 {N : Nat} {X : Nat → Int} {d : Nat} {x1 x2 x3 : Int} {U : am_U} {R : Option am_V × am_M} (h : ((x1 < 0) → R = rI 0 U) ∧ ((0 ≤ x1) → ((x1 ≤ 8) → (0 ≤ x1 ∧ x1 < 9) ∧ EvK N X (Jg_isTrue_s50 (d + 1) x1 x2 x3 (if 1600 < (U 14 x1.toNat) then 1600 else (U 14 x1.toNat)) (U 13 x1.toNat) (am_upd U 45 3 0)) R) ∧ ((8 < x1) → R = rI 0 U))) : EvK N X (Jg_isTrue_s0 (d + 1) x1 x2 x3 U) R := by
  show Ev (am_kz N X) ((d + 1), 134, 0, [some (.inr (.inr 45)), some (.inl x1), some (.inl x2), some (.inl x3), none, none, none, none, none], [], (am_sh, am_mm U)) R
  refine ev_br (P := x1 < 0) (σ1 := ((d + 1), 134, 10, [some (.inr (.inr 45)), some (.inl x1), some (.inl x2), some (.inl x3), none, none, none, none, none], [], (am_sh, am_mm U))) (σ2 := ((d + 1), 134, 4, [some (.inr (.inr 45)), some (.inl x1), some (.inl x2), some (.inl x3), none, none, none, none, none], [], (am_sh, am_mm U))) 2 (fun _ => rfl) (fun hc => ?_) (fun hc => ?_)
  · have h1 := h.1 hc
    subst h1
    exact ev_end 2 (fun _ => rfl)
  · have h2 := h.2 (Int.not_lt.mp hc)
    refine ev_br (P := x1 ≤ 8) (σ1 := ((d + 1), 134, 12, [some (.inr (.inr 45)), some (.inl x1), some (.inl x2), some (.inl x3), none, none, none, none, none], [], (am_sh, am_mm U))) (σ2 := ((d + 1), 134, 10, [some (.inr (.inr 45)), some (.inl x1), some (.inl x2), some (.inl x3), none, none, none, none, none], [], (am_sh, am_mm U))) 3 (fun _ => rfl) (fun hc => ?_) (fun hc => ?_)
    · have h21 := h2.1 hc
      refine ev_seg (σ1 := ((d + 1), 134, 14, [some (.inr (.inr 45)), some (.inl x1), some (.inl x2), some (.inl x3), none, none, none, none, none], [.inl 0, .inr (.inr 45)], (am_sh, am_mm U))) 2 (fun _ => rfl) ?_
      refine eu_puti 45 (n := 6) rfl (by decide) rfl rfl ?_
      show Ev (am_kz N X) ((d + 1), 134, 17, [some (.inr (.inr 45)), some (.inl x1), some (.inl x2), some (.inl x3), none, none, none, none, none], [], (am_sh, am_mm (am_upd U 45 3 0))) R
      refine ev_seg (σ1 := ((d + 1), 134, 25, [some (.inr (.inr 45)), some (.inl x1), some (.inl x2), some (.inl x3), none, none, none, none, none], [.inl x1, .inr (.inr 14)], (am_sh, am_mm (am_upd U 45 3 0)))) 4 (fun _ => rfl) ?_
      refine eu_iald 14 (n := 9) rfl (by decide) rfl (fun _ => rfl) h21.1 ?_
      show Ev (am_kz N X) ((d + 1), 134, 26, [some (.inr (.inr 45)), some (.inl x1), some (.inl x2), some (.inl x3), none, none, none, none, none], [.inl (U 14 x1.toNat)], (am_sh, am_mm (am_upd U 45 3 0))) R
      have h21a := h21.2
      refine ev_seg (σ1 := ((d + 1), 134, 47, [some (.inr (.inr 45)), some (.inl x1), some (.inl x2), some (.inl x3), some (.inl (if 1600 < (U 14 x1.toNat) then 1600 else (U 14 x1.toNat))), none, none, none, none], [.inl x1, .inr (.inr 13)], (am_sh, am_mm (am_upd U 45 3 0)))) 10 (fun _ => rfl) ?_
      refine eu_iald 13 (n := 9) rfl (by decide) rfl (fun _ => rfl) h21.1 ?_
      show Ev (am_kz N X) ((d + 1), 134, 48, [some (.inr (.inr 45)), some (.inl x1), some (.inl x2), some (.inl x3), some (.inl (if 1600 < (U 14 x1.toNat) then 1600 else (U 14 x1.toNat))), none, none, none, none], [.inl (U 13 x1.toNat)], (am_sh, am_mm (am_upd U 45 3 0))) R
      refine ev_seg (σ1 := ((d + 1), 134, 50, [some (.inr (.inr 45)), some (.inl x1), some (.inl x2), some (.inl x3), some (.inl (if 1600 < (U 14 x1.toNat) then 1600 else (U 14 x1.toNat))), some (.inl (U 13 x1.toNat)), none, none, none], [], (am_sh, am_mm (am_upd U 45 3 0)))) 1 (fun _ => rfl) ?_
      exact h21a
    · have h22 := h2.2 (Int.not_le.mp hc)
      subst h22
      exact ev_end 2 (fun _ => rfl)
set_option maxRecDepth 8000 in
theorem Jg_isTrue_r50 {N : Nat} {X : Nat → Int} {d : Nat} {x1 x2 x3 x4 x5 : Int} {U : am_U} {R : Option am_V × am_M} (h : ((x4 ≤ x5) → ∃ (r1 : Int) (U1 : am_U), EvK N X (Jg_pop_s0 d U) (rI r1 U1) ∧ ((r1 = 0) → R = rI 0 U1) ∧ ((r1 ≠ 0) → R = rI 1 U1)) ∧ ((x5 < x4) → (0 ≤ x5 ∧ x5 < 1600) ∧ (((U 15 x5.toNat) < 0) → (((-100) < (U 15 x5.toNat)) → ((16 < (w32 ((-1) - (U 15 x5.toNat)))) → ∃ U2 : am_U, EvK N X (Jg_doWord_s0 d (w32 ((-1) - (U 15 x5.toNat))) U) (rV U2) ∧ EvK N X (Jg_isTrue_s50 (d + 1) x1 x2 x3 x4 (w32 (x5 + 1)) U2) R) ∧ (((w32 ((-1) - (U 15 x5.toNat))) ≤ 16) → ∃ (r3 : Int) (U3 : am_U), EvK N X (Jg_ask_s0 d (w32 ((-1) - (U 15 x5.toNat))) x2 x3 U) (rI r3 U3) ∧ ∃ U4 : am_U, EvK N X (Jg_push_s0 d r3 U3) (rV U4) ∧ EvK N X (Jg_isTrue_s50 (d + 1) x1 x2 x3 x4 (w32 (x5 + 1)) U4) R)) ∧ (((U 15 x5.toNat) ≤ (-100)) → ∃ (r5 : Int) (U5 : am_U), EvK N X (Jg_pop_s0 d U) (rI r5 U5) ∧ ∃ (r6 : Int) (U6 : am_U), EvK N X (Jg_pop_s0 d U5) (rI r6 U6) ∧ ∃ (r7 : Int) (U7 : am_U), EvK N X (Jg_combine_s0 d (w32 ((-100) - (U 15 x5.toNat))) r6 r5 U6) (rI r7 U7) ∧ ∃ U8 : am_U, EvK N X (Jg_push_s0 d r7 U7) (rV U8) ∧ EvK N X (Jg_isTrue_s50 (d + 1) x1 x2 x3 x4 (w32 (x5 + 1)) U8) R)) ∧ ((0 ≤ (U 15 x5.toNat)) → ∃ U9 : am_U, EvK N X (Jg_push_s0 d (U 15 x5.toNat) U) (rV U9) ∧ EvK N X (Jg_isTrue_s50 (d + 1) x1 x2 x3 x4 (w32 (x5 + 1)) U9) R))) : EvK N X (Jg_isTrue_s50 (d + 1) x1 x2 x3 x4 x5 U) R := by
  show Ev (am_kz N X) ((d + 1), 134, 50, [some (.inr (.inr 45)), some (.inl x1), some (.inl x2), some (.inl x3), some (.inl x4), some (.inl x5), none, none, none], [], (am_sh, am_mm U)) R
  refine ev_br (P := x4 ≤ x5) (σ1 := ((d + 1), 134, 157, [some (.inr (.inr 45)), some (.inl x1), some (.inl x2), some (.inl x3), some (.inl x4), some (.inl x5), none, none, none], [], (am_sh, am_mm U))) (σ2 := ((d + 1), 134, 57, [some (.inr (.inr 45)), some (.inl x1), some (.inl x2), some (.inl x3), some (.inl x4), some (.inl x5), none, none, none], [], (am_sh, am_mm U))) 3 (fun _ => rfl) (fun hc => ?_) (fun hc => ?_)
  · have h1 := h.1 hc
    refine ev_seg (σ1 := ((d + 1), 134, 158, [some (.inr (.inr 45)), some (.inl x1), some (.inl x2), some (.inl x3), some (.inl x4), some (.inl x5), none, none, none], [.inr (.inr 45)], (am_sh, am_mm U))) 1 (fun _ => rfl) ?_
    obtain ⟨r1, U1, h1c, h1a⟩ := h1
    refine ev_cal (σc := (Jg_pop_s0 d U)) (fun _ => rfl) h1c ?_
    show Ev (am_kz N X) ((d + 1), 134, 161, [some (.inr (.inr 45)), some (.inl x1), some (.inl x2), some (.inl x3), some (.inl x4), some (.inl x5), none, none, none], [.inl r1], (am_sh, am_mm U1)) R
    refine ev_br (P := r1 = 0) (σ1 := ((d + 1), 134, 168, [some (.inr (.inr 45)), some (.inl x1), some (.inl x2), some (.inl x3), some (.inl x4), some (.inl x5), none, none, none], [], (am_sh, am_mm U1))) (σ2 := ((d + 1), 134, 164, [some (.inr (.inr 45)), some (.inl x1), some (.inl x2), some (.inl x3), some (.inl x4), some (.inl x5), none, none, none], [], (am_sh, am_mm U1))) 1 (fun _ => rfl) (fun hc => ?_) (fun hc => ?_)
    · have h1a1 := h1a.1 hc
      subst h1a1
      exact ev_end 2 (fun _ => rfl)
    · have h1a2 := h1a.2 hc
      subst h1a2
      exact ev_end 3 (fun _ => rfl)
  · have h2 := h.2 (Int.not_le.mp hc)
    refine ev_seg (σ1 := ((d + 1), 134, 66, [some (.inr (.inr 45)), some (.inl x1), some (.inl x2), some (.inl x3), some (.inl x4), some (.inl x5), none, none, none], [.inl x5, .inr (.inr 15)], (am_sh, am_mm U))) 4 (fun _ => rfl) ?_
    refine eu_iald 15 (n := 1600) rfl (by decide) rfl (fun _ => rfl) h2.1 ?_
    show Ev (am_kz N X) ((d + 1), 134, 67, [some (.inr (.inr 45)), some (.inl x1), some (.inl x2), some (.inl x3), some (.inl x4), some (.inl x5), none, none, none], [.inl (U 15 x5.toNat)], (am_sh, am_mm U)) R
    have h2a := h2.2
    refine ev_br (P := (U 15 x5.toNat) < 0) (σ1 := ((d + 1), 134, 89, [some (.inr (.inr 45)), some (.inl x1), some (.inl x2), some (.inl x3), some (.inl x4), some (.inl x5), some (.inl (U 15 x5.toNat)), some (.inl (w32 ((-1) - (U 15 x5.toNat)))), none], [], (am_sh, am_mm U))) (σ2 := ((d + 1), 134, 80, [some (.inr (.inr 45)), some (.inl x1), some (.inl x2), some (.inl x3), some (.inl x4), some (.inl x5), some (.inl (U 15 x5.toNat)), some (.inl (w32 ((-1) - (U 15 x5.toNat)))), none], [], (am_sh, am_mm U))) 7 (fun _ => rfl) (fun hc => ?_) (fun hc => ?_)
    · have h2a1 := h2a.1 hc
      refine ev_br (P := (-100) < (U 15 x5.toNat)) (σ1 := ((d + 1), 134, 123, [some (.inr (.inr 45)), some (.inl x1), some (.inl x2), some (.inl x3), some (.inl x4), some (.inl x5), some (.inl (U 15 x5.toNat)), some (.inl (w32 ((-1) - (U 15 x5.toNat)))), none], [], (am_sh, am_mm U))) (σ2 := ((d + 1), 134, 96, [some (.inr (.inr 45)), some (.inl x1), some (.inl x2), some (.inl x3), some (.inl x4), some (.inl x5), some (.inl (U 15 x5.toNat)), some (.inl (w32 ((-1) - (U 15 x5.toNat)))), none], [], (am_sh, am_mm U))) 3 (fun _ => rfl) (fun hc => ?_) (fun hc => ?_)
      · have h2a11 := h2a1.1 hc
        refine ev_br (P := 16 < (w32 ((-1) - (U 15 x5.toNat)))) (σ1 := ((d + 1), 134, 145, [some (.inr (.inr 45)), some (.inl x1), some (.inl x2), some (.inl x3), some (.inl x4), some (.inl x5), some (.inl (U 15 x5.toNat)), some (.inl (w32 ((-1) - (U 15 x5.toNat)))), none], [], (am_sh, am_mm U))) (σ2 := ((d + 1), 134, 130, [some (.inr (.inr 45)), some (.inl x1), some (.inl x2), some (.inl x3), some (.inl x4), some (.inl x5), some (.inl (U 15 x5.toNat)), some (.inl (w32 ((-1) - (U 15 x5.toNat)))), none], [], (am_sh, am_mm U))) 3 (fun _ => rfl) (fun hc => ?_) (fun hc => ?_)
        · have h2a111 := h2a11.1 hc
          refine ev_seg (σ1 := ((d + 1), 134, 148, [some (.inr (.inr 45)), some (.inl x1), some (.inl x2), some (.inl x3), some (.inl x4), some (.inl x5), some (.inl (U 15 x5.toNat)), some (.inl (w32 ((-1) - (U 15 x5.toNat)))), none], [.inl (w32 ((-1) - (U 15 x5.toNat))), .inr (.inr 45)], (am_sh, am_mm U))) 2 (fun _ => rfl) ?_
          obtain ⟨U2, h2a111c, h2a111a⟩ := h2a111
          refine ev_cal (σc := (Jg_doWord_s0 d (w32 ((-1) - (U 15 x5.toNat))) U)) (fun _ => rfl) h2a111c ?_
          show Ev (am_kz N X) ((d + 1), 134, 151, [some (.inr (.inr 45)), some (.inl x1), some (.inl x2), some (.inl x3), some (.inl x4), some (.inl x5), some (.inl (U 15 x5.toNat)), some (.inl (w32 ((-1) - (U 15 x5.toNat)))), none], [], (am_sh, am_mm U2)) R
          refine ev_seg (σ1 := ((d + 1), 134, 50, [some (.inr (.inr 45)), some (.inl x1), some (.inl x2), some (.inl x3), some (.inl x4), some (.inl (w32 (x5 + 1))), some (.inl (U 15 x5.toNat)), some (.inl (w32 ((-1) - (U 15 x5.toNat)))), none], [], (am_sh, am_mm U2))) 2 (fun _ => rfl) ?_
          exact ev_le (L := [some (.inr (.inr 45)), some (.inl x1), some (.inl x2), some (.inl x3), some (.inl x4), some (.inl (w32 (x5 + 1))), none, none, none]) ⟨rfl, ⟨rfl, ⟨rfl, ⟨rfl, ⟨rfl, ⟨rfl, trivial⟩⟩⟩⟩⟩⟩ h2a111a
        · have h2a112 := h2a11.2 (Int.not_lt.mp hc)
          refine ev_seg (σ1 := ((d + 1), 134, 136, [some (.inr (.inr 45)), some (.inl x1), some (.inl x2), some (.inl x3), some (.inl x4), some (.inl x5), some (.inl (U 15 x5.toNat)), some (.inl (w32 ((-1) - (U 15 x5.toNat)))), none], [.inl x3, .inl x2, .inl (w32 ((-1) - (U 15 x5.toNat))), .inr (.inr 45), .inr (.inr 45)], (am_sh, am_mm U))) 5 (fun _ => rfl) ?_
          obtain ⟨r3, U3, h2a112c, h2a112a⟩ := h2a112
          refine ev_cal (σc := (Jg_ask_s0 d (w32 ((-1) - (U 15 x5.toNat))) x2 x3 U)) (fun _ => rfl) h2a112c ?_
          show Ev (am_kz N X) ((d + 1), 134, 139, [some (.inr (.inr 45)), some (.inl x1), some (.inl x2), some (.inl x3), some (.inl x4), some (.inl x5), some (.inl (U 15 x5.toNat)), some (.inl (w32 ((-1) - (U 15 x5.toNat)))), none], [.inl r3, .inr (.inr 45)], (am_sh, am_mm U3)) R
          obtain ⟨U4, h2a112ac, h2a112aa⟩ := h2a112a
          refine ev_cal (σc := (Jg_push_s0 d r3 U3)) (fun _ => rfl) h2a112ac ?_
          show Ev (am_kz N X) ((d + 1), 134, 142, [some (.inr (.inr 45)), some (.inl x1), some (.inl x2), some (.inl x3), some (.inl x4), some (.inl x5), some (.inl (U 15 x5.toNat)), some (.inl (w32 ((-1) - (U 15 x5.toNat)))), none], [], (am_sh, am_mm U4)) R
          refine ev_seg (σ1 := ((d + 1), 134, 50, [some (.inr (.inr 45)), some (.inl x1), some (.inl x2), some (.inl x3), some (.inl x4), some (.inl (w32 (x5 + 1))), some (.inl (U 15 x5.toNat)), some (.inl (w32 ((-1) - (U 15 x5.toNat)))), none], [], (am_sh, am_mm U4))) 3 (fun _ => rfl) ?_
          exact ev_le (L := [some (.inr (.inr 45)), some (.inl x1), some (.inl x2), some (.inl x3), some (.inl x4), some (.inl (w32 (x5 + 1))), none, none, none]) ⟨rfl, ⟨rfl, ⟨rfl, ⟨rfl, ⟨rfl, ⟨rfl, trivial⟩⟩⟩⟩⟩⟩ h2a112aa
      · have h2a12 := h2a1.2 (Int.not_lt.mp hc)
        refine ev_seg (σ1 := ((d + 1), 134, 97, [some (.inr (.inr 45)), some (.inl x1), some (.inl x2), some (.inl x3), some (.inl x4), some (.inl x5), some (.inl (U 15 x5.toNat)), some (.inl (w32 ((-1) - (U 15 x5.toNat)))), none], [.inr (.inr 45)], (am_sh, am_mm U))) 1 (fun _ => rfl) ?_
        obtain ⟨r5, U5, h2a12c, h2a12a⟩ := h2a12
        refine ev_cal (σc := (Jg_pop_s0 d U)) (fun _ => rfl) h2a12c ?_
        show Ev (am_kz N X) ((d + 1), 134, 100, [some (.inr (.inr 45)), some (.inl x1), some (.inl x2), some (.inl x3), some (.inl x4), some (.inl x5), some (.inl (U 15 x5.toNat)), some (.inl (w32 ((-1) - (U 15 x5.toNat)))), none], [.inl r5], (am_sh, am_mm U5)) R
        refine ev_seg (σ1 := ((d + 1), 134, 109, [some (.inr (.inr 45)), some (.inl x1), some (.inl x2), some (.inl x3), some (.inl x4), some (.inl x5), some (.inl (U 15 x5.toNat)), some (.inl (w32 ((-1) - (U 15 x5.toNat)))), some (.inl r5)], [.inr (.inr 45), .inl (w32 ((-100) - (U 15 x5.toNat))), .inr (.inr 45)], (am_sh, am_mm U5))) 6 (fun _ => rfl) ?_
        obtain ⟨r6, U6, h2a12ac, h2a12aa⟩ := h2a12a
        refine ev_cal (σc := (Jg_pop_s0 d U5)) (fun _ => rfl) h2a12ac ?_
        show Ev (am_kz N X) ((d + 1), 134, 112, [some (.inr (.inr 45)), some (.inl x1), some (.inl x2), some (.inl x3), some (.inl x4), some (.inl x5), some (.inl (U 15 x5.toNat)), some (.inl (w32 ((-1) - (U 15 x5.toNat)))), some (.inl r5)], [.inl r6, .inl (w32 ((-100) - (U 15 x5.toNat))), .inr (.inr 45)], (am_sh, am_mm U6)) R
        refine ev_seg (σ1 := ((d + 1), 134, 114, [some (.inr (.inr 45)), some (.inl x1), some (.inl x2), some (.inl x3), some (.inl x4), some (.inl x5), some (.inl (U 15 x5.toNat)), some (.inl (w32 ((-1) - (U 15 x5.toNat)))), some (.inl r5)], [.inl r5, .inl r6, .inl (w32 ((-100) - (U 15 x5.toNat))), .inr (.inr 45)], (am_sh, am_mm U6))) 1 (fun _ => rfl) ?_
        obtain ⟨r7, U7, h2a12aac, h2a12aaa⟩ := h2a12aa
        refine ev_cal (σc := (Jg_combine_s0 d (w32 ((-100) - (U 15 x5.toNat))) r6 r5 U6)) (fun _ => rfl) h2a12aac ?_
        show Ev (am_kz N X) ((d + 1), 134, 117, [some (.inr (.inr 45)), some (.inl x1), some (.inl x2), some (.inl x3), some (.inl x4), some (.inl x5), some (.inl (U 15 x5.toNat)), some (.inl (w32 ((-1) - (U 15 x5.toNat)))), some (.inl r5)], [.inl r7, .inr (.inr 45)], (am_sh, am_mm U7)) R
        obtain ⟨U8, h2a12aaac, h2a12aaaa⟩ := h2a12aaa
        refine ev_cal (σc := (Jg_push_s0 d r7 U7)) (fun _ => rfl) h2a12aaac ?_
        show Ev (am_kz N X) ((d + 1), 134, 120, [some (.inr (.inr 45)), some (.inl x1), some (.inl x2), some (.inl x3), some (.inl x4), some (.inl x5), some (.inl (U 15 x5.toNat)), some (.inl (w32 ((-1) - (U 15 x5.toNat)))), some (.inl r5)], [], (am_sh, am_mm U8)) R
        refine ev_seg (σ1 := ((d + 1), 134, 50, [some (.inr (.inr 45)), some (.inl x1), some (.inl x2), some (.inl x3), some (.inl x4), some (.inl (w32 (x5 + 1))), some (.inl (U 15 x5.toNat)), some (.inl (w32 ((-1) - (U 15 x5.toNat)))), some (.inl r5)], [], (am_sh, am_mm U8))) 3 (fun _ => rfl) ?_
        exact ev_le (L := [some (.inr (.inr 45)), some (.inl x1), some (.inl x2), some (.inl x3), some (.inl x4), some (.inl (w32 (x5 + 1))), none, none, none]) ⟨rfl, ⟨rfl, ⟨rfl, ⟨rfl, ⟨rfl, ⟨rfl, trivial⟩⟩⟩⟩⟩⟩ h2a12aaaa
    · have h2a2 := h2a.2 (Int.not_lt.mp hc)
      refine ev_seg (σ1 := ((d + 1), 134, 83, [some (.inr (.inr 45)), some (.inl x1), some (.inl x2), some (.inl x3), some (.inl x4), some (.inl x5), some (.inl (U 15 x5.toNat)), some (.inl (w32 ((-1) - (U 15 x5.toNat)))), none], [.inl (U 15 x5.toNat), .inr (.inr 45)], (am_sh, am_mm U))) 2 (fun _ => rfl) ?_
      obtain ⟨U9, h2a2c, h2a2a⟩ := h2a2
      refine ev_cal (σc := (Jg_push_s0 d (U 15 x5.toNat) U)) (fun _ => rfl) h2a2c ?_
      show Ev (am_kz N X) ((d + 1), 134, 86, [some (.inr (.inr 45)), some (.inl x1), some (.inl x2), some (.inl x3), some (.inl x4), some (.inl x5), some (.inl (U 15 x5.toNat)), some (.inl (w32 ((-1) - (U 15 x5.toNat)))), none], [], (am_sh, am_mm U9)) R
      refine ev_seg (σ1 := ((d + 1), 134, 50, [some (.inr (.inr 45)), some (.inl x1), some (.inl x2), some (.inl x3), some (.inl x4), some (.inl (w32 (x5 + 1))), some (.inl (U 15 x5.toNat)), some (.inl (w32 ((-1) - (U 15 x5.toNat)))), none], [], (am_sh, am_mm U9))) 3 (fun _ => rfl) ?_
      exact ev_le (L := [some (.inr (.inr 45)), some (.inl x1), some (.inl x2), some (.inl x3), some (.inl x4), some (.inl (w32 (x5 + 1))), none, none, none]) ⟨rfl, ⟨rfl, ⟨rfl, ⟨rfl, ⟨rfl, ⟨rfl, trivial⟩⟩⟩⟩⟩⟩ h2a2a
set_option maxRecDepth 8000 in
theorem M_lawHolds_r0 {N : Nat} {X : Nat → Int} {d : Nat} {x1 x2 x3 x4 : Int} {U : am_U} {R : Option am_V × am_M} (h : (0 ≤ (w32 ((w32 (8 * (U 86 13))) + x2)) ∧ (w32 ((w32 (8 * (U 86 13))) + x2)) < 16) ∧ ∃ (r1 : Int) (U1 : am_U), EvK N X (M_asks_s0 d x1 x3 x4 (U 102 ((w32 ((w32 (8 * (U 86 13))) + x2)).toNat)) (U 103 ((w32 ((w32 (8 * (U 86 13))) + x2)).toNat)) U) (rI r1 U1) ∧ (r1 = 0 ∨ r1 = 1) ∧ R = rI r1 U1) : EvK N X (M_lawHolds_s0 (d + 1) x1 x2 x3 x4 U) R := by
  show Ev (am_kz N X) ((d + 1), 136, 0, [some (.inr (.inr 86)), some (.inl x1), some (.inl x2), some (.inl x3), some (.inr (.inl x4)), none], [], (am_sh, am_mm U)) R
  refine ev_seg (σ1 := ((d + 1), 136, 18, [some (.inr (.inr 86)), some (.inl x1), some (.inl x2), some (.inl x3), some (.inr (.inl x4)), none], [.inl (w32 ((w32 (8 * (U 86 13))) + x2)), .inr (.inr 102), .inr (.inl x4), .inl x3, .inl x1, .inr (.inr 86)], (am_sh, am_mm U))) 12 (fun _ => rfl) ?_
  refine eu_iald 102 (n := 16) rfl (by decide) rfl (fun _ => rfl) h.1 ?_
  show Ev (am_kz N X) ((d + 1), 136, 19, [some (.inr (.inr 86)), some (.inl x1), some (.inl x2), some (.inl x3), some (.inr (.inl x4)), none], [.inl (U 102 ((w32 ((w32 (8 * (U 86 13))) + x2)).toNat)), .inr (.inl x4), .inl x3, .inl x1, .inr (.inr 86)], (am_sh, am_mm U)) R
  have ha := h.2
  refine ev_seg (σ1 := ((d + 1), 136, 32, [some (.inr (.inr 86)), some (.inl x1), some (.inl x2), some (.inl x3), some (.inr (.inl x4)), none], [.inl (w32 ((w32 (8 * (U 86 13))) + x2)), .inr (.inr 103), .inl (U 102 ((w32 ((w32 (8 * (U 86 13))) + x2)).toNat)), .inr (.inl x4), .inl x3, .inl x1, .inr (.inr 86)], (am_sh, am_mm U))) 8 (fun _ => rfl) ?_
  refine eu_iald 103 (n := 16) rfl (by decide) rfl (fun _ => rfl) h.1 ?_
  show Ev (am_kz N X) ((d + 1), 136, 33, [some (.inr (.inr 86)), some (.inl x1), some (.inl x2), some (.inl x3), some (.inr (.inl x4)), none], [.inl (U 103 ((w32 ((w32 (8 * (U 86 13))) + x2)).toNat)), .inl (U 102 ((w32 ((w32 (8 * (U 86 13))) + x2)).toNat)), .inr (.inl x4), .inl x3, .inl x1, .inr (.inr 86)], (am_sh, am_mm U)) R
  obtain ⟨r1, U1, hac, haa⟩ := ha
  refine ev_cal (σc := (M_asks_s0 d x1 x3 x4 (U 102 ((w32 ((w32 (8 * (U 86 13))) + x2)).toNat)) (U 103 ((w32 ((w32 (8 * (U 86 13))) + x2)).toNat)) U)) (fun _ => rfl) hac ?_
  show Ev (am_kz N X) ((d + 1), 136, 36, [some (.inr (.inr 86)), some (.inl x1), some (.inl x2), some (.inl x3), some (.inr (.inl x4)), none], [.inl r1], (am_sh, am_mm U1)) R
  rw [haa.2]
  exact ev_retz rfl rfl haa.1
set_option maxRecDepth 8000 in
theorem M_asks_r0 {N : Nat} {X : Nat → Int} {d : Nat} {x1 x2 x3 x5 x6 : Int} {U : am_U} {R : Option am_V × am_M} (h : ∃ (r1 : Int) (U1 : am_U), EvK N X (M_answers_s0 d x5 x6 (am_upd (am_upd (am_upd U 86 61 x1) 86 62 x2) 86 63 x3)) (rI r1 U1) ∧ (r1 = 0 ∨ r1 = 1) ∧ R = rI r1 U1) : EvK N X (M_asks_s0 (d + 1) x1 x2 x3 x5 x6 U) R := by
  show Ev (am_kz N X) ((d + 1), 135, 0, [some (.inr (.inr 86)), some (.inl x1), some (.inl x2), some (.inr (.inl x3)), none, some (.inl x5), some (.inl x6)], [], (am_sh, am_mm U)) R
  refine ev_seg (σ1 := ((d + 1), 135, 2, [some (.inr (.inr 86)), some (.inl x1), some (.inl x2), some (.inr (.inl x3)), none, some (.inl x5), some (.inl x6)], [.inl x1, .inr (.inr 86)], (am_sh, am_mm U))) 2 (fun _ => rfl) ?_
  refine eu_puti 86 (n := 90) rfl (by decide) rfl rfl ?_
  show Ev (am_kz N X) ((d + 1), 135, 5, [some (.inr (.inr 86)), some (.inl x1), some (.inl x2), some (.inr (.inl x3)), none, some (.inl x5), some (.inl x6)], [], (am_sh, am_mm (am_upd U 86 61 x1))) R
  refine ev_seg (σ1 := ((d + 1), 135, 7, [some (.inr (.inr 86)), some (.inl x1), some (.inl x2), some (.inr (.inl x3)), none, some (.inl x5), some (.inl x6)], [.inl x2, .inr (.inr 86)], (am_sh, am_mm (am_upd U 86 61 x1)))) 2 (fun _ => rfl) ?_
  refine eu_puti 86 (n := 90) rfl (by decide) rfl rfl ?_
  show Ev (am_kz N X) ((d + 1), 135, 10, [some (.inr (.inr 86)), some (.inl x1), some (.inl x2), some (.inr (.inl x3)), none, some (.inl x5), some (.inl x6)], [], (am_sh, am_mm (am_upd (am_upd U 86 61 x1) 86 62 x2))) R
  refine ev_seg (σ1 := ((d + 1), 135, 12, [some (.inr (.inr 86)), some (.inl x1), some (.inl x2), some (.inr (.inl x3)), none, some (.inl x5), some (.inl x6)], [.inr (.inl x3), .inr (.inr 86)], (am_sh, am_mm (am_upd (am_upd U 86 61 x1) 86 62 x2)))) 2 (fun _ => rfl) ?_
  refine eu_putj 86 (n := 90) rfl (by decide) rfl rfl ?_
  show Ev (am_kz N X) ((d + 1), 135, 15, [some (.inr (.inr 86)), some (.inl x1), some (.inl x2), some (.inr (.inl x3)), none, some (.inl x5), some (.inl x6)], [], (am_sh, am_mm (am_upd (am_upd (am_upd U 86 61 x1) 86 62 x2) 86 63 x3))) R
  refine ev_seg (σ1 := ((d + 1), 135, 20, [some (.inr (.inr 86)), some (.inl x1), some (.inl x2), some (.inr (.inl x3)), none, some (.inl x5), some (.inl x6)], [.inl x6, .inl x5, .inr (.inr 86)], (am_sh, am_mm (am_upd (am_upd (am_upd U 86 61 x1) 86 62 x2) 86 63 x3)))) 3 (fun _ => rfl) ?_
  obtain ⟨r1, U1, hc, ha⟩ := h
  refine ev_cal (σc := (M_answers_s0 d x5 x6 (am_upd (am_upd (am_upd U 86 61 x1) 86 62 x2) 86 63 x3))) (fun _ => rfl) hc ?_
  show Ev (am_kz N X) ((d + 1), 135, 23, [some (.inr (.inr 86)), some (.inl x1), some (.inl x2), some (.inr (.inl x3)), none, some (.inl x5), some (.inl x6)], [.inl r1], (am_sh, am_mm U1)) R
  rw [ha.2]
  exact ev_retz rfl rfl ha.1
set_option maxRecDepth 8000 in
theorem Hs_keep_r0 {N : Nat} {X : Nat → Int} {d : Nat} {U : am_U} {R : Option am_V × am_M} (h : (0 ≤ (Int.tmod (w32 ((U 56 1) + 1)) 20) ∧ (Int.tmod (w32 ((U 56 1) + 1)) 20) < 20) ∧ ∃ U1 : am_U, EvK N X (Fk_saveRow_s0 d (58 + (Int.tmod (w32 ((U 56 1) + 1)) 20).toNat) (am_upd U 56 1 (Int.tmod (w32 ((U 56 1) + 1)) 20))) (rV U1) ∧ R = rV (am_upd U1 56 2 (if 20 < (w32 ((U1 56 2) + 1)) then 20 else (w32 ((U1 56 2) + 1))))) : EvK N X (Hs_keep_s0 (d + 1) U) R := by
  show Ev (am_kz N X) ((d + 1), 137, 0, [some (.inr (.inr 56)), some (.inr (.inr 16))], [], (am_sh, am_mm U)) R
  refine ev_seg (σ1 := ((d + 1), 137, 9, [some (.inr (.inr 56)), some (.inr (.inr 16))], [.inl 20, .inl (w32 ((U 56 1) + 1)), .inr (.inr 56)], (am_sh, am_mm U))) 6 (fun _ => rfl) ?_
  refine ev_irem rfl (by decide) ?_
  show Ev (am_kz N X) ((d + 1), 137, 10, [some (.inr (.inr 56)), some (.inr (.inr 16))], [.inl (Int.tmod (w32 ((U 56 1) + 1)) 20), .inr (.inr 56)], (am_sh, am_mm U)) R
  refine eu_puti 56 (n := 3) rfl (by decide) rfl rfl ?_
  show Ev (am_kz N X) ((d + 1), 137, 13, [some (.inr (.inr 56)), some (.inr (.inr 16))], [], (am_sh, am_mm (am_upd U 56 1 (Int.tmod (w32 ((U 56 1) + 1)) 20)))) R
  refine ev_seg (σ1 := ((d + 1), 137, 22, [some (.inr (.inr 56)), some (.inr (.inr 16))], [.inl (Int.tmod (w32 ((U 56 1) + 1)) 20), .inr (.inr 57), .inr (.inr 16)], (am_sh, am_mm (am_upd U 56 1 (Int.tmod (w32 ((U 56 1) + 1)) 20))))) 5 (fun _ => rfl) ?_
  refine ev_aald (n := 20) rfl (by decide) rfl h.1 ?_
  show Ev (am_kz N X) ((d + 1), 137, 23, [some (.inr (.inr 56)), some (.inr (.inr 16))], [.inr (.inr ((58 + (Int.tmod (w32 ((U 56 1) + 1)) 20).toNat : Nat) : Int)), .inr (.inr 16)], (am_sh, am_mm (am_upd U 56 1 (Int.tmod (w32 ((U 56 1) + 1)) 20)))) R
  have ha := h.2
  obtain ⟨U1, hac, haa⟩ := ha
  refine ev_cal (σc := (Fk_saveRow_s0 d (58 + (Int.tmod (w32 ((U 56 1) + 1)) 20).toNat) (am_upd U 56 1 (Int.tmod (w32 ((U 56 1) + 1)) 20)))) (fun _ => rfl) hac ?_
  show Ev (am_kz N X) ((d + 1), 137, 26, [some (.inr (.inr 56)), some (.inr (.inr 16))], [], (am_sh, am_mm U1)) R
  refine ev_seg (σ1 := ((d + 1), 137, 38, [some (.inr (.inr 56)), some (.inr (.inr 16))], [.inl (if 20 < (w32 ((U1 56 2) + 1)) then 20 else (w32 ((U1 56 2) + 1))), .inr (.inr 56)], (am_sh, am_mm U1))) 7 (fun _ => rfl) ?_
  refine eu_puti 56 (n := 3) rfl (by decide) rfl rfl ?_
  show Ev (am_kz N X) ((d + 1), 137, 41, [some (.inr (.inr 56)), some (.inr (.inr 16))], [], (am_sh, am_mm (am_upd U1 56 2 (if 20 < (w32 ((U1 56 2) + 1)) then 20 else (w32 ((U1 56 2) + 1)))))) R
  subst haa
  exact ev_end 1 (fun _ => rfl)
set_option maxRecDepth 8000 in
theorem Fk_settle_16_r0 {N : Nat} {X : Nat → Int} {d : Nat} {x1 x2 : Int} {U : am_U} {R : Option am_V × am_M} (h : ((x1 < 0) → R = rV U) ∧ ((0 ≤ x1) → ((x1 < 16) → (0 ≤ x1 ∧ x1 < 16) ∧ (((U 18 x1.toNat) < 0) → ((x2 < 0) → R = rV (am_upd U 18 x1.toNat (-1))) ∧ ((0 ≤ x2) → ((12 ≤ x2) → R = rV (am_upd U 18 x1.toNat (-1))) ∧ ((x2 < 12) → (0 ≤ x2 ∧ x2 < 12) ∧ R = rV (am_upd (am_upd (am_upd U 18 x1.toNat (-1)) 18 x1.toNat x2) 19 x2.toNat (am_or (U 19 x2.toNat) (am_shl 1 x1)))))) ∧ ((0 ≤ (U 18 x1.toNat)) → ((12 ≤ (U 18 x1.toNat)) → ((x2 < 0) → R = rV (am_upd U 18 x1.toNat (-1))) ∧ ((0 ≤ x2) → ((12 ≤ x2) → R = rV (am_upd U 18 x1.toNat (-1))) ∧ ((x2 < 12) → (0 ≤ x2 ∧ x2 < 12) ∧ R = rV (am_upd (am_upd (am_upd U 18 x1.toNat (-1)) 18 x1.toNat x2) 19 x2.toNat (am_or (U 19 x2.toNat) (am_shl 1 x1)))))) ∧ (((U 18 x1.toNat) < 12) → (0 ≤ (U 18 x1.toNat) ∧ (U 18 x1.toNat) < 12) ∧ ((x2 < 0) → R = rV (am_upd (am_upd U 19 ((U 18 x1.toNat).toNat) (am_and (U 19 ((U 18 x1.toNat).toNat)) (am_xor (am_shl 1 x1) (-1)))) 18 x1.toNat (-1))) ∧ ((0 ≤ x2) → ((12 ≤ x2) → R = rV (am_upd (am_upd U 19 ((U 18 x1.toNat).toNat) (am_and (U 19 ((U 18 x1.toNat).toNat)) (am_xor (am_shl 1 x1) (-1)))) 18 x1.toNat (-1))) ∧ ((x2 < 12) → (0 ≤ x2 ∧ x2 < 12) ∧ R = rV (am_upd (am_upd (am_upd (am_upd U 19 ((U 18 x1.toNat).toNat) (am_and (U 19 ((U 18 x1.toNat).toNat)) (am_xor (am_shl 1 x1) (-1)))) 18 x1.toNat (-1)) 18 x1.toNat x2) 19 x2.toNat (am_or ((am_upd U 19 ((U 18 x1.toNat).toNat) (am_and (U 19 ((U 18 x1.toNat).toNat)) (am_xor (am_shl 1 x1) (-1)))) 19 x2.toNat) (am_shl 1 x1)))))))) ∧ ((16 ≤ x1) → R = rV U))) : EvK N X (Fk_settle_16_s0 d x1 x2 U) R := by
  show Ev (am_kz N X) (d, 138, 0, [some (.inr (.inr 16)), some (.inl x1), some (.inl x2), none], [], (am_sh, am_mm U)) R
  refine ev_br (P := x1 < 0) (σ1 := (d, 138, 10, [some (.inr (.inr 16)), some (.inl x1), some (.inl x2), none], [], (am_sh, am_mm U))) (σ2 := (d, 138, 4, [some (.inr (.inr 16)), some (.inl x1), some (.inl x2), none], [], (am_sh, am_mm U))) 2 (fun _ => rfl) (fun hc => ?_) (fun hc => ?_)
  · have h1 := h.1 hc
    subst h1
    exact ev_end 1 (fun _ => rfl)
  · have h2 := h.2 (Int.not_lt.mp hc)
    refine ev_br (P := x1 < 16) (σ1 := (d, 138, 11, [some (.inr (.inr 16)), some (.inl x1), some (.inl x2), none], [], (am_sh, am_mm U))) (σ2 := (d, 138, 10, [some (.inr (.inr 16)), some (.inl x1), some (.inl x2), none], [], (am_sh, am_mm U))) 3 (fun _ => rfl) (fun hc => ?_) (fun hc => ?_)
    · have h21 := h2.1 hc
      refine ev_seg (σ1 := (d, 138, 16, [some (.inr (.inr 16)), some (.inl x1), some (.inl x2), none], [.inl x1, .inr (.inr 18)], (am_sh, am_mm U))) 3 (fun _ => rfl) ?_
      refine eu_iald 18 (n := 16) rfl (by decide) rfl (fun _ => rfl) h21.1 ?_
      show Ev (am_kz N X) (d, 138, 17, [some (.inr (.inr 16)), some (.inl x1), some (.inl x2), none], [.inl (U 18 x1.toNat)], (am_sh, am_mm U)) R
      have h21a := h21.2
      refine ev_br (P := (U 18 x1.toNat) < 0) (σ1 := (d, 138, 42, [some (.inr (.inr 16)), some (.inl x1), some (.inl x2), some (.inl (U 18 x1.toNat))], [], (am_sh, am_mm U))) (σ2 := (d, 138, 22, [some (.inr (.inr 16)), some (.inl x1), some (.inl x2), some (.inl (U 18 x1.toNat))], [], (am_sh, am_mm U))) 3 (fun _ => rfl) (fun hc => ?_) (fun hc => ?_)
      · have h21a1 := h21a.1 hc
        refine ev_seg (σ1 := (d, 138, 48, [some (.inr (.inr 16)), some (.inl x1), some (.inl x2), some (.inl (U 18 x1.toNat))], [.inl (-1), .inl x1, .inr (.inr 18)], (am_sh, am_mm U))) 4 (fun _ => rfl) ?_
        refine eu_iast 18 (n := 16) rfl (by decide) rfl (fun _ => rfl) h21.1 ?_
        show Ev (am_kz N X) (d, 138, 49, [some (.inr (.inr 16)), some (.inl x1), some (.inl x2), some (.inl (U 18 x1.toNat))], [], (am_sh, am_mm (am_upd U 18 x1.toNat (-1)))) R
        refine ev_br (P := x2 < 0) (σ1 := (d, 138, 78, [some (.inr (.inr 16)), some (.inl x1), some (.inl x2), some (.inl (U 18 x1.toNat))], [], (am_sh, am_mm (am_upd U 18 x1.toNat (-1))))) (σ2 := (d, 138, 53, [some (.inr (.inr 16)), some (.inl x1), some (.inl x2), some (.inl (U 18 x1.toNat))], [], (am_sh, am_mm (am_upd U 18 x1.toNat (-1))))) 2 (fun _ => rfl) (fun hc => ?_) (fun hc => ?_)
        · have h21a11 := h21a1.1 hc
          subst h21a11
          exact ev_end 1 (fun _ => rfl)
        · have h21a12 := h21a1.2 (Int.not_lt.mp hc)
          refine ev_br (P := 12 ≤ x2) (σ1 := (d, 138, 78, [some (.inr (.inr 16)), some (.inl x1), some (.inl x2), some (.inl (U 18 x1.toNat))], [], (am_sh, am_mm (am_upd U 18 x1.toNat (-1))))) (σ2 := (d, 138, 59, [some (.inr (.inr 16)), some (.inl x1), some (.inl x2), some (.inl (U 18 x1.toNat))], [], (am_sh, am_mm (am_upd U 18 x1.toNat (-1))))) 3 (fun _ => rfl) (fun hc => ?_) (fun hc => ?_)
          · have h21a121 := h21a12.1 hc
            subst h21a121
            exact ev_end 1 (fun _ => rfl)
          · have h21a122 := h21a12.2 (Int.not_le.mp hc)
            refine ev_seg (σ1 := (d, 138, 65, [some (.inr (.inr 16)), some (.inl x1), some (.inl x2), some (.inl (U 18 x1.toNat))], [.inl x2, .inl x1, .inr (.inr 18)], (am_sh, am_mm (am_upd U 18 x1.toNat (-1))))) 4 (fun _ => rfl) ?_
            refine eu_iast 18 (n := 16) rfl (by decide) rfl (fun _ => rfl) h21.1 ?_
            show Ev (am_kz N X) (d, 138, 66, [some (.inr (.inr 16)), some (.inl x1), some (.inl x2), some (.inl (U 18 x1.toNat))], [], (am_sh, am_mm (am_upd (am_upd U 18 x1.toNat (-1)) 18 x1.toNat x2))) R
            refine ev_seg (σ1 := (d, 138, 72, [some (.inr (.inr 16)), some (.inl x1), some (.inl x2), some (.inl (U 18 x1.toNat))], [.inl x2, .inr (.inr 19), .inl x2, .inr (.inr 19)], (am_sh, am_mm (am_upd (am_upd U 18 x1.toNat (-1)) 18 x1.toNat x2)))) 4 (fun _ => rfl) ?_
            refine eu_iald 19 (n := 12) rfl (by decide) rfl (fun _ => rfl) h21a122.1 ?_
            show Ev (am_kz N X) (d, 138, 73, [some (.inr (.inr 16)), some (.inl x1), some (.inl x2), some (.inl (U 18 x1.toNat))], [.inl (U 19 x2.toNat), .inl x2, .inr (.inr 19)], (am_sh, am_mm (am_upd (am_upd U 18 x1.toNat (-1)) 18 x1.toNat x2))) R
            have h21a122a := h21a122.2
            refine ev_seg (σ1 := (d, 138, 77, [some (.inr (.inr 16)), some (.inl x1), some (.inl x2), some (.inl (U 18 x1.toNat))], [.inl (am_or (U 19 x2.toNat) (am_shl 1 x1)), .inl x2, .inr (.inr 19)], (am_sh, am_mm (am_upd (am_upd U 18 x1.toNat (-1)) 18 x1.toNat x2)))) 4 (fun _ => rfl) ?_
            refine eu_iast 19 (n := 12) rfl (by decide) rfl (fun _ => rfl) h21a122.1 ?_
            show Ev (am_kz N X) (d, 138, 78, [some (.inr (.inr 16)), some (.inl x1), some (.inl x2), some (.inl (U 18 x1.toNat))], [], (am_sh, am_mm (am_upd (am_upd (am_upd U 18 x1.toNat (-1)) 18 x1.toNat x2) 19 x2.toNat (am_or (U 19 x2.toNat) (am_shl 1 x1))))) R
            subst h21a122a
            exact ev_end 1 (fun _ => rfl)
      · have h21a2 := h21a.2 (Int.not_lt.mp hc)
        refine ev_br (P := 12 ≤ (U 18 x1.toNat)) (σ1 := (d, 138, 42, [some (.inr (.inr 16)), some (.inl x1), some (.inl x2), some (.inl (U 18 x1.toNat))], [], (am_sh, am_mm U))) (σ2 := (d, 138, 28, [some (.inr (.inr 16)), some (.inl x1), some (.inl x2), some (.inl (U 18 x1.toNat))], [], (am_sh, am_mm U))) 3 (fun _ => rfl) (fun hc => ?_) (fun hc => ?_)
        · have h21a21 := h21a2.1 hc
          refine ev_seg (σ1 := (d, 138, 48, [some (.inr (.inr 16)), some (.inl x1), some (.inl x2), some (.inl (U 18 x1.toNat))], [.inl (-1), .inl x1, .inr (.inr 18)], (am_sh, am_mm U))) 4 (fun _ => rfl) ?_
          refine eu_iast 18 (n := 16) rfl (by decide) rfl (fun _ => rfl) h21.1 ?_
          show Ev (am_kz N X) (d, 138, 49, [some (.inr (.inr 16)), some (.inl x1), some (.inl x2), some (.inl (U 18 x1.toNat))], [], (am_sh, am_mm (am_upd U 18 x1.toNat (-1)))) R
          refine ev_br (P := x2 < 0) (σ1 := (d, 138, 78, [some (.inr (.inr 16)), some (.inl x1), some (.inl x2), some (.inl (U 18 x1.toNat))], [], (am_sh, am_mm (am_upd U 18 x1.toNat (-1))))) (σ2 := (d, 138, 53, [some (.inr (.inr 16)), some (.inl x1), some (.inl x2), some (.inl (U 18 x1.toNat))], [], (am_sh, am_mm (am_upd U 18 x1.toNat (-1))))) 2 (fun _ => rfl) (fun hc => ?_) (fun hc => ?_)
          · have h21a211 := h21a21.1 hc
            subst h21a211
            exact ev_end 1 (fun _ => rfl)
          · have h21a212 := h21a21.2 (Int.not_lt.mp hc)
            refine ev_br (P := 12 ≤ x2) (σ1 := (d, 138, 78, [some (.inr (.inr 16)), some (.inl x1), some (.inl x2), some (.inl (U 18 x1.toNat))], [], (am_sh, am_mm (am_upd U 18 x1.toNat (-1))))) (σ2 := (d, 138, 59, [some (.inr (.inr 16)), some (.inl x1), some (.inl x2), some (.inl (U 18 x1.toNat))], [], (am_sh, am_mm (am_upd U 18 x1.toNat (-1))))) 3 (fun _ => rfl) (fun hc => ?_) (fun hc => ?_)
            · have h21a2121 := h21a212.1 hc
              subst h21a2121
              exact ev_end 1 (fun _ => rfl)
            · have h21a2122 := h21a212.2 (Int.not_le.mp hc)
              refine ev_seg (σ1 := (d, 138, 65, [some (.inr (.inr 16)), some (.inl x1), some (.inl x2), some (.inl (U 18 x1.toNat))], [.inl x2, .inl x1, .inr (.inr 18)], (am_sh, am_mm (am_upd U 18 x1.toNat (-1))))) 4 (fun _ => rfl) ?_
              refine eu_iast 18 (n := 16) rfl (by decide) rfl (fun _ => rfl) h21.1 ?_
              show Ev (am_kz N X) (d, 138, 66, [some (.inr (.inr 16)), some (.inl x1), some (.inl x2), some (.inl (U 18 x1.toNat))], [], (am_sh, am_mm (am_upd (am_upd U 18 x1.toNat (-1)) 18 x1.toNat x2))) R
              refine ev_seg (σ1 := (d, 138, 72, [some (.inr (.inr 16)), some (.inl x1), some (.inl x2), some (.inl (U 18 x1.toNat))], [.inl x2, .inr (.inr 19), .inl x2, .inr (.inr 19)], (am_sh, am_mm (am_upd (am_upd U 18 x1.toNat (-1)) 18 x1.toNat x2)))) 4 (fun _ => rfl) ?_
              refine eu_iald 19 (n := 12) rfl (by decide) rfl (fun _ => rfl) h21a2122.1 ?_
              show Ev (am_kz N X) (d, 138, 73, [some (.inr (.inr 16)), some (.inl x1), some (.inl x2), some (.inl (U 18 x1.toNat))], [.inl (U 19 x2.toNat), .inl x2, .inr (.inr 19)], (am_sh, am_mm (am_upd (am_upd U 18 x1.toNat (-1)) 18 x1.toNat x2))) R
              have h21a2122a := h21a2122.2
              refine ev_seg (σ1 := (d, 138, 77, [some (.inr (.inr 16)), some (.inl x1), some (.inl x2), some (.inl (U 18 x1.toNat))], [.inl (am_or (U 19 x2.toNat) (am_shl 1 x1)), .inl x2, .inr (.inr 19)], (am_sh, am_mm (am_upd (am_upd U 18 x1.toNat (-1)) 18 x1.toNat x2)))) 4 (fun _ => rfl) ?_
              refine eu_iast 19 (n := 12) rfl (by decide) rfl (fun _ => rfl) h21a2122.1 ?_
              show Ev (am_kz N X) (d, 138, 78, [some (.inr (.inr 16)), some (.inl x1), some (.inl x2), some (.inl (U 18 x1.toNat))], [], (am_sh, am_mm (am_upd (am_upd (am_upd U 18 x1.toNat (-1)) 18 x1.toNat x2) 19 x2.toNat (am_or (U 19 x2.toNat) (am_shl 1 x1))))) R
              subst h21a2122a
              exact ev_end 1 (fun _ => rfl)
        · have h21a22 := h21a2.2 (Int.not_le.mp hc)
          refine ev_seg (σ1 := (d, 138, 34, [some (.inr (.inr 16)), some (.inl x1), some (.inl x2), some (.inl (U 18 x1.toNat))], [.inl (U 18 x1.toNat), .inr (.inr 19), .inl (U 18 x1.toNat), .inr (.inr 19)], (am_sh, am_mm U))) 4 (fun _ => rfl) ?_
          refine eu_iald 19 (n := 12) rfl (by decide) rfl (fun _ => rfl) h21a22.1 ?_
          show Ev (am_kz N X) (d, 138, 35, [some (.inr (.inr 16)), some (.inl x1), some (.inl x2), some (.inl (U 18 x1.toNat))], [.inl (U 19 ((U 18 x1.toNat).toNat)), .inl (U 18 x1.toNat), .inr (.inr 19)], (am_sh, am_mm U)) R
          have h21a22a := h21a22.2
          refine ev_seg (σ1 := (d, 138, 41, [some (.inr (.inr 16)), some (.inl x1), some (.inl x2), some (.inl (U 18 x1.toNat))], [.inl (am_and (U 19 ((U 18 x1.toNat).toNat)) (am_xor (am_shl 1 x1) (-1))), .inl (U 18 x1.toNat), .inr (.inr 19)], (am_sh, am_mm U))) 6 (fun _ => rfl) ?_
          refine eu_iast 19 (n := 12) rfl (by decide) rfl (fun _ => rfl) h21a22.1 ?_
          show Ev (am_kz N X) (d, 138, 42, [some (.inr (.inr 16)), some (.inl x1), some (.inl x2), some (.inl (U 18 x1.toNat))], [], (am_sh, am_mm (am_upd U 19 ((U 18 x1.toNat).toNat) (am_and (U 19 ((U 18 x1.toNat).toNat)) (am_xor (am_shl 1 x1) (-1)))))) R
          refine ev_seg (σ1 := (d, 138, 48, [some (.inr (.inr 16)), some (.inl x1), some (.inl x2), some (.inl (U 18 x1.toNat))], [.inl (-1), .inl x1, .inr (.inr 18)], (am_sh, am_mm (am_upd U 19 ((U 18 x1.toNat).toNat) (am_and (U 19 ((U 18 x1.toNat).toNat)) (am_xor (am_shl 1 x1) (-1))))))) 4 (fun _ => rfl) ?_
          refine eu_iast 18 (n := 16) rfl (by decide) rfl (fun _ => rfl) h21.1 ?_
          show Ev (am_kz N X) (d, 138, 49, [some (.inr (.inr 16)), some (.inl x1), some (.inl x2), some (.inl (U 18 x1.toNat))], [], (am_sh, am_mm (am_upd (am_upd U 19 ((U 18 x1.toNat).toNat) (am_and (U 19 ((U 18 x1.toNat).toNat)) (am_xor (am_shl 1 x1) (-1)))) 18 x1.toNat (-1)))) R
          refine ev_br (P := x2 < 0) (σ1 := (d, 138, 78, [some (.inr (.inr 16)), some (.inl x1), some (.inl x2), some (.inl (U 18 x1.toNat))], [], (am_sh, am_mm (am_upd (am_upd U 19 ((U 18 x1.toNat).toNat) (am_and (U 19 ((U 18 x1.toNat).toNat)) (am_xor (am_shl 1 x1) (-1)))) 18 x1.toNat (-1))))) (σ2 := (d, 138, 53, [some (.inr (.inr 16)), some (.inl x1), some (.inl x2), some (.inl (U 18 x1.toNat))], [], (am_sh, am_mm (am_upd (am_upd U 19 ((U 18 x1.toNat).toNat) (am_and (U 19 ((U 18 x1.toNat).toNat)) (am_xor (am_shl 1 x1) (-1)))) 18 x1.toNat (-1))))) 2 (fun _ => rfl) (fun hc => ?_) (fun hc => ?_)
          · have h21a22a1 := h21a22a.1 hc
            subst h21a22a1
            exact ev_end 1 (fun _ => rfl)
          · have h21a22a2 := h21a22a.2 (Int.not_lt.mp hc)
            refine ev_br (P := 12 ≤ x2) (σ1 := (d, 138, 78, [some (.inr (.inr 16)), some (.inl x1), some (.inl x2), some (.inl (U 18 x1.toNat))], [], (am_sh, am_mm (am_upd (am_upd U 19 ((U 18 x1.toNat).toNat) (am_and (U 19 ((U 18 x1.toNat).toNat)) (am_xor (am_shl 1 x1) (-1)))) 18 x1.toNat (-1))))) (σ2 := (d, 138, 59, [some (.inr (.inr 16)), some (.inl x1), some (.inl x2), some (.inl (U 18 x1.toNat))], [], (am_sh, am_mm (am_upd (am_upd U 19 ((U 18 x1.toNat).toNat) (am_and (U 19 ((U 18 x1.toNat).toNat)) (am_xor (am_shl 1 x1) (-1)))) 18 x1.toNat (-1))))) 3 (fun _ => rfl) (fun hc => ?_) (fun hc => ?_)
            · have h21a22a21 := h21a22a2.1 hc
              subst h21a22a21
              exact ev_end 1 (fun _ => rfl)
            · have h21a22a22 := h21a22a2.2 (Int.not_le.mp hc)
              refine ev_seg (σ1 := (d, 138, 65, [some (.inr (.inr 16)), some (.inl x1), some (.inl x2), some (.inl (U 18 x1.toNat))], [.inl x2, .inl x1, .inr (.inr 18)], (am_sh, am_mm (am_upd (am_upd U 19 ((U 18 x1.toNat).toNat) (am_and (U 19 ((U 18 x1.toNat).toNat)) (am_xor (am_shl 1 x1) (-1)))) 18 x1.toNat (-1))))) 4 (fun _ => rfl) ?_
              refine eu_iast 18 (n := 16) rfl (by decide) rfl (fun _ => rfl) h21.1 ?_
              show Ev (am_kz N X) (d, 138, 66, [some (.inr (.inr 16)), some (.inl x1), some (.inl x2), some (.inl (U 18 x1.toNat))], [], (am_sh, am_mm (am_upd (am_upd (am_upd U 19 ((U 18 x1.toNat).toNat) (am_and (U 19 ((U 18 x1.toNat).toNat)) (am_xor (am_shl 1 x1) (-1)))) 18 x1.toNat (-1)) 18 x1.toNat x2))) R
              refine ev_seg (σ1 := (d, 138, 72, [some (.inr (.inr 16)), some (.inl x1), some (.inl x2), some (.inl (U 18 x1.toNat))], [.inl x2, .inr (.inr 19), .inl x2, .inr (.inr 19)], (am_sh, am_mm (am_upd (am_upd (am_upd U 19 ((U 18 x1.toNat).toNat) (am_and (U 19 ((U 18 x1.toNat).toNat)) (am_xor (am_shl 1 x1) (-1)))) 18 x1.toNat (-1)) 18 x1.toNat x2)))) 4 (fun _ => rfl) ?_
              refine eu_iald 19 (n := 12) rfl (by decide) rfl (fun _ => rfl) h21a22a22.1 ?_
              show Ev (am_kz N X) (d, 138, 73, [some (.inr (.inr 16)), some (.inl x1), some (.inl x2), some (.inl (U 18 x1.toNat))], [.inl ((am_upd U 19 ((U 18 x1.toNat).toNat) (am_and (U 19 ((U 18 x1.toNat).toNat)) (am_xor (am_shl 1 x1) (-1)))) 19 x2.toNat), .inl x2, .inr (.inr 19)], (am_sh, am_mm (am_upd (am_upd (am_upd U 19 ((U 18 x1.toNat).toNat) (am_and (U 19 ((U 18 x1.toNat).toNat)) (am_xor (am_shl 1 x1) (-1)))) 18 x1.toNat (-1)) 18 x1.toNat x2))) R
              have h21a22a22a := h21a22a22.2
              refine ev_seg (σ1 := (d, 138, 77, [some (.inr (.inr 16)), some (.inl x1), some (.inl x2), some (.inl (U 18 x1.toNat))], [.inl (am_or ((am_upd U 19 ((U 18 x1.toNat).toNat) (am_and (U 19 ((U 18 x1.toNat).toNat)) (am_xor (am_shl 1 x1) (-1)))) 19 x2.toNat) (am_shl 1 x1)), .inl x2, .inr (.inr 19)], (am_sh, am_mm (am_upd (am_upd (am_upd U 19 ((U 18 x1.toNat).toNat) (am_and (U 19 ((U 18 x1.toNat).toNat)) (am_xor (am_shl 1 x1) (-1)))) 18 x1.toNat (-1)) 18 x1.toNat x2)))) 4 (fun _ => rfl) ?_
              refine eu_iast 19 (n := 12) rfl (by decide) rfl (fun _ => rfl) h21a22a22.1 ?_
              show Ev (am_kz N X) (d, 138, 78, [some (.inr (.inr 16)), some (.inl x1), some (.inl x2), some (.inl (U 18 x1.toNat))], [], (am_sh, am_mm (am_upd (am_upd (am_upd (am_upd U 19 ((U 18 x1.toNat).toNat) (am_and (U 19 ((U 18 x1.toNat).toNat)) (am_xor (am_shl 1 x1) (-1)))) 18 x1.toNat (-1)) 18 x1.toNat x2) 19 x2.toNat (am_or ((am_upd U 19 ((U 18 x1.toNat).toNat) (am_and (U 19 ((U 18 x1.toNat).toNat)) (am_xor (am_shl 1 x1) (-1)))) 19 x2.toNat) (am_shl 1 x1))))) R
              subst h21a22a22a
              exact ev_end 1 (fun _ => rfl)
    · have h22 := h2.2 (Int.not_lt.mp hc)
      subst h22
      exact ev_end 1 (fun _ => rfl)
set_option maxRecDepth 8000 in
theorem M_keeps_r0 {N : Nat} {X : Nat → Int} {d : Nat} {U : am_U} {R : Option am_V × am_M} (h : (((U 86 58) ≠ 20) → ∃ (r1 : Int) (U1 : am_U), EvK N X (M_ring_s0 d (U 86 58) U) (rI r1 U1) ∧ ∃ U2 : am_U, EvK N X (M_copies_s0 d r1 0 U1) (rV U2) ∧ R = rV (am_upd U2 86 58 (w32 ((U2 86 58) + 1)))) ∧ (((U 86 58) = 20) → ∃ (r3 : Int) (U3 : am_U), EvK N X (M_ring_s0 d (w32 ((U 86 58) - 1)) (am_upd (am_upd U 86 57 (Int.tmod (w32 ((U 86 57) + 1)) 20)) 86 58 (w32 ((U 86 58) - 1)))) (rI r3 U3) ∧ ∃ U4 : am_U, EvK N X (M_copies_s0 d r3 0 U3) (rV U4) ∧ R = rV (am_upd U4 86 58 (w32 ((U4 86 58) + 1))))) : EvK N X (M_keeps_s0 (d + 1) U) R := by
  show Ev (am_kz N X) ((d + 1), 139, 0, [some (.inr (.inr 86))], [], (am_sh, am_mm U)) R
  refine ev_br (P := ¬ (U 86 58) = 20) (σ1 := ((d + 1), 139, 32, [some (.inr (.inr 86))], [], (am_sh, am_mm U))) (σ2 := ((d + 1), 139, 9, [some (.inr (.inr 86))], [], (am_sh, am_mm U))) 4 (fun _ => rfl) (fun hc => ?_) (fun hc => ?_)
  · have h1 := h.1 hc
    refine ev_seg (σ1 := ((d + 1), 139, 38, [some (.inr (.inr 86))], [.inl (U 86 58), .inr (.inr 86), .inr (.inr 86)], (am_sh, am_mm U))) 4 (fun _ => rfl) ?_
    obtain ⟨r1, U1, h1c, h1a⟩ := h1
    refine ev_cal (σc := (M_ring_s0 d (U 86 58) U)) (fun _ => rfl) h1c ?_
    show Ev (am_kz N X) ((d + 1), 139, 41, [some (.inr (.inr 86))], [.inl r1, .inr (.inr 86)], (am_sh, am_mm U1)) R
    refine ev_seg (σ1 := ((d + 1), 139, 42, [some (.inr (.inr 86))], [.inl 0, .inl r1, .inr (.inr 86)], (am_sh, am_mm U1))) 1 (fun _ => rfl) ?_
    obtain ⟨U2, h1ac, h1aa⟩ := h1a
    refine ev_cal (σc := (M_copies_s0 d r1 0 U1)) (fun _ => rfl) h1ac ?_
    show Ev (am_kz N X) ((d + 1), 139, 45, [some (.inr (.inr 86))], [], (am_sh, am_mm U2)) R
    refine ev_seg (σ1 := ((d + 1), 139, 52, [some (.inr (.inr 86))], [.inl (w32 ((U2 86 58) + 1)), .inr (.inr 86)], (am_sh, am_mm U2))) 5 (fun _ => rfl) ?_
    refine eu_puti 86 (n := 90) rfl (by decide) rfl rfl ?_
    show Ev (am_kz N X) ((d + 1), 139, 55, [some (.inr (.inr 86))], [], (am_sh, am_mm (am_upd U2 86 58 (w32 ((U2 86 58) + 1))))) R
    subst h1aa
    exact ev_end 1 (fun _ => rfl)
  · have h2 := h.2 (Decidable.not_not.mp hc)
    refine ev_seg (σ1 := ((d + 1), 139, 18, [some (.inr (.inr 86))], [.inl 20, .inl (w32 ((U 86 57) + 1)), .inr (.inr 86)], (am_sh, am_mm U))) 6 (fun _ => rfl) ?_
    refine ev_irem rfl (by decide) ?_
    show Ev (am_kz N X) ((d + 1), 139, 19, [some (.inr (.inr 86))], [.inl (Int.tmod (w32 ((U 86 57) + 1)) 20), .inr (.inr 86)], (am_sh, am_mm U)) R
    refine eu_puti 86 (n := 90) rfl (by decide) rfl rfl ?_
    show Ev (am_kz N X) ((d + 1), 139, 22, [some (.inr (.inr 86))], [], (am_sh, am_mm (am_upd U 86 57 (Int.tmod (w32 ((U 86 57) + 1)) 20)))) R
    refine ev_seg (σ1 := ((d + 1), 139, 29, [some (.inr (.inr 86))], [.inl (w32 ((U 86 58) - 1)), .inr (.inr 86)], (am_sh, am_mm (am_upd U 86 57 (Int.tmod (w32 ((U 86 57) + 1)) 20))))) 5 (fun _ => rfl) ?_
    refine eu_puti 86 (n := 90) rfl (by decide) rfl rfl ?_
    show Ev (am_kz N X) ((d + 1), 139, 32, [some (.inr (.inr 86))], [], (am_sh, am_mm (am_upd (am_upd U 86 57 (Int.tmod (w32 ((U 86 57) + 1)) 20)) 86 58 (w32 ((U 86 58) - 1))))) R
    refine ev_seg (σ1 := ((d + 1), 139, 38, [some (.inr (.inr 86))], [.inl (w32 ((U 86 58) - 1)), .inr (.inr 86), .inr (.inr 86)], (am_sh, am_mm (am_upd (am_upd U 86 57 (Int.tmod (w32 ((U 86 57) + 1)) 20)) 86 58 (w32 ((U 86 58) - 1)))))) 4 (fun _ => rfl) ?_
    obtain ⟨r3, U3, h2c, h2a⟩ := h2
    refine ev_cal (σc := (M_ring_s0 d (w32 ((U 86 58) - 1)) (am_upd (am_upd U 86 57 (Int.tmod (w32 ((U 86 57) + 1)) 20)) 86 58 (w32 ((U 86 58) - 1))))) (fun _ => rfl) h2c ?_
    show Ev (am_kz N X) ((d + 1), 139, 41, [some (.inr (.inr 86))], [.inl r3, .inr (.inr 86)], (am_sh, am_mm U3)) R
    refine ev_seg (σ1 := ((d + 1), 139, 42, [some (.inr (.inr 86))], [.inl 0, .inl r3, .inr (.inr 86)], (am_sh, am_mm U3))) 1 (fun _ => rfl) ?_
    obtain ⟨U4, h2ac, h2aa⟩ := h2a
    refine ev_cal (σc := (M_copies_s0 d r3 0 U3)) (fun _ => rfl) h2ac ?_
    show Ev (am_kz N X) ((d + 1), 139, 45, [some (.inr (.inr 86))], [], (am_sh, am_mm U4)) R
    refine ev_seg (σ1 := ((d + 1), 139, 52, [some (.inr (.inr 86))], [.inl (w32 ((U4 86 58) + 1)), .inr (.inr 86)], (am_sh, am_mm U4))) 5 (fun _ => rfl) ?_
    refine eu_puti 86 (n := 90) rfl (by decide) rfl rfl ?_
    show Ev (am_kz N X) ((d + 1), 139, 55, [some (.inr (.inr 86))], [], (am_sh, am_mm (am_upd U4 86 58 (w32 ((U4 86 58) + 1))))) R
    subst h2aa
    exact ev_end 1 (fun _ => rfl)
set_option maxRecDepth 8000 in
theorem D_passYear_r0 {N : Nat} {X : Nat → Int} {d : Nat} {U : am_U} {R : Option am_V × am_M} (h : (((U 3 1) ≤ 0) → ∃ (r1 : Int) (U1 : am_U), EvK N X (D_draw_s0 d 1000 U) (rI r1 U1) ∧ ∃ (r2 : Int) (U2 : am_U), EvK N X (D_comeIn_s0 d (w32 (r1 + 1)) (-1) U1) (rI r2 U2) ∧ R = rI (w32 (0 + r2)) (am_upd U2 16 1 (w32 ((U2 16 1) + 1)))) ∧ ((0 < (U 3 1)) → ∃ U3 : am_U, EvK N X (D_burn_s0 d U) (rV U3) ∧ ∃ (r4 : Int) (U4 : am_U), EvK N X (D_bear_s0 d U3) (rI r4 U4) ∧ ∃ (r5 : Int) (U5 : am_U), EvK N X (D_draw_s0 d 1000 U4) (rI r5 U5) ∧ ∃ (r6 : Int) (U6 : am_U), EvK N X (D_comeIn_s0 d (w32 (r5 + 1)) (-1) U5) (rI r6 U6) ∧ R = rI (w32 (r4 + r6)) (am_upd U6 16 1 (w32 ((U6 16 1) + 1))))) : EvK N X (D_passYear_s0 (d + 1) U) R := by
  show Ev (am_kz N X) ((d + 1), 140, 0, [some (.inr (.inr 1)), none], [], (am_sh, am_mm U)) R
  refine ev_br (P := (U 3 1) ≤ 0) (σ1 := ((d + 1), 140, 21, [some (.inr (.inr 1)), some (.inl 0)], [], (am_sh, am_mm U))) (σ2 := ((d + 1), 140, 12, [some (.inr (.inr 1)), some (.inl 0)], [], (am_sh, am_mm U))) 6 (fun _ => rfl) (fun hc => ?_) (fun hc => ?_)
  · have h1 := h.1 hc
    refine ev_seg (σ1 := ((d + 1), 140, 27, [some (.inr (.inr 1)), some (.inl 0)], [.inl 1000, .inr (.inr 1), .inr (.inr 1), .inl 0], (am_sh, am_mm U))) 4 (fun _ => rfl) ?_
    obtain ⟨r1, U1, h1c, h1a⟩ := h1
    refine ev_cal (σc := (D_draw_s0 d 1000 U)) (fun _ => rfl) h1c ?_
    show Ev (am_kz N X) ((d + 1), 140, 30, [some (.inr (.inr 1)), some (.inl 0)], [.inl r1, .inr (.inr 1), .inl 0], (am_sh, am_mm U1)) R
    refine ev_seg (σ1 := ((d + 1), 140, 33, [some (.inr (.inr 1)), some (.inl 0)], [.inl (-1), .inl (w32 (r1 + 1)), .inr (.inr 1), .inl 0], (am_sh, am_mm U1))) 3 (fun _ => rfl) ?_
    obtain ⟨r2, U2, h1ac, h1aa⟩ := h1a
    refine ev_cal (σc := (D_comeIn_s0 d (w32 (r1 + 1)) (-1) U1)) (fun _ => rfl) h1ac ?_
    show Ev (am_kz N X) ((d + 1), 140, 36, [some (.inr (.inr 1)), some (.inl 0)], [.inl r2, .inl 0], (am_sh, am_mm U2)) R
    refine ev_seg (σ1 := ((d + 1), 140, 48, [some (.inr (.inr 1)), some (.inl (w32 (0 + r2)))], [.inl (w32 ((U2 16 1) + 1)), .inr (.inr 16)], (am_sh, am_mm U2))) 8 (fun _ => rfl) ?_
    refine eu_puti 16 (n := 7) rfl (by decide) rfl rfl ?_
    show Ev (am_kz N X) ((d + 1), 140, 51, [some (.inr (.inr 1)), some (.inl (w32 (0 + r2)))], [], (am_sh, am_mm (am_upd U2 16 1 (w32 ((U2 16 1) + 1))))) R
    subst h1aa
    exact ev_end 2 (fun _ => rfl)
  · have h2 := h.2 (Int.not_le.mp hc)
    refine ev_seg (σ1 := ((d + 1), 140, 13, [some (.inr (.inr 1)), some (.inl 0)], [.inr (.inr 1)], (am_sh, am_mm U))) 1 (fun _ => rfl) ?_
    obtain ⟨U3, h2c, h2a⟩ := h2
    refine ev_cal (σc := (D_burn_s0 d U)) (fun _ => rfl) h2c ?_
    show Ev (am_kz N X) ((d + 1), 140, 16, [some (.inr (.inr 1)), some (.inl 0)], [], (am_sh, am_mm U3)) R
    refine ev_seg (σ1 := ((d + 1), 140, 17, [some (.inr (.inr 1)), some (.inl 0)], [.inr (.inr 1)], (am_sh, am_mm U3))) 1 (fun _ => rfl) ?_
    obtain ⟨r4, U4, h2ac, h2aa⟩ := h2a
    refine ev_cal (σc := (D_bear_s0 d U3)) (fun _ => rfl) h2ac ?_
    show Ev (am_kz N X) ((d + 1), 140, 20, [some (.inr (.inr 1)), some (.inl 0)], [.inl r4], (am_sh, am_mm U4)) R
    refine ev_seg (σ1 := ((d + 1), 140, 27, [some (.inr (.inr 1)), some (.inl r4)], [.inl 1000, .inr (.inr 1), .inr (.inr 1), .inl r4], (am_sh, am_mm U4))) 5 (fun _ => rfl) ?_
    obtain ⟨r5, U5, h2aac, h2aaa⟩ := h2aa
    refine ev_cal (σc := (D_draw_s0 d 1000 U4)) (fun _ => rfl) h2aac ?_
    show Ev (am_kz N X) ((d + 1), 140, 30, [some (.inr (.inr 1)), some (.inl r4)], [.inl r5, .inr (.inr 1), .inl r4], (am_sh, am_mm U5)) R
    refine ev_seg (σ1 := ((d + 1), 140, 33, [some (.inr (.inr 1)), some (.inl r4)], [.inl (-1), .inl (w32 (r5 + 1)), .inr (.inr 1), .inl r4], (am_sh, am_mm U5))) 3 (fun _ => rfl) ?_
    obtain ⟨r6, U6, h2aaac, h2aaaa⟩ := h2aaa
    refine ev_cal (σc := (D_comeIn_s0 d (w32 (r5 + 1)) (-1) U5)) (fun _ => rfl) h2aaac ?_
    show Ev (am_kz N X) ((d + 1), 140, 36, [some (.inr (.inr 1)), some (.inl r4)], [.inl r6, .inl r4], (am_sh, am_mm U6)) R
    refine ev_seg (σ1 := ((d + 1), 140, 48, [some (.inr (.inr 1)), some (.inl (w32 (r4 + r6)))], [.inl (w32 ((U6 16 1) + 1)), .inr (.inr 16)], (am_sh, am_mm U6))) 8 (fun _ => rfl) ?_
    refine eu_puti 16 (n := 7) rfl (by decide) rfl rfl ?_
    show Ev (am_kz N X) ((d + 1), 140, 51, [some (.inr (.inr 1)), some (.inl (w32 (r4 + r6)))], [], (am_sh, am_mm (am_upd U6 16 1 (w32 ((U6 16 1) + 1))))) R
    subst h2aaaa
    exact ev_end 2 (fun _ => rfl)
set_option maxRecDepth 8000 in
theorem M_yearGoes_r0 {N : Nat} {X : Nat → Int} {d : Nat} {U : am_U} {R : Option am_V × am_M} (h : (0 ≤ (U 86 13) ∧ (U 86 13) < 2) ∧ (((U 90 ((U 86 13).toNat)) ≤ 0) → ∃ (r1 : Int) (U1 : am_U), EvK N X (M_draw_s0 d 1000 U) (rI r1 U1) ∧ ∃ (r2 : Int) (U2 : am_U), EvK N X (M_comes_s0 d (w32 (r1 + 1)) (-1) U1) (rI r2 U2) ∧ R = rI (w32 (0 + r2)) (am_upd U2 120 0 (w32 ((U2 120 0) + 1)))) ∧ ((0 < (U 90 ((U 86 13).toNat))) → ∃ (r3 : Int) (U3 : am_U), EvK N X (M_draw_s0 d (U 90 ((U 86 13).toNat)) U) (rI r3 U3) ∧ ∃ (r4 : Int) (U4 : am_U), EvK N X (M_draw_s0 d 100 U3) (rI r4 U4) ∧ (0 ≤ (U4 86 13) ∧ (U4 86 13) < 2) ∧ (((U4 110 ((U4 86 13).toNat)) ≤ r4) → ∃ (r5 : Int) (U5 : am_U), EvK N X (M_draw_s0 d (U4 90 ((U4 86 13).toNat)) U4) (rI r5 U5) ∧ ∃ (r6 : Int) (U6 : am_U), EvK N X (M_bears_s0 d r5 U5) (rI r6 U6) ∧ ∃ (r7 : Int) (U7 : am_U), EvK N X (M_draw_s0 d 1000 U6) (rI r7 U7) ∧ ∃ (r8 : Int) (U8 : am_U), EvK N X (M_comes_s0 d (w32 (r7 + 1)) (-1) U7) (rI r8 U8) ∧ R = rI (w32 ((w32 (0 + r6)) + r8)) (am_upd U8 120 0 (w32 ((U8 120 0) + 1)))) ∧ ((r4 < (U4 110 ((U4 86 13).toNat))) → ∃ U9 : am_U, EvK N X (M_burns_s0 d r3 U4) (rV U9) ∧ (0 ≤ (U9 86 13) ∧ (U9 86 13) < 2) ∧ ∃ (r10 : Int) (U10 : am_U), EvK N X (M_draw_s0 d (U9 90 ((U9 86 13).toNat)) U9) (rI r10 U10) ∧ ∃ (r11 : Int) (U11 : am_U), EvK N X (M_bears_s0 d r10 U10) (rI r11 U11) ∧ ∃ (r12 : Int) (U12 : am_U), EvK N X (M_draw_s0 d 1000 U11) (rI r12 U12) ∧ ∃ (r13 : Int) (U13 : am_U), EvK N X (M_comes_s0 d (w32 (r12 + 1)) (-1) U12) (rI r13 U13) ∧ R = rI (w32 ((w32 (0 + r11)) + r13)) (am_upd U13 120 0 (w32 ((U13 120 0) + 1)))))) : EvK N X (M_yearGoes_s0 (d + 1) U) R := by
  show Ev (am_kz N X) ((d + 1), 141, 0, [some (.inr (.inr 86)), none, none], [], (am_sh, am_mm U)) R
  refine ev_seg (σ1 := ((d + 1), 141, 10, [some (.inr (.inr 86)), some (.inl 0), none], [.inl (U 86 13), .inr (.inr 90)], (am_sh, am_mm U))) 6 (fun _ => rfl) ?_
  refine eu_iald 90 (n := 2) rfl (by decide) rfl (fun _ => rfl) h.1 ?_
  show Ev (am_kz N X) ((d + 1), 141, 11, [some (.inr (.inr 86)), some (.inl 0), none], [.inl (U 90 ((U 86 13).toNat))], (am_sh, am_mm U)) R
  have ha := h.2
  refine ev_br (P := (U 90 ((U 86 13).toNat)) ≤ 0) (σ1 := ((d + 1), 141, 71, [some (.inr (.inr 86)), some (.inl 0), none], [], (am_sh, am_mm U))) (σ2 := ((d + 1), 141, 14, [some (.inr (.inr 86)), some (.inl 0), none], [], (am_sh, am_mm U))) 1 (fun _ => rfl) (fun hc => ?_) (fun hc => ?_)
  · have ha1 := ha.1 hc
    refine ev_seg (σ1 := ((d + 1), 141, 77, [some (.inr (.inr 86)), some (.inl 0), none], [.inl 1000, .inr (.inr 86), .inr (.inr 86), .inl 0], (am_sh, am_mm U))) 4 (fun _ => rfl) ?_
    obtain ⟨r1, U1, ha1c, ha1a⟩ := ha1
    refine ev_cal (σc := (M_draw_s0 d 1000 U)) (fun _ => rfl) ha1c ?_
    show Ev (am_kz N X) ((d + 1), 141, 80, [some (.inr (.inr 86)), some (.inl 0), none], [.inl r1, .inr (.inr 86), .inl 0], (am_sh, am_mm U1)) R
    refine ev_seg (σ1 := ((d + 1), 141, 83, [some (.inr (.inr 86)), some (.inl 0), none], [.inl (-1), .inl (w32 (r1 + 1)), .inr (.inr 86), .inl 0], (am_sh, am_mm U1))) 3 (fun _ => rfl) ?_
    obtain ⟨r2, U2, ha1ac, ha1aa⟩ := ha1a
    refine ev_cal (σc := (M_comes_s0 d (w32 (r1 + 1)) (-1) U1)) (fun _ => rfl) ha1ac ?_
    show Ev (am_kz N X) ((d + 1), 141, 86, [some (.inr (.inr 86)), some (.inl 0), none], [.inl r2, .inl 0], (am_sh, am_mm U2)) R
    refine ev_seg (σ1 := ((d + 1), 141, 94, [some (.inr (.inr 86)), some (.inl (w32 (0 + r2))), none], [.inl 0, .inr (.inr 120), .inl 0, .inr (.inr 120)], (am_sh, am_mm U2))) 6 (fun _ => rfl) ?_
    refine eu_iald 120 (n := 22) rfl (by decide) rfl (fun _ => rfl) (by decide) ?_
    show Ev (am_kz N X) ((d + 1), 141, 95, [some (.inr (.inr 86)), some (.inl (w32 (0 + r2))), none], [.inl (U2 120 0), .inl 0, .inr (.inr 120)], (am_sh, am_mm U2)) R
    refine ev_seg (σ1 := ((d + 1), 141, 97, [some (.inr (.inr 86)), some (.inl (w32 (0 + r2))), none], [.inl (w32 ((U2 120 0) + 1)), .inl 0, .inr (.inr 120)], (am_sh, am_mm U2))) 2 (fun _ => rfl) ?_
    refine eu_iast 120 (n := 22) rfl (by decide) rfl (fun _ => rfl) (by decide) ?_
    show Ev (am_kz N X) ((d + 1), 141, 98, [some (.inr (.inr 86)), some (.inl (w32 (0 + r2))), none], [], (am_sh, am_mm (am_upd U2 120 0 (w32 ((U2 120 0) + 1))))) R
    subst ha1aa
    exact ev_end 2 (fun _ => rfl)
  · have ha2 := ha.2 (Int.not_le.mp hc)
    refine ev_seg (σ1 := ((d + 1), 141, 23, [some (.inr (.inr 86)), some (.inl 0), none], [.inl (U 86 13), .inr (.inr 90), .inr (.inr 86)], (am_sh, am_mm U))) 5 (fun _ => rfl) ?_
    refine eu_iald 90 (n := 2) rfl (by decide) rfl (fun _ => rfl) h.1 ?_
    show Ev (am_kz N X) ((d + 1), 141, 24, [some (.inr (.inr 86)), some (.inl 0), none], [.inl (U 90 ((U 86 13).toNat)), .inr (.inr 86)], (am_sh, am_mm U)) R
    obtain ⟨r3, U3, ha2c, ha2a⟩ := ha2
    refine ev_cal (σc := (M_draw_s0 d (U 90 ((U 86 13).toNat)) U)) (fun _ => rfl) ha2c ?_
    show Ev (am_kz N X) ((d + 1), 141, 27, [some (.inr (.inr 86)), some (.inl 0), none], [.inl r3], (am_sh, am_mm U3)) R
    refine ev_seg (σ1 := ((d + 1), 141, 31, [some (.inr (.inr 86)), some (.inl 0), some (.inl r3)], [.inl 100, .inr (.inr 86)], (am_sh, am_mm U3))) 3 (fun _ => rfl) ?_
    obtain ⟨r4, U4, ha2ac, ha2aa⟩ := ha2a
    refine ev_cal (σc := (M_draw_s0 d 100 U3)) (fun _ => rfl) ha2ac ?_
    show Ev (am_kz N X) ((d + 1), 141, 34, [some (.inr (.inr 86)), some (.inl 0), some (.inl r3)], [.inl r4], (am_sh, am_mm U4)) R
    refine ev_seg (σ1 := ((d + 1), 141, 42, [some (.inr (.inr 86)), some (.inl 0), some (.inl r3)], [.inl (U4 86 13), .inr (.inr 110), .inl r4], (am_sh, am_mm U4))) 4 (fun _ => rfl) ?_
    refine eu_iald 110 (n := 2) rfl (by decide) rfl (fun _ => rfl) ha2aa.1 ?_
    show Ev (am_kz N X) ((d + 1), 141, 43, [some (.inr (.inr 86)), some (.inl 0), some (.inl r3)], [.inl (U4 110 ((U4 86 13).toNat)), .inl r4], (am_sh, am_mm U4)) R
    have ha2aaa := ha2aa.2
    refine ev_br (P := (U4 110 ((U4 86 13).toNat)) ≤ r4) (σ1 := ((d + 1), 141, 51, [some (.inr (.inr 86)), some (.inl 0), some (.inl r3)], [], (am_sh, am_mm U4))) (σ2 := ((d + 1), 141, 46, [some (.inr (.inr 86)), some (.inl 0), some (.inl r3)], [], (am_sh, am_mm U4))) 1 (fun _ => rfl) (fun hc => ?_) (fun hc => ?_)
    · have ha2aaa1 := ha2aaa.1 hc
      refine ev_seg (σ1 := ((d + 1), 141, 62, [some (.inr (.inr 86)), some (.inl 0), some (.inl r3)], [.inl (U4 86 13), .inr (.inr 90), .inr (.inr 86), .inr (.inr 86), .inl 0], (am_sh, am_mm U4))) 7 (fun _ => rfl) ?_
      refine eu_iald 90 (n := 2) rfl (by decide) rfl (fun _ => rfl) ha2aa.1 ?_
      show Ev (am_kz N X) ((d + 1), 141, 63, [some (.inr (.inr 86)), some (.inl 0), some (.inl r3)], [.inl (U4 90 ((U4 86 13).toNat)), .inr (.inr 86), .inr (.inr 86), .inl 0], (am_sh, am_mm U4)) R
      obtain ⟨r5, U5, ha2aaa1c, ha2aaa1a⟩ := ha2aaa1
      refine ev_cal (σc := (M_draw_s0 d (U4 90 ((U4 86 13).toNat)) U4)) (fun _ => rfl) ha2aaa1c ?_
      show Ev (am_kz N X) ((d + 1), 141, 66, [some (.inr (.inr 86)), some (.inl 0), some (.inl r3)], [.inl r5, .inr (.inr 86), .inl 0], (am_sh, am_mm U5)) R
      obtain ⟨r6, U6, ha2aaa1ac, ha2aaa1aa⟩ := ha2aaa1a
      refine ev_cal (σc := (M_bears_s0 d r5 U5)) (fun _ => rfl) ha2aaa1ac ?_
      show Ev (am_kz N X) ((d + 1), 141, 69, [some (.inr (.inr 86)), some (.inl 0), some (.inl r3)], [.inl r6, .inl 0], (am_sh, am_mm U6)) R
      refine ev_seg (σ1 := ((d + 1), 141, 77, [some (.inr (.inr 86)), some (.inl (w32 (0 + r6))), some (.inl r3)], [.inl 1000, .inr (.inr 86), .inr (.inr 86), .inl (w32 (0 + r6))], (am_sh, am_mm U6))) 6 (fun _ => rfl) ?_
      obtain ⟨r7, U7, ha2aaa1aac, ha2aaa1aaa⟩ := ha2aaa1aa
      refine ev_cal (σc := (M_draw_s0 d 1000 U6)) (fun _ => rfl) ha2aaa1aac ?_
      show Ev (am_kz N X) ((d + 1), 141, 80, [some (.inr (.inr 86)), some (.inl (w32 (0 + r6))), some (.inl r3)], [.inl r7, .inr (.inr 86), .inl (w32 (0 + r6))], (am_sh, am_mm U7)) R
      refine ev_seg (σ1 := ((d + 1), 141, 83, [some (.inr (.inr 86)), some (.inl (w32 (0 + r6))), some (.inl r3)], [.inl (-1), .inl (w32 (r7 + 1)), .inr (.inr 86), .inl (w32 (0 + r6))], (am_sh, am_mm U7))) 3 (fun _ => rfl) ?_
      obtain ⟨r8, U8, ha2aaa1aaac, ha2aaa1aaaa⟩ := ha2aaa1aaa
      refine ev_cal (σc := (M_comes_s0 d (w32 (r7 + 1)) (-1) U7)) (fun _ => rfl) ha2aaa1aaac ?_
      show Ev (am_kz N X) ((d + 1), 141, 86, [some (.inr (.inr 86)), some (.inl (w32 (0 + r6))), some (.inl r3)], [.inl r8, .inl (w32 (0 + r6))], (am_sh, am_mm U8)) R
      refine ev_seg (σ1 := ((d + 1), 141, 94, [some (.inr (.inr 86)), some (.inl (w32 ((w32 (0 + r6)) + r8))), some (.inl r3)], [.inl 0, .inr (.inr 120), .inl 0, .inr (.inr 120)], (am_sh, am_mm U8))) 6 (fun _ => rfl) ?_
      refine eu_iald 120 (n := 22) rfl (by decide) rfl (fun _ => rfl) (by decide) ?_
      show Ev (am_kz N X) ((d + 1), 141, 95, [some (.inr (.inr 86)), some (.inl (w32 ((w32 (0 + r6)) + r8))), some (.inl r3)], [.inl (U8 120 0), .inl 0, .inr (.inr 120)], (am_sh, am_mm U8)) R
      refine ev_seg (σ1 := ((d + 1), 141, 97, [some (.inr (.inr 86)), some (.inl (w32 ((w32 (0 + r6)) + r8))), some (.inl r3)], [.inl (w32 ((U8 120 0) + 1)), .inl 0, .inr (.inr 120)], (am_sh, am_mm U8))) 2 (fun _ => rfl) ?_
      refine eu_iast 120 (n := 22) rfl (by decide) rfl (fun _ => rfl) (by decide) ?_
      show Ev (am_kz N X) ((d + 1), 141, 98, [some (.inr (.inr 86)), some (.inl (w32 ((w32 (0 + r6)) + r8))), some (.inl r3)], [], (am_sh, am_mm (am_upd U8 120 0 (w32 ((U8 120 0) + 1))))) R
      subst ha2aaa1aaaa
      exact ev_end 2 (fun _ => rfl)
    · have ha2aaa2 := ha2aaa.2 (Int.not_le.mp hc)
      refine ev_seg (σ1 := ((d + 1), 141, 48, [some (.inr (.inr 86)), some (.inl 0), some (.inl r3)], [.inl r3, .inr (.inr 86)], (am_sh, am_mm U4))) 2 (fun _ => rfl) ?_
      obtain ⟨U9, ha2aaa2c, ha2aaa2a⟩ := ha2aaa2
      refine ev_cal (σc := (M_burns_s0 d r3 U4)) (fun _ => rfl) ha2aaa2c ?_
      show Ev (am_kz N X) ((d + 1), 141, 51, [some (.inr (.inr 86)), some (.inl 0), some (.inl r3)], [], (am_sh, am_mm U9)) R
      refine ev_seg (σ1 := ((d + 1), 141, 62, [some (.inr (.inr 86)), some (.inl 0), some (.inl r3)], [.inl (U9 86 13), .inr (.inr 90), .inr (.inr 86), .inr (.inr 86), .inl 0], (am_sh, am_mm U9))) 7 (fun _ => rfl) ?_
      refine eu_iald 90 (n := 2) rfl (by decide) rfl (fun _ => rfl) ha2aaa2a.1 ?_
      show Ev (am_kz N X) ((d + 1), 141, 63, [some (.inr (.inr 86)), some (.inl 0), some (.inl r3)], [.inl (U9 90 ((U9 86 13).toNat)), .inr (.inr 86), .inr (.inr 86), .inl 0], (am_sh, am_mm U9)) R
      have ha2aaa2aa := ha2aaa2a.2
      obtain ⟨r10, U10, ha2aaa2aac, ha2aaa2aaa⟩ := ha2aaa2aa
      refine ev_cal (σc := (M_draw_s0 d (U9 90 ((U9 86 13).toNat)) U9)) (fun _ => rfl) ha2aaa2aac ?_
      show Ev (am_kz N X) ((d + 1), 141, 66, [some (.inr (.inr 86)), some (.inl 0), some (.inl r3)], [.inl r10, .inr (.inr 86), .inl 0], (am_sh, am_mm U10)) R
      obtain ⟨r11, U11, ha2aaa2aaac, ha2aaa2aaaa⟩ := ha2aaa2aaa
      refine ev_cal (σc := (M_bears_s0 d r10 U10)) (fun _ => rfl) ha2aaa2aaac ?_
      show Ev (am_kz N X) ((d + 1), 141, 69, [some (.inr (.inr 86)), some (.inl 0), some (.inl r3)], [.inl r11, .inl 0], (am_sh, am_mm U11)) R
      refine ev_seg (σ1 := ((d + 1), 141, 77, [some (.inr (.inr 86)), some (.inl (w32 (0 + r11))), some (.inl r3)], [.inl 1000, .inr (.inr 86), .inr (.inr 86), .inl (w32 (0 + r11))], (am_sh, am_mm U11))) 6 (fun _ => rfl) ?_
      obtain ⟨r12, U12, ha2aaa2aaaac, ha2aaa2aaaaa⟩ := ha2aaa2aaaa
      refine ev_cal (σc := (M_draw_s0 d 1000 U11)) (fun _ => rfl) ha2aaa2aaaac ?_
      show Ev (am_kz N X) ((d + 1), 141, 80, [some (.inr (.inr 86)), some (.inl (w32 (0 + r11))), some (.inl r3)], [.inl r12, .inr (.inr 86), .inl (w32 (0 + r11))], (am_sh, am_mm U12)) R
      refine ev_seg (σ1 := ((d + 1), 141, 83, [some (.inr (.inr 86)), some (.inl (w32 (0 + r11))), some (.inl r3)], [.inl (-1), .inl (w32 (r12 + 1)), .inr (.inr 86), .inl (w32 (0 + r11))], (am_sh, am_mm U12))) 3 (fun _ => rfl) ?_
      obtain ⟨r13, U13, ha2aaa2aaaaac, ha2aaa2aaaaaa⟩ := ha2aaa2aaaaa
      refine ev_cal (σc := (M_comes_s0 d (w32 (r12 + 1)) (-1) U12)) (fun _ => rfl) ha2aaa2aaaaac ?_
      show Ev (am_kz N X) ((d + 1), 141, 86, [some (.inr (.inr 86)), some (.inl (w32 (0 + r11))), some (.inl r3)], [.inl r13, .inl (w32 (0 + r11))], (am_sh, am_mm U13)) R
      refine ev_seg (σ1 := ((d + 1), 141, 94, [some (.inr (.inr 86)), some (.inl (w32 ((w32 (0 + r11)) + r13))), some (.inl r3)], [.inl 0, .inr (.inr 120), .inl 0, .inr (.inr 120)], (am_sh, am_mm U13))) 6 (fun _ => rfl) ?_
      refine eu_iald 120 (n := 22) rfl (by decide) rfl (fun _ => rfl) (by decide) ?_
      show Ev (am_kz N X) ((d + 1), 141, 95, [some (.inr (.inr 86)), some (.inl (w32 ((w32 (0 + r11)) + r13))), some (.inl r3)], [.inl (U13 120 0), .inl 0, .inr (.inr 120)], (am_sh, am_mm U13)) R
      refine ev_seg (σ1 := ((d + 1), 141, 97, [some (.inr (.inr 86)), some (.inl (w32 ((w32 (0 + r11)) + r13))), some (.inl r3)], [.inl (w32 ((U13 120 0) + 1)), .inl 0, .inr (.inr 120)], (am_sh, am_mm U13))) 2 (fun _ => rfl) ?_
      refine eu_iast 120 (n := 22) rfl (by decide) rfl (fun _ => rfl) (by decide) ?_
      show Ev (am_kz N X) ((d + 1), 141, 98, [some (.inr (.inr 86)), some (.inl (w32 ((w32 (0 + r11)) + r13))), some (.inl r3)], [], (am_sh, am_mm (am_upd U13 120 0 (w32 ((U13 120 0) + 1))))) R
      subst ha2aaa2aaaaaa
      exact ev_end 2 (fun _ => rfl)
set_option maxRecDepth 8000 in
theorem Hs_giveBack_r0 {N : Nat} {X : Nat → Int} {d : Nat} {U : am_U} {R : Option am_V × am_M} (h : (((U 56 2) ≠ 0) → (0 ≤ (U 56 1) ∧ (U 56 1) < 20) ∧ ∃ U1 : am_U, EvK N X (Fk_loadRow_s0 d (58 + (U 56 1).toNat) U) (rV U1) ∧ R = rI 1 (am_upd (am_upd U1 56 1 (Int.tmod (w32 ((w32 ((U1 56 1) + 20)) - 1)) 20)) 56 2 (w32 ((U1 56 2) - 1)))) ∧ (((U 56 2) = 0) → R = rI 0 U)) : EvK N X (Hs_giveBack_s0 (d + 1) U) R := by
  show Ev (am_kz N X) ((d + 1), 142, 0, [some (.inr (.inr 56)), some (.inr (.inr 16))], [], (am_sh, am_mm U)) R
  refine ev_br (P := ¬ (U 56 2) = 0) (σ1 := ((d + 1), 142, 9, [some (.inr (.inr 56)), some (.inr (.inr 16))], [], (am_sh, am_mm U))) (σ2 := ((d + 1), 142, 7, [some (.inr (.inr 56)), some (.inr (.inr 16))], [], (am_sh, am_mm U))) 3 (fun _ => rfl) (fun hc => ?_) (fun hc => ?_)
  · have h1 := h.1 hc
    refine ev_seg (σ1 := ((d + 1), 142, 18, [some (.inr (.inr 56)), some (.inr (.inr 16))], [.inl (U 56 1), .inr (.inr 57), .inr (.inr 16)], (am_sh, am_mm U))) 5 (fun _ => rfl) ?_
    refine ev_aald (n := 20) rfl (by decide) rfl h1.1 ?_
    show Ev (am_kz N X) ((d + 1), 142, 19, [some (.inr (.inr 56)), some (.inr (.inr 16))], [.inr (.inr ((58 + (U 56 1).toNat : Nat) : Int)), .inr (.inr 16)], (am_sh, am_mm U)) R
    have h1a := h1.2
    obtain ⟨U1, h1ac, h1aa⟩ := h1a
    refine ev_cal (σc := (Fk_loadRow_s0 d (58 + (U 56 1).toNat) U)) (fun _ => rfl) h1ac ?_
    show Ev (am_kz N X) ((d + 1), 142, 22, [some (.inr (.inr 56)), some (.inr (.inr 16))], [], (am_sh, am_mm U1)) R
    refine ev_seg (σ1 := ((d + 1), 142, 34, [some (.inr (.inr 56)), some (.inr (.inr 16))], [.inl 20, .inl (w32 ((w32 ((U1 56 1) + 20)) - 1)), .inr (.inr 56)], (am_sh, am_mm U1))) 8 (fun _ => rfl) ?_
    refine ev_irem rfl (by decide) ?_
    show Ev (am_kz N X) ((d + 1), 142, 35, [some (.inr (.inr 56)), some (.inr (.inr 16))], [.inl (Int.tmod (w32 ((w32 ((U1 56 1) + 20)) - 1)) 20), .inr (.inr 56)], (am_sh, am_mm U1)) R
    refine eu_puti 56 (n := 3) rfl (by decide) rfl rfl ?_
    show Ev (am_kz N X) ((d + 1), 142, 38, [some (.inr (.inr 56)), some (.inr (.inr 16))], [], (am_sh, am_mm (am_upd U1 56 1 (Int.tmod (w32 ((w32 ((U1 56 1) + 20)) - 1)) 20)))) R
    refine ev_seg (σ1 := ((d + 1), 142, 45, [some (.inr (.inr 56)), some (.inr (.inr 16))], [.inl (w32 ((U1 56 2) - 1)), .inr (.inr 56)], (am_sh, am_mm (am_upd U1 56 1 (Int.tmod (w32 ((w32 ((U1 56 1) + 20)) - 1)) 20))))) 5 (fun _ => rfl) ?_
    refine eu_puti 56 (n := 3) rfl (by decide) rfl rfl ?_
    show Ev (am_kz N X) ((d + 1), 142, 48, [some (.inr (.inr 56)), some (.inr (.inr 16))], [], (am_sh, am_mm (am_upd (am_upd U1 56 1 (Int.tmod (w32 ((w32 ((U1 56 1) + 20)) - 1)) 20)) 56 2 (w32 ((U1 56 2) - 1))))) R
    subst h1aa
    exact ev_end 2 (fun _ => rfl)
  · have h2 := h.2 (Decidable.not_not.mp hc)
    subst h2
    exact ev_end 2 (fun _ => rfl)
set_option maxRecDepth 8000 in
theorem M_ring_r0 {N : Nat} {X : Nat → Int} {d : Nat} {x1 : Int} {U : am_U} {R : Option am_V × am_M} (h : R = rI (w32 (2 + (Int.tmod (w32 ((U 86 57) + x1)) 20))) U) : EvK N X (M_ring_s0 d x1 U) R := by
  show Ev (am_kz N X) (d, 143, 0, [some (.inr (.inr 86)), some (.inl x1)], [], (am_sh, am_mm U)) R
  refine ev_seg (σ1 := (d, 143, 9, [some (.inr (.inr 86)), some (.inl x1)], [.inl 20, .inl (w32 ((U 86 57) + x1)), .inl 2], (am_sh, am_mm U))) 6 (fun _ => rfl) ?_
  refine ev_irem rfl (by decide) ?_
  show Ev (am_kz N X) (d, 143, 10, [some (.inr (.inr 86)), some (.inl x1)], [.inl (Int.tmod (w32 ((U 86 57) + x1)) 20), .inl 2], (am_sh, am_mm U)) R
  subst h
  exact ev_end 2 (fun _ => rfl)
set_option maxRecDepth 8000 in
theorem M_copies_r0 {N : Nat} {X : Nat → Int} {d : Nat} {x1 x2 : Int} {U : am_U} {R : Option am_V × am_M} (h : (0 ≤ x2 ∧ x2 < 22) ∧ (0 ≤ x1 ∧ x1 < 22) ∧ EvK N X (M_copies_s38 d x1 x2 0 (am_upd (am_upd (am_upd U 120 x1.toNat (U 120 x2.toNat)) 121 x1.toNat (U 121 x2.toNat)) 122 x1.toNat (U 122 x2.toNat))) R) : EvK N X (M_copies_s0 d x1 x2 U) R := by
  show Ev (am_kz N X) (d, 144, 0, [some (.inr (.inr 86)), some (.inl x1), some (.inl x2), none], [], (am_sh, am_mm U)) R
  refine ev_seg (σ1 := (d, 144, 10, [some (.inr (.inr 86)), some (.inl x1), some (.inl x2), none], [.inl x2, .inr (.inr 120), .inl x1, .inr (.inr 120)], (am_sh, am_mm U))) 6 (fun _ => rfl) ?_
  refine eu_iald 120 (n := 22) rfl (by decide) rfl (fun _ => rfl) h.1 ?_
  show Ev (am_kz N X) (d, 144, 11, [some (.inr (.inr 86)), some (.inl x1), some (.inl x2), none], [.inl (U 120 x2.toNat), .inl x1, .inr (.inr 120)], (am_sh, am_mm U)) R
  have ha := h.2
  refine eu_iast 120 (n := 22) rfl (by decide) rfl (fun _ => rfl) ha.1 ?_
  show Ev (am_kz N X) (d, 144, 12, [some (.inr (.inr 86)), some (.inl x1), some (.inl x2), none], [], (am_sh, am_mm (am_upd U 120 x1.toNat (U 120 x2.toNat)))) R
  have haa := ha.2
  refine ev_seg (σ1 := (d, 144, 22, [some (.inr (.inr 86)), some (.inl x1), some (.inl x2), none], [.inl x2, .inr (.inr 121), .inl x1, .inr (.inr 121)], (am_sh, am_mm (am_upd U 120 x1.toNat (U 120 x2.toNat))))) 6 (fun _ => rfl) ?_
  refine eu_iald 121 (n := 22) rfl (by decide) rfl (fun _ => rfl) h.1 ?_
  show Ev (am_kz N X) (d, 144, 23, [some (.inr (.inr 86)), some (.inl x1), some (.inl x2), none], [.inl (U 121 x2.toNat), .inl x1, .inr (.inr 121)], (am_sh, am_mm (am_upd U 120 x1.toNat (U 120 x2.toNat)))) R
  refine eu_iast 121 (n := 22) rfl (by decide) rfl (fun _ => rfl) ha.1 ?_
  show Ev (am_kz N X) (d, 144, 24, [some (.inr (.inr 86)), some (.inl x1), some (.inl x2), none], [], (am_sh, am_mm (am_upd (am_upd U 120 x1.toNat (U 120 x2.toNat)) 121 x1.toNat (U 121 x2.toNat)))) R
  refine ev_seg (σ1 := (d, 144, 34, [some (.inr (.inr 86)), some (.inl x1), some (.inl x2), none], [.inl x2, .inr (.inr 122), .inl x1, .inr (.inr 122)], (am_sh, am_mm (am_upd (am_upd U 120 x1.toNat (U 120 x2.toNat)) 121 x1.toNat (U 121 x2.toNat))))) 6 (fun _ => rfl) ?_
  refine eu_iald 122 (n := 22) rfl (by decide) rfl (fun _ => rfl) h.1 ?_
  show Ev (am_kz N X) (d, 144, 35, [some (.inr (.inr 86)), some (.inl x1), some (.inl x2), none], [.inl (U 122 x2.toNat), .inl x1, .inr (.inr 122)], (am_sh, am_mm (am_upd (am_upd U 120 x1.toNat (U 120 x2.toNat)) 121 x1.toNat (U 121 x2.toNat)))) R
  refine eu_iast 122 (n := 22) rfl (by decide) rfl (fun _ => rfl) ha.1 ?_
  show Ev (am_kz N X) (d, 144, 36, [some (.inr (.inr 86)), some (.inl x1), some (.inl x2), none], [], (am_sh, am_mm (am_upd (am_upd (am_upd U 120 x1.toNat (U 120 x2.toNat)) 121 x1.toNat (U 121 x2.toNat)) 122 x1.toNat (U 122 x2.toNat)))) R
  refine ev_seg (σ1 := (d, 144, 38, [some (.inr (.inr 86)), some (.inl x1), some (.inl x2), some (.inl 0)], [], (am_sh, am_mm (am_upd (am_upd (am_upd U 120 x1.toNat (U 120 x2.toNat)) 121 x1.toNat (U 121 x2.toNat)) 122 x1.toNat (U 122 x2.toNat))))) 2 (fun _ => rfl) ?_
  exact haa
set_option maxRecDepth 8000 in
theorem M_copies_r38 {N : Nat} {X : Nat → Int} {d : Nat} {x1 x2 x3 : Int} {U : am_U} {R : Option am_V × am_M} (h : ((16 ≤ x3) → R = rV U) ∧ ((x3 < 16) → (0 ≤ (w32 ((w32 (16 * x2)) + x3)) ∧ (w32 ((w32 (16 * x2)) + x3)) < 352) ∧ (0 ≤ (w32 ((w32 (16 * x1)) + x3)) ∧ (w32 ((w32 (16 * x1)) + x3)) < 352) ∧ EvK N X (M_copies_s38 d x1 x2 (w32 (x3 + 1)) (am_upd (am_upd U 123 ((w32 ((w32 (16 * x1)) + x3)).toNat) (U 123 ((w32 ((w32 (16 * x2)) + x3)).toNat))) 124 ((w32 ((w32 (16 * x1)) + x3)).toNat) (U 124 ((w32 ((w32 (16 * x2)) + x3)).toNat)))) R)) : EvK N X (M_copies_s38 d x1 x2 x3 U) R := by
  show Ev (am_kz N X) (d, 144, 38, [some (.inr (.inr 86)), some (.inl x1), some (.inl x2), some (.inl x3)], [], (am_sh, am_mm U)) R
  refine ev_br (P := 16 ≤ x3) (σ1 := (d, 144, 94, [some (.inr (.inr 86)), some (.inl x1), some (.inl x2), some (.inl x3)], [], (am_sh, am_mm U))) (σ2 := (d, 144, 44, [some (.inr (.inr 86)), some (.inl x1), some (.inl x2), some (.inl x3)], [], (am_sh, am_mm U))) 3 (fun _ => rfl) (fun hc => ?_) (fun hc => ?_)
  · have h1 := h.1 hc
    subst h1
    exact ev_end 1 (fun _ => rfl)
  · have h2 := h.2 (Int.not_le.mp hc)
    refine ev_seg (σ1 := (d, 144, 64, [some (.inr (.inr 86)), some (.inl x1), some (.inl x2), some (.inl x3)], [.inl (w32 ((w32 (16 * x2)) + x3)), .inr (.inr 123), .inl (w32 ((w32 (16 * x1)) + x3)), .inr (.inr 123)], (am_sh, am_mm U))) 14 (fun _ => rfl) ?_
    refine eu_iald 123 (n := 352) rfl (by decide) rfl (fun _ => rfl) h2.1 ?_
    show Ev (am_kz N X) (d, 144, 65, [some (.inr (.inr 86)), some (.inl x1), some (.inl x2), some (.inl x3)], [.inl (U 123 ((w32 ((w32 (16 * x2)) + x3)).toNat)), .inl (w32 ((w32 (16 * x1)) + x3)), .inr (.inr 123)], (am_sh, am_mm U)) R
    have h2a := h2.2
    refine eu_iast 123 (n := 352) rfl (by decide) rfl (fun _ => rfl) h2a.1 ?_
    show Ev (am_kz N X) (d, 144, 66, [some (.inr (.inr 86)), some (.inl x1), some (.inl x2), some (.inl x3)], [], (am_sh, am_mm (am_upd U 123 ((w32 ((w32 (16 * x1)) + x3)).toNat) (U 123 ((w32 ((w32 (16 * x2)) + x3)).toNat))))) R
    have h2aa := h2a.2
    refine ev_seg (σ1 := (d, 144, 86, [some (.inr (.inr 86)), some (.inl x1), some (.inl x2), some (.inl x3)], [.inl (w32 ((w32 (16 * x2)) + x3)), .inr (.inr 124), .inl (w32 ((w32 (16 * x1)) + x3)), .inr (.inr 124)], (am_sh, am_mm (am_upd U 123 ((w32 ((w32 (16 * x1)) + x3)).toNat) (U 123 ((w32 ((w32 (16 * x2)) + x3)).toNat)))))) 14 (fun _ => rfl) ?_
    refine eu_iald 124 (n := 352) rfl (by decide) rfl (fun _ => rfl) h2.1 ?_
    show Ev (am_kz N X) (d, 144, 87, [some (.inr (.inr 86)), some (.inl x1), some (.inl x2), some (.inl x3)], [.inl (U 124 ((w32 ((w32 (16 * x2)) + x3)).toNat)), .inl (w32 ((w32 (16 * x1)) + x3)), .inr (.inr 124)], (am_sh, am_mm (am_upd U 123 ((w32 ((w32 (16 * x1)) + x3)).toNat) (U 123 ((w32 ((w32 (16 * x2)) + x3)).toNat))))) R
    refine eu_iast 124 (n := 352) rfl (by decide) rfl (fun _ => rfl) h2a.1 ?_
    show Ev (am_kz N X) (d, 144, 88, [some (.inr (.inr 86)), some (.inl x1), some (.inl x2), some (.inl x3)], [], (am_sh, am_mm (am_upd (am_upd U 123 ((w32 ((w32 (16 * x1)) + x3)).toNat) (U 123 ((w32 ((w32 (16 * x2)) + x3)).toNat))) 124 ((w32 ((w32 (16 * x1)) + x3)).toNat) (U 124 ((w32 ((w32 (16 * x2)) + x3)).toNat))))) R
    refine ev_seg (σ1 := (d, 144, 38, [some (.inr (.inr 86)), some (.inl x1), some (.inl x2), some (.inl (w32 (x3 + 1)))], [], (am_sh, am_mm (am_upd (am_upd U 123 ((w32 ((w32 (16 * x1)) + x3)).toNat) (U 123 ((w32 ((w32 (16 * x2)) + x3)).toNat))) 124 ((w32 ((w32 (16 * x1)) + x3)).toNat) (U 124 ((w32 ((w32 (16 * x2)) + x3)).toNat)))))) 2 (fun _ => rfl) ?_
    exact h2aa
set_option maxRecDepth 8000 in
theorem Cp_tellOf_r0 {N : Nat} {X : Nat → Int} {d : Nat} {x1 : Int} {U : am_U} {R : Option am_V × am_M} (h : ((x1 = (-1)) → ∃ U1 : am_U, EvK N X (Cp_look_s0 d U) (rV U1) ∧ R = rI (U1 52 7) U1) ∧ ((x1 ≠ (-1)) → ((x1 < 0) → R = rI (-1) U) ∧ ((0 ≤ x1) → ((x1 < (U 16 0)) → ∃ U2 : am_U, EvK N X (Cp_look_s0 d U) (rV U2) ∧ (0 ≤ x1 ∧ x1 < 16) ∧ R = rI (U2 55 x1.toNat) U2) ∧ (((U 16 0) ≤ x1) → R = rI (-1) U)))) : EvK N X (Cp_tellOf_s0 (d + 1) x1 U) R := by
  show Ev (am_kz N X) ((d + 1), 145, 0, [some (.inr (.inr 52)), some (.inl x1)], [], (am_sh, am_mm U)) R
  refine ev_br (P := x1 = (-1)) (σ1 := ((d + 1), 145, 22, [some (.inr (.inr 52)), some (.inl x1)], [], (am_sh, am_mm U))) (σ2 := ((d + 1), 145, 5, [some (.inr (.inr 52)), some (.inl x1)], [], (am_sh, am_mm U))) 3 (fun _ => rfl) (fun hc => ?_) (fun hc => ?_)
  · have h1 := h.1 hc
    have hq := hc
    refine ev_seg (σ1 := ((d + 1), 145, 23, [some (.inr (.inr 52)), some (.inl x1)], [.inr (.inr 52)], (am_sh, am_mm U))) 1 (fun _ => rfl) ?_
    obtain ⟨U1, h1c, h1a⟩ := h1
    refine ev_cal (σc := (Cp_look_s0 d U)) (fun _ => rfl) h1c ?_
    show Ev (am_kz N X) ((d + 1), 145, 26, [some (.inr (.inr 52)), some (.inl x1)], [], (am_sh, am_mm U1)) R
    refine ev_br (P := ¬ x1 = (-1)) (σ1 := ((d + 1), 145, 38, [some (.inr (.inr 52)), some (.inl x1)], [], (am_sh, am_mm U1))) (σ2 := ((d + 1), 145, 31, [some (.inr (.inr 52)), some (.inl x1)], [], (am_sh, am_mm U1))) 3 (fun _ => rfl) (fun hc => absurd hq (fun h0 => by have h1 := hc; omega)) (fun hc => ?_)
    subst h1a
    exact ev_end 4 (fun _ => rfl)
  · have h2 := h.2 hc
    have hq := hc
    refine ev_br (P := x1 < 0) (σ1 := ((d + 1), 145, 20, [some (.inr (.inr 52)), some (.inl x1)], [], (am_sh, am_mm U))) (σ2 := ((d + 1), 145, 9, [some (.inr (.inr 52)), some (.inl x1)], [], (am_sh, am_mm U))) 2 (fun _ => rfl) (fun hc => ?_) (fun hc => ?_)
    · have h21 := h2.1 hc
      subst h21
      exact ev_end 2 (fun _ => rfl)
    · have h22 := h2.2 (Int.not_lt.mp hc)
      refine ev_br (P := x1 < (U 16 0)) (σ1 := ((d + 1), 145, 22, [some (.inr (.inr 52)), some (.inl x1)], [], (am_sh, am_mm U))) (σ2 := ((d + 1), 145, 20, [some (.inr (.inr 52)), some (.inl x1)], [], (am_sh, am_mm U))) 5 (fun _ => rfl) (fun hc => ?_) (fun hc => ?_)
      · have h221 := h22.1 hc
        refine ev_seg (σ1 := ((d + 1), 145, 23, [some (.inr (.inr 52)), some (.inl x1)], [.inr (.inr 52)], (am_sh, am_mm U))) 1 (fun _ => rfl) ?_
        obtain ⟨U2, h221c, h221a⟩ := h221
        refine ev_cal (σc := (Cp_look_s0 d U)) (fun _ => rfl) h221c ?_
        show Ev (am_kz N X) ((d + 1), 145, 26, [some (.inr (.inr 52)), some (.inl x1)], [], (am_sh, am_mm U2)) R
        refine ev_br (P := ¬ x1 = (-1)) (σ1 := ((d + 1), 145, 38, [some (.inr (.inr 52)), some (.inl x1)], [], (am_sh, am_mm U2))) (σ2 := ((d + 1), 145, 31, [some (.inr (.inr 52)), some (.inl x1)], [], (am_sh, am_mm U2))) 3 (fun _ => rfl) (fun hc => ?_) (fun hc => absurd hq (fun h0 => by have h1 := (Decidable.not_not.mp hc); omega))
        refine ev_seg (σ1 := ((d + 1), 145, 43, [some (.inr (.inr 52)), some (.inl x1)], [.inl x1, .inr (.inr 55)], (am_sh, am_mm U2))) 3 (fun _ => rfl) ?_
        refine eu_iald 55 (n := 16) rfl (by decide) rfl (fun _ => rfl) h221a.1 ?_
        show Ev (am_kz N X) ((d + 1), 145, 44, [some (.inr (.inr 52)), some (.inl x1)], [.inl (U2 55 x1.toNat)], (am_sh, am_mm U2)) R
        have h221aa := h221a.2
        subst h221aa
        exact ev_end 1 (fun _ => rfl)
      · have h222 := h22.2 (Int.not_lt.mp hc)
        subst h222
        exact ev_end 2 (fun _ => rfl)
set_option maxRecDepth 8000 in
theorem M_couples_r0 {N : Nat} {X : Nat → Int} {d : Nat} {U : am_U} {R : Option am_V × am_M} (h : EvK N X (M_couples_s9 (d + 1) (U 122 0) 0 U) R) : EvK N X (M_couples_s0 (d + 1) U) R := by
  show Ev (am_kz N X) ((d + 1), 146, 0, [some (.inr (.inr 86)), none, none, none, none, none, none, none], [], (am_sh, am_mm U)) R
  refine ev_seg (σ1 := ((d + 1), 146, 5, [some (.inr (.inr 86)), none, none, none, none, none, none, none], [.inl 0, .inr (.inr 122)], (am_sh, am_mm U))) 3 (fun _ => rfl) ?_
  refine eu_iald 122 (n := 22) rfl (by decide) rfl (fun _ => rfl) (by decide) ?_
  show Ev (am_kz N X) ((d + 1), 146, 6, [some (.inr (.inr 86)), none, none, none, none, none, none, none], [.inl (U 122 0)], (am_sh, am_mm U)) R
  refine ev_seg (σ1 := ((d + 1), 146, 9, [some (.inr (.inr 86)), some (.inl (U 122 0)), some (.inl 0), none, none, none, none, none], [], (am_sh, am_mm U))) 3 (fun _ => rfl) ?_
  exact h
set_option maxRecDepth 8000 in
theorem M_couples_r9 {N : Nat} {X : Nat → Int} {d : Nat} {x1 x2 : Int} {U : am_U} {R : Option am_V × am_M} (h : ((x1 ≤ x2) → EvK N X (M_couples_s92 (d + 1) x1 1 U) R) ∧ ((x2 < x1) → (0 ≤ x2 ∧ x2 < 16) ∧ EvK N X (M_couples_s23 (d + 1) x1 x2 0 (am_upd U 130 x2.toNat 0)) R)) : EvK N X (M_couples_s9 (d + 1) x1 x2 U) R := by
  show Ev (am_kz N X) ((d + 1), 146, 9, [some (.inr (.inr 86)), some (.inl x1), some (.inl x2), none, none, none, none, none], [], (am_sh, am_mm U)) R
  refine ev_br (P := x1 ≤ x2) (σ1 := ((d + 1), 146, 90, [some (.inr (.inr 86)), some (.inl x1), some (.inl x2), none, none, none, none, none], [], (am_sh, am_mm U))) (σ2 := ((d + 1), 146, 14, [some (.inr (.inr 86)), some (.inl x1), some (.inl x2), none, none, none, none, none], [], (am_sh, am_mm U))) 3 (fun _ => rfl) (fun hc => ?_) (fun hc => ?_)
  · have h1 := h.1 hc
    refine ev_seg (σ1 := ((d + 1), 146, 92, [some (.inr (.inr 86)), some (.inl x1), some (.inl 1), none, none, none, none, none], [], (am_sh, am_mm U))) 2 (fun _ => rfl) ?_
    exact h1
  · have h2 := h.2 (Int.not_le.mp hc)
    refine ev_seg (σ1 := ((d + 1), 146, 20, [some (.inr (.inr 86)), some (.inl x1), some (.inl x2), none, none, none, none, none], [.inl 0, .inl x2, .inr (.inr 130)], (am_sh, am_mm U))) 4 (fun _ => rfl) ?_
    refine eu_iast 130 (n := 16) rfl (by decide) rfl (fun _ => rfl) h2.1 ?_
    show Ev (am_kz N X) ((d + 1), 146, 21, [some (.inr (.inr 86)), some (.inl x1), some (.inl x2), none, none, none, none, none], [], (am_sh, am_mm (am_upd U 130 x2.toNat 0))) R
    have h2a := h2.2
    refine ev_seg (σ1 := ((d + 1), 146, 23, [some (.inr (.inr 86)), some (.inl x1), some (.inl x2), some (.inl 0), none, none, none, none], [], (am_sh, am_mm (am_upd U 130 x2.toNat 0)))) 2 (fun _ => rfl) ?_
    exact h2a
set_option maxRecDepth 8000 in
theorem M_couples_r92 {N : Nat} {X : Nat → Int} {d : Nat} {x1 x2 : Int} {U : am_U} {R : Option am_V × am_M} (h : (((am_shl 1 x1) ≤ x2) → EvK N X (M_couples_s213 (d + 1) x1 (w32 ((am_shl 1 x1) - 1)) U) R) ∧ ((x2 < (am_shl 1 x1)) → ∃ (r1 : Int) (U1 : am_U), EvK N X (M_lowest_s0 d x2 U) (rI r1 U1) ∧ (0 ≤ (am_and x2 (am_xor (am_shl 1 r1) (-1))) ∧ (am_and x2 (am_xor (am_shl 1 r1) (-1))) < 65536) ∧ EvK N X (M_couples_s127 (d + 1) x1 x2 r1 (am_and x2 (am_xor (am_shl 1 r1) (-1))) (U1 131 ((am_and x2 (am_xor (am_shl 1 r1) (-1))).toNat)) (w32 (r1 + 1)) U1) R)) : EvK N X (M_couples_s92 (d + 1) x1 x2 U) R := by
  show Ev (am_kz N X) ((d + 1), 146, 92, [some (.inr (.inr 86)), some (.inl x1), some (.inl x2), none, none, none, none, none], [], (am_sh, am_mm U)) R
  refine ev_br (P := (am_shl 1 x1) ≤ x2) (σ1 := ((d + 1), 146, 207, [some (.inr (.inr 86)), some (.inl x1), some (.inl x2), none, none, none, none, none], [], (am_sh, am_mm U))) (σ2 := ((d + 1), 146, 99, [some (.inr (.inr 86)), some (.inl x1), some (.inl x2), none, none, none, none, none], [], (am_sh, am_mm U))) 5 (fun _ => rfl) (fun hc => ?_) (fun hc => ?_)
  · have h1 := h.1 hc
    refine ev_seg (σ1 := ((d + 1), 146, 213, [some (.inr (.inr 86)), some (.inl x1), some (.inl (w32 ((am_shl 1 x1) - 1))), none, none, none, none, none], [], (am_sh, am_mm U))) 6 (fun _ => rfl) ?_
    exact h1
  · have h2 := h.2 (Int.not_le.mp hc)
    refine ev_seg (σ1 := ((d + 1), 146, 100, [some (.inr (.inr 86)), some (.inl x1), some (.inl x2), none, none, none, none, none], [.inl x2], (am_sh, am_mm U))) 1 (fun _ => rfl) ?_
    obtain ⟨r1, U1, h2c, h2a⟩ := h2
    refine ev_cal (σc := (M_lowest_s0 d x2 U)) (fun _ => rfl) h2c ?_
    show Ev (am_kz N X) ((d + 1), 146, 103, [some (.inr (.inr 86)), some (.inl x1), some (.inl x2), none, none, none, none, none], [.inl r1], (am_sh, am_mm U1)) R
    refine ev_seg (σ1 := ((d + 1), 146, 119, [some (.inr (.inr 86)), some (.inl x1), some (.inl x2), some (.inl r1), some (.inl (am_and x2 (am_xor (am_shl 1 r1) (-1)))), none, none, none], [.inl (am_and x2 (am_xor (am_shl 1 r1) (-1))), .inr (.inr 131)], (am_sh, am_mm U1))) 12 (fun _ => rfl) ?_
    refine eu_iald 131 (n := 65536) rfl (by decide) rfl (fun _ => rfl) h2a.1 ?_
    show Ev (am_kz N X) ((d + 1), 146, 120, [some (.inr (.inr 86)), some (.inl x1), some (.inl x2), some (.inl r1), some (.inl (am_and x2 (am_xor (am_shl 1 r1) (-1)))), none, none, none], [.inl (U1 131 ((am_and x2 (am_xor (am_shl 1 r1) (-1))).toNat))], (am_sh, am_mm U1)) R
    have h2aa := h2a.2
    refine ev_seg (σ1 := ((d + 1), 146, 127, [some (.inr (.inr 86)), some (.inl x1), some (.inl x2), some (.inl r1), some (.inl (am_and x2 (am_xor (am_shl 1 r1) (-1)))), some (.inl (U1 131 ((am_and x2 (am_xor (am_shl 1 r1) (-1))).toNat))), some (.inl (w32 (r1 + 1))), none], [], (am_sh, am_mm U1))) 5 (fun _ => rfl) ?_
    exact h2aa
set_option maxRecDepth 8000 in
theorem M_couples_r23 {N : Nat} {X : Nat → Int} {d : Nat} {x1 x2 x3 : Int} {U : am_U} {R : Option am_V × am_M} (h : ((x1 ≤ x3) → (0 ≤ x2 ∧ x2 < 16) ∧ EvK N X (M_couples_s9 (d + 1) x1 (w32 (x2 + 1)) (am_upd U 132 x2.toNat (-1))) R) ∧ ((x3 < x1) → (0 ≤ x2 ∧ x2 < 16) ∧ ((x2 = x3) → EvK N X (M_couples_s23 (d + 1) x1 x2 (w32 (x3 + 1)) (am_upd U 130 x2.toNat (am_or (U 130 x2.toNat) 0))) R) ∧ ((x2 ≠ x3) → (0 ≤ (U 86 13) ∧ (U 86 13) < 2) ∧ (((U 104 ((U 86 13).toNat)) = (-1)) → EvK N X (M_couples_s23 (d + 1) x1 x2 (w32 (x3 + 1)) (am_upd U 130 x2.toNat (am_or (U 130 x2.toNat) 0))) R) ∧ (((U 104 ((U 86 13).toNat)) ≠ (-1)) → ∃ (r1 : Int) (U1 : am_U), EvK N X (M_mayWed_s0 d x2 x3 U) (rI r1 U1) ∧ ((r1 = 0) → EvK N X (M_couples_s23 (d + 1) x1 x2 (w32 (x3 + 1)) (am_upd U1 130 x2.toNat (am_or (U 130 x2.toNat) 0))) R) ∧ ((r1 ≠ 0) → EvK N X (M_couples_s23 (d + 1) x1 x2 (w32 (x3 + 1)) (am_upd U1 130 x2.toNat (am_or (U 130 x2.toNat) (am_shl 1 x3)))) R))))) : EvK N X (M_couples_s23 (d + 1) x1 x2 x3 U) R := by
  show Ev (am_kz N X) ((d + 1), 146, 23, [some (.inr (.inr 86)), some (.inl x1), some (.inl x2), some (.inl x3), none, none, none, none], [], (am_sh, am_mm U)) R
  refine ev_br (P := x1 ≤ x3) (σ1 := ((d + 1), 146, 77, [some (.inr (.inr 86)), some (.inl x1), some (.inl x2), some (.inl x3), none, none, none, none], [], (am_sh, am_mm U))) (σ2 := ((d + 1), 146, 28, [some (.inr (.inr 86)), some (.inl x1), some (.inl x2), some (.inl x3), none, none, none, none], [], (am_sh, am_mm U))) 3 (fun _ => rfl) (fun hc => ?_) (fun hc => ?_)
  · have h1 := h.1 hc
    refine ev_seg (σ1 := ((d + 1), 146, 83, [some (.inr (.inr 86)), some (.inl x1), some (.inl x2), some (.inl x3), none, none, none, none], [.inl (-1), .inl x2, .inr (.inr 132)], (am_sh, am_mm U))) 4 (fun _ => rfl) ?_
    refine eu_iast 132 (n := 16) rfl (by decide) rfl (fun _ => rfl) h1.1 ?_
    show Ev (am_kz N X) ((d + 1), 146, 84, [some (.inr (.inr 86)), some (.inl x1), some (.inl x2), some (.inl x3), none, none, none, none], [], (am_sh, am_mm (am_upd U 132 x2.toNat (-1)))) R
    have h1a := h1.2
    refine ev_seg (σ1 := ((d + 1), 146, 9, [some (.inr (.inr 86)), some (.inl x1), some (.inl (w32 (x2 + 1))), some (.inl x3), none, none, none, none], [], (am_sh, am_mm (am_upd U 132 x2.toNat (-1))))) 2 (fun _ => rfl) ?_
    exact ev_le (L := [some (.inr (.inr 86)), some (.inl x1), some (.inl (w32 (x2 + 1))), none, none, none, none, none]) ⟨rfl, ⟨rfl, ⟨rfl, trivial⟩⟩⟩ h1a
  · have h2 := h.2 (Int.not_le.mp hc)
    refine ev_seg (σ1 := ((d + 1), 146, 34, [some (.inr (.inr 86)), some (.inl x1), some (.inl x2), some (.inl x3), none, none, none, none], [.inl x2, .inr (.inr 130), .inl x2, .inr (.inr 130)], (am_sh, am_mm U))) 4 (fun _ => rfl) ?_
    refine eu_iald 130 (n := 16) rfl (by decide) rfl (fun _ => rfl) h2.1 ?_
    show Ev (am_kz N X) ((d + 1), 146, 35, [some (.inr (.inr 86)), some (.inl x1), some (.inl x2), some (.inl x3), none, none, none, none], [.inl (U 130 x2.toNat), .inl x2, .inr (.inr 130)], (am_sh, am_mm U)) R
    have h2a := h2.2
    refine ev_br (P := x2 = x3) (σ1 := ((d + 1), 146, 68, [some (.inr (.inr 86)), some (.inl x1), some (.inl x2), some (.inl x3), none, none, none, none], [.inl (U 130 x2.toNat), .inl x2, .inr (.inr 130)], (am_sh, am_mm U))) (σ2 := ((d + 1), 146, 40, [some (.inr (.inr 86)), some (.inl x1), some (.inl x2), some (.inl x3), none, none, none, none], [.inl (U 130 x2.toNat), .inl x2, .inr (.inr 130)], (am_sh, am_mm U))) 3 (fun _ => rfl) (fun hc => ?_) (fun hc => ?_)
    · have h2a1 := h2a.1 hc
      refine ev_seg (σ1 := ((d + 1), 146, 70, [some (.inr (.inr 86)), some (.inl x1), some (.inl x2), some (.inl x3), none, none, none, none], [.inl (am_or (U 130 x2.toNat) 0), .inl x2, .inr (.inr 130)], (am_sh, am_mm U))) 2 (fun _ => rfl) ?_
      refine eu_iast 130 (n := 16) rfl (by decide) rfl (fun _ => rfl) h2.1 ?_
      show Ev (am_kz N X) ((d + 1), 146, 71, [some (.inr (.inr 86)), some (.inl x1), some (.inl x2), some (.inl x3), none, none, none, none], [], (am_sh, am_mm (am_upd U 130 x2.toNat (am_or (U 130 x2.toNat) 0)))) R
      refine ev_seg (σ1 := ((d + 1), 146, 23, [some (.inr (.inr 86)), some (.inl x1), some (.inl x2), some (.inl (w32 (x3 + 1))), none, none, none, none], [], (am_sh, am_mm (am_upd U 130 x2.toNat (am_or (U 130 x2.toNat) 0))))) 2 (fun _ => rfl) ?_
      exact h2a1
    · have h2a2 := h2a.2 hc
      refine ev_seg (σ1 := ((d + 1), 146, 48, [some (.inr (.inr 86)), some (.inl x1), some (.inl x2), some (.inl x3), none, none, none, none], [.inl (U 86 13), .inr (.inr 104), .inl (U 130 x2.toNat), .inl x2, .inr (.inr 130)], (am_sh, am_mm U))) 4 (fun _ => rfl) ?_
      refine eu_iald 104 (n := 2) rfl (by decide) rfl (fun _ => rfl) h2a2.1 ?_
      show Ev (am_kz N X) ((d + 1), 146, 49, [some (.inr (.inr 86)), some (.inl x1), some (.inl x2), some (.inl x3), none, none, none, none], [.inl (U 104 ((U 86 13).toNat)), .inl (U 130 x2.toNat), .inl x2, .inr (.inr 130)], (am_sh, am_mm U)) R
      have h2a2a := h2a2.2
      refine ev_br (P := (U 104 ((U 86 13).toNat)) = (-1)) (σ1 := ((d + 1), 146, 68, [some (.inr (.inr 86)), some (.inl x1), some (.inl x2), some (.inl x3), none, none, none, none], [.inl (U 130 x2.toNat), .inl x2, .inr (.inr 130)], (am_sh, am_mm U))) (σ2 := ((d + 1), 146, 53, [some (.inr (.inr 86)), some (.inl x1), some (.inl x2), some (.inl x3), none, none, none, none], [.inl (U 130 x2.toNat), .inl x2, .inr (.inr 130)], (am_sh, am_mm U))) 2 (fun _ => rfl) (fun hc => ?_) (fun hc => ?_)
      · have h2a2a1 := h2a2a.1 hc
        refine ev_seg (σ1 := ((d + 1), 146, 70, [some (.inr (.inr 86)), some (.inl x1), some (.inl x2), some (.inl x3), none, none, none, none], [.inl (am_or (U 130 x2.toNat) 0), .inl x2, .inr (.inr 130)], (am_sh, am_mm U))) 2 (fun _ => rfl) ?_
        refine eu_iast 130 (n := 16) rfl (by decide) rfl (fun _ => rfl) h2.1 ?_
        show Ev (am_kz N X) ((d + 1), 146, 71, [some (.inr (.inr 86)), some (.inl x1), some (.inl x2), some (.inl x3), none, none, none, none], [], (am_sh, am_mm (am_upd U 130 x2.toNat (am_or (U 130 x2.toNat) 0)))) R
        refine ev_seg (σ1 := ((d + 1), 146, 23, [some (.inr (.inr 86)), some (.inl x1), some (.inl x2), some (.inl (w32 (x3 + 1))), none, none, none, none], [], (am_sh, am_mm (am_upd U 130 x2.toNat (am_or (U 130 x2.toNat) 0))))) 2 (fun _ => rfl) ?_
        exact h2a2a1
      · have h2a2a2 := h2a2a.2 hc
        refine ev_seg (σ1 := ((d + 1), 146, 56, [some (.inr (.inr 86)), some (.inl x1), some (.inl x2), some (.inl x3), none, none, none, none], [.inl x3, .inl x2, .inr (.inr 86), .inl (U 130 x2.toNat), .inl x2, .inr (.inr 130)], (am_sh, am_mm U))) 3 (fun _ => rfl) ?_
        obtain ⟨r1, U1, h2a2a2c, h2a2a2a⟩ := h2a2a2
        refine ev_cal (σc := (M_mayWed_s0 d x2 x3 U)) (fun _ => rfl) h2a2a2c ?_
        show Ev (am_kz N X) ((d + 1), 146, 59, [some (.inr (.inr 86)), some (.inl x1), some (.inl x2), some (.inl x3), none, none, none, none], [.inl r1, .inl (U 130 x2.toNat), .inl x2, .inr (.inr 130)], (am_sh, am_mm U1)) R
        refine ev_br (P := r1 = 0) (σ1 := ((d + 1), 146, 68, [some (.inr (.inr 86)), some (.inl x1), some (.inl x2), some (.inl x3), none, none, none, none], [.inl (U 130 x2.toNat), .inl x2, .inr (.inr 130)], (am_sh, am_mm U1))) (σ2 := ((d + 1), 146, 62, [some (.inr (.inr 86)), some (.inl x1), some (.inl x2), some (.inl x3), none, none, none, none], [.inl (U 130 x2.toNat), .inl x2, .inr (.inr 130)], (am_sh, am_mm U1))) 1 (fun _ => rfl) (fun hc => ?_) (fun hc => ?_)
        · have h2a2a2a1 := h2a2a2a.1 hc
          refine ev_seg (σ1 := ((d + 1), 146, 70, [some (.inr (.inr 86)), some (.inl x1), some (.inl x2), some (.inl x3), none, none, none, none], [.inl (am_or (U 130 x2.toNat) 0), .inl x2, .inr (.inr 130)], (am_sh, am_mm U1))) 2 (fun _ => rfl) ?_
          refine eu_iast 130 (n := 16) rfl (by decide) rfl (fun _ => rfl) h2.1 ?_
          show Ev (am_kz N X) ((d + 1), 146, 71, [some (.inr (.inr 86)), some (.inl x1), some (.inl x2), some (.inl x3), none, none, none, none], [], (am_sh, am_mm (am_upd U1 130 x2.toNat (am_or (U 130 x2.toNat) 0)))) R
          refine ev_seg (σ1 := ((d + 1), 146, 23, [some (.inr (.inr 86)), some (.inl x1), some (.inl x2), some (.inl (w32 (x3 + 1))), none, none, none, none], [], (am_sh, am_mm (am_upd U1 130 x2.toNat (am_or (U 130 x2.toNat) 0))))) 2 (fun _ => rfl) ?_
          exact h2a2a2a1
        · have h2a2a2a2 := h2a2a2a.2 hc
          refine ev_seg (σ1 := ((d + 1), 146, 70, [some (.inr (.inr 86)), some (.inl x1), some (.inl x2), some (.inl x3), none, none, none, none], [.inl (am_or (U 130 x2.toNat) (am_shl 1 x3)), .inl x2, .inr (.inr 130)], (am_sh, am_mm U1))) 5 (fun _ => rfl) ?_
          refine eu_iast 130 (n := 16) rfl (by decide) rfl (fun _ => rfl) h2.1 ?_
          show Ev (am_kz N X) ((d + 1), 146, 71, [some (.inr (.inr 86)), some (.inl x1), some (.inl x2), some (.inl x3), none, none, none, none], [], (am_sh, am_mm (am_upd U1 130 x2.toNat (am_or (U 130 x2.toNat) (am_shl 1 x3))))) R
          refine ev_seg (σ1 := ((d + 1), 146, 23, [some (.inr (.inr 86)), some (.inl x1), some (.inl x2), some (.inl (w32 (x3 + 1))), none, none, none, none], [], (am_sh, am_mm (am_upd U1 130 x2.toNat (am_or (U 130 x2.toNat) (am_shl 1 x3)))))) 2 (fun _ => rfl) ?_
          exact h2a2a2a2
set_option maxRecDepth 8000 in
theorem M_couples_r213 {N : Nat} {X : Nat → Int} {d : Nat} {x1 x2 : Int} {U : am_U} {R : Option am_V × am_M} (h : ((x2 = 0) → R = rV U) ∧ ((x2 ≠ 0) → ∃ (r1 : Int) (U1 : am_U), EvK N X (M_lowest_s0 d x2 U) (rI r1 U1) ∧ EvK N X (M_couples_s239 (d + 1) x1 x2 r1 (am_and x2 (am_xor (am_shl 1 r1) (-1))) (-1) (w32 (r1 + 1)) U1) R)) : EvK N X (M_couples_s213 (d + 1) x1 x2 U) R := by
  show Ev (am_kz N X) ((d + 1), 146, 213, [some (.inr (.inr 86)), some (.inl x1), some (.inl x2), none, none, none, none, none], [], (am_sh, am_mm U)) R
  refine ev_br (P := x2 = 0) (σ1 := ((d + 1), 146, 342, [some (.inr (.inr 86)), some (.inl x1), some (.inl x2), none, none, none, none, none], [], (am_sh, am_mm U))) (σ2 := ((d + 1), 146, 217, [some (.inr (.inr 86)), some (.inl x1), some (.inl x2), none, none, none, none, none], [], (am_sh, am_mm U))) 2 (fun _ => rfl) (fun hc => ?_) (fun hc => ?_)
  · have h1 := h.1 hc
    subst h1
    exact ev_end 1 (fun _ => rfl)
  · have h2 := h.2 hc
    refine ev_seg (σ1 := ((d + 1), 146, 218, [some (.inr (.inr 86)), some (.inl x1), some (.inl x2), none, none, none, none, none], [.inl x2], (am_sh, am_mm U))) 1 (fun _ => rfl) ?_
    obtain ⟨r1, U1, h2c, h2a⟩ := h2
    refine ev_cal (σc := (M_lowest_s0 d x2 U)) (fun _ => rfl) h2c ?_
    show Ev (am_kz N X) ((d + 1), 146, 221, [some (.inr (.inr 86)), some (.inl x1), some (.inl x2), none, none, none, none, none], [.inl r1], (am_sh, am_mm U1)) R
    refine ev_seg (σ1 := ((d + 1), 146, 239, [some (.inr (.inr 86)), some (.inl x1), some (.inl x2), some (.inl r1), some (.inl (am_and x2 (am_xor (am_shl 1 r1) (-1)))), some (.inl (-1)), some (.inl (w32 (r1 + 1))), none], [], (am_sh, am_mm U1))) 15 (fun _ => rfl) ?_
    exact h2a
set_option maxRecDepth 8000 in
theorem M_couples_r127 {N : Nat} {X : Nat → Int} {d : Nat} {x1 x2 x3 x4 x5 x6 : Int} {U : am_U} {R : Option am_V × am_M} (h : ((x1 ≤ x6) → (0 ≤ x2 ∧ x2 < 65536) ∧ EvK N X (M_couples_s92 (d + 1) x1 (w32 (x2 + 1)) (am_upd U 131 x2.toNat x5)) R) ∧ ((x6 < x1) → (0 ≤ x3 ∧ x3 < 16) ∧ (((am_and (am_and x4 (U 130 x3.toNat)) (am_shl 1 x6)) ≠ 0) → (0 ≤ (am_and x4 (am_xor (am_shl 1 x6) (-1))) ∧ (am_and x4 (am_xor (am_shl 1 x6) (-1))) < 65536) ∧ (((w32 (1 + (U 131 ((am_and x4 (am_xor (am_shl 1 x6) (-1))).toNat)))) ≤ x5) → EvK N X (M_couples_s127 (d + 1) x1 x2 x3 x4 x5 (w32 (x6 + 1)) U) R) ∧ ((x5 < (w32 (1 + (U 131 ((am_and x4 (am_xor (am_shl 1 x6) (-1))).toNat))))) → EvK N X (M_couples_s127 (d + 1) x1 x2 x3 x4 (w32 (1 + (U 131 ((am_and x4 (am_xor (am_shl 1 x6) (-1))).toNat)))) (w32 (x6 + 1)) U) R)) ∧ (((am_and (am_and x4 (U 130 x3.toNat)) (am_shl 1 x6)) = 0) → EvK N X (M_couples_s127 (d + 1) x1 x2 x3 x4 x5 (w32 (x6 + 1)) U) R))) : EvK N X (M_couples_s127 (d + 1) x1 x2 x3 x4 x5 x6 U) R := by
  show Ev (am_kz N X) ((d + 1), 146, 127, [some (.inr (.inr 86)), some (.inl x1), some (.inl x2), some (.inl x3), some (.inl x4), some (.inl x5), some (.inl x6), none], [], (am_sh, am_mm U)) R
  refine ev_br (P := x1 ≤ x6) (σ1 := ((d + 1), 146, 193, [some (.inr (.inr 86)), some (.inl x1), some (.inl x2), some (.inl x3), some (.inl x4), some (.inl x5), some (.inl x6), none], [], (am_sh, am_mm U))) (σ2 := ((d + 1), 146, 133, [some (.inr (.inr 86)), some (.inl x1), some (.inl x2), some (.inl x3), some (.inl x4), some (.inl x5), some (.inl x6), none], [], (am_sh, am_mm U))) 3 (fun _ => rfl) (fun hc => ?_) (fun hc => ?_)
  · have h1 := h.1 hc
    refine ev_seg (σ1 := ((d + 1), 146, 200, [some (.inr (.inr 86)), some (.inl x1), some (.inl x2), some (.inl x3), some (.inl x4), some (.inl x5), some (.inl x6), none], [.inl x5, .inl x2, .inr (.inr 131)], (am_sh, am_mm U))) 4 (fun _ => rfl) ?_
    refine eu_iast 131 (n := 65536) rfl (by decide) rfl (fun _ => rfl) h1.1 ?_
    show Ev (am_kz N X) ((d + 1), 146, 201, [some (.inr (.inr 86)), some (.inl x1), some (.inl x2), some (.inl x3), some (.inl x4), some (.inl x5), some (.inl x6), none], [], (am_sh, am_mm (am_upd U 131 x2.toNat x5))) R
    have h1a := h1.2
    refine ev_seg (σ1 := ((d + 1), 146, 92, [some (.inr (.inr 86)), some (.inl x1), some (.inl (w32 (x2 + 1))), some (.inl x3), some (.inl x4), some (.inl x5), some (.inl x6), none], [], (am_sh, am_mm (am_upd U 131 x2.toNat x5)))) 2 (fun _ => rfl) ?_
    exact ev_le (L := [some (.inr (.inr 86)), some (.inl x1), some (.inl (w32 (x2 + 1))), none, none, none, none, none]) ⟨rfl, ⟨rfl, ⟨rfl, trivial⟩⟩⟩ h1a
  · have h2 := h.2 (Int.not_le.mp hc)
    refine ev_seg (σ1 := ((d + 1), 146, 140, [some (.inr (.inr 86)), some (.inl x1), some (.inl x2), some (.inl x3), some (.inl x4), some (.inl x5), some (.inl x6), none], [.inl x3, .inr (.inr 130), .inl x4], (am_sh, am_mm U))) 4 (fun _ => rfl) ?_
    refine eu_iald 130 (n := 16) rfl (by decide) rfl (fun _ => rfl) h2.1 ?_
    show Ev (am_kz N X) ((d + 1), 146, 141, [some (.inr (.inr 86)), some (.inl x1), some (.inl x2), some (.inl x3), some (.inl x4), some (.inl x5), some (.inl x6), none], [.inl (U 130 x3.toNat), .inl x4], (am_sh, am_mm U)) R
    have h2a := h2.2
    refine ev_br (P := ¬ (am_and (am_and x4 (U 130 x3.toNat)) (am_shl 1 x6)) = 0) (σ1 := ((d + 1), 146, 153, [some (.inr (.inr 86)), some (.inl x1), some (.inl x2), some (.inl x3), some (.inl x4), some (.inl x5), some (.inl x6), none], [], (am_sh, am_mm U))) (σ2 := ((d + 1), 146, 150, [some (.inr (.inr 86)), some (.inl x1), some (.inl x2), some (.inl x3), some (.inl x4), some (.inl x5), some (.inl x6), none], [], (am_sh, am_mm U))) 6 (fun _ => rfl) (fun hc => ?_) (fun hc => ?_)
    · have h2a1 := h2a.1 hc
      refine ev_seg (σ1 := ((d + 1), 146, 167, [some (.inr (.inr 86)), some (.inl x1), some (.inl x2), some (.inl x3), some (.inl x4), some (.inl x5), some (.inl x6), none], [.inl (am_and x4 (am_xor (am_shl 1 x6) (-1))), .inr (.inr 131), .inl 1], (am_sh, am_mm U))) 10 (fun _ => rfl) ?_
      refine eu_iald 131 (n := 65536) rfl (by decide) rfl (fun _ => rfl) h2a1.1 ?_
      show Ev (am_kz N X) ((d + 1), 146, 168, [some (.inr (.inr 86)), some (.inl x1), some (.inl x2), some (.inl x3), some (.inl x4), some (.inl x5), some (.inl x6), none], [.inl (U 131 ((am_and x4 (am_xor (am_shl 1 x6) (-1))).toNat)), .inl 1], (am_sh, am_mm U)) R
      have h2a1a := h2a1.2
      refine ev_br (P := (w32 (1 + (U 131 ((am_and x4 (am_xor (am_shl 1 x6) (-1))).toNat)))) ≤ x5) (σ1 := ((d + 1), 146, 183, [some (.inr (.inr 86)), some (.inl x1), some (.inl x2), some (.inl x3), some (.inl x4), some (.inl x5), some (.inl x6), some (.inl (w32 (1 + (U 131 ((am_and x4 (am_xor (am_shl 1 x6) (-1))).toNat)))))], [], (am_sh, am_mm U))) (σ2 := ((d + 1), 146, 178, [some (.inr (.inr 86)), some (.inl x1), some (.inl x2), some (.inl x3), some (.inl x4), some (.inl x5), some (.inl x6), some (.inl (w32 (1 + (U 131 ((am_and x4 (am_xor (am_shl 1 x6) (-1))).toNat)))))], [], (am_sh, am_mm U))) 5 (fun _ => rfl) (fun hc => ?_) (fun hc => ?_)
      · have h2a1a1 := h2a1a.1 hc
        refine ev_seg (σ1 := ((d + 1), 146, 127, [some (.inr (.inr 86)), some (.inl x1), some (.inl x2), some (.inl x3), some (.inl x4), some (.inl x5), some (.inl (w32 (x6 + 1))), some (.inl (w32 (1 + (U 131 ((am_and x4 (am_xor (am_shl 1 x6) (-1))).toNat)))))], [], (am_sh, am_mm U))) 4 (fun _ => rfl) ?_
        exact ev_le (L := [some (.inr (.inr 86)), some (.inl x1), some (.inl x2), some (.inl x3), some (.inl x4), some (.inl x5), some (.inl (w32 (x6 + 1))), none]) ⟨rfl, ⟨rfl, ⟨rfl, ⟨rfl, ⟨rfl, ⟨rfl, ⟨rfl, trivial⟩⟩⟩⟩⟩⟩⟩ h2a1a1
      · have h2a1a2 := h2a1a.2 (Int.not_le.mp hc)
        refine ev_seg (σ1 := ((d + 1), 146, 127, [some (.inr (.inr 86)), some (.inl x1), some (.inl x2), some (.inl x3), some (.inl x4), some (.inl (w32 (1 + (U 131 ((am_and x4 (am_xor (am_shl 1 x6) (-1))).toNat))))), some (.inl (w32 (x6 + 1))), some (.inl (w32 (1 + (U 131 ((am_and x4 (am_xor (am_shl 1 x6) (-1))).toNat)))))], [], (am_sh, am_mm U))) 5 (fun _ => rfl) ?_
        exact ev_le (L := [some (.inr (.inr 86)), some (.inl x1), some (.inl x2), some (.inl x3), some (.inl x4), some (.inl (w32 (1 + (U 131 ((am_and x4 (am_xor (am_shl 1 x6) (-1))).toNat))))), some (.inl (w32 (x6 + 1))), none]) ⟨rfl, ⟨rfl, ⟨rfl, ⟨rfl, ⟨rfl, ⟨rfl, ⟨rfl, trivial⟩⟩⟩⟩⟩⟩⟩ h2a1a2
    · have h2a2 := h2a.2 (Decidable.not_not.mp hc)
      refine ev_seg (σ1 := ((d + 1), 146, 127, [some (.inr (.inr 86)), some (.inl x1), some (.inl x2), some (.inl x3), some (.inl x4), some (.inl x5), some (.inl (w32 (x6 + 1))), none], [], (am_sh, am_mm U))) 3 (fun _ => rfl) ?_
      exact h2a2
set_option maxRecDepth 8000 in
theorem M_couples_r239 {N : Nat} {X : Nat → Int} {d : Nat} {x1 x2 x3 x4 x5 x6 : Int} {U : am_U} {R : Option am_V × am_M} (h : ((x1 ≤ x6) → ((x5 = (-1)) → EvK N X (M_couples_s213 (d + 1) x1 x4 U) R) ∧ ((x5 ≠ (-1)) → (0 ≤ x3 ∧ x3 < 16) ∧ (0 ≤ x5 ∧ x5 < 16) ∧ EvK N X (M_couples_s213 (d + 1) x1 (am_and x4 (am_xor (am_shl 1 x5) (-1))) (am_upd (am_upd U 132 x3.toNat x5) 132 x5.toNat x3)) R)) ∧ ((x6 < x1) → ((x5 ≠ (-1)) → (0 ≤ x3 ∧ x3 < 16) ∧ (0 ≤ x5 ∧ x5 < 16) ∧ EvK N X (M_couples_s213 (d + 1) x1 (am_and x4 (am_xor (am_shl 1 x5) (-1))) (am_upd (am_upd U 132 x3.toNat x5) 132 x5.toNat x3)) R) ∧ ((x5 = (-1)) → (0 ≤ x3 ∧ x3 < 16) ∧ (((am_and (am_and x4 (U 130 x3.toNat)) (am_shl 1 x6)) = 0) → EvK N X (M_couples_s239 (d + 1) x1 x2 x3 x4 x5 (w32 (x6 + 1)) U) R) ∧ (((am_and (am_and x4 (U 130 x3.toNat)) (am_shl 1 x6)) ≠ 0) → (0 ≤ (am_and x4 (am_xor (am_shl 1 x6) (-1))) ∧ (am_and x4 (am_xor (am_shl 1 x6) (-1))) < 65536) ∧ (0 ≤ x2 ∧ x2 < 65536) ∧ (((w32 (1 + (U 131 ((am_and x4 (am_xor (am_shl 1 x6) (-1))).toNat)))) ≠ (U 131 x2.toNat)) → EvK N X (M_couples_s239 (d + 1) x1 x2 x3 x4 x5 (w32 (x6 + 1)) U) R) ∧ (((w32 (1 + (U 131 ((am_and x4 (am_xor (am_shl 1 x6) (-1))).toNat)))) = (U 131 x2.toNat)) → EvK N X (M_couples_s239 (d + 1) x1 x2 x3 x4 x6 (w32 (x6 + 1)) U) R))))) : EvK N X (M_couples_s239 (d + 1) x1 x2 x3 x4 x5 x6 U) R := by
  show Ev (am_kz N X) ((d + 1), 146, 239, [some (.inr (.inr 86)), some (.inl x1), some (.inl x2), some (.inl x3), some (.inl x4), some (.inl x5), some (.inl x6), none], [], (am_sh, am_mm U)) R
  refine ev_br (P := x1 ≤ x6) (σ1 := ((d + 1), 146, 303, [some (.inr (.inr 86)), some (.inl x1), some (.inl x2), some (.inl x3), some (.inl x4), some (.inl x5), some (.inl x6), none], [], (am_sh, am_mm U))) (σ2 := ((d + 1), 146, 245, [some (.inr (.inr 86)), some (.inl x1), some (.inl x2), some (.inl x3), some (.inl x4), some (.inl x5), some (.inl x6), none], [], (am_sh, am_mm U))) 3 (fun _ => rfl) (fun hc => ?_) (fun hc => ?_)
  · have h1 := h.1 hc
    refine ev_br (P := x5 = (-1)) (σ1 := ((d + 1), 146, 336, [some (.inr (.inr 86)), some (.inl x1), some (.inl x2), some (.inl x3), some (.inl x4), some (.inl x5), some (.inl x6), none], [], (am_sh, am_mm U))) (σ2 := ((d + 1), 146, 309, [some (.inr (.inr 86)), some (.inl x1), some (.inl x2), some (.inl x3), some (.inl x4), some (.inl x5), some (.inl x6), none], [], (am_sh, am_mm U))) 3 (fun _ => rfl) (fun hc => ?_) (fun hc => ?_)
    · have h11 := h1.1 hc
      refine ev_seg (σ1 := ((d + 1), 146, 213, [some (.inr (.inr 86)), some (.inl x1), some (.inl x4), some (.inl x3), some (.inl x4), some (.inl x5), some (.inl x6), none], [], (am_sh, am_mm U))) 3 (fun _ => rfl) ?_
      exact ev_le (L := [some (.inr (.inr 86)), some (.inl x1), some (.inl x4), none, none, none, none, none]) ⟨rfl, ⟨rfl, ⟨rfl, trivial⟩⟩⟩ h11
    · have h12 := h1.2 hc
      refine ev_seg (σ1 := ((d + 1), 146, 316, [some (.inr (.inr 86)), some (.inl x1), some (.inl x2), some (.inl x3), some (.inl x4), some (.inl x5), some (.inl x6), none], [.inl x5, .inl x3, .inr (.inr 132)], (am_sh, am_mm U))) 4 (fun _ => rfl) ?_
      refine eu_iast 132 (n := 16) rfl (by decide) rfl (fun _ => rfl) h12.1 ?_
      show Ev (am_kz N X) ((d + 1), 146, 317, [some (.inr (.inr 86)), some (.inl x1), some (.inl x2), some (.inl x3), some (.inl x4), some (.inl x5), some (.inl x6), none], [], (am_sh, am_mm (am_upd U 132 x3.toNat x5))) R
      have h12a := h12.2
      refine ev_seg (σ1 := ((d + 1), 146, 324, [some (.inr (.inr 86)), some (.inl x1), some (.inl x2), some (.inl x3), some (.inl x4), some (.inl x5), some (.inl x6), none], [.inl x3, .inl x5, .inr (.inr 132)], (am_sh, am_mm (am_upd U 132 x3.toNat x5)))) 4 (fun _ => rfl) ?_
      refine eu_iast 132 (n := 16) rfl (by decide) rfl (fun _ => rfl) h12a.1 ?_
      show Ev (am_kz N X) ((d + 1), 146, 325, [some (.inr (.inr 86)), some (.inl x1), some (.inl x2), some (.inl x3), some (.inl x4), some (.inl x5), some (.inl x6), none], [], (am_sh, am_mm (am_upd (am_upd U 132 x3.toNat x5) 132 x5.toNat x3))) R
      have h12aa := h12a.2
      refine ev_seg (σ1 := ((d + 1), 146, 213, [some (.inr (.inr 86)), some (.inl x1), some (.inl (am_and x4 (am_xor (am_shl 1 x5) (-1)))), some (.inl x3), some (.inl (am_and x4 (am_xor (am_shl 1 x5) (-1)))), some (.inl x5), some (.inl x6), none], [], (am_sh, am_mm (am_upd (am_upd U 132 x3.toNat x5) 132 x5.toNat x3)))) 11 (fun _ => rfl) ?_
      exact ev_le (L := [some (.inr (.inr 86)), some (.inl x1), some (.inl (am_and x4 (am_xor (am_shl 1 x5) (-1)))), none, none, none, none, none]) ⟨rfl, ⟨rfl, ⟨rfl, trivial⟩⟩⟩ h12aa
  · have h2 := h.2 (Int.not_le.mp hc)
    refine ev_br (P := ¬ x5 = (-1)) (σ1 := ((d + 1), 146, 303, [some (.inr (.inr 86)), some (.inl x1), some (.inl x2), some (.inl x3), some (.inl x4), some (.inl x5), some (.inl x6), none], [], (am_sh, am_mm U))) (σ2 := ((d + 1), 146, 251, [some (.inr (.inr 86)), some (.inl x1), some (.inl x2), some (.inl x3), some (.inl x4), some (.inl x5), some (.inl x6), none], [], (am_sh, am_mm U))) 3 (fun _ => rfl) (fun hc => ?_) (fun hc => ?_)
    · have h21 := h2.1 hc
      have h2q := hc
      refine ev_br (P := x5 = (-1)) (σ1 := ((d + 1), 146, 336, [some (.inr (.inr 86)), some (.inl x1), some (.inl x2), some (.inl x3), some (.inl x4), some (.inl x5), some (.inl x6), none], [], (am_sh, am_mm U))) (σ2 := ((d + 1), 146, 309, [some (.inr (.inr 86)), some (.inl x1), some (.inl x2), some (.inl x3), some (.inl x4), some (.inl x5), some (.inl x6), none], [], (am_sh, am_mm U))) 3 (fun _ => rfl) (fun hc => absurd h2q (fun h0 => by have h1 := hc; omega)) (fun hc => ?_)
      refine ev_seg (σ1 := ((d + 1), 146, 316, [some (.inr (.inr 86)), some (.inl x1), some (.inl x2), some (.inl x3), some (.inl x4), some (.inl x5), some (.inl x6), none], [.inl x5, .inl x3, .inr (.inr 132)], (am_sh, am_mm U))) 4 (fun _ => rfl) ?_
      refine eu_iast 132 (n := 16) rfl (by decide) rfl (fun _ => rfl) h21.1 ?_
      show Ev (am_kz N X) ((d + 1), 146, 317, [some (.inr (.inr 86)), some (.inl x1), some (.inl x2), some (.inl x3), some (.inl x4), some (.inl x5), some (.inl x6), none], [], (am_sh, am_mm (am_upd U 132 x3.toNat x5))) R
      have h21a := h21.2
      refine ev_seg (σ1 := ((d + 1), 146, 324, [some (.inr (.inr 86)), some (.inl x1), some (.inl x2), some (.inl x3), some (.inl x4), some (.inl x5), some (.inl x6), none], [.inl x3, .inl x5, .inr (.inr 132)], (am_sh, am_mm (am_upd U 132 x3.toNat x5)))) 4 (fun _ => rfl) ?_
      refine eu_iast 132 (n := 16) rfl (by decide) rfl (fun _ => rfl) h21a.1 ?_
      show Ev (am_kz N X) ((d + 1), 146, 325, [some (.inr (.inr 86)), some (.inl x1), some (.inl x2), some (.inl x3), some (.inl x4), some (.inl x5), some (.inl x6), none], [], (am_sh, am_mm (am_upd (am_upd U 132 x3.toNat x5) 132 x5.toNat x3))) R
      have h21aa := h21a.2
      refine ev_seg (σ1 := ((d + 1), 146, 213, [some (.inr (.inr 86)), some (.inl x1), some (.inl (am_and x4 (am_xor (am_shl 1 x5) (-1)))), some (.inl x3), some (.inl (am_and x4 (am_xor (am_shl 1 x5) (-1)))), some (.inl x5), some (.inl x6), none], [], (am_sh, am_mm (am_upd (am_upd U 132 x3.toNat x5) 132 x5.toNat x3)))) 11 (fun _ => rfl) ?_
      exact ev_le (L := [some (.inr (.inr 86)), some (.inl x1), some (.inl (am_and x4 (am_xor (am_shl 1 x5) (-1)))), none, none, none, none, none]) ⟨rfl, ⟨rfl, ⟨rfl, trivial⟩⟩⟩ h21aa
    · have h22 := h2.2 (Decidable.not_not.mp hc)
      refine ev_seg (σ1 := ((d + 1), 146, 258, [some (.inr (.inr 86)), some (.inl x1), some (.inl x2), some (.inl x3), some (.inl x4), some (.inl x5), some (.inl x6), none], [.inl x3, .inr (.inr 130), .inl x4], (am_sh, am_mm U))) 4 (fun _ => rfl) ?_
      refine eu_iald 130 (n := 16) rfl (by decide) rfl (fun _ => rfl) h22.1 ?_
      show Ev (am_kz N X) ((d + 1), 146, 259, [some (.inr (.inr 86)), some (.inl x1), some (.inl x2), some (.inl x3), some (.inl x4), some (.inl x5), some (.inl x6), none], [.inl (U 130 x3.toNat), .inl x4], (am_sh, am_mm U)) R
      have h22a := h22.2
      refine ev_br (P := (am_and (am_and x4 (U 130 x3.toNat)) (am_shl 1 x6)) = 0) (σ1 := ((d + 1), 146, 297, [some (.inr (.inr 86)), some (.inl x1), some (.inl x2), some (.inl x3), some (.inl x4), some (.inl x5), some (.inl x6), none], [], (am_sh, am_mm U))) (σ2 := ((d + 1), 146, 268, [some (.inr (.inr 86)), some (.inl x1), some (.inl x2), some (.inl x3), some (.inl x4), some (.inl x5), some (.inl x6), none], [], (am_sh, am_mm U))) 6 (fun _ => rfl) (fun hc => ?_) (fun hc => ?_)
      · have h22a1 := h22a.1 hc
        refine ev_seg (σ1 := ((d + 1), 146, 239, [some (.inr (.inr 86)), some (.inl x1), some (.inl x2), some (.inl x3), some (.inl x4), some (.inl x5), some (.inl (w32 (x6 + 1))), none], [], (am_sh, am_mm U))) 2 (fun _ => rfl) ?_
        exact h22a1
      · have h22a2 := h22a.2 hc
        refine ev_seg (σ1 := ((d + 1), 146, 282, [some (.inr (.inr 86)), some (.inl x1), some (.inl x2), some (.inl x3), some (.inl x4), some (.inl x5), some (.inl x6), none], [.inl (am_and x4 (am_xor (am_shl 1 x6) (-1))), .inr (.inr 131), .inl 1], (am_sh, am_mm U))) 10 (fun _ => rfl) ?_
        refine eu_iald 131 (n := 65536) rfl (by decide) rfl (fun _ => rfl) h22a2.1 ?_
        show Ev (am_kz N X) ((d + 1), 146, 283, [some (.inr (.inr 86)), some (.inl x1), some (.inl x2), some (.inl x3), some (.inl x4), some (.inl x5), some (.inl x6), none], [.inl (U 131 ((am_and x4 (am_xor (am_shl 1 x6) (-1))).toNat)), .inl 1], (am_sh, am_mm U)) R
        have h22a2a := h22a2.2
        refine ev_seg (σ1 := ((d + 1), 146, 289, [some (.inr (.inr 86)), some (.inl x1), some (.inl x2), some (.inl x3), some (.inl x4), some (.inl x5), some (.inl x6), none], [.inl x2, .inr (.inr 131), .inl (w32 (1 + (U 131 ((am_and x4 (am_xor (am_shl 1 x6) (-1))).toNat))))], (am_sh, am_mm U))) 4 (fun _ => rfl) ?_
        refine eu_iald 131 (n := 65536) rfl (by decide) rfl (fun _ => rfl) h22a2a.1 ?_
        show Ev (am_kz N X) ((d + 1), 146, 290, [some (.inr (.inr 86)), some (.inl x1), some (.inl x2), some (.inl x3), some (.inl x4), some (.inl x5), some (.inl x6), none], [.inl (U 131 x2.toNat), .inl (w32 (1 + (U 131 ((am_and x4 (am_xor (am_shl 1 x6) (-1))).toNat))))], (am_sh, am_mm U)) R
        have h22a2aa := h22a2a.2
        refine ev_br (P := ¬ (w32 (1 + (U 131 ((am_and x4 (am_xor (am_shl 1 x6) (-1))).toNat)))) = (U 131 x2.toNat)) (σ1 := ((d + 1), 146, 297, [some (.inr (.inr 86)), some (.inl x1), some (.inl x2), some (.inl x3), some (.inl x4), some (.inl x5), some (.inl x6), none], [], (am_sh, am_mm U))) (σ2 := ((d + 1), 146, 293, [some (.inr (.inr 86)), some (.inl x1), some (.inl x2), some (.inl x3), some (.inl x4), some (.inl x5), some (.inl x6), none], [], (am_sh, am_mm U))) 1 (fun _ => rfl) (fun hc => ?_) (fun hc => ?_)
        · have h22a2aa1 := h22a2aa.1 hc
          refine ev_seg (σ1 := ((d + 1), 146, 239, [some (.inr (.inr 86)), some (.inl x1), some (.inl x2), some (.inl x3), some (.inl x4), some (.inl x5), some (.inl (w32 (x6 + 1))), none], [], (am_sh, am_mm U))) 2 (fun _ => rfl) ?_
          exact h22a2aa1
        · have h22a2aa2 := h22a2aa.2 (Decidable.not_not.mp hc)
          refine ev_seg (σ1 := ((d + 1), 146, 239, [some (.inr (.inr 86)), some (.inl x1), some (.inl x2), some (.inl x3), some (.inl x4), some (.inl x6), some (.inl (w32 (x6 + 1))), none], [], (am_sh, am_mm U))) 4 (fun _ => rfl) ?_
          exact h22a2aa2
set_option maxRecDepth 8000 in
theorem Dg_set_r0 {N : Nat} {X : Nat → Int} {d : Nat} {x1 : Int} {U : am_U} {R : Option am_V × am_M} (h : ∃ U1 : am_U, EvK N X (Ar_fill_II_83_s0 d 0 U) (rV U1) ∧ EvK N X (Dg_set_s28 (d + 1) x1 x1 0 (am_upd (am_upd (am_upd U1 82 2 0) 82 3 0) 82 1 1)) R) : EvK N X (Dg_set_s0 (d + 1) x1 U) R := by
  show Ev (am_kz N X) ((d + 1), 147, 0, [some (.inr (.inr 82)), some (.inr (.inl x1)), none, none, none, none], [], (am_sh, am_mm U)) R
  refine ev_seg (σ1 := ((d + 1), 147, 5, [some (.inr (.inr 82)), some (.inr (.inl x1)), none, none, none, none], [.inl 0, .inr (.inr 83)], (am_sh, am_mm U))) 3 (fun _ => rfl) ?_
  obtain ⟨U1, hc, ha⟩ := h
  refine ev_cal (σc := (Ar_fill_II_83_s0 d 0 U)) (fun _ => rfl) hc ?_
  show Ev (am_kz N X) ((d + 1), 147, 8, [some (.inr (.inr 82)), some (.inr (.inl x1)), none, none, none, none], [], (am_sh, am_mm U1)) R
  refine ev_seg (σ1 := ((d + 1), 147, 10, [some (.inr (.inr 82)), some (.inr (.inl x1)), none, none, none, none], [.inl 0, .inr (.inr 82)], (am_sh, am_mm U1))) 2 (fun _ => rfl) ?_
  refine eu_puti 82 (n := 4) rfl (by decide) rfl rfl ?_
  show Ev (am_kz N X) ((d + 1), 147, 13, [some (.inr (.inr 82)), some (.inr (.inl x1)), none, none, none, none], [], (am_sh, am_mm (am_upd U1 82 2 0))) R
  refine ev_seg (σ1 := ((d + 1), 147, 15, [some (.inr (.inr 82)), some (.inr (.inl x1)), none, none, none, none], [.inl 0, .inr (.inr 82)], (am_sh, am_mm (am_upd U1 82 2 0)))) 2 (fun _ => rfl) ?_
  refine eu_puti 82 (n := 4) rfl (by decide) rfl rfl ?_
  show Ev (am_kz N X) ((d + 1), 147, 18, [some (.inr (.inr 82)), some (.inr (.inl x1)), none, none, none, none], [], (am_sh, am_mm (am_upd (am_upd U1 82 2 0) 82 3 0))) R
  refine ev_seg (σ1 := ((d + 1), 147, 20, [some (.inr (.inr 82)), some (.inr (.inl x1)), none, none, none, none], [.inl 1, .inr (.inr 82)], (am_sh, am_mm (am_upd (am_upd U1 82 2 0) 82 3 0)))) 2 (fun _ => rfl) ?_
  refine eu_puti 82 (n := 4) rfl (by decide) rfl rfl ?_
  show Ev (am_kz N X) ((d + 1), 147, 23, [some (.inr (.inr 82)), some (.inr (.inl x1)), none, none, none, none], [], (am_sh, am_mm (am_upd (am_upd (am_upd U1 82 2 0) 82 3 0) 82 1 1))) R
  refine ev_seg (σ1 := ((d + 1), 147, 28, [some (.inr (.inr 82)), some (.inr (.inl x1)), none, some (.inr (.inl x1)), none, some (.inl 0)], [], (am_sh, am_mm (am_upd (am_upd (am_upd U1 82 2 0) 82 3 0) 82 1 1)))) 4 (fun _ => rfl) ?_
  exact ha
set_option maxRecDepth 8000 in
theorem Dg_set_r28 {N : Nat} {X : Nat → Int} {d : Nat} {x1 x3 x5 : Int} {U : am_U} {R : Option am_V × am_M} (h : ((64 ≤ x5) → R = rV U) ∧ ((x5 < 64) → ((x3 ≤ 0) → R = rV U) ∧ ((0 < x3) → (0 ≤ x5 ∧ x5 < 64) ∧ EvK N X (Dg_set_s28 (d + 1) x1 (w64 (Int.tdiv x3 10)) (w32 (x5 + 1)) (am_upd (am_upd U 83 x5.toNat (w32 (Int.tmod x3 10))) 82 1 (w32 (x5 + 1)))) R))) : EvK N X (Dg_set_s28 (d + 1) x1 x3 x5 U) R := by
  show Ev (am_kz N X) ((d + 1), 147, 28, [some (.inr (.inr 82)), some (.inr (.inl x1)), none, some (.inr (.inl x3)), none, some (.inl x5)], [], (am_sh, am_mm U)) R
  refine ev_br (P := 64 ≤ x5) (σ1 := ((d + 1), 147, 74, [some (.inr (.inr 82)), some (.inr (.inl x1)), none, some (.inr (.inl x3)), none, some (.inl x5)], [], (am_sh, am_mm U))) (σ2 := ((d + 1), 147, 35, [some (.inr (.inr 82)), some (.inr (.inl x1)), none, some (.inr (.inl x3)), none, some (.inl x5)], [], (am_sh, am_mm U))) 3 (fun _ => rfl) (fun hc => ?_) (fun hc => ?_)
  · have h1 := h.1 hc
    subst h1
    exact ev_end 1 (fun _ => rfl)
  · have h2 := h.2 (Int.not_le.mp hc)
    refine ev_br (P := (am_lcmp x3 0) ≤ 0) (σ1 := ((d + 1), 147, 74, [some (.inr (.inr 82)), some (.inr (.inl x1)), none, some (.inr (.inl x3)), none, some (.inl x5)], [], (am_sh, am_mm U))) (σ2 := ((d + 1), 147, 41, [some (.inr (.inr 82)), some (.inr (.inl x1)), none, some (.inr (.inl x3)), none, some (.inl x5)], [], (am_sh, am_mm U))) 4 (fun _ => rfl) (fun hc => ?_) (fun hc => ?_)
    · have h21 := h2.1 ((am_lc_le x3 0).mp hc)
      subst h21
      exact ev_end 1 (fun _ => rfl)
    · have h22 := h2.2 ((am_lcn_le x3 0).mp hc)
      refine ev_seg (σ1 := ((d + 1), 147, 51, [some (.inr (.inr 82)), some (.inr (.inl x1)), none, some (.inr (.inl x3)), none, some (.inl x5)], [.inr (.inl 10), .inr (.inl x3), .inl x5, .inr (.inr 83)], (am_sh, am_mm U))) 5 (fun _ => rfl) ?_
      refine ev_lrem rfl (by decide) ?_
      show Ev (am_kz N X) ((d + 1), 147, 52, [some (.inr (.inr 82)), some (.inr (.inl x1)), none, some (.inr (.inl x3)), none, some (.inl x5)], [.inr (.inl (Int.tmod x3 10)), .inl x5, .inr (.inr 83)], (am_sh, am_mm U)) R
      refine ev_seg (σ1 := ((d + 1), 147, 53, [some (.inr (.inr 82)), some (.inr (.inl x1)), none, some (.inr (.inl x3)), none, some (.inl x5)], [.inl (w32 (Int.tmod x3 10)), .inl x5, .inr (.inr 83)], (am_sh, am_mm U))) 1 (fun _ => rfl) ?_
      refine eu_iast 83 (n := 64) rfl (by decide) rfl (fun _ => rfl) h22.1 ?_
      show Ev (am_kz N X) ((d + 1), 147, 54, [some (.inr (.inr 82)), some (.inr (.inl x1)), none, some (.inr (.inl x3)), none, some (.inl x5)], [], (am_sh, am_mm (am_upd U 83 x5.toNat (w32 (Int.tmod x3 10))))) R
      have h22a := h22.2
      refine ev_seg (σ1 := ((d + 1), 147, 58, [some (.inr (.inr 82)), some (.inr (.inl x1)), none, some (.inr (.inl x3)), none, some (.inl x5)], [.inr (.inl 10), .inr (.inl x3)], (am_sh, am_mm (am_upd U 83 x5.toNat (w32 (Int.tmod x3 10)))))) 2 (fun _ => rfl) ?_
      refine ev_ldiv rfl (by decide) ?_
      show Ev (am_kz N X) ((d + 1), 147, 59, [some (.inr (.inr 82)), some (.inr (.inl x1)), none, some (.inr (.inl x3)), none, some (.inl x5)], [.inr (.inl (w64 (Int.tdiv x3 10)))], (am_sh, am_mm (am_upd U 83 x5.toNat (w32 (Int.tmod x3 10))))) R
      refine ev_seg (σ1 := ((d + 1), 147, 65, [some (.inr (.inr 82)), some (.inr (.inl x1)), none, some (.inr (.inl (w64 (Int.tdiv x3 10)))), none, some (.inl x5)], [.inl (w32 (x5 + 1)), .inr (.inr 82)], (am_sh, am_mm (am_upd U 83 x5.toNat (w32 (Int.tmod x3 10)))))) 5 (fun _ => rfl) ?_
      refine eu_puti 82 (n := 4) rfl (by decide) rfl rfl ?_
      show Ev (am_kz N X) ((d + 1), 147, 68, [some (.inr (.inr 82)), some (.inr (.inl x1)), none, some (.inr (.inl (w64 (Int.tdiv x3 10)))), none, some (.inl x5)], [], (am_sh, am_mm (am_upd (am_upd U 83 x5.toNat (w32 (Int.tmod x3 10))) 82 1 (w32 (x5 + 1))))) R
      refine ev_seg (σ1 := ((d + 1), 147, 28, [some (.inr (.inr 82)), some (.inr (.inl x1)), none, some (.inr (.inl (w64 (Int.tdiv x3 10)))), none, some (.inl (w32 (x5 + 1)))], [], (am_sh, am_mm (am_upd (am_upd U 83 x5.toNat (w32 (Int.tmod x3 10))) 82 1 (w32 (x5 + 1)))))) 2 (fun _ => rfl) ?_
      exact h22a
set_option maxRecDepth 8000 in
theorem Dg_tellOf_r0 {N : Nat} {X : Nat → Int} {d : Nat} {x1 : Int} {U : am_U} {R : Option am_V × am_M} (h : ((x1 ≠ (-1)) → ((x1 < 0) → R = rI (-1) U) ∧ ((0 ≤ x1) → (((U 82 1) ≤ x1) → R = rI (-1) U) ∧ ((x1 < (U 82 1)) → (0 ≤ x1 ∧ x1 < 64) ∧ R = rI (U 83 x1.toNat) U))) ∧ ((x1 = (-1)) → R = rI (U 82 1) U)) : EvK N X (Dg_tellOf_s0 d x1 U) R := by
  show Ev (am_kz N X) (d, 148, 0, [some (.inr (.inr 82)), some (.inl x1)], [], (am_sh, am_mm U)) R
  refine ev_br (P := ¬ x1 = (-1)) (σ1 := (d, 148, 10, [some (.inr (.inr 82)), some (.inl x1)], [], (am_sh, am_mm U))) (σ2 := (d, 148, 5, [some (.inr (.inr 82)), some (.inl x1)], [], (am_sh, am_mm U))) 3 (fun _ => rfl) (fun hc => ?_) (fun hc => ?_)
  · have h1 := h.1 hc
    refine ev_br (P := x1 < 0) (σ1 := (d, 148, 31, [some (.inr (.inr 82)), some (.inl x1)], [], (am_sh, am_mm U))) (σ2 := (d, 148, 14, [some (.inr (.inr 82)), some (.inl x1)], [], (am_sh, am_mm U))) 2 (fun _ => rfl) (fun hc => ?_) (fun hc => ?_)
    · have h11 := h1.1 hc
      subst h11
      exact ev_end 2 (fun _ => rfl)
    · have h12 := h1.2 (Int.not_lt.mp hc)
      refine ev_br (P := (U 82 1) ≤ x1) (σ1 := (d, 148, 31, [some (.inr (.inr 82)), some (.inl x1)], [], (am_sh, am_mm U))) (σ2 := (d, 148, 22, [some (.inr (.inr 82)), some (.inl x1)], [], (am_sh, am_mm U))) 4 (fun _ => rfl) (fun hc => ?_) (fun hc => ?_)
      · have h121 := h12.1 hc
        subst h121
        exact ev_end 2 (fun _ => rfl)
      · have h122 := h12.2 (Int.not_le.mp hc)
        refine ev_seg (σ1 := (d, 148, 27, [some (.inr (.inr 82)), some (.inl x1)], [.inl x1, .inr (.inr 83)], (am_sh, am_mm U))) 3 (fun _ => rfl) ?_
        refine eu_iald 83 (n := 64) rfl (by decide) rfl (fun _ => rfl) h122.1 ?_
        show Ev (am_kz N X) (d, 148, 28, [some (.inr (.inr 82)), some (.inl x1)], [.inl (U 83 x1.toNat)], (am_sh, am_mm U)) R
        have h122a := h122.2
        subst h122a
        exact ev_end 2 (fun _ => rfl)
  · have h2 := h.2 (Decidable.not_not.mp hc)
    subst h2
    exact ev_end 3 (fun _ => rfl)
set_option maxRecDepth 8000 in
theorem M_digit_r0 {N : Nat} {X : Nat → Int} {d : Nat} {x0 x2 : Int} {U : am_U} {R : Option am_V × am_M} (h : ((x2 < 0) → R = rI (-1) U) ∧ ((0 ≤ x2) → ∃ (r1 : Int) (U1 : am_U), EvK N X (M_digits_s0 d x0 U) (rI r1 U1) ∧ ((x2 < r1) → EvK N X (M_digit_s19 (d + 1) x0 x2 x0 0 U1) R) ∧ ((r1 ≤ x2) → R = rI (-1) U1))) : EvK N X (M_digit_s0 (d + 1) x0 x2 U) R := by
  show Ev (am_kz N X) ((d + 1), 150, 0, [some (.inr (.inl x0)), none, some (.inl x2), none, none, none], [], (am_sh, am_mm U)) R
  refine ev_br (P := x2 < 0) (σ1 := ((d + 1), 150, 12, [some (.inr (.inl x0)), none, some (.inl x2), none, none, none], [], (am_sh, am_mm U))) (σ2 := ((d + 1), 150, 4, [some (.inr (.inl x0)), none, some (.inl x2), none, none, none], [], (am_sh, am_mm U))) 2 (fun _ => rfl) (fun hc => ?_) (fun hc => ?_)
  · have h1 := h.1 hc
    subst h1
    exact ev_end 2 (fun _ => rfl)
  · have h2 := h.2 (Int.not_lt.mp hc)
    refine ev_seg (σ1 := ((d + 1), 150, 6, [some (.inr (.inl x0)), none, some (.inl x2), none, none, none], [.inr (.inl x0), .inl x2], (am_sh, am_mm U))) 2 (fun _ => rfl) ?_
    obtain ⟨r1, U1, h2c, h2a⟩ := h2
    refine ev_cal (σc := (M_digits_s0 d x0 U)) (fun _ => rfl) h2c ?_
    show Ev (am_kz N X) ((d + 1), 150, 9, [some (.inr (.inl x0)), none, some (.inl x2), none, none, none], [.inl r1, .inl x2], (am_sh, am_mm U1)) R
    refine ev_br (P := x2 < r1) (σ1 := ((d + 1), 150, 14, [some (.inr (.inl x0)), none, some (.inl x2), none, none, none], [], (am_sh, am_mm U1))) (σ2 := ((d + 1), 150, 12, [some (.inr (.inl x0)), none, some (.inl x2), none, none, none], [], (am_sh, am_mm U1))) 1 (fun _ => rfl) (fun hc => ?_) (fun hc => ?_)
    · have h2a1 := h2a.1 hc
      refine ev_seg (σ1 := ((d + 1), 150, 19, [some (.inr (.inl x0)), none, some (.inl x2), some (.inr (.inl x0)), none, some (.inl 0)], [], (am_sh, am_mm U1))) 4 (fun _ => rfl) ?_
      exact h2a1
    · have h2a2 := h2a.2 (Int.not_lt.mp hc)
      subst h2a2
      exact ev_end 2 (fun _ => rfl)
set_option maxRecDepth 8000 in
theorem M_digit_r19 {N : Nat} {X : Nat → Int} {d : Nat} {x0 x2 x3 x5 : Int} {U : am_U} {R : Option am_V × am_M} (h : ((x2 ≤ x5) → R = rI (w32 (Int.tmod x3 10)) U) ∧ ((x5 < x2) → EvK N X (M_digit_s19 (d + 1) x0 x2 (w64 (Int.tdiv x3 10)) (w32 (x5 + 1)) U) R)) : EvK N X (M_digit_s19 (d + 1) x0 x2 x3 x5 U) R := by
  show Ev (am_kz N X) ((d + 1), 150, 19, [some (.inr (.inl x0)), none, some (.inl x2), some (.inr (.inl x3)), none, some (.inl x5)], [], (am_sh, am_mm U)) R
  refine ev_br (P := x2 ≤ x5) (σ1 := ((d + 1), 150, 37, [some (.inr (.inl x0)), none, some (.inl x2), some (.inr (.inl x3)), none, some (.inl x5)], [], (am_sh, am_mm U))) (σ2 := ((d + 1), 150, 25, [some (.inr (.inl x0)), none, some (.inl x2), some (.inr (.inl x3)), none, some (.inl x5)], [], (am_sh, am_mm U))) 3 (fun _ => rfl) (fun hc => ?_) (fun hc => ?_)
  · have h1 := h.1 hc
    refine ev_seg (σ1 := ((d + 1), 150, 41, [some (.inr (.inl x0)), none, some (.inl x2), some (.inr (.inl x3)), none, some (.inl x5)], [.inr (.inl 10), .inr (.inl x3)], (am_sh, am_mm U))) 2 (fun _ => rfl) ?_
    refine ev_lrem rfl (by decide) ?_
    show Ev (am_kz N X) ((d + 1), 150, 42, [some (.inr (.inl x0)), none, some (.inl x2), some (.inr (.inl x3)), none, some (.inl x5)], [.inr (.inl (Int.tmod x3 10))], (am_sh, am_mm U)) R
    subst h1
    exact ev_end 2 (fun _ => rfl)
  · have h2 := h.2 (Int.not_le.mp hc)
    refine ev_seg (σ1 := ((d + 1), 150, 29, [some (.inr (.inl x0)), none, some (.inl x2), some (.inr (.inl x3)), none, some (.inl x5)], [.inr (.inl 10), .inr (.inl x3)], (am_sh, am_mm U))) 2 (fun _ => rfl) ?_
    refine ev_ldiv rfl (by decide) ?_
    show Ev (am_kz N X) ((d + 1), 150, 30, [some (.inr (.inl x0)), none, some (.inl x2), some (.inr (.inl x3)), none, some (.inl x5)], [.inr (.inl (w64 (Int.tdiv x3 10)))], (am_sh, am_mm U)) R
    refine ev_seg (σ1 := ((d + 1), 150, 19, [some (.inr (.inl x0)), none, some (.inl x2), some (.inr (.inl (w64 (Int.tdiv x3 10)))), none, some (.inl (w32 (x5 + 1)))], [], (am_sh, am_mm U))) 3 (fun _ => rfl) ?_
    exact h2
set_option maxRecDepth 8000 in
theorem M_digits_r0 {N : Nat} {X : Nat → Int} {d : Nat} {x0 : Int} {U : am_U} {R : Option am_V × am_M} (h : EvK N X (M_digits_s8 d x0 1 (w64 (Int.tdiv x0 10)) U) R) : EvK N X (M_digits_s0 d x0 U) R := by
  show Ev (am_kz N X) (d, 149, 0, [some (.inr (.inl x0)), none, none, none, none], [], (am_sh, am_mm U)) R
  refine ev_seg (σ1 := (d, 149, 6, [some (.inr (.inl x0)), none, some (.inl 1), none, none], [.inr (.inl 10), .inr (.inl x0)], (am_sh, am_mm U))) 4 (fun _ => rfl) ?_
  refine ev_ldiv rfl (by decide) ?_
  show Ev (am_kz N X) (d, 149, 7, [some (.inr (.inl x0)), none, some (.inl 1), none, none], [.inr (.inl (w64 (Int.tdiv x0 10)))], (am_sh, am_mm U)) R
  refine ev_seg (σ1 := (d, 149, 8, [some (.inr (.inl x0)), none, some (.inl 1), some (.inr (.inl (w64 (Int.tdiv x0 10)))), none], [], (am_sh, am_mm U))) 1 (fun _ => rfl) ?_
  exact h
set_option maxRecDepth 8000 in
theorem M_digits_r8 {N : Nat} {X : Nat → Int} {d : Nat} {x0 x2 x3 : Int} {U : am_U} {R : Option am_V × am_M} (h : ((x3 ≤ 0) → R = rI x2 U) ∧ ((0 < x3) → EvK N X (M_digits_s8 d x0 (w32 (x2 + 1)) (w64 (Int.tdiv x3 10)) U) R)) : EvK N X (M_digits_s8 d x0 x2 x3 U) R := by
  show Ev (am_kz N X) (d, 149, 8, [some (.inr (.inl x0)), none, some (.inl x2), some (.inr (.inl x3)), none], [], (am_sh, am_mm U)) R
  refine ev_br (P := (am_lcmp x3 0) ≤ 0) (σ1 := (d, 149, 26, [some (.inr (.inl x0)), none, some (.inl x2), some (.inr (.inl x3)), none], [], (am_sh, am_mm U))) (σ2 := (d, 149, 14, [some (.inr (.inl x0)), none, some (.inl x2), some (.inr (.inl x3)), none], [], (am_sh, am_mm U))) 4 (fun _ => rfl) (fun hc => ?_) (fun hc => ?_)
  · have h1 := h.1 ((am_lc_le x3 0).mp hc)
    subst h1
    exact ev_end 2 (fun _ => rfl)
  · have h2 := h.2 ((am_lcn_le x3 0).mp hc)
    refine ev_seg (σ1 := (d, 149, 21, [some (.inr (.inl x0)), none, some (.inl (w32 (x2 + 1))), some (.inr (.inl x3)), none], [.inr (.inl 10), .inr (.inl x3)], (am_sh, am_mm U))) 3 (fun _ => rfl) ?_
    refine ev_ldiv rfl (by decide) ?_
    show Ev (am_kz N X) (d, 149, 22, [some (.inr (.inl x0)), none, some (.inl (w32 (x2 + 1))), some (.inr (.inl x3)), none], [.inr (.inl (w64 (Int.tdiv x3 10)))], (am_sh, am_mm U)) R
    refine ev_seg (σ1 := (d, 149, 8, [some (.inr (.inl x0)), none, some (.inl (w32 (x2 + 1))), some (.inr (.inl (w64 (Int.tdiv x3 10)))), none], [], (am_sh, am_mm U))) 2 (fun _ => rfl) ?_
    exact h2
set_option maxRecDepth 8000 in
theorem D_areFriends_r0 {N : Nat} {X : Nat → Int} {d : Nat} {x1 x2 : Int} {U : am_U} {R : Option am_V × am_M} (h : (0 ≤ x1 ∧ x1 < 16) ∧ (0 ≤ x2 ∧ x2 < 16) ∧ (((if 0 ≤ (U 17 x1.toNat) then (U 17 x1.toNat) else w32 (-(U 17 x1.toNat))) = (if 0 ≤ (U 17 x2.toNat) then (U 17 x2.toNat) else w32 (-(U 17 x2.toNat)))) → R = rI 0 U) ∧ (((if 0 ≤ (U 17 x1.toNat) then (U 17 x1.toNat) else w32 (-(U 17 x1.toNat))) ≠ (if 0 ≤ (U 17 x2.toNat) then (U 17 x2.toNat) else w32 (-(U 17 x2.toNat)))) → ∃ (r1 : Int) (U1 : am_U), EvK N X (Fk_partsFor_s0 d x1 U) (rJ r1 U1) ∧ ((r1 ≠ (if 0 ≤ (U 17 x2.toNat) then (U 17 x2.toNat) else w32 (-(U 17 x2.toNat)))) → R = rI 0 U1) ∧ ((r1 = (if 0 ≤ (U 17 x2.toNat) then (U 17 x2.toNat) else w32 (-(U 17 x2.toNat)))) → ∃ (r2 : Int) (U2 : am_U), EvK N X (Fk_partsFor_s0 d x2 U1) (rJ r2 U2) ∧ ((r2 ≠ (if 0 ≤ (U 17 x1.toNat) then (U 17 x1.toNat) else w32 (-(U 17 x1.toNat)))) → R = rI 0 U2) ∧ ((r2 = (if 0 ≤ (U 17 x1.toNat) then (U 17 x1.toNat) else w32 (-(U 17 x1.toNat)))) → R = rI 1 U2)))) : EvK N X (D_areFriends_s0 (d + 1) x1 x2 U) R := by
  show Ev (am_kz N X) ((d + 1), 151, 0, [some (.inr (.inr 1)), some (.inl x1), some (.inl x2), none, none], [], (am_sh, am_mm U)) R
  refine ev_seg (σ1 := ((d + 1), 151, 8, [some (.inr (.inr 1)), some (.inl x1), some (.inl x2), none, none], [.inl x1, .inr (.inr 17)], (am_sh, am_mm U))) 4 (fun _ => rfl) ?_
  refine eu_iald 17 (n := 16) rfl (by decide) rfl (fun _ => rfl) h.1 ?_
  show Ev (am_kz N X) ((d + 1), 151, 9, [some (.inr (.inr 1)), some (.inl x1), some (.inl x2), none, none], [.inl (U 17 x1.toNat)], (am_sh, am_mm U)) R
  have ha := h.2
  refine ev_seg (σ1 := ((d + 1), 151, 21, [some (.inr (.inr 1)), some (.inl x1), some (.inl x2), some (.inl (if 0 ≤ (U 17 x1.toNat) then (U 17 x1.toNat) else w32 (-(U 17 x1.toNat)))), none], [.inl x2, .inr (.inr 17)], (am_sh, am_mm U))) 6 (fun _ => rfl) ?_
  refine eu_iald 17 (n := 16) rfl (by decide) rfl (fun _ => rfl) ha.1 ?_
  show Ev (am_kz N X) ((d + 1), 151, 22, [some (.inr (.inr 1)), some (.inl x1), some (.inl x2), some (.inl (if 0 ≤ (U 17 x1.toNat) then (U 17 x1.toNat) else w32 (-(U 17 x1.toNat)))), none], [.inl (U 17 x2.toNat)], (am_sh, am_mm U)) R
  have haa := ha.2
  refine ev_br (P := (if 0 ≤ (U 17 x1.toNat) then (U 17 x1.toNat) else w32 (-(U 17 x1.toNat))) = (if 0 ≤ (U 17 x2.toNat) then (U 17 x2.toNat) else w32 (-(U 17 x2.toNat)))) (σ1 := ((d + 1), 151, 66, [some (.inr (.inr 1)), some (.inl x1), some (.inl x2), some (.inl (if 0 ≤ (U 17 x1.toNat) then (U 17 x1.toNat) else w32 (-(U 17 x1.toNat)))), some (.inl (if 0 ≤ (U 17 x2.toNat) then (U 17 x2.toNat) else w32 (-(U 17 x2.toNat))))], [], (am_sh, am_mm U))) (σ2 := ((d + 1), 151, 33, [some (.inr (.inr 1)), some (.inl x1), some (.inl x2), some (.inl (if 0 ≤ (U 17 x1.toNat) then (U 17 x1.toNat) else w32 (-(U 17 x1.toNat)))), some (.inl (if 0 ≤ (U 17 x2.toNat) then (U 17 x2.toNat) else w32 (-(U 17 x2.toNat))))], [], (am_sh, am_mm U))) 5 (fun _ => rfl) (fun hc => ?_) (fun hc => ?_)
  · have haa1 := haa.1 hc
    subst haa1
    exact ev_end 2 (fun _ => rfl)
  · have haa2 := haa.2 hc
    refine ev_seg (σ1 := ((d + 1), 151, 38, [some (.inr (.inr 1)), some (.inl x1), some (.inl x2), some (.inl (if 0 ≤ (U 17 x1.toNat) then (U 17 x1.toNat) else w32 (-(U 17 x1.toNat)))), some (.inl (if 0 ≤ (U 17 x2.toNat) then (U 17 x2.toNat) else w32 (-(U 17 x2.toNat))))], [.inl x1, .inr (.inr 16)], (am_sh, am_mm U))) 3 (fun _ => rfl) ?_
    obtain ⟨r1, U1, haa2c, haa2a⟩ := haa2
    refine ev_cal (σc := (Fk_partsFor_s0 d x1 U)) (fun _ => rfl) haa2c ?_
    show Ev (am_kz N X) ((d + 1), 151, 41, [some (.inr (.inr 1)), some (.inl x1), some (.inl x2), some (.inl (if 0 ≤ (U 17 x1.toNat) then (U 17 x1.toNat) else w32 (-(U 17 x1.toNat)))), some (.inl (if 0 ≤ (U 17 x2.toNat) then (U 17 x2.toNat) else w32 (-(U 17 x2.toNat))))], [.inr (.inl r1)], (am_sh, am_mm U1)) R
    refine ev_br (P := ¬ (am_lcmp r1 (if 0 ≤ (U 17 x2.toNat) then (U 17 x2.toNat) else w32 (-(U 17 x2.toNat)))) = 0) (σ1 := ((d + 1), 151, 66, [some (.inr (.inr 1)), some (.inl x1), some (.inl x2), some (.inl (if 0 ≤ (U 17 x1.toNat) then (U 17 x1.toNat) else w32 (-(U 17 x1.toNat)))), some (.inl (if 0 ≤ (U 17 x2.toNat) then (U 17 x2.toNat) else w32 (-(U 17 x2.toNat))))], [], (am_sh, am_mm U1))) (σ2 := ((d + 1), 151, 48, [some (.inr (.inr 1)), some (.inl x1), some (.inl x2), some (.inl (if 0 ≤ (U 17 x1.toNat) then (U 17 x1.toNat) else w32 (-(U 17 x1.toNat)))), some (.inl (if 0 ≤ (U 17 x2.toNat) then (U 17 x2.toNat) else w32 (-(U 17 x2.toNat))))], [], (am_sh, am_mm U1))) 4 (fun _ => rfl) (fun hc => ?_) (fun hc => ?_)
    · have haa2a1 := haa2a.1 ((am_lc_ne r1 (if 0 ≤ (U 17 x2.toNat) then (U 17 x2.toNat) else w32 (-(U 17 x2.toNat)))).mp hc)
      subst haa2a1
      exact ev_end 2 (fun _ => rfl)
    · have haa2a2 := haa2a.2 ((am_lcn_ne r1 (if 0 ≤ (U 17 x2.toNat) then (U 17 x2.toNat) else w32 (-(U 17 x2.toNat)))).mp hc)
      refine ev_seg (σ1 := ((d + 1), 151, 53, [some (.inr (.inr 1)), some (.inl x1), some (.inl x2), some (.inl (if 0 ≤ (U 17 x1.toNat) then (U 17 x1.toNat) else w32 (-(U 17 x1.toNat)))), some (.inl (if 0 ≤ (U 17 x2.toNat) then (U 17 x2.toNat) else w32 (-(U 17 x2.toNat))))], [.inl x2, .inr (.inr 16)], (am_sh, am_mm U1))) 3 (fun _ => rfl) ?_
      obtain ⟨r2, U2, haa2a2c, haa2a2a⟩ := haa2a2
      refine ev_cal (σc := (Fk_partsFor_s0 d x2 U1)) (fun _ => rfl) haa2a2c ?_
      show Ev (am_kz N X) ((d + 1), 151, 56, [some (.inr (.inr 1)), some (.inl x1), some (.inl x2), some (.inl (if 0 ≤ (U 17 x1.toNat) then (U 17 x1.toNat) else w32 (-(U 17 x1.toNat)))), some (.inl (if 0 ≤ (U 17 x2.toNat) then (U 17 x2.toNat) else w32 (-(U 17 x2.toNat))))], [.inr (.inl r2)], (am_sh, am_mm U2)) R
      refine ev_br (P := ¬ (am_lcmp r2 (if 0 ≤ (U 17 x1.toNat) then (U 17 x1.toNat) else w32 (-(U 17 x1.toNat)))) = 0) (σ1 := ((d + 1), 151, 66, [some (.inr (.inr 1)), some (.inl x1), some (.inl x2), some (.inl (if 0 ≤ (U 17 x1.toNat) then (U 17 x1.toNat) else w32 (-(U 17 x1.toNat)))), some (.inl (if 0 ≤ (U 17 x2.toNat) then (U 17 x2.toNat) else w32 (-(U 17 x2.toNat))))], [], (am_sh, am_mm U2))) (σ2 := ((d + 1), 151, 62, [some (.inr (.inr 1)), some (.inl x1), some (.inl x2), some (.inl (if 0 ≤ (U 17 x1.toNat) then (U 17 x1.toNat) else w32 (-(U 17 x1.toNat)))), some (.inl (if 0 ≤ (U 17 x2.toNat) then (U 17 x2.toNat) else w32 (-(U 17 x2.toNat))))], [], (am_sh, am_mm U2))) 4 (fun _ => rfl) (fun hc => ?_) (fun hc => ?_)
      · have haa2a2a1 := haa2a2a.1 ((am_lc_ne r2 (if 0 ≤ (U 17 x1.toNat) then (U 17 x1.toNat) else w32 (-(U 17 x1.toNat)))).mp hc)
        subst haa2a2a1
        exact ev_end 2 (fun _ => rfl)
      · have haa2a2a2 := haa2a2a.2 ((am_lcn_ne r2 (if 0 ≤ (U 17 x1.toNat) then (U 17 x1.toNat) else w32 (-(U 17 x1.toNat)))).mp hc)
        subst haa2a2a2
        exact ev_end 3 (fun _ => rfl)
set_option maxRecDepth 8000 in
theorem M_pairAt_r0 {N : Nat} {X : Nat → Int} {d : Nat} {x1 x2 : Int} {U : am_U} {R : Option am_V × am_M} (h : EvK N X (M_pairAt_s5 (d + 1) x1 x2 0 0 U) R) : EvK N X (M_pairAt_s0 (d + 1) x1 x2 U) R := by
  show Ev (am_kz N X) ((d + 1), 152, 0, [some (.inr (.inr 86)), some (.inl x1), some (.inl x2), none, none, none], [], (am_sh, am_mm U)) R
  refine ev_seg (σ1 := ((d + 1), 152, 5, [some (.inr (.inr 86)), some (.inl x1), some (.inl x2), some (.inl 0), some (.inl 0), none], [], (am_sh, am_mm U))) 4 (fun _ => rfl) ?_
  exact h
set_option maxRecDepth 8000 in
theorem M_pairAt_r5 {N : Nat} {X : Nat → Int} {d : Nat} {x1 x2 x3 x4 : Int} {U : am_U} {R : Option am_V × am_M} (h : (((U 122 0) ≤ x4) → R = rI (-1) U) ∧ ((x4 < (U 122 0)) → EvK N X (M_pairAt_s22 (d + 1) x1 x2 x3 x4 (w32 (x4 + 1)) U) R)) : EvK N X (M_pairAt_s5 (d + 1) x1 x2 x3 x4 U) R := by
  show Ev (am_kz N X) ((d + 1), 152, 5, [some (.inr (.inr 86)), some (.inl x1), some (.inl x2), some (.inl x3), some (.inl x4), none], [], (am_sh, am_mm U)) R
  refine ev_seg (σ1 := ((d + 1), 152, 12, [some (.inr (.inr 86)), some (.inl x1), some (.inl x2), some (.inl x3), some (.inl x4), none], [.inl 0, .inr (.inr 122), .inl x4], (am_sh, am_mm U))) 4 (fun _ => rfl) ?_
  refine eu_iald 122 (n := 22) rfl (by decide) rfl (fun _ => rfl) (by decide) ?_
  show Ev (am_kz N X) ((d + 1), 152, 13, [some (.inr (.inr 86)), some (.inl x1), some (.inl x2), some (.inl x3), some (.inl x4), none], [.inl (U 122 0), .inl x4], (am_sh, am_mm U)) R
  refine ev_br (P := (U 122 0) ≤ x4) (σ1 := ((d + 1), 152, 94, [some (.inr (.inr 86)), some (.inl x1), some (.inl x2), some (.inl x3), some (.inl x4), none], [], (am_sh, am_mm U))) (σ2 := ((d + 1), 152, 16, [some (.inr (.inr 86)), some (.inl x1), some (.inl x2), some (.inl x3), some (.inl x4), none], [], (am_sh, am_mm U))) 1 (fun _ => rfl) (fun hc => ?_) (fun hc => ?_)
  · have h1 := h.1 hc
    subst h1
    exact ev_end 2 (fun _ => rfl)
  · have h2 := h.2 (Int.not_le.mp hc)
    refine ev_seg (σ1 := ((d + 1), 152, 22, [some (.inr (.inr 86)), some (.inl x1), some (.inl x2), some (.inl x3), some (.inl x4), some (.inl (w32 (x4 + 1)))], [], (am_sh, am_mm U))) 4 (fun _ => rfl) ?_
    exact h2
set_option maxRecDepth 8000 in
theorem M_pairAt_r22 {N : Nat} {X : Nat → Int} {d : Nat} {x1 x2 x3 x4 x5 : Int} {U : am_U} {R : Option am_V × am_M} (h : (((U 122 0) ≤ x5) → EvK N X (M_pairAt_s5 (d + 1) x1 x2 x3 (w32 (x4 + 1)) U) R) ∧ ((x5 < (U 122 0)) → ((x2 = 0) → ∃ (r1 : Int) (U1 : am_U), EvK N X (M_isQuarrel_s0 d x4 x5 U) (rI r1 U1) ∧ ((r1 ≠ 0) → ((x3 ≠ x1) → EvK N X (M_pairAt_s22 (d + 1) x1 x2 (w32 (x3 + 1)) x4 (w32 (x5 + 1)) U1) R) ∧ ((x3 = x1) → R = rI (w32 ((w32 (100 * x4)) + x5)) U1)) ∧ ((r1 = 0) → EvK N X (M_pairAt_s22 (d + 1) x1 x2 x3 x4 (w32 (x5 + 1)) U1) R)) ∧ ((x2 ≠ 0) → ∃ (r2 : Int) (U2 : am_U), EvK N X (M_areFriends_s0 d x4 x5 U) (rI r2 U2) ∧ ((r2 ≠ 0) → ((x3 ≠ x1) → EvK N X (M_pairAt_s22 (d + 1) x1 x2 (w32 (x3 + 1)) x4 (w32 (x5 + 1)) U2) R) ∧ ((x3 = x1) → R = rI (w32 ((w32 (100 * x4)) + x5)) U2)) ∧ ((r2 = 0) → EvK N X (M_pairAt_s22 (d + 1) x1 x2 x3 x4 (w32 (x5 + 1)) U2) R)))) : EvK N X (M_pairAt_s22 (d + 1) x1 x2 x3 x4 x5 U) R := by
  show Ev (am_kz N X) ((d + 1), 152, 22, [some (.inr (.inr 86)), some (.inl x1), some (.inl x2), some (.inl x3), some (.inl x4), some (.inl x5)], [], (am_sh, am_mm U)) R
  refine ev_seg (σ1 := ((d + 1), 152, 29, [some (.inr (.inr 86)), some (.inl x1), some (.inl x2), some (.inl x3), some (.inl x4), some (.inl x5)], [.inl 0, .inr (.inr 122), .inl x5], (am_sh, am_mm U))) 4 (fun _ => rfl) ?_
  refine eu_iald 122 (n := 22) rfl (by decide) rfl (fun _ => rfl) (by decide) ?_
  show Ev (am_kz N X) ((d + 1), 152, 30, [some (.inr (.inr 86)), some (.inl x1), some (.inl x2), some (.inl x3), some (.inl x4), some (.inl x5)], [.inl (U 122 0), .inl x5], (am_sh, am_mm U)) R
  refine ev_br (P := (U 122 0) ≤ x5) (σ1 := ((d + 1), 152, 88, [some (.inr (.inr 86)), some (.inl x1), some (.inl x2), some (.inl x3), some (.inl x4), some (.inl x5)], [], (am_sh, am_mm U))) (σ2 := ((d + 1), 152, 33, [some (.inr (.inr 86)), some (.inl x1), some (.inl x2), some (.inl x3), some (.inl x4), some (.inl x5)], [], (am_sh, am_mm U))) 1 (fun _ => rfl) (fun hc => ?_) (fun hc => ?_)
  · have h1 := h.1 hc
    refine ev_seg (σ1 := ((d + 1), 152, 5, [some (.inr (.inr 86)), some (.inl x1), some (.inl x2), some (.inl x3), some (.inl (w32 (x4 + 1))), some (.inl x5)], [], (am_sh, am_mm U))) 2 (fun _ => rfl) ?_
    exact ev_le (L := [some (.inr (.inr 86)), some (.inl x1), some (.inl x2), some (.inl x3), some (.inl (w32 (x4 + 1))), none]) ⟨rfl, ⟨rfl, ⟨rfl, ⟨rfl, ⟨rfl, trivial⟩⟩⟩⟩⟩ h1
  · have h2 := h.2 (Int.not_le.mp hc)
    refine ev_br (P := x2 = 0) (σ1 := ((d + 1), 152, 51, [some (.inr (.inr 86)), some (.inl x1), some (.inl x2), some (.inl x3), some (.inl x4), some (.inl x5)], [], (am_sh, am_mm U))) (σ2 := ((d + 1), 152, 37, [some (.inr (.inr 86)), some (.inl x1), some (.inl x2), some (.inl x3), some (.inl x4), some (.inl x5)], [], (am_sh, am_mm U))) 2 (fun _ => rfl) (fun hc => ?_) (fun hc => ?_)
    · have h21 := h2.1 hc
      refine ev_seg (σ1 := ((d + 1), 152, 56, [some (.inr (.inr 86)), some (.inl x1), some (.inl x2), some (.inl x3), some (.inl x4), some (.inl x5)], [.inl x5, .inl x4, .inr (.inr 86)], (am_sh, am_mm U))) 3 (fun _ => rfl) ?_
      obtain ⟨r1, U1, h21c, h21a⟩ := h21
      refine ev_cal (σc := (M_isQuarrel_s0 d x4 x5 U)) (fun _ => rfl) h21c ?_
      show Ev (am_kz N X) ((d + 1), 152, 59, [some (.inr (.inr 86)), some (.inl x1), some (.inl x2), some (.inl x3), some (.inl x4), some (.inl x5)], [.inl r1], (am_sh, am_mm U1)) R
      refine ev_br (P := ¬ r1 = 0) (σ1 := ((d + 1), 152, 65, [some (.inr (.inr 86)), some (.inl x1), some (.inl x2), some (.inl x3), some (.inl x4), some (.inl x5)], [], (am_sh, am_mm U1))) (σ2 := ((d + 1), 152, 62, [some (.inr (.inr 86)), some (.inl x1), some (.inl x2), some (.inl x3), some (.inl x4), some (.inl x5)], [], (am_sh, am_mm U1))) 1 (fun _ => rfl) (fun hc => ?_) (fun hc => ?_)
      · have h21a1 := h21a.1 hc
        refine ev_br (P := ¬ x3 = x1) (σ1 := ((d + 1), 152, 79, [some (.inr (.inr 86)), some (.inl x1), some (.inl x2), some (.inl x3), some (.inl x4), some (.inl x5)], [], (am_sh, am_mm U1))) (σ2 := ((d + 1), 152, 70, [some (.inr (.inr 86)), some (.inl x1), some (.inl x2), some (.inl x3), some (.inl x4), some (.inl x5)], [], (am_sh, am_mm U1))) 3 (fun _ => rfl) (fun hc => ?_) (fun hc => ?_)
        · have h21a11 := h21a1.1 hc
          refine ev_seg (σ1 := ((d + 1), 152, 22, [some (.inr (.inr 86)), some (.inl x1), some (.inl x2), some (.inl (w32 (x3 + 1))), some (.inl x4), some (.inl (w32 (x5 + 1)))], [], (am_sh, am_mm U1))) 3 (fun _ => rfl) ?_
          exact h21a11
        · have h21a12 := h21a1.2 (Decidable.not_not.mp hc)
          subst h21a12
          exact ev_end 6 (fun _ => rfl)
      · have h21a2 := h21a.2 (Decidable.not_not.mp hc)
        refine ev_seg (σ1 := ((d + 1), 152, 22, [some (.inr (.inr 86)), some (.inl x1), some (.inl x2), some (.inl x3), some (.inl x4), some (.inl (w32 (x5 + 1)))], [], (am_sh, am_mm U1))) 3 (fun _ => rfl) ?_
        exact h21a2
    · have h22 := h2.2 hc
      refine ev_seg (σ1 := ((d + 1), 152, 42, [some (.inr (.inr 86)), some (.inl x1), some (.inl x2), some (.inl x3), some (.inl x4), some (.inl x5)], [.inl x5, .inl x4, .inr (.inr 86)], (am_sh, am_mm U))) 3 (fun _ => rfl) ?_
      obtain ⟨r2, U2, h22c, h22a⟩ := h22
      refine ev_cal (σc := (M_areFriends_s0 d x4 x5 U)) (fun _ => rfl) h22c ?_
      show Ev (am_kz N X) ((d + 1), 152, 45, [some (.inr (.inr 86)), some (.inl x1), some (.inl x2), some (.inl x3), some (.inl x4), some (.inl x5)], [.inl r2], (am_sh, am_mm U2)) R
      refine ev_br (P := ¬ r2 = 0) (σ1 := ((d + 1), 152, 65, [some (.inr (.inr 86)), some (.inl x1), some (.inl x2), some (.inl x3), some (.inl x4), some (.inl x5)], [], (am_sh, am_mm U2))) (σ2 := ((d + 1), 152, 48, [some (.inr (.inr 86)), some (.inl x1), some (.inl x2), some (.inl x3), some (.inl x4), some (.inl x5)], [], (am_sh, am_mm U2))) 1 (fun _ => rfl) (fun hc => ?_) (fun hc => ?_)
      · have h22a1 := h22a.1 hc
        refine ev_br (P := ¬ x3 = x1) (σ1 := ((d + 1), 152, 79, [some (.inr (.inr 86)), some (.inl x1), some (.inl x2), some (.inl x3), some (.inl x4), some (.inl x5)], [], (am_sh, am_mm U2))) (σ2 := ((d + 1), 152, 70, [some (.inr (.inr 86)), some (.inl x1), some (.inl x2), some (.inl x3), some (.inl x4), some (.inl x5)], [], (am_sh, am_mm U2))) 3 (fun _ => rfl) (fun hc => ?_) (fun hc => ?_)
        · have h22a11 := h22a1.1 hc
          refine ev_seg (σ1 := ((d + 1), 152, 22, [some (.inr (.inr 86)), some (.inl x1), some (.inl x2), some (.inl (w32 (x3 + 1))), some (.inl x4), some (.inl (w32 (x5 + 1)))], [], (am_sh, am_mm U2))) 3 (fun _ => rfl) ?_
          exact h22a11
        · have h22a12 := h22a1.2 (Decidable.not_not.mp hc)
          subst h22a12
          exact ev_end 6 (fun _ => rfl)
      · have h22a2 := h22a.2 (Decidable.not_not.mp hc)
        refine ev_seg (σ1 := ((d + 1), 152, 22, [some (.inr (.inr 86)), some (.inl x1), some (.inl x2), some (.inl x3), some (.inl x4), some (.inl (w32 (x5 + 1)))], [], (am_sh, am_mm U2))) 3 (fun _ => rfl) ?_
        exact h22a2
set_option maxRecDepth 8000 in
theorem Nm_commonFactor_r0 {N : Nat} {X : Nat → Int} {d : Nat} {x0 x1 : Int} {U : am_U} {R : Option am_V × am_M} (h : ((0 ≤ x0) → ((0 ≤ x1) → EvK N X (Nm_commonFactor_s25 d x0 x1 x0 x1 0 U) R) ∧ ((x1 < 0) → EvK N X (Nm_commonFactor_s25 d x0 x1 x0 (w32 (-x1)) 0 U) R)) ∧ ((x0 < 0) → ((0 ≤ x1) → EvK N X (Nm_commonFactor_s25 d x0 x1 (w32 (-x0)) x1 0 U) R) ∧ ((x1 < 0) → EvK N X (Nm_commonFactor_s25 d x0 x1 (w32 (-x0)) (w32 (-x1)) 0 U) R))) : EvK N X (Nm_commonFactor_s0 d x0 x1 U) R := by
  show Ev (am_kz N X) (d, 153, 0, [some (.inl x0), some (.inl x1), none, none, none, none], [], (am_sh, am_mm U)) R
  refine ev_br (P := 0 ≤ x0) (σ1 := (d, 153, 9, [some (.inl x0), some (.inl x1), none, none, none, none], [], (am_sh, am_mm U))) (σ2 := (d, 153, 4, [some (.inl x0), some (.inl x1), none, none, none, none], [], (am_sh, am_mm U))) 2 (fun _ => rfl) (fun hc => ?_) (fun hc => ?_)
  · have h1 := h.1 hc
    refine ev_br (P := 0 ≤ x1) (σ1 := (d, 153, 20, [some (.inl x0), some (.inl x1), some (.inl x0), none, none, none], [], (am_sh, am_mm U))) (σ2 := (d, 153, 15, [some (.inl x0), some (.inl x1), some (.inl x0), none, none, none], [], (am_sh, am_mm U))) 4 (fun _ => rfl) (fun hc => ?_) (fun hc => ?_)
    · have h11 := h1.1 hc
      refine ev_seg (σ1 := (d, 153, 25, [some (.inl x0), some (.inl x1), some (.inl x0), some (.inl x1), some (.inl 0), none], [], (am_sh, am_mm U))) 4 (fun _ => rfl) ?_
      exact h11
    · have h12 := h1.2 (Int.not_le.mp hc)
      refine ev_seg (σ1 := (d, 153, 25, [some (.inl x0), some (.inl x1), some (.inl x0), some (.inl (w32 (-x1))), some (.inl 0), none], [], (am_sh, am_mm U))) 6 (fun _ => rfl) ?_
      exact h12
  · have h2 := h.2 (Int.not_le.mp hc)
    refine ev_br (P := 0 ≤ x1) (σ1 := (d, 153, 20, [some (.inl x0), some (.inl x1), some (.inl (w32 (-x0))), none, none, none], [], (am_sh, am_mm U))) (σ2 := (d, 153, 15, [some (.inl x0), some (.inl x1), some (.inl (w32 (-x0))), none, none, none], [], (am_sh, am_mm U))) 6 (fun _ => rfl) (fun hc => ?_) (fun hc => ?_)
    · have h21 := h2.1 hc
      refine ev_seg (σ1 := (d, 153, 25, [some (.inl x0), some (.inl x1), some (.inl (w32 (-x0))), some (.inl x1), some (.inl 0), none], [], (am_sh, am_mm U))) 4 (fun _ => rfl) ?_
      exact h21
    · have h22 := h2.2 (Int.not_le.mp hc)
      refine ev_seg (σ1 := (d, 153, 25, [some (.inl x0), some (.inl x1), some (.inl (w32 (-x0))), some (.inl (w32 (-x1))), some (.inl 0), none], [], (am_sh, am_mm U))) 6 (fun _ => rfl) ?_
      exact h22
set_option maxRecDepth 8000 in
theorem Nm_commonFactor_r25 {N : Nat} {X : Nat → Int} {d : Nat} {x0 x1 x2 x3 x4 : Int} {U : am_U} {R : Option am_V × am_M} (h : ((64 ≤ x4) → R = rI x2 U) ∧ ((x4 < 64) → ((x3 = 0) → R = rI x2 U) ∧ ((x3 ≠ 0) → x3 ≠ 0 ∧ EvK N X (Nm_commonFactor_s25 d x0 x1 x3 (Int.tmod x2 x3) (w32 (x4 + 1)) U) R))) : EvK N X (Nm_commonFactor_s25 d x0 x1 x2 x3 x4 U) R := by
  show Ev (am_kz N X) (d, 153, 25, [some (.inl x0), some (.inl x1), some (.inl x2), some (.inl x3), some (.inl x4), none], [], (am_sh, am_mm U)) R
  refine ev_br (P := 64 ≤ x4) (σ1 := (d, 153, 52, [some (.inl x0), some (.inl x1), some (.inl x2), some (.inl x3), some (.inl x4), none], [], (am_sh, am_mm U))) (σ2 := (d, 153, 32, [some (.inl x0), some (.inl x1), some (.inl x2), some (.inl x3), some (.inl x4), none], [], (am_sh, am_mm U))) 3 (fun _ => rfl) (fun hc => ?_) (fun hc => ?_)
  · have h1 := h.1 hc
    subst h1
    exact ev_end 2 (fun _ => rfl)
  · have h2 := h.2 (Int.not_le.mp hc)
    refine ev_br (P := x3 = 0) (σ1 := (d, 153, 52, [some (.inl x0), some (.inl x1), some (.inl x2), some (.inl x3), some (.inl x4), none], [], (am_sh, am_mm U))) (σ2 := (d, 153, 36, [some (.inl x0), some (.inl x1), some (.inl x2), some (.inl x3), some (.inl x4), none], [], (am_sh, am_mm U))) 2 (fun _ => rfl) (fun hc => ?_) (fun hc => ?_)
    · have h21 := h2.1 hc
      subst h21
      exact ev_end 2 (fun _ => rfl)
    · have h22 := h2.2 hc
      refine ev_seg (σ1 := (d, 153, 38, [some (.inl x0), some (.inl x1), some (.inl x2), some (.inl x3), some (.inl x4), none], [.inl x3, .inl x2], (am_sh, am_mm U))) 2 (fun _ => rfl) ?_
      refine ev_irem rfl h22.1 ?_
      show Ev (am_kz N X) (d, 153, 39, [some (.inl x0), some (.inl x1), some (.inl x2), some (.inl x3), some (.inl x4), none], [.inl (Int.tmod x2 x3)], (am_sh, am_mm U)) R
      have h22a := h22.2
      refine ev_seg (σ1 := (d, 153, 25, [some (.inl x0), some (.inl x1), some (.inl x3), some (.inl (Int.tmod x2 x3)), some (.inl (w32 (x4 + 1))), some (.inl (Int.tmod x2 x3))], [], (am_sh, am_mm U))) 7 (fun _ => rfl) ?_
      exact ev_le (L := [some (.inl x0), some (.inl x1), some (.inl x3), some (.inl (Int.tmod x2 x3)), some (.inl (w32 (x4 + 1))), none]) ⟨rfl, ⟨rfl, ⟨rfl, ⟨rfl, ⟨rfl, trivial⟩⟩⟩⟩⟩ h22a
set_option maxRecDepth 8000 in
theorem M_gcd_r0 {N : Nat} {X : Nat → Int} {d : Nat} {x0 x2 : Int} {U : am_U} {R : Option am_V × am_M} (h : ∃ (r1 : Int) (U1 : am_U), EvK N X (M_size_s0 d x0 U) (rJ r1 U1) ∧ ∃ (r2 : Int) (U2 : am_U), EvK N X (M_size_s0 d x2 U1) (rJ r2 U2) ∧ EvK N X (M_gcd_s12 (d + 1) x0 x2 r1 r2 U2) R) : EvK N X (M_gcd_s0 (d + 1) x0 x2 U) R := by
  show Ev (am_kz N X) ((d + 1), 154, 0, [some (.inr (.inl x0)), none, some (.inr (.inl x2)), none, none, none, none, none, none, none], [], (am_sh, am_mm U)) R
  refine ev_seg (σ1 := ((d + 1), 154, 1, [some (.inr (.inl x0)), none, some (.inr (.inl x2)), none, none, none, none, none, none, none], [.inr (.inl x0)], (am_sh, am_mm U))) 1 (fun _ => rfl) ?_
  obtain ⟨r1, U1, hc, ha⟩ := h
  refine ev_cal (σc := (M_size_s0 d x0 U)) (fun _ => rfl) hc ?_
  show Ev (am_kz N X) ((d + 1), 154, 4, [some (.inr (.inl x0)), none, some (.inr (.inl x2)), none, none, none, none, none, none, none], [.inr (.inl r1)], (am_sh, am_mm U1)) R
  refine ev_seg (σ1 := ((d + 1), 154, 7, [some (.inr (.inl x0)), none, some (.inr (.inl x2)), none, some (.inr (.inl r1)), none, none, none, none, none], [.inr (.inl x2)], (am_sh, am_mm U1))) 2 (fun _ => rfl) ?_
  obtain ⟨r2, U2, hac, haa⟩ := ha
  refine ev_cal (σc := (M_size_s0 d x2 U1)) (fun _ => rfl) hac ?_
  show Ev (am_kz N X) ((d + 1), 154, 10, [some (.inr (.inl x0)), none, some (.inr (.inl x2)), none, some (.inr (.inl r1)), none, none, none, none, none], [.inr (.inl r2)], (am_sh, am_mm U2)) R
  refine ev_seg (σ1 := ((d + 1), 154, 12, [some (.inr (.inl x0)), none, some (.inr (.inl x2)), none, some (.inr (.inl r1)), none, some (.inr (.inl r2)), none, none, none], [], (am_sh, am_mm U2))) 1 (fun _ => rfl) ?_
  exact haa
set_option maxRecDepth 8000 in
theorem M_gcd_r12 {N : Nat} {X : Nat → Int} {d : Nat} {x0 x2 x4 x6 : Int} {U : am_U} {R : Option am_V × am_M} (h : ((x6 ≤ 0) → R = rJ x4 U) ∧ ((0 < x6) → x6 ≠ 0 ∧ EvK N X (M_gcd_s12 (d + 1) x0 x2 x6 (Int.tmod x4 x6) U) R)) : EvK N X (M_gcd_s12 (d + 1) x0 x2 x4 x6 U) R := by
  show Ev (am_kz N X) ((d + 1), 154, 12, [some (.inr (.inl x0)), none, some (.inr (.inl x2)), none, some (.inr (.inl x4)), none, some (.inr (.inl x6)), none, none, none], [], (am_sh, am_mm U)) R
  refine ev_br (P := (am_lcmp x6 0) ≤ 0) (σ1 := ((d + 1), 154, 37, [some (.inr (.inl x0)), none, some (.inr (.inl x2)), none, some (.inr (.inl x4)), none, some (.inr (.inl x6)), none, none, none], [], (am_sh, am_mm U))) (σ2 := ((d + 1), 154, 19, [some (.inr (.inl x0)), none, some (.inr (.inl x2)), none, some (.inr (.inl x4)), none, some (.inr (.inl x6)), none, none, none], [], (am_sh, am_mm U))) 4 (fun _ => rfl) (fun hc => ?_) (fun hc => ?_)
  · have h1 := h.1 ((am_lc_le x6 0).mp hc)
    subst h1
    exact ev_end 2 (fun _ => rfl)
  · have h2 := h.2 ((am_lcn_le x6 0).mp hc)
    refine ev_seg (σ1 := ((d + 1), 154, 23, [some (.inr (.inl x0)), none, some (.inr (.inl x2)), none, some (.inr (.inl x4)), none, some (.inr (.inl x6)), none, none, none], [.inr (.inl x6), .inr (.inl x4)], (am_sh, am_mm U))) 2 (fun _ => rfl) ?_
    refine ev_lrem rfl h2.1 ?_
    show Ev (am_kz N X) ((d + 1), 154, 24, [some (.inr (.inl x0)), none, some (.inr (.inl x2)), none, some (.inr (.inl x4)), none, some (.inr (.inl x6)), none, none, none], [.inr (.inl (Int.tmod x4 x6))], (am_sh, am_mm U)) R
    have h2a := h2.2
    refine ev_seg (σ1 := ((d + 1), 154, 12, [some (.inr (.inl x0)), none, some (.inr (.inl x2)), none, some (.inr (.inl x6)), none, some (.inr (.inl (Int.tmod x4 x6))), none, some (.inr (.inl (Int.tmod x4 x6))), none], [], (am_sh, am_mm U))) 6 (fun _ => rfl) ?_
    exact ev_le (L := [some (.inr (.inl x0)), none, some (.inr (.inl x2)), none, some (.inr (.inl x6)), none, some (.inr (.inl (Int.tmod x4 x6))), none, none, none]) ⟨rfl, ⟨rfl, ⟨rfl, ⟨rfl, trivial⟩⟩⟩⟩ h2a
set_option maxRecDepth 8000 in
theorem D_countLike_r0 {N : Nat} {X : Nat → Int} {d : Nat} {x1 x2 x3 : Int} {U : am_U} {R : Option am_V × am_M} (h : EvK N X (D_countLike_s6 (d + 1) x1 x2 x3 0 0 U) R) : EvK N X (D_countLike_s0 (d + 1) x1 x2 x3 U) R := by
  show Ev (am_kz N X) ((d + 1), 156, 0, [some (.inr (.inr 1)), some (.inl x1), some (.inl x2), some (.inl x3), none, none], [], (am_sh, am_mm U)) R
  refine ev_seg (σ1 := ((d + 1), 156, 6, [some (.inr (.inr 1)), some (.inl x1), some (.inl x2), some (.inl x3), some (.inl 0), some (.inl 0)], [], (am_sh, am_mm U))) 4 (fun _ => rfl) ?_
  exact h
set_option maxRecDepth 8000 in
theorem D_countLike_r6 {N : Nat} {X : Nat → Int} {d : Nat} {x1 x2 x3 x4 x5 : Int} {U : am_U} {R : Option am_V × am_M} (h : ((x3 ≤ x5) → R = rI x4 U) ∧ ((x5 < x3) → ((x1 = 0) → R = rI x4 U) ∧ ((x1 ≠ 0) → (0 ≤ x5 ∧ x5 < 16) ∧ x1 ≠ 0 ∧ (0 ≤ x2 ∧ x2 < 16) ∧ x1 ≠ 0 ∧ (((Int.fmod (U 17 x5.toNat) x1) ≠ (Int.fmod (U 17 x2.toNat) x1)) → EvK N X (D_countLike_s6 (d + 1) x1 x2 x3 x4 (w32 (x5 + 1)) U) R) ∧ (((Int.fmod (U 17 x5.toNat) x1) = (Int.fmod (U 17 x2.toNat) x1)) → EvK N X (D_countLike_s6 (d + 1) x1 x2 x3 (w32 (x4 + 1)) (w32 (x5 + 1)) U) R)))) : EvK N X (D_countLike_s6 (d + 1) x1 x2 x3 x4 x5 U) R := by
  show Ev (am_kz N X) ((d + 1), 156, 6, [some (.inr (.inr 1)), some (.inl x1), some (.inl x2), some (.inl x3), some (.inl x4), some (.inl x5)], [], (am_sh, am_mm U)) R
  refine ev_br (P := x3 ≤ x5) (σ1 := ((d + 1), 156, 55, [some (.inr (.inr 1)), some (.inl x1), some (.inl x2), some (.inl x3), some (.inl x4), some (.inl x5)], [], (am_sh, am_mm U))) (σ2 := ((d + 1), 156, 12, [some (.inr (.inr 1)), some (.inl x1), some (.inl x2), some (.inl x3), some (.inl x4), some (.inl x5)], [], (am_sh, am_mm U))) 3 (fun _ => rfl) (fun hc => ?_) (fun hc => ?_)
  · have h1 := h.1 hc
    subst h1
    exact ev_end 2 (fun _ => rfl)
  · have h2 := h.2 (Int.not_le.mp hc)
    refine ev_br (P := x1 = 0) (σ1 := ((d + 1), 156, 55, [some (.inr (.inr 1)), some (.inl x1), some (.inl x2), some (.inl x3), some (.inl x4), some (.inl x5)], [], (am_sh, am_mm U))) (σ2 := ((d + 1), 156, 16, [some (.inr (.inr 1)), some (.inl x1), some (.inl x2), some (.inl x3), some (.inl x4), some (.inl x5)], [], (am_sh, am_mm U))) 2 (fun _ => rfl) (fun hc => ?_) (fun hc => ?_)
    · have h21 := h2.1 hc
      subst h21
      exact ev_end 2 (fun _ => rfl)
    · have h22 := h2.2 hc
      refine ev_seg (σ1 := ((d + 1), 156, 25, [some (.inr (.inr 1)), some (.inl x1), some (.inl x2), some (.inl x3), some (.inl x4), some (.inl x5)], [.inl x5, .inr (.inr 17)], (am_sh, am_mm U))) 4 (fun _ => rfl) ?_
      refine eu_iald 17 (n := 16) rfl (by decide) rfl (fun _ => rfl) h22.1 ?_
      show Ev (am_kz N X) ((d + 1), 156, 26, [some (.inr (.inr 1)), some (.inl x1), some (.inl x2), some (.inl x3), some (.inl x4), some (.inl x5)], [.inl (U 17 x5.toNat)], (am_sh, am_mm U)) R
      have h22a := h22.2
      refine ev_seg (σ1 := ((d + 1), 156, 27, [some (.inr (.inr 1)), some (.inl x1), some (.inl x2), some (.inl x3), some (.inl x4), some (.inl x5)], [.inl x1, .inl (U 17 x5.toNat)], (am_sh, am_mm U))) 1 (fun _ => rfl) ?_
      refine ev_flm rfl (by omega) (by simp [am_cat]) h22a.1 ?_
      show Ev (am_kz N X) ((d + 1), 156, 30, [some (.inr (.inr 1)), some (.inl x1), some (.inl x2), some (.inl x3), some (.inl x4), some (.inl x5)], [.inl (Int.fmod (U 17 x5.toNat) x1)], (am_sh, am_mm U)) R
      have h22aa := h22a.2
      refine ev_seg (σ1 := ((d + 1), 156, 38, [some (.inr (.inr 1)), some (.inl x1), some (.inl x2), some (.inl x3), some (.inl x4), some (.inl x5)], [.inl x2, .inr (.inr 17), .inl (Int.fmod (U 17 x5.toNat) x1)], (am_sh, am_mm U))) 4 (fun _ => rfl) ?_
      refine eu_iald 17 (n := 16) rfl (by decide) rfl (fun _ => rfl) h22aa.1 ?_
      show Ev (am_kz N X) ((d + 1), 156, 39, [some (.inr (.inr 1)), some (.inl x1), some (.inl x2), some (.inl x3), some (.inl x4), some (.inl x5)], [.inl (U 17 x2.toNat), .inl (Int.fmod (U 17 x5.toNat) x1)], (am_sh, am_mm U)) R
      have h22aaa := h22aa.2
      refine ev_seg (σ1 := ((d + 1), 156, 40, [some (.inr (.inr 1)), some (.inl x1), some (.inl x2), some (.inl x3), some (.inl x4), some (.inl x5)], [.inl x1, .inl (U 17 x2.toNat), .inl (Int.fmod (U 17 x5.toNat) x1)], (am_sh, am_mm U))) 1 (fun _ => rfl) ?_
      refine ev_flm rfl (by omega) (by simp [am_cat]) h22aaa.1 ?_
      show Ev (am_kz N X) ((d + 1), 156, 43, [some (.inr (.inr 1)), some (.inl x1), some (.inl x2), some (.inl x3), some (.inl x4), some (.inl x5)], [.inl (Int.fmod (U 17 x2.toNat) x1), .inl (Int.fmod (U 17 x5.toNat) x1)], (am_sh, am_mm U)) R
      have h22aaaa := h22aaa.2
      refine ev_br (P := ¬ (Int.fmod (U 17 x5.toNat) x1) = (Int.fmod (U 17 x2.toNat) x1)) (σ1 := ((d + 1), 156, 49, [some (.inr (.inr 1)), some (.inl x1), some (.inl x2), some (.inl x3), some (.inl x4), some (.inl x5)], [], (am_sh, am_mm U))) (σ2 := ((d + 1), 156, 46, [some (.inr (.inr 1)), some (.inl x1), some (.inl x2), some (.inl x3), some (.inl x4), some (.inl x5)], [], (am_sh, am_mm U))) 1 (fun _ => rfl) (fun hc => ?_) (fun hc => ?_)
      · have h22aaaa1 := h22aaaa.1 hc
        refine ev_seg (σ1 := ((d + 1), 156, 6, [some (.inr (.inr 1)), some (.inl x1), some (.inl x2), some (.inl x3), some (.inl x4), some (.inl (w32 (x5 + 1)))], [], (am_sh, am_mm U))) 2 (fun _ => rfl) ?_
        exact h22aaaa1
      · have h22aaaa2 := h22aaaa.2 (Decidable.not_not.mp hc)
        refine ev_seg (σ1 := ((d + 1), 156, 6, [some (.inr (.inr 1)), some (.inl x1), some (.inl x2), some (.inl x3), some (.inl (w32 (x4 + 1))), some (.inl (w32 (x5 + 1)))], [], (am_sh, am_mm U))) 3 (fun _ => rfl) ?_
        exact h22aaaa2
set_option maxRecDepth 8000 in
theorem D_countRemainders_r0 {N : Nat} {X : Nat → Int} {d : Nat} {x1 : Int} {U : am_U} {R : Option am_V × am_M} (h : EvK N X (D_countRemainders_s4 (d + 1) x1 0 0 U) R) : EvK N X (D_countRemainders_s0 (d + 1) x1 U) R := by
  show Ev (am_kz N X) ((d + 1), 155, 0, [some (.inr (.inr 1)), some (.inl x1), none, none], [], (am_sh, am_mm U)) R
  refine ev_seg (σ1 := ((d + 1), 155, 4, [some (.inr (.inr 1)), some (.inl x1), some (.inl 0), some (.inl 0)], [], (am_sh, am_mm U))) 4 (fun _ => rfl) ?_
  exact h
set_option maxRecDepth 8000 in
theorem D_countRemainders_r4 {N : Nat} {X : Nat → Int} {d : Nat} {x1 x2 x3 : Int} {U : am_U} {R : Option am_V × am_M} (h : (((U 16 0) ≤ x3) → R = rI x2 U) ∧ ((x3 < (U 16 0)) → ∃ (r1 : Int) (U1 : am_U), EvK N X (D_countLike_s0 d x1 x3 x3 U) (rI r1 U1) ∧ ((r1 ≠ 0) → EvK N X (D_countRemainders_s4 (d + 1) x1 x2 (w32 (x3 + 1)) U1) R) ∧ ((r1 = 0) → EvK N X (D_countRemainders_s4 (d + 1) x1 (w32 (x2 + 1)) (w32 (x3 + 1)) U1) R))) : EvK N X (D_countRemainders_s4 (d + 1) x1 x2 x3 U) R := by
  show Ev (am_kz N X) ((d + 1), 155, 4, [some (.inr (.inr 1)), some (.inl x1), some (.inl x2), some (.inl x3)], [], (am_sh, am_mm U)) R
  refine ev_br (P := (U 16 0) ≤ x3) (σ1 := ((d + 1), 155, 34, [some (.inr (.inr 1)), some (.inl x1), some (.inl x2), some (.inl x3)], [], (am_sh, am_mm U))) (σ2 := ((d + 1), 155, 15, [some (.inr (.inr 1)), some (.inl x1), some (.inl x2), some (.inl x3)], [], (am_sh, am_mm U))) 5 (fun _ => rfl) (fun hc => ?_) (fun hc => ?_)
  · have h1 := h.1 hc
    subst h1
    exact ev_end 2 (fun _ => rfl)
  · have h2 := h.2 (Int.not_le.mp hc)
    refine ev_seg (σ1 := ((d + 1), 155, 19, [some (.inr (.inr 1)), some (.inl x1), some (.inl x2), some (.inl x3)], [.inl x3, .inl x3, .inl x1, .inr (.inr 1)], (am_sh, am_mm U))) 4 (fun _ => rfl) ?_
    obtain ⟨r1, U1, h2c, h2a⟩ := h2
    refine ev_cal (σc := (D_countLike_s0 d x1 x3 x3 U)) (fun _ => rfl) h2c ?_
    show Ev (am_kz N X) ((d + 1), 155, 22, [some (.inr (.inr 1)), some (.inl x1), some (.inl x2), some (.inl x3)], [.inl r1], (am_sh, am_mm U1)) R
    refine ev_br (P := ¬ r1 = 0) (σ1 := ((d + 1), 155, 28, [some (.inr (.inr 1)), some (.inl x1), some (.inl x2), some (.inl x3)], [], (am_sh, am_mm U1))) (σ2 := ((d + 1), 155, 25, [some (.inr (.inr 1)), some (.inl x1), some (.inl x2), some (.inl x3)], [], (am_sh, am_mm U1))) 1 (fun _ => rfl) (fun hc => ?_) (fun hc => ?_)
    · have h2a1 := h2a.1 hc
      refine ev_seg (σ1 := ((d + 1), 155, 4, [some (.inr (.inr 1)), some (.inl x1), some (.inl x2), some (.inl (w32 (x3 + 1)))], [], (am_sh, am_mm U1))) 2 (fun _ => rfl) ?_
      exact h2a1
    · have h2a2 := h2a.2 (Decidable.not_not.mp hc)
      refine ev_seg (σ1 := ((d + 1), 155, 4, [some (.inr (.inr 1)), some (.inl x1), some (.inl (w32 (x2 + 1))), some (.inl (w32 (x3 + 1)))], [], (am_sh, am_mm U1))) 3 (fun _ => rfl) ?_
      exact h2a2
set_option maxRecDepth 8000 in
theorem M_areTwins_r0 {N : Nat} {X : Nat → Int} {d : Nat} {x1 x2 x3 : Int} {U : am_U} {R : Option am_V × am_M} (h : (0 ≤ x2 ∧ x2 < 352) ∧ (0 ≤ x3 ∧ x3 < 352) ∧ x1 ≠ 0 ∧ (((Int.tmod (w32 ((U 123 x2.toNat) - (U 123 x3.toNat))) x1) ≠ 0) → R = rI 0 U) ∧ (((Int.tmod (w32 ((U 123 x2.toNat) - (U 123 x3.toNat))) x1) = 0) → R = rI 1 U)) : EvK N X (M_areTwins_s0 d x1 x2 x3 U) R := by
  show Ev (am_kz N X) (d, 157, 0, [some (.inr (.inr 86)), some (.inl x1), some (.inl x2), some (.inl x3)], [], (am_sh, am_mm U)) R
  refine ev_seg (σ1 := (d, 157, 5, [some (.inr (.inr 86)), some (.inl x1), some (.inl x2), some (.inl x3)], [.inl x2, .inr (.inr 123)], (am_sh, am_mm U))) 3 (fun _ => rfl) ?_
  refine eu_iald 123 (n := 352) rfl (by decide) rfl (fun _ => rfl) h.1 ?_
  show Ev (am_kz N X) (d, 157, 6, [some (.inr (.inr 86)), some (.inl x1), some (.inl x2), some (.inl x3)], [.inl (U 123 x2.toNat)], (am_sh, am_mm U)) R
  have ha := h.2
  refine ev_seg (σ1 := (d, 157, 11, [some (.inr (.inr 86)), some (.inl x1), some (.inl x2), some (.inl x3)], [.inl x3, .inr (.inr 123), .inl (U 123 x2.toNat)], (am_sh, am_mm U))) 3 (fun _ => rfl) ?_
  refine eu_iald 123 (n := 352) rfl (by decide) rfl (fun _ => rfl) ha.1 ?_
  show Ev (am_kz N X) (d, 157, 12, [some (.inr (.inr 86)), some (.inl x1), some (.inl x2), some (.inl x3)], [.inl (U 123 x3.toNat), .inl (U 123 x2.toNat)], (am_sh, am_mm U)) R
  have haa := ha.2
  refine ev_seg (σ1 := (d, 157, 14, [some (.inr (.inr 86)), some (.inl x1), some (.inl x2), some (.inl x3)], [.inl x1, .inl (w32 ((U 123 x2.toNat) - (U 123 x3.toNat)))], (am_sh, am_mm U))) 2 (fun _ => rfl) ?_
  refine ev_irem rfl haa.1 ?_
  show Ev (am_kz N X) (d, 157, 15, [some (.inr (.inr 86)), some (.inl x1), some (.inl x2), some (.inl x3)], [.inl (Int.tmod (w32 ((U 123 x2.toNat) - (U 123 x3.toNat))) x1)], (am_sh, am_mm U)) R
  have haaa := haa.2
  refine ev_br (P := ¬ (Int.tmod (w32 ((U 123 x2.toNat) - (U 123 x3.toNat))) x1) = 0) (σ1 := (d, 157, 22, [some (.inr (.inr 86)), some (.inl x1), some (.inl x2), some (.inl x3)], [], (am_sh, am_mm U))) (σ2 := (d, 157, 18, [some (.inr (.inr 86)), some (.inl x1), some (.inl x2), some (.inl x3)], [], (am_sh, am_mm U))) 1 (fun _ => rfl) (fun hc => ?_) (fun hc => ?_)
  · have haaa1 := haaa.1 hc
    subst haaa1
    exact ev_end 2 (fun _ => rfl)
  · have haaa2 := haaa.2 (Decidable.not_not.mp hc)
    subst haaa2
    exact ev_end 3 (fun _ => rfl)
set_option maxRecDepth 8000 in
theorem D_addDwellers_r0 {N : Nat} {X : Nat → Int} {d : Nat} {x1 : Int} {U : am_U} {R : Option am_V × am_M} (h : EvK N X (D_addDwellers_s2 (d + 1) x1 0 U) R) : EvK N X (D_addDwellers_s0 (d + 1) x1 U) R := by
  show Ev (am_kz N X) ((d + 1), 158, 0, [some (.inr (.inr 1)), some (.inl x1), none], [], (am_sh, am_mm U)) R
  refine ev_seg (σ1 := ((d + 1), 158, 2, [some (.inr (.inr 1)), some (.inl x1), some (.inl 0)], [], (am_sh, am_mm U))) 2 (fun _ => rfl) ?_
  exact h
set_option maxRecDepth 8000 in
theorem D_addDwellers_r2 {N : Nat} {X : Nat → Int} {d : Nat} {x1 x2 : Int} {U : am_U} {R : Option am_V × am_M} (h : (((U 16 0) ≤ x2) → R = rV U) ∧ ((x2 < (U 16 0)) → (0 ≤ x2 ∧ x2 < 16) ∧ (((U 18 x2.toNat) ≠ x1) → EvK N X (D_addDwellers_s2 (d + 1) x1 (w32 (x2 + 1)) U) R) ∧ (((U 18 x2.toNat) = x1) → ∃ U1 : am_U, EvK N X (Dg_add_s0 d (if 0 ≤ (U 17 x2.toNat) then (U 17 x2.toNat) else w32 (-(U 17 x2.toNat))) U) (rV U1) ∧ EvK N X (D_addDwellers_s2 (d + 1) x1 (w32 (x2 + 1)) U1) R))) : EvK N X (D_addDwellers_s2 (d + 1) x1 x2 U) R := by
  show Ev (am_kz N X) ((d + 1), 158, 2, [some (.inr (.inr 1)), some (.inl x1), some (.inl x2)], [], (am_sh, am_mm U)) R
  refine ev_br (P := (U 16 0) ≤ x2) (σ1 := ((d + 1), 158, 51, [some (.inr (.inr 1)), some (.inl x1), some (.inl x2)], [], (am_sh, am_mm U))) (σ2 := ((d + 1), 158, 13, [some (.inr (.inr 1)), some (.inl x1), some (.inl x2)], [], (am_sh, am_mm U))) 5 (fun _ => rfl) (fun hc => ?_) (fun hc => ?_)
  · have h1 := h.1 hc
    subst h1
    exact ev_end 1 (fun _ => rfl)
  · have h2 := h.2 (Int.not_le.mp hc)
    refine ev_seg (σ1 := ((d + 1), 158, 21, [some (.inr (.inr 1)), some (.inl x1), some (.inl x2)], [.inl x2, .inr (.inr 18)], (am_sh, am_mm U))) 4 (fun _ => rfl) ?_
    refine eu_iald 18 (n := 16) rfl (by decide) rfl (fun _ => rfl) h2.1 ?_
    show Ev (am_kz N X) ((d + 1), 158, 22, [some (.inr (.inr 1)), some (.inl x1), some (.inl x2)], [.inl (U 18 x2.toNat)], (am_sh, am_mm U)) R
    have h2a := h2.2
    refine ev_br (P := ¬ (U 18 x2.toNat) = x1) (σ1 := ((d + 1), 158, 45, [some (.inr (.inr 1)), some (.inl x1), some (.inl x2)], [], (am_sh, am_mm U))) (σ2 := ((d + 1), 158, 26, [some (.inr (.inr 1)), some (.inl x1), some (.inl x2)], [], (am_sh, am_mm U))) 2 (fun _ => rfl) (fun hc => ?_) (fun hc => ?_)
    · have h2a1 := h2a.1 hc
      refine ev_seg (σ1 := ((d + 1), 158, 2, [some (.inr (.inr 1)), some (.inl x1), some (.inl (w32 (x2 + 1)))], [], (am_sh, am_mm U))) 2 (fun _ => rfl) ?_
      exact h2a1
    · have h2a2 := h2a.2 (Decidable.not_not.mp hc)
      refine ev_seg (σ1 := ((d + 1), 158, 38, [some (.inr (.inr 1)), some (.inl x1), some (.inl x2)], [.inl x2, .inr (.inr 17), .inr (.inr 82)], (am_sh, am_mm U))) 6 (fun _ => rfl) ?_
      refine eu_iald 17 (n := 16) rfl (by decide) rfl (fun _ => rfl) h2.1 ?_
      show Ev (am_kz N X) ((d + 1), 158, 39, [some (.inr (.inr 1)), some (.inl x1), some (.inl x2)], [.inl (U 17 x2.toNat), .inr (.inr 82)], (am_sh, am_mm U)) R
      refine ev_seg (σ1 := ((d + 1), 158, 42, [some (.inr (.inr 1)), some (.inl x1), some (.inl x2)], [.inl (if 0 ≤ (U 17 x2.toNat) then (U 17 x2.toNat) else w32 (-(U 17 x2.toNat))), .inr (.inr 82)], (am_sh, am_mm U))) 1 (fun _ => rfl) ?_
      obtain ⟨U1, h2a2c, h2a2a⟩ := h2a2
      refine ev_cal (σc := (Dg_add_s0 d (if 0 ≤ (U 17 x2.toNat) then (U 17 x2.toNat) else w32 (-(U 17 x2.toNat))) U)) (fun _ => rfl) h2a2c ?_
      show Ev (am_kz N X) ((d + 1), 158, 45, [some (.inr (.inr 1)), some (.inl x1), some (.inl x2)], [], (am_sh, am_mm U1)) R
      refine ev_seg (σ1 := ((d + 1), 158, 2, [some (.inr (.inr 1)), some (.inl x1), some (.inl (w32 (x2 + 1)))], [], (am_sh, am_mm U1))) 2 (fun _ => rfl) ?_
      exact h2a2a
set_option maxRecDepth 8000 in
theorem M_isStreet_r0 {N : Nat} {X : Nat → Int} {d : Nat} {x1 : Int} {U : am_U} {R : Option am_V × am_M} (h : ((x1 < 0) → R = rI 0 U) ∧ ((0 ≤ x1) → (0 ≤ (U 86 13) ∧ (U 86 13) < 2) ∧ (((U 88 ((U 86 13).toNat)) ≤ x1) → R = rI 0 U) ∧ ((x1 < (U 88 ((U 86 13).toNat))) → R = rI 1 U))) : EvK N X (M_isStreet_s0 d x1 U) R := by
  show Ev (am_kz N X) (d, 159, 0, [some (.inr (.inr 86)), some (.inl x1)], [], (am_sh, am_mm U)) R
  refine ev_br (P := x1 < 0) (σ1 := (d, 159, 21, [some (.inr (.inr 86)), some (.inl x1)], [], (am_sh, am_mm U))) (σ2 := (d, 159, 4, [some (.inr (.inr 86)), some (.inl x1)], [], (am_sh, am_mm U))) 2 (fun _ => rfl) (fun hc => ?_) (fun hc => ?_)
  · have h1 := h.1 hc
    subst h1
    exact ev_end 2 (fun _ => rfl)
  · have h2 := h.2 (Int.not_lt.mp hc)
    refine ev_seg (σ1 := (d, 159, 13, [some (.inr (.inr 86)), some (.inl x1)], [.inl (U 86 13), .inr (.inr 88), .inl x1], (am_sh, am_mm U))) 5 (fun _ => rfl) ?_
    refine eu_iald 88 (n := 2) rfl (by decide) rfl (fun _ => rfl) h2.1 ?_
    show Ev (am_kz N X) (d, 159, 14, [some (.inr (.inr 86)), some (.inl x1)], [.inl (U 88 ((U 86 13).toNat)), .inl x1], (am_sh, am_mm U)) R
    have h2a := h2.2
    refine ev_br (P := (U 88 ((U 86 13).toNat)) ≤ x1) (σ1 := (d, 159, 21, [some (.inr (.inr 86)), some (.inl x1)], [], (am_sh, am_mm U))) (σ2 := (d, 159, 17, [some (.inr (.inr 86)), some (.inl x1)], [], (am_sh, am_mm U))) 1 (fun _ => rfl) (fun hc => ?_) (fun hc => ?_)
    · have h2a1 := h2a.1 hc
      subst h2a1
      exact ev_end 2 (fun _ => rfl)
    · have h2a2 := h2a.2 (Int.not_le.mp hc)
      subst h2a2
      exact ev_end 3 (fun _ => rfl)
set_option maxRecDepth 8000 in
theorem M_adds_r0 {N : Nat} {X : Nat → Int} {d : Nat} {x1 : Int} {U : am_U} {R : Option am_V × am_M} (h : EvK N X (M_adds_s14 d x1 (U 86 76) x1 0 0 U) R) : EvK N X (M_adds_s0 d x1 U) R := by
  show Ev (am_kz N X) (d, 160, 0, [some (.inr (.inr 86)), some (.inr (.inl x1)), none, none, none, none, none, none, none], [], (am_sh, am_mm U)) R
  refine ev_seg (σ1 := (d, 160, 14, [some (.inr (.inr 86)), some (.inr (.inl x1)), none, some (.inr (.inl (U 86 76))), none, some (.inr (.inl x1)), none, some (.inl 0), some (.inl 0)], [], (am_sh, am_mm U))) 9 (fun _ => rfl) ?_
  exact h
set_option maxRecDepth 8000 in
theorem M_adds_r14 {N : Nat} {X : Nat → Int} {d : Nat} {x1 x3 x5 x7 x8 : Int} {U : am_U} {R : Option am_V × am_M} (h : ((0 < x3) → (((w32 ((w32 (w64 ((Int.tmod x3 10) + (Int.tmod x5 10)))) + x7)) ≤ 9) → ((0 ≤ (U 86 78)) → EvK N X (M_adds_s14 d x1 (w64 (Int.tdiv x3 10)) (w64 (Int.tdiv x5 10)) 0 0 (am_upd (am_upd U 86 77 (w32 ((U 86 77) + 0))) 86 78 (U 86 78))) R) ∧ (((U 86 78) < 0) → EvK N X (M_adds_s14 d x1 (w64 (Int.tdiv x3 10)) (w64 (Int.tdiv x5 10)) 0 0 (am_upd (am_upd U 86 77 (w32 ((U 86 77) + 0))) 86 78 0)) R)) ∧ ((9 < (w32 ((w32 (w64 ((Int.tmod x3 10) + (Int.tmod x5 10)))) + x7))) → (((w32 (x8 + 1)) ≤ (U 86 78)) → EvK N X (M_adds_s14 d x1 (w64 (Int.tdiv x3 10)) (w64 (Int.tdiv x5 10)) 1 (w32 (x8 + 1)) (am_upd (am_upd U 86 77 (w32 ((U 86 77) + 1))) 86 78 (U 86 78))) R) ∧ (((U 86 78) < (w32 (x8 + 1))) → EvK N X (M_adds_s14 d x1 (w64 (Int.tdiv x3 10)) (w64 (Int.tdiv x5 10)) 1 (w32 (x8 + 1)) (am_upd (am_upd U 86 77 (w32 ((U 86 77) + 1))) 86 78 (w32 (x8 + 1)))) R))) ∧ ((x3 ≤ 0) → ((x5 ≤ 0) → R = rV (am_upd U 86 76 (w64 ((U 86 76) + x1)))) ∧ ((0 < x5) → (((w32 ((w32 (w64 ((Int.tmod x3 10) + (Int.tmod x5 10)))) + x7)) ≤ 9) → ((0 ≤ (U 86 78)) → EvK N X (M_adds_s14 d x1 (w64 (Int.tdiv x3 10)) (w64 (Int.tdiv x5 10)) 0 0 (am_upd (am_upd U 86 77 (w32 ((U 86 77) + 0))) 86 78 (U 86 78))) R) ∧ (((U 86 78) < 0) → EvK N X (M_adds_s14 d x1 (w64 (Int.tdiv x3 10)) (w64 (Int.tdiv x5 10)) 0 0 (am_upd (am_upd U 86 77 (w32 ((U 86 77) + 0))) 86 78 0)) R)) ∧ ((9 < (w32 ((w32 (w64 ((Int.tmod x3 10) + (Int.tmod x5 10)))) + x7))) → (((w32 (x8 + 1)) ≤ (U 86 78)) → EvK N X (M_adds_s14 d x1 (w64 (Int.tdiv x3 10)) (w64 (Int.tdiv x5 10)) 1 (w32 (x8 + 1)) (am_upd (am_upd U 86 77 (w32 ((U 86 77) + 1))) 86 78 (U 86 78))) R) ∧ (((U 86 78) < (w32 (x8 + 1))) → EvK N X (M_adds_s14 d x1 (w64 (Int.tdiv x3 10)) (w64 (Int.tdiv x5 10)) 1 (w32 (x8 + 1)) (am_upd (am_upd U 86 77 (w32 ((U 86 77) + 1))) 86 78 (w32 (x8 + 1)))) R))))) : EvK N X (M_adds_s14 d x1 x3 x5 x7 x8 U) R := by
  show Ev (am_kz N X) (d, 160, 14, [some (.inr (.inr 86)), some (.inr (.inl x1)), none, some (.inr (.inl x3)), none, some (.inr (.inl x5)), none, some (.inl x7), some (.inl x8)], [], (am_sh, am_mm U)) R
  refine ev_br (P := 0 < (am_lcmp x3 0)) (σ1 := (d, 160, 27, [some (.inr (.inr 86)), some (.inr (.inl x1)), none, some (.inr (.inl x3)), none, some (.inr (.inl x5)), none, some (.inl x7), some (.inl x8)], [], (am_sh, am_mm U))) (σ2 := (d, 160, 20, [some (.inr (.inr 86)), some (.inr (.inl x1)), none, some (.inr (.inl x3)), none, some (.inr (.inl x5)), none, some (.inl x7), some (.inl x8)], [], (am_sh, am_mm U))) 4 (fun _ => rfl) (fun hc => ?_) (fun hc => ?_)
  · have h1 := h.1 ((am_lc_gt x3 0).mp hc)
    refine ev_seg (σ1 := (d, 160, 31, [some (.inr (.inr 86)), some (.inr (.inl x1)), none, some (.inr (.inl x3)), none, some (.inr (.inl x5)), none, some (.inl x7), some (.inl x8)], [.inr (.inl 10), .inr (.inl x3)], (am_sh, am_mm U))) 2 (fun _ => rfl) ?_
    refine ev_lrem rfl (by decide) ?_
    show Ev (am_kz N X) (d, 160, 32, [some (.inr (.inr 86)), some (.inr (.inl x1)), none, some (.inr (.inl x3)), none, some (.inr (.inl x5)), none, some (.inl x7), some (.inl x8)], [.inr (.inl (Int.tmod x3 10))], (am_sh, am_mm U)) R
    refine ev_seg (σ1 := (d, 160, 37, [some (.inr (.inr 86)), some (.inr (.inl x1)), none, some (.inr (.inl x3)), none, some (.inr (.inl x5)), none, some (.inl x7), some (.inl x8)], [.inr (.inl 10), .inr (.inl x5), .inr (.inl (Int.tmod x3 10))], (am_sh, am_mm U))) 2 (fun _ => rfl) ?_
    refine ev_lrem rfl (by decide) ?_
    show Ev (am_kz N X) (d, 160, 38, [some (.inr (.inr 86)), some (.inr (.inl x1)), none, some (.inr (.inl x3)), none, some (.inr (.inl x5)), none, some (.inl x7), some (.inl x8)], [.inr (.inl (Int.tmod x5 10)), .inr (.inl (Int.tmod x3 10))], (am_sh, am_mm U)) R
    refine ev_br (P := (w32 ((w32 (w64 ((Int.tmod x3 10) + (Int.tmod x5 10)))) + x7)) ≤ 9) (σ1 := (d, 160, 52, [some (.inr (.inr 86)), some (.inr (.inl x1)), none, some (.inr (.inl x3)), none, some (.inr (.inl x5)), none, some (.inl x7), some (.inl x8)], [], (am_sh, am_mm U))) (σ2 := (d, 160, 48, [some (.inr (.inr 86)), some (.inr (.inl x1)), none, some (.inr (.inl x3)), none, some (.inr (.inl x5)), none, some (.inl x7), some (.inl x8)], [], (am_sh, am_mm U))) 6 (fun _ => rfl) (fun hc => ?_) (fun hc => ?_)
    · have h11 := h1.1 hc
      refine ev_seg (σ1 := (d, 160, 63, [some (.inr (.inr 86)), some (.inr (.inl x1)), none, some (.inr (.inl x3)), none, some (.inr (.inl x5)), none, some (.inl 0), some (.inl x8)], [.inl (w32 ((U 86 77) + 0)), .inr (.inr 86)], (am_sh, am_mm U))) 7 (fun _ => rfl) ?_
      refine eu_puti 86 (n := 90) rfl (by decide) rfl rfl ?_
      show Ev (am_kz N X) (d, 160, 66, [some (.inr (.inr 86)), some (.inr (.inl x1)), none, some (.inr (.inl x3)), none, some (.inr (.inl x5)), none, some (.inl 0), some (.inl x8)], [], (am_sh, am_mm (am_upd U 86 77 (w32 ((U 86 77) + 0))))) R
      refine ev_br (P := 0 ≤ (U 86 78)) (σ1 := (d, 160, 97, [some (.inr (.inr 86)), some (.inr (.inl x1)), none, some (.inr (.inl x3)), none, some (.inr (.inl x5)), none, some (.inl 0), some (.inl 0)], [.inr (.inr 86)], (am_sh, am_mm (am_upd U 86 77 (w32 ((U 86 77) + 0)))))) (σ2 := (d, 160, 92, [some (.inr (.inr 86)), some (.inr (.inl x1)), none, some (.inr (.inl x3)), none, some (.inr (.inl x5)), none, some (.inl 0), some (.inl 0)], [.inr (.inr 86)], (am_sh, am_mm (am_upd U 86 77 (w32 ((U 86 77) + 0)))))) 10 (fun _ => rfl) (fun hc => ?_) (fun hc => ?_)
      · have h111 := h11.1 hc
        refine ev_seg (σ1 := (d, 160, 101, [some (.inr (.inr 86)), some (.inr (.inl x1)), none, some (.inr (.inl x3)), none, some (.inr (.inl x5)), none, some (.inl 0), some (.inl 0)], [.inl (U 86 78), .inr (.inr 86)], (am_sh, am_mm (am_upd U 86 77 (w32 ((U 86 77) + 0)))))) 2 (fun _ => rfl) ?_
        refine eu_puti 86 (n := 90) rfl (by decide) rfl rfl ?_
        show Ev (am_kz N X) (d, 160, 104, [some (.inr (.inr 86)), some (.inr (.inl x1)), none, some (.inr (.inl x3)), none, some (.inr (.inl x5)), none, some (.inl 0), some (.inl 0)], [], (am_sh, am_mm (am_upd (am_upd U 86 77 (w32 ((U 86 77) + 0))) 86 78 (U 86 78)))) R
        refine ev_seg (σ1 := (d, 160, 108, [some (.inr (.inr 86)), some (.inr (.inl x1)), none, some (.inr (.inl x3)), none, some (.inr (.inl x5)), none, some (.inl 0), some (.inl 0)], [.inr (.inl 10), .inr (.inl x3)], (am_sh, am_mm (am_upd (am_upd U 86 77 (w32 ((U 86 77) + 0))) 86 78 (U 86 78))))) 2 (fun _ => rfl) ?_
        refine ev_ldiv rfl (by decide) ?_
        show Ev (am_kz N X) (d, 160, 109, [some (.inr (.inr 86)), some (.inr (.inl x1)), none, some (.inr (.inl x3)), none, some (.inr (.inl x5)), none, some (.inl 0), some (.inl 0)], [.inr (.inl (w64 (Int.tdiv x3 10)))], (am_sh, am_mm (am_upd (am_upd U 86 77 (w32 ((U 86 77) + 0))) 86 78 (U 86 78)))) R
        refine ev_seg (σ1 := (d, 160, 115, [some (.inr (.inr 86)), some (.inr (.inl x1)), none, some (.inr (.inl (w64 (Int.tdiv x3 10)))), none, some (.inr (.inl x5)), none, some (.inl 0), some (.inl 0)], [.inr (.inl 10), .inr (.inl x5)], (am_sh, am_mm (am_upd (am_upd U 86 77 (w32 ((U 86 77) + 0))) 86 78 (U 86 78))))) 3 (fun _ => rfl) ?_
        refine ev_ldiv rfl (by decide) ?_
        show Ev (am_kz N X) (d, 160, 116, [some (.inr (.inr 86)), some (.inr (.inl x1)), none, some (.inr (.inl (w64 (Int.tdiv x3 10)))), none, some (.inr (.inl x5)), none, some (.inl 0), some (.inl 0)], [.inr (.inl (w64 (Int.tdiv x5 10)))], (am_sh, am_mm (am_upd (am_upd U 86 77 (w32 ((U 86 77) + 0))) 86 78 (U 86 78)))) R
        refine ev_seg (σ1 := (d, 160, 14, [some (.inr (.inr 86)), some (.inr (.inl x1)), none, some (.inr (.inl (w64 (Int.tdiv x3 10)))), none, some (.inr (.inl (w64 (Int.tdiv x5 10)))), none, some (.inl 0), some (.inl 0)], [], (am_sh, am_mm (am_upd (am_upd U 86 77 (w32 ((U 86 77) + 0))) 86 78 (U 86 78))))) 2 (fun _ => rfl) ?_
        exact h111
      · have h112 := h11.2 (Int.not_le.mp hc)
        refine ev_seg (σ1 := (d, 160, 101, [some (.inr (.inr 86)), some (.inr (.inl x1)), none, some (.inr (.inl x3)), none, some (.inr (.inl x5)), none, some (.inl 0), some (.inl 0)], [.inl 0, .inr (.inr 86)], (am_sh, am_mm (am_upd U 86 77 (w32 ((U 86 77) + 0)))))) 2 (fun _ => rfl) ?_
        refine eu_puti 86 (n := 90) rfl (by decide) rfl rfl ?_
        show Ev (am_kz N X) (d, 160, 104, [some (.inr (.inr 86)), some (.inr (.inl x1)), none, some (.inr (.inl x3)), none, some (.inr (.inl x5)), none, some (.inl 0), some (.inl 0)], [], (am_sh, am_mm (am_upd (am_upd U 86 77 (w32 ((U 86 77) + 0))) 86 78 0))) R
        refine ev_seg (σ1 := (d, 160, 108, [some (.inr (.inr 86)), some (.inr (.inl x1)), none, some (.inr (.inl x3)), none, some (.inr (.inl x5)), none, some (.inl 0), some (.inl 0)], [.inr (.inl 10), .inr (.inl x3)], (am_sh, am_mm (am_upd (am_upd U 86 77 (w32 ((U 86 77) + 0))) 86 78 0)))) 2 (fun _ => rfl) ?_
        refine ev_ldiv rfl (by decide) ?_
        show Ev (am_kz N X) (d, 160, 109, [some (.inr (.inr 86)), some (.inr (.inl x1)), none, some (.inr (.inl x3)), none, some (.inr (.inl x5)), none, some (.inl 0), some (.inl 0)], [.inr (.inl (w64 (Int.tdiv x3 10)))], (am_sh, am_mm (am_upd (am_upd U 86 77 (w32 ((U 86 77) + 0))) 86 78 0))) R
        refine ev_seg (σ1 := (d, 160, 115, [some (.inr (.inr 86)), some (.inr (.inl x1)), none, some (.inr (.inl (w64 (Int.tdiv x3 10)))), none, some (.inr (.inl x5)), none, some (.inl 0), some (.inl 0)], [.inr (.inl 10), .inr (.inl x5)], (am_sh, am_mm (am_upd (am_upd U 86 77 (w32 ((U 86 77) + 0))) 86 78 0)))) 3 (fun _ => rfl) ?_
        refine ev_ldiv rfl (by decide) ?_
        show Ev (am_kz N X) (d, 160, 116, [some (.inr (.inr 86)), some (.inr (.inl x1)), none, some (.inr (.inl (w64 (Int.tdiv x3 10)))), none, some (.inr (.inl x5)), none, some (.inl 0), some (.inl 0)], [.inr (.inl (w64 (Int.tdiv x5 10)))], (am_sh, am_mm (am_upd (am_upd U 86 77 (w32 ((U 86 77) + 0))) 86 78 0))) R
        refine ev_seg (σ1 := (d, 160, 14, [some (.inr (.inr 86)), some (.inr (.inl x1)), none, some (.inr (.inl (w64 (Int.tdiv x3 10)))), none, some (.inr (.inl (w64 (Int.tdiv x5 10)))), none, some (.inl 0), some (.inl 0)], [], (am_sh, am_mm (am_upd (am_upd U 86 77 (w32 ((U 86 77) + 0))) 86 78 0)))) 2 (fun _ => rfl) ?_
        exact h112
    · have h12 := h1.2 (Int.not_le.mp hc)
      refine ev_seg (σ1 := (d, 160, 63, [some (.inr (.inr 86)), some (.inr (.inl x1)), none, some (.inr (.inl x3)), none, some (.inr (.inl x5)), none, some (.inl 1), some (.inl x8)], [.inl (w32 ((U 86 77) + 1)), .inr (.inr 86)], (am_sh, am_mm U))) 8 (fun _ => rfl) ?_
      refine eu_puti 86 (n := 90) rfl (by decide) rfl rfl ?_
      show Ev (am_kz N X) (d, 160, 66, [some (.inr (.inr 86)), some (.inr (.inl x1)), none, some (.inr (.inl x3)), none, some (.inr (.inl x5)), none, some (.inl 1), some (.inl x8)], [], (am_sh, am_mm (am_upd U 86 77 (w32 ((U 86 77) + 1))))) R
      refine ev_br (P := (w32 (x8 + 1)) ≤ (U 86 78)) (σ1 := (d, 160, 97, [some (.inr (.inr 86)), some (.inr (.inl x1)), none, some (.inr (.inl x3)), none, some (.inr (.inl x5)), none, some (.inl 1), some (.inl (w32 (x8 + 1)))], [.inr (.inr 86)], (am_sh, am_mm (am_upd U 86 77 (w32 ((U 86 77) + 1)))))) (σ2 := (d, 160, 92, [some (.inr (.inr 86)), some (.inr (.inl x1)), none, some (.inr (.inl x3)), none, some (.inr (.inl x5)), none, some (.inl 1), some (.inl (w32 (x8 + 1)))], [.inr (.inr 86)], (am_sh, am_mm (am_upd U 86 77 (w32 ((U 86 77) + 1)))))) 13 (fun _ => rfl) (fun hc => ?_) (fun hc => ?_)
      · have h121 := h12.1 hc
        refine ev_seg (σ1 := (d, 160, 101, [some (.inr (.inr 86)), some (.inr (.inl x1)), none, some (.inr (.inl x3)), none, some (.inr (.inl x5)), none, some (.inl 1), some (.inl (w32 (x8 + 1)))], [.inl (U 86 78), .inr (.inr 86)], (am_sh, am_mm (am_upd U 86 77 (w32 ((U 86 77) + 1)))))) 2 (fun _ => rfl) ?_
        refine eu_puti 86 (n := 90) rfl (by decide) rfl rfl ?_
        show Ev (am_kz N X) (d, 160, 104, [some (.inr (.inr 86)), some (.inr (.inl x1)), none, some (.inr (.inl x3)), none, some (.inr (.inl x5)), none, some (.inl 1), some (.inl (w32 (x8 + 1)))], [], (am_sh, am_mm (am_upd (am_upd U 86 77 (w32 ((U 86 77) + 1))) 86 78 (U 86 78)))) R
        refine ev_seg (σ1 := (d, 160, 108, [some (.inr (.inr 86)), some (.inr (.inl x1)), none, some (.inr (.inl x3)), none, some (.inr (.inl x5)), none, some (.inl 1), some (.inl (w32 (x8 + 1)))], [.inr (.inl 10), .inr (.inl x3)], (am_sh, am_mm (am_upd (am_upd U 86 77 (w32 ((U 86 77) + 1))) 86 78 (U 86 78))))) 2 (fun _ => rfl) ?_
        refine ev_ldiv rfl (by decide) ?_
        show Ev (am_kz N X) (d, 160, 109, [some (.inr (.inr 86)), some (.inr (.inl x1)), none, some (.inr (.inl x3)), none, some (.inr (.inl x5)), none, some (.inl 1), some (.inl (w32 (x8 + 1)))], [.inr (.inl (w64 (Int.tdiv x3 10)))], (am_sh, am_mm (am_upd (am_upd U 86 77 (w32 ((U 86 77) + 1))) 86 78 (U 86 78)))) R
        refine ev_seg (σ1 := (d, 160, 115, [some (.inr (.inr 86)), some (.inr (.inl x1)), none, some (.inr (.inl (w64 (Int.tdiv x3 10)))), none, some (.inr (.inl x5)), none, some (.inl 1), some (.inl (w32 (x8 + 1)))], [.inr (.inl 10), .inr (.inl x5)], (am_sh, am_mm (am_upd (am_upd U 86 77 (w32 ((U 86 77) + 1))) 86 78 (U 86 78))))) 3 (fun _ => rfl) ?_
        refine ev_ldiv rfl (by decide) ?_
        show Ev (am_kz N X) (d, 160, 116, [some (.inr (.inr 86)), some (.inr (.inl x1)), none, some (.inr (.inl (w64 (Int.tdiv x3 10)))), none, some (.inr (.inl x5)), none, some (.inl 1), some (.inl (w32 (x8 + 1)))], [.inr (.inl (w64 (Int.tdiv x5 10)))], (am_sh, am_mm (am_upd (am_upd U 86 77 (w32 ((U 86 77) + 1))) 86 78 (U 86 78)))) R
        refine ev_seg (σ1 := (d, 160, 14, [some (.inr (.inr 86)), some (.inr (.inl x1)), none, some (.inr (.inl (w64 (Int.tdiv x3 10)))), none, some (.inr (.inl (w64 (Int.tdiv x5 10)))), none, some (.inl 1), some (.inl (w32 (x8 + 1)))], [], (am_sh, am_mm (am_upd (am_upd U 86 77 (w32 ((U 86 77) + 1))) 86 78 (U 86 78))))) 2 (fun _ => rfl) ?_
        exact h121
      · have h122 := h12.2 (Int.not_le.mp hc)
        refine ev_seg (σ1 := (d, 160, 101, [some (.inr (.inr 86)), some (.inr (.inl x1)), none, some (.inr (.inl x3)), none, some (.inr (.inl x5)), none, some (.inl 1), some (.inl (w32 (x8 + 1)))], [.inl (w32 (x8 + 1)), .inr (.inr 86)], (am_sh, am_mm (am_upd U 86 77 (w32 ((U 86 77) + 1)))))) 2 (fun _ => rfl) ?_
        refine eu_puti 86 (n := 90) rfl (by decide) rfl rfl ?_
        show Ev (am_kz N X) (d, 160, 104, [some (.inr (.inr 86)), some (.inr (.inl x1)), none, some (.inr (.inl x3)), none, some (.inr (.inl x5)), none, some (.inl 1), some (.inl (w32 (x8 + 1)))], [], (am_sh, am_mm (am_upd (am_upd U 86 77 (w32 ((U 86 77) + 1))) 86 78 (w32 (x8 + 1))))) R
        refine ev_seg (σ1 := (d, 160, 108, [some (.inr (.inr 86)), some (.inr (.inl x1)), none, some (.inr (.inl x3)), none, some (.inr (.inl x5)), none, some (.inl 1), some (.inl (w32 (x8 + 1)))], [.inr (.inl 10), .inr (.inl x3)], (am_sh, am_mm (am_upd (am_upd U 86 77 (w32 ((U 86 77) + 1))) 86 78 (w32 (x8 + 1)))))) 2 (fun _ => rfl) ?_
        refine ev_ldiv rfl (by decide) ?_
        show Ev (am_kz N X) (d, 160, 109, [some (.inr (.inr 86)), some (.inr (.inl x1)), none, some (.inr (.inl x3)), none, some (.inr (.inl x5)), none, some (.inl 1), some (.inl (w32 (x8 + 1)))], [.inr (.inl (w64 (Int.tdiv x3 10)))], (am_sh, am_mm (am_upd (am_upd U 86 77 (w32 ((U 86 77) + 1))) 86 78 (w32 (x8 + 1))))) R
        refine ev_seg (σ1 := (d, 160, 115, [some (.inr (.inr 86)), some (.inr (.inl x1)), none, some (.inr (.inl (w64 (Int.tdiv x3 10)))), none, some (.inr (.inl x5)), none, some (.inl 1), some (.inl (w32 (x8 + 1)))], [.inr (.inl 10), .inr (.inl x5)], (am_sh, am_mm (am_upd (am_upd U 86 77 (w32 ((U 86 77) + 1))) 86 78 (w32 (x8 + 1)))))) 3 (fun _ => rfl) ?_
        refine ev_ldiv rfl (by decide) ?_
        show Ev (am_kz N X) (d, 160, 116, [some (.inr (.inr 86)), some (.inr (.inl x1)), none, some (.inr (.inl (w64 (Int.tdiv x3 10)))), none, some (.inr (.inl x5)), none, some (.inl 1), some (.inl (w32 (x8 + 1)))], [.inr (.inl (w64 (Int.tdiv x5 10)))], (am_sh, am_mm (am_upd (am_upd U 86 77 (w32 ((U 86 77) + 1))) 86 78 (w32 (x8 + 1))))) R
        refine ev_seg (σ1 := (d, 160, 14, [some (.inr (.inr 86)), some (.inr (.inl x1)), none, some (.inr (.inl (w64 (Int.tdiv x3 10)))), none, some (.inr (.inl (w64 (Int.tdiv x5 10)))), none, some (.inl 1), some (.inl (w32 (x8 + 1)))], [], (am_sh, am_mm (am_upd (am_upd U 86 77 (w32 ((U 86 77) + 1))) 86 78 (w32 (x8 + 1)))))) 2 (fun _ => rfl) ?_
        exact h122
  · have h2 := h.2 ((am_lcn_gt x3 0).mp hc)
    refine ev_br (P := (am_lcmp x5 0) ≤ 0) (σ1 := (d, 160, 121, [some (.inr (.inr 86)), some (.inr (.inl x1)), none, some (.inr (.inl x3)), none, some (.inr (.inl x5)), none, some (.inl x7), some (.inl x8)], [], (am_sh, am_mm U))) (σ2 := (d, 160, 27, [some (.inr (.inr 86)), some (.inr (.inl x1)), none, some (.inr (.inl x3)), none, some (.inr (.inl x5)), none, some (.inl x7), some (.inl x8)], [], (am_sh, am_mm U))) 4 (fun _ => rfl) (fun hc => ?_) (fun hc => ?_)
    · have h21 := h2.1 ((am_lc_le x5 0).mp hc)
      refine ev_seg (σ1 := (d, 160, 128, [some (.inr (.inr 86)), some (.inr (.inl x1)), none, some (.inr (.inl x3)), none, some (.inr (.inl x5)), none, some (.inl x7), some (.inl x8)], [.inr (.inl (w64 ((U 86 76) + x1))), .inr (.inr 86)], (am_sh, am_mm U))) 5 (fun _ => rfl) ?_
      refine eu_putj 86 (n := 90) rfl (by decide) rfl rfl ?_
      show Ev (am_kz N X) (d, 160, 131, [some (.inr (.inr 86)), some (.inr (.inl x1)), none, some (.inr (.inl x3)), none, some (.inr (.inl x5)), none, some (.inl x7), some (.inl x8)], [], (am_sh, am_mm (am_upd U 86 76 (w64 ((U 86 76) + x1))))) R
      subst h21
      exact ev_end 1 (fun _ => rfl)
    · have h22 := h2.2 ((am_lcn_le x5 0).mp hc)
      refine ev_seg (σ1 := (d, 160, 31, [some (.inr (.inr 86)), some (.inr (.inl x1)), none, some (.inr (.inl x3)), none, some (.inr (.inl x5)), none, some (.inl x7), some (.inl x8)], [.inr (.inl 10), .inr (.inl x3)], (am_sh, am_mm U))) 2 (fun _ => rfl) ?_
      refine ev_lrem rfl (by decide) ?_
      show Ev (am_kz N X) (d, 160, 32, [some (.inr (.inr 86)), some (.inr (.inl x1)), none, some (.inr (.inl x3)), none, some (.inr (.inl x5)), none, some (.inl x7), some (.inl x8)], [.inr (.inl (Int.tmod x3 10))], (am_sh, am_mm U)) R
      refine ev_seg (σ1 := (d, 160, 37, [some (.inr (.inr 86)), some (.inr (.inl x1)), none, some (.inr (.inl x3)), none, some (.inr (.inl x5)), none, some (.inl x7), some (.inl x8)], [.inr (.inl 10), .inr (.inl x5), .inr (.inl (Int.tmod x3 10))], (am_sh, am_mm U))) 2 (fun _ => rfl) ?_
      refine ev_lrem rfl (by decide) ?_
      show Ev (am_kz N X) (d, 160, 38, [some (.inr (.inr 86)), some (.inr (.inl x1)), none, some (.inr (.inl x3)), none, some (.inr (.inl x5)), none, some (.inl x7), some (.inl x8)], [.inr (.inl (Int.tmod x5 10)), .inr (.inl (Int.tmod x3 10))], (am_sh, am_mm U)) R
      refine ev_br (P := (w32 ((w32 (w64 ((Int.tmod x3 10) + (Int.tmod x5 10)))) + x7)) ≤ 9) (σ1 := (d, 160, 52, [some (.inr (.inr 86)), some (.inr (.inl x1)), none, some (.inr (.inl x3)), none, some (.inr (.inl x5)), none, some (.inl x7), some (.inl x8)], [], (am_sh, am_mm U))) (σ2 := (d, 160, 48, [some (.inr (.inr 86)), some (.inr (.inl x1)), none, some (.inr (.inl x3)), none, some (.inr (.inl x5)), none, some (.inl x7), some (.inl x8)], [], (am_sh, am_mm U))) 6 (fun _ => rfl) (fun hc => ?_) (fun hc => ?_)
      · have h221 := h22.1 hc
        refine ev_seg (σ1 := (d, 160, 63, [some (.inr (.inr 86)), some (.inr (.inl x1)), none, some (.inr (.inl x3)), none, some (.inr (.inl x5)), none, some (.inl 0), some (.inl x8)], [.inl (w32 ((U 86 77) + 0)), .inr (.inr 86)], (am_sh, am_mm U))) 7 (fun _ => rfl) ?_
        refine eu_puti 86 (n := 90) rfl (by decide) rfl rfl ?_
        show Ev (am_kz N X) (d, 160, 66, [some (.inr (.inr 86)), some (.inr (.inl x1)), none, some (.inr (.inl x3)), none, some (.inr (.inl x5)), none, some (.inl 0), some (.inl x8)], [], (am_sh, am_mm (am_upd U 86 77 (w32 ((U 86 77) + 0))))) R
        refine ev_br (P := 0 ≤ (U 86 78)) (σ1 := (d, 160, 97, [some (.inr (.inr 86)), some (.inr (.inl x1)), none, some (.inr (.inl x3)), none, some (.inr (.inl x5)), none, some (.inl 0), some (.inl 0)], [.inr (.inr 86)], (am_sh, am_mm (am_upd U 86 77 (w32 ((U 86 77) + 0)))))) (σ2 := (d, 160, 92, [some (.inr (.inr 86)), some (.inr (.inl x1)), none, some (.inr (.inl x3)), none, some (.inr (.inl x5)), none, some (.inl 0), some (.inl 0)], [.inr (.inr 86)], (am_sh, am_mm (am_upd U 86 77 (w32 ((U 86 77) + 0)))))) 10 (fun _ => rfl) (fun hc => ?_) (fun hc => ?_)
        · have h2211 := h221.1 hc
          refine ev_seg (σ1 := (d, 160, 101, [some (.inr (.inr 86)), some (.inr (.inl x1)), none, some (.inr (.inl x3)), none, some (.inr (.inl x5)), none, some (.inl 0), some (.inl 0)], [.inl (U 86 78), .inr (.inr 86)], (am_sh, am_mm (am_upd U 86 77 (w32 ((U 86 77) + 0)))))) 2 (fun _ => rfl) ?_
          refine eu_puti 86 (n := 90) rfl (by decide) rfl rfl ?_
          show Ev (am_kz N X) (d, 160, 104, [some (.inr (.inr 86)), some (.inr (.inl x1)), none, some (.inr (.inl x3)), none, some (.inr (.inl x5)), none, some (.inl 0), some (.inl 0)], [], (am_sh, am_mm (am_upd (am_upd U 86 77 (w32 ((U 86 77) + 0))) 86 78 (U 86 78)))) R
          refine ev_seg (σ1 := (d, 160, 108, [some (.inr (.inr 86)), some (.inr (.inl x1)), none, some (.inr (.inl x3)), none, some (.inr (.inl x5)), none, some (.inl 0), some (.inl 0)], [.inr (.inl 10), .inr (.inl x3)], (am_sh, am_mm (am_upd (am_upd U 86 77 (w32 ((U 86 77) + 0))) 86 78 (U 86 78))))) 2 (fun _ => rfl) ?_
          refine ev_ldiv rfl (by decide) ?_
          show Ev (am_kz N X) (d, 160, 109, [some (.inr (.inr 86)), some (.inr (.inl x1)), none, some (.inr (.inl x3)), none, some (.inr (.inl x5)), none, some (.inl 0), some (.inl 0)], [.inr (.inl (w64 (Int.tdiv x3 10)))], (am_sh, am_mm (am_upd (am_upd U 86 77 (w32 ((U 86 77) + 0))) 86 78 (U 86 78)))) R
          refine ev_seg (σ1 := (d, 160, 115, [some (.inr (.inr 86)), some (.inr (.inl x1)), none, some (.inr (.inl (w64 (Int.tdiv x3 10)))), none, some (.inr (.inl x5)), none, some (.inl 0), some (.inl 0)], [.inr (.inl 10), .inr (.inl x5)], (am_sh, am_mm (am_upd (am_upd U 86 77 (w32 ((U 86 77) + 0))) 86 78 (U 86 78))))) 3 (fun _ => rfl) ?_
          refine ev_ldiv rfl (by decide) ?_
          show Ev (am_kz N X) (d, 160, 116, [some (.inr (.inr 86)), some (.inr (.inl x1)), none, some (.inr (.inl (w64 (Int.tdiv x3 10)))), none, some (.inr (.inl x5)), none, some (.inl 0), some (.inl 0)], [.inr (.inl (w64 (Int.tdiv x5 10)))], (am_sh, am_mm (am_upd (am_upd U 86 77 (w32 ((U 86 77) + 0))) 86 78 (U 86 78)))) R
          refine ev_seg (σ1 := (d, 160, 14, [some (.inr (.inr 86)), some (.inr (.inl x1)), none, some (.inr (.inl (w64 (Int.tdiv x3 10)))), none, some (.inr (.inl (w64 (Int.tdiv x5 10)))), none, some (.inl 0), some (.inl 0)], [], (am_sh, am_mm (am_upd (am_upd U 86 77 (w32 ((U 86 77) + 0))) 86 78 (U 86 78))))) 2 (fun _ => rfl) ?_
          exact h2211
        · have h2212 := h221.2 (Int.not_le.mp hc)
          refine ev_seg (σ1 := (d, 160, 101, [some (.inr (.inr 86)), some (.inr (.inl x1)), none, some (.inr (.inl x3)), none, some (.inr (.inl x5)), none, some (.inl 0), some (.inl 0)], [.inl 0, .inr (.inr 86)], (am_sh, am_mm (am_upd U 86 77 (w32 ((U 86 77) + 0)))))) 2 (fun _ => rfl) ?_
          refine eu_puti 86 (n := 90) rfl (by decide) rfl rfl ?_
          show Ev (am_kz N X) (d, 160, 104, [some (.inr (.inr 86)), some (.inr (.inl x1)), none, some (.inr (.inl x3)), none, some (.inr (.inl x5)), none, some (.inl 0), some (.inl 0)], [], (am_sh, am_mm (am_upd (am_upd U 86 77 (w32 ((U 86 77) + 0))) 86 78 0))) R
          refine ev_seg (σ1 := (d, 160, 108, [some (.inr (.inr 86)), some (.inr (.inl x1)), none, some (.inr (.inl x3)), none, some (.inr (.inl x5)), none, some (.inl 0), some (.inl 0)], [.inr (.inl 10), .inr (.inl x3)], (am_sh, am_mm (am_upd (am_upd U 86 77 (w32 ((U 86 77) + 0))) 86 78 0)))) 2 (fun _ => rfl) ?_
          refine ev_ldiv rfl (by decide) ?_
          show Ev (am_kz N X) (d, 160, 109, [some (.inr (.inr 86)), some (.inr (.inl x1)), none, some (.inr (.inl x3)), none, some (.inr (.inl x5)), none, some (.inl 0), some (.inl 0)], [.inr (.inl (w64 (Int.tdiv x3 10)))], (am_sh, am_mm (am_upd (am_upd U 86 77 (w32 ((U 86 77) + 0))) 86 78 0))) R
          refine ev_seg (σ1 := (d, 160, 115, [some (.inr (.inr 86)), some (.inr (.inl x1)), none, some (.inr (.inl (w64 (Int.tdiv x3 10)))), none, some (.inr (.inl x5)), none, some (.inl 0), some (.inl 0)], [.inr (.inl 10), .inr (.inl x5)], (am_sh, am_mm (am_upd (am_upd U 86 77 (w32 ((U 86 77) + 0))) 86 78 0)))) 3 (fun _ => rfl) ?_
          refine ev_ldiv rfl (by decide) ?_
          show Ev (am_kz N X) (d, 160, 116, [some (.inr (.inr 86)), some (.inr (.inl x1)), none, some (.inr (.inl (w64 (Int.tdiv x3 10)))), none, some (.inr (.inl x5)), none, some (.inl 0), some (.inl 0)], [.inr (.inl (w64 (Int.tdiv x5 10)))], (am_sh, am_mm (am_upd (am_upd U 86 77 (w32 ((U 86 77) + 0))) 86 78 0))) R
          refine ev_seg (σ1 := (d, 160, 14, [some (.inr (.inr 86)), some (.inr (.inl x1)), none, some (.inr (.inl (w64 (Int.tdiv x3 10)))), none, some (.inr (.inl (w64 (Int.tdiv x5 10)))), none, some (.inl 0), some (.inl 0)], [], (am_sh, am_mm (am_upd (am_upd U 86 77 (w32 ((U 86 77) + 0))) 86 78 0)))) 2 (fun _ => rfl) ?_
          exact h2212
      · have h222 := h22.2 (Int.not_le.mp hc)
        refine ev_seg (σ1 := (d, 160, 63, [some (.inr (.inr 86)), some (.inr (.inl x1)), none, some (.inr (.inl x3)), none, some (.inr (.inl x5)), none, some (.inl 1), some (.inl x8)], [.inl (w32 ((U 86 77) + 1)), .inr (.inr 86)], (am_sh, am_mm U))) 8 (fun _ => rfl) ?_
        refine eu_puti 86 (n := 90) rfl (by decide) rfl rfl ?_
        show Ev (am_kz N X) (d, 160, 66, [some (.inr (.inr 86)), some (.inr (.inl x1)), none, some (.inr (.inl x3)), none, some (.inr (.inl x5)), none, some (.inl 1), some (.inl x8)], [], (am_sh, am_mm (am_upd U 86 77 (w32 ((U 86 77) + 1))))) R
        refine ev_br (P := (w32 (x8 + 1)) ≤ (U 86 78)) (σ1 := (d, 160, 97, [some (.inr (.inr 86)), some (.inr (.inl x1)), none, some (.inr (.inl x3)), none, some (.inr (.inl x5)), none, some (.inl 1), some (.inl (w32 (x8 + 1)))], [.inr (.inr 86)], (am_sh, am_mm (am_upd U 86 77 (w32 ((U 86 77) + 1)))))) (σ2 := (d, 160, 92, [some (.inr (.inr 86)), some (.inr (.inl x1)), none, some (.inr (.inl x3)), none, some (.inr (.inl x5)), none, some (.inl 1), some (.inl (w32 (x8 + 1)))], [.inr (.inr 86)], (am_sh, am_mm (am_upd U 86 77 (w32 ((U 86 77) + 1)))))) 13 (fun _ => rfl) (fun hc => ?_) (fun hc => ?_)
        · have h2221 := h222.1 hc
          refine ev_seg (σ1 := (d, 160, 101, [some (.inr (.inr 86)), some (.inr (.inl x1)), none, some (.inr (.inl x3)), none, some (.inr (.inl x5)), none, some (.inl 1), some (.inl (w32 (x8 + 1)))], [.inl (U 86 78), .inr (.inr 86)], (am_sh, am_mm (am_upd U 86 77 (w32 ((U 86 77) + 1)))))) 2 (fun _ => rfl) ?_
          refine eu_puti 86 (n := 90) rfl (by decide) rfl rfl ?_
          show Ev (am_kz N X) (d, 160, 104, [some (.inr (.inr 86)), some (.inr (.inl x1)), none, some (.inr (.inl x3)), none, some (.inr (.inl x5)), none, some (.inl 1), some (.inl (w32 (x8 + 1)))], [], (am_sh, am_mm (am_upd (am_upd U 86 77 (w32 ((U 86 77) + 1))) 86 78 (U 86 78)))) R
          refine ev_seg (σ1 := (d, 160, 108, [some (.inr (.inr 86)), some (.inr (.inl x1)), none, some (.inr (.inl x3)), none, some (.inr (.inl x5)), none, some (.inl 1), some (.inl (w32 (x8 + 1)))], [.inr (.inl 10), .inr (.inl x3)], (am_sh, am_mm (am_upd (am_upd U 86 77 (w32 ((U 86 77) + 1))) 86 78 (U 86 78))))) 2 (fun _ => rfl) ?_
          refine ev_ldiv rfl (by decide) ?_
          show Ev (am_kz N X) (d, 160, 109, [some (.inr (.inr 86)), some (.inr (.inl x1)), none, some (.inr (.inl x3)), none, some (.inr (.inl x5)), none, some (.inl 1), some (.inl (w32 (x8 + 1)))], [.inr (.inl (w64 (Int.tdiv x3 10)))], (am_sh, am_mm (am_upd (am_upd U 86 77 (w32 ((U 86 77) + 1))) 86 78 (U 86 78)))) R
          refine ev_seg (σ1 := (d, 160, 115, [some (.inr (.inr 86)), some (.inr (.inl x1)), none, some (.inr (.inl (w64 (Int.tdiv x3 10)))), none, some (.inr (.inl x5)), none, some (.inl 1), some (.inl (w32 (x8 + 1)))], [.inr (.inl 10), .inr (.inl x5)], (am_sh, am_mm (am_upd (am_upd U 86 77 (w32 ((U 86 77) + 1))) 86 78 (U 86 78))))) 3 (fun _ => rfl) ?_
          refine ev_ldiv rfl (by decide) ?_
          show Ev (am_kz N X) (d, 160, 116, [some (.inr (.inr 86)), some (.inr (.inl x1)), none, some (.inr (.inl (w64 (Int.tdiv x3 10)))), none, some (.inr (.inl x5)), none, some (.inl 1), some (.inl (w32 (x8 + 1)))], [.inr (.inl (w64 (Int.tdiv x5 10)))], (am_sh, am_mm (am_upd (am_upd U 86 77 (w32 ((U 86 77) + 1))) 86 78 (U 86 78)))) R
          refine ev_seg (σ1 := (d, 160, 14, [some (.inr (.inr 86)), some (.inr (.inl x1)), none, some (.inr (.inl (w64 (Int.tdiv x3 10)))), none, some (.inr (.inl (w64 (Int.tdiv x5 10)))), none, some (.inl 1), some (.inl (w32 (x8 + 1)))], [], (am_sh, am_mm (am_upd (am_upd U 86 77 (w32 ((U 86 77) + 1))) 86 78 (U 86 78))))) 2 (fun _ => rfl) ?_
          exact h2221
        · have h2222 := h222.2 (Int.not_le.mp hc)
          refine ev_seg (σ1 := (d, 160, 101, [some (.inr (.inr 86)), some (.inr (.inl x1)), none, some (.inr (.inl x3)), none, some (.inr (.inl x5)), none, some (.inl 1), some (.inl (w32 (x8 + 1)))], [.inl (w32 (x8 + 1)), .inr (.inr 86)], (am_sh, am_mm (am_upd U 86 77 (w32 ((U 86 77) + 1)))))) 2 (fun _ => rfl) ?_
          refine eu_puti 86 (n := 90) rfl (by decide) rfl rfl ?_
          show Ev (am_kz N X) (d, 160, 104, [some (.inr (.inr 86)), some (.inr (.inl x1)), none, some (.inr (.inl x3)), none, some (.inr (.inl x5)), none, some (.inl 1), some (.inl (w32 (x8 + 1)))], [], (am_sh, am_mm (am_upd (am_upd U 86 77 (w32 ((U 86 77) + 1))) 86 78 (w32 (x8 + 1))))) R
          refine ev_seg (σ1 := (d, 160, 108, [some (.inr (.inr 86)), some (.inr (.inl x1)), none, some (.inr (.inl x3)), none, some (.inr (.inl x5)), none, some (.inl 1), some (.inl (w32 (x8 + 1)))], [.inr (.inl 10), .inr (.inl x3)], (am_sh, am_mm (am_upd (am_upd U 86 77 (w32 ((U 86 77) + 1))) 86 78 (w32 (x8 + 1)))))) 2 (fun _ => rfl) ?_
          refine ev_ldiv rfl (by decide) ?_
          show Ev (am_kz N X) (d, 160, 109, [some (.inr (.inr 86)), some (.inr (.inl x1)), none, some (.inr (.inl x3)), none, some (.inr (.inl x5)), none, some (.inl 1), some (.inl (w32 (x8 + 1)))], [.inr (.inl (w64 (Int.tdiv x3 10)))], (am_sh, am_mm (am_upd (am_upd U 86 77 (w32 ((U 86 77) + 1))) 86 78 (w32 (x8 + 1))))) R
          refine ev_seg (σ1 := (d, 160, 115, [some (.inr (.inr 86)), some (.inr (.inl x1)), none, some (.inr (.inl (w64 (Int.tdiv x3 10)))), none, some (.inr (.inl x5)), none, some (.inl 1), some (.inl (w32 (x8 + 1)))], [.inr (.inl 10), .inr (.inl x5)], (am_sh, am_mm (am_upd (am_upd U 86 77 (w32 ((U 86 77) + 1))) 86 78 (w32 (x8 + 1)))))) 3 (fun _ => rfl) ?_
          refine ev_ldiv rfl (by decide) ?_
          show Ev (am_kz N X) (d, 160, 116, [some (.inr (.inr 86)), some (.inr (.inl x1)), none, some (.inr (.inl (w64 (Int.tdiv x3 10)))), none, some (.inr (.inl x5)), none, some (.inl 1), some (.inl (w32 (x8 + 1)))], [.inr (.inl (w64 (Int.tdiv x5 10)))], (am_sh, am_mm (am_upd (am_upd U 86 77 (w32 ((U 86 77) + 1))) 86 78 (w32 (x8 + 1))))) R
          refine ev_seg (σ1 := (d, 160, 14, [some (.inr (.inr 86)), some (.inr (.inl x1)), none, some (.inr (.inl (w64 (Int.tdiv x3 10)))), none, some (.inr (.inl (w64 (Int.tdiv x5 10)))), none, some (.inl 1), some (.inl (w32 (x8 + 1)))], [], (am_sh, am_mm (am_upd (am_upd U 86 77 (w32 ((U 86 77) + 1))) 86 78 (w32 (x8 + 1)))))) 2 (fun _ => rfl) ?_
          exact h2222
set_option maxRecDepth 8000 in
theorem Dg_times_r0 {N : Nat} {X : Nat → Int} {d : Nat} {x1 : Int} {U : am_U} {R : Option am_V × am_M} (h : EvK N X (Dg_times_s10 d x1 (U 82 1) 0 0 U) R) : EvK N X (Dg_times_s0 d x1 U) R := by
  show Ev (am_kz N X) (d, 161, 0, [some (.inr (.inr 82)), some (.inl x1), none, none, none, none, none, none], [], (am_sh, am_mm U)) R
  refine ev_seg (σ1 := (d, 161, 10, [some (.inr (.inr 82)), some (.inl x1), some (.inl (U 82 1)), some (.inr (.inl 0)), none, some (.inl 0), none, none], [], (am_sh, am_mm U))) 7 (fun _ => rfl) ?_
  exact h
set_option maxRecDepth 8000 in
theorem Dg_times_r10 {N : Nat} {X : Nat → Int} {d : Nat} {x1 x2 x3 x5 : Int} {U : am_U} {R : Option am_V × am_M} (h : ((64 ≤ x5) → R = rV U) ∧ ((x5 < 64) → ((x5 < x2) → (0 ≤ x5 ∧ x5 < 64) ∧ EvK N X (Dg_times_s10 d x1 x2 (w64 (Int.tdiv (w64 ((w64 ((U 83 x5.toNat) * x1)) + x3)) 10)) (w32 (x5 + 1)) (am_upd (am_upd U 83 x5.toNat (w32 (Int.tmod (w64 ((w64 ((U 83 x5.toNat) * x1)) + x3)) 10))) 82 1 (w32 (x5 + 1)))) R) ∧ ((x2 ≤ x5) → ((x3 ≤ 0) → R = rV U) ∧ ((0 < x3) → (0 ≤ x5 ∧ x5 < 64) ∧ EvK N X (Dg_times_s10 d x1 x2 (w64 (Int.tdiv (w64 ((w64 ((U 83 x5.toNat) * x1)) + x3)) 10)) (w32 (x5 + 1)) (am_upd (am_upd U 83 x5.toNat (w32 (Int.tmod (w64 ((w64 ((U 83 x5.toNat) * x1)) + x3)) 10))) 82 1 (w32 (x5 + 1)))) R)))) : EvK N X (Dg_times_s10 d x1 x2 x3 x5 U) R := by
  show Ev (am_kz N X) (d, 161, 10, [some (.inr (.inr 82)), some (.inl x1), some (.inl x2), some (.inr (.inl x3)), none, some (.inl x5), none, none], [], (am_sh, am_mm U)) R
  refine ev_br (P := 64 ≤ x5) (σ1 := (d, 161, 79, [some (.inr (.inr 82)), some (.inl x1), some (.inl x2), some (.inr (.inl x3)), none, some (.inl x5), none, none], [], (am_sh, am_mm U))) (σ2 := (d, 161, 17, [some (.inr (.inr 82)), some (.inl x1), some (.inl x2), some (.inr (.inl x3)), none, some (.inl x5), none, none], [], (am_sh, am_mm U))) 3 (fun _ => rfl) (fun hc => ?_) (fun hc => ?_)
  · have h1 := h.1 hc
    subst h1
    exact ev_end 1 (fun _ => rfl)
  · have h2 := h.2 (Int.not_le.mp hc)
    refine ev_br (P := x5 < x2) (σ1 := (d, 161, 29, [some (.inr (.inr 82)), some (.inl x1), some (.inl x2), some (.inr (.inl x3)), none, some (.inl x5), none, none], [], (am_sh, am_mm U))) (σ2 := (d, 161, 23, [some (.inr (.inr 82)), some (.inl x1), some (.inl x2), some (.inr (.inl x3)), none, some (.inl x5), none, none], [], (am_sh, am_mm U))) 3 (fun _ => rfl) (fun hc => ?_) (fun hc => ?_)
    · have h21 := h2.1 hc
      refine ev_seg (σ1 := (d, 161, 35, [some (.inr (.inr 82)), some (.inl x1), some (.inl x2), some (.inr (.inl x3)), none, some (.inl x5), none, none], [.inl x5, .inr (.inr 83)], (am_sh, am_mm U))) 3 (fun _ => rfl) ?_
      refine eu_iald 83 (n := 64) rfl (by decide) rfl (fun _ => rfl) h21.1 ?_
      show Ev (am_kz N X) (d, 161, 36, [some (.inr (.inr 82)), some (.inl x1), some (.inl x2), some (.inr (.inl x3)), none, some (.inl x5), none, none], [.inl (U 83 x5.toNat)], (am_sh, am_mm U)) R
      have h21a := h21.2
      refine ev_seg (σ1 := (d, 161, 55, [some (.inr (.inr 82)), some (.inl x1), some (.inl x2), some (.inr (.inl x3)), none, some (.inl x5), some (.inr (.inl (w64 ((w64 ((U 83 x5.toNat) * x1)) + x3)))), none], [.inr (.inl 10), .inr (.inl (w64 ((w64 ((U 83 x5.toNat) * x1)) + x3))), .inl x5, .inr (.inr 83)], (am_sh, am_mm U))) 12 (fun _ => rfl) ?_
      refine ev_lrem rfl (by decide) ?_
      show Ev (am_kz N X) (d, 161, 56, [some (.inr (.inr 82)), some (.inl x1), some (.inl x2), some (.inr (.inl x3)), none, some (.inl x5), some (.inr (.inl (w64 ((w64 ((U 83 x5.toNat) * x1)) + x3)))), none], [.inr (.inl (Int.tmod (w64 ((w64 ((U 83 x5.toNat) * x1)) + x3)) 10)), .inl x5, .inr (.inr 83)], (am_sh, am_mm U)) R
      refine ev_seg (σ1 := (d, 161, 57, [some (.inr (.inr 82)), some (.inl x1), some (.inl x2), some (.inr (.inl x3)), none, some (.inl x5), some (.inr (.inl (w64 ((w64 ((U 83 x5.toNat) * x1)) + x3)))), none], [.inl (w32 (Int.tmod (w64 ((w64 ((U 83 x5.toNat) * x1)) + x3)) 10)), .inl x5, .inr (.inr 83)], (am_sh, am_mm U))) 1 (fun _ => rfl) ?_
      refine eu_iast 83 (n := 64) rfl (by decide) rfl (fun _ => rfl) h21.1 ?_
      show Ev (am_kz N X) (d, 161, 58, [some (.inr (.inr 82)), some (.inl x1), some (.inl x2), some (.inr (.inl x3)), none, some (.inl x5), some (.inr (.inl (w64 ((w64 ((U 83 x5.toNat) * x1)) + x3)))), none], [], (am_sh, am_mm (am_upd U 83 x5.toNat (w32 (Int.tmod (w64 ((w64 ((U 83 x5.toNat) * x1)) + x3)) 10))))) R
      refine ev_seg (σ1 := (d, 161, 63, [some (.inr (.inr 82)), some (.inl x1), some (.inl x2), some (.inr (.inl x3)), none, some (.inl x5), some (.inr (.inl (w64 ((w64 ((U 83 x5.toNat) * x1)) + x3)))), none], [.inr (.inl 10), .inr (.inl (w64 ((w64 ((U 83 x5.toNat) * x1)) + x3)))], (am_sh, am_mm (am_upd U 83 x5.toNat (w32 (Int.tmod (w64 ((w64 ((U 83 x5.toNat) * x1)) + x3)) 10)))))) 2 (fun _ => rfl) ?_
      refine ev_ldiv rfl (by decide) ?_
      show Ev (am_kz N X) (d, 161, 64, [some (.inr (.inr 82)), some (.inl x1), some (.inl x2), some (.inr (.inl x3)), none, some (.inl x5), some (.inr (.inl (w64 ((w64 ((U 83 x5.toNat) * x1)) + x3)))), none], [.inr (.inl (w64 (Int.tdiv (w64 ((w64 ((U 83 x5.toNat) * x1)) + x3)) 10)))], (am_sh, am_mm (am_upd U 83 x5.toNat (w32 (Int.tmod (w64 ((w64 ((U 83 x5.toNat) * x1)) + x3)) 10))))) R
      refine ev_seg (σ1 := (d, 161, 70, [some (.inr (.inr 82)), some (.inl x1), some (.inl x2), some (.inr (.inl (w64 (Int.tdiv (w64 ((w64 ((U 83 x5.toNat) * x1)) + x3)) 10)))), none, some (.inl x5), some (.inr (.inl (w64 ((w64 ((U 83 x5.toNat) * x1)) + x3)))), none], [.inl (w32 (x5 + 1)), .inr (.inr 82)], (am_sh, am_mm (am_upd U 83 x5.toNat (w32 (Int.tmod (w64 ((w64 ((U 83 x5.toNat) * x1)) + x3)) 10)))))) 5 (fun _ => rfl) ?_
      refine eu_puti 82 (n := 4) rfl (by decide) rfl rfl ?_
      show Ev (am_kz N X) (d, 161, 73, [some (.inr (.inr 82)), some (.inl x1), some (.inl x2), some (.inr (.inl (w64 (Int.tdiv (w64 ((w64 ((U 83 x5.toNat) * x1)) + x3)) 10)))), none, some (.inl x5), some (.inr (.inl (w64 ((w64 ((U 83 x5.toNat) * x1)) + x3)))), none], [], (am_sh, am_mm (am_upd (am_upd U 83 x5.toNat (w32 (Int.tmod (w64 ((w64 ((U 83 x5.toNat) * x1)) + x3)) 10))) 82 1 (w32 (x5 + 1))))) R
      refine ev_seg (σ1 := (d, 161, 10, [some (.inr (.inr 82)), some (.inl x1), some (.inl x2), some (.inr (.inl (w64 (Int.tdiv (w64 ((w64 ((U 83 x5.toNat) * x1)) + x3)) 10)))), none, some (.inl (w32 (x5 + 1))), some (.inr (.inl (w64 ((w64 ((U 83 x5.toNat) * x1)) + x3)))), none], [], (am_sh, am_mm (am_upd (am_upd U 83 x5.toNat (w32 (Int.tmod (w64 ((w64 ((U 83 x5.toNat) * x1)) + x3)) 10))) 82 1 (w32 (x5 + 1)))))) 2 (fun _ => rfl) ?_
      exact ev_le (L := [some (.inr (.inr 82)), some (.inl x1), some (.inl x2), some (.inr (.inl (w64 (Int.tdiv (w64 ((w64 ((U 83 x5.toNat) * x1)) + x3)) 10)))), none, some (.inl (w32 (x5 + 1))), none, none]) ⟨rfl, ⟨rfl, ⟨rfl, ⟨rfl, ⟨rfl, trivial⟩⟩⟩⟩⟩ h21a
    · have h22 := h2.2 (Int.not_lt.mp hc)
      refine ev_br (P := (am_lcmp x3 0) ≤ 0) (σ1 := (d, 161, 79, [some (.inr (.inr 82)), some (.inl x1), some (.inl x2), some (.inr (.inl x3)), none, some (.inl x5), none, none], [], (am_sh, am_mm U))) (σ2 := (d, 161, 29, [some (.inr (.inr 82)), some (.inl x1), some (.inl x2), some (.inr (.inl x3)), none, some (.inl x5), none, none], [], (am_sh, am_mm U))) 4 (fun _ => rfl) (fun hc => ?_) (fun hc => ?_)
      · have h221 := h22.1 ((am_lc_le x3 0).mp hc)
        subst h221
        exact ev_end 1 (fun _ => rfl)
      · have h222 := h22.2 ((am_lcn_le x3 0).mp hc)
        refine ev_seg (σ1 := (d, 161, 35, [some (.inr (.inr 82)), some (.inl x1), some (.inl x2), some (.inr (.inl x3)), none, some (.inl x5), none, none], [.inl x5, .inr (.inr 83)], (am_sh, am_mm U))) 3 (fun _ => rfl) ?_
        refine eu_iald 83 (n := 64) rfl (by decide) rfl (fun _ => rfl) h222.1 ?_
        show Ev (am_kz N X) (d, 161, 36, [some (.inr (.inr 82)), some (.inl x1), some (.inl x2), some (.inr (.inl x3)), none, some (.inl x5), none, none], [.inl (U 83 x5.toNat)], (am_sh, am_mm U)) R
        have h222a := h222.2
        refine ev_seg (σ1 := (d, 161, 55, [some (.inr (.inr 82)), some (.inl x1), some (.inl x2), some (.inr (.inl x3)), none, some (.inl x5), some (.inr (.inl (w64 ((w64 ((U 83 x5.toNat) * x1)) + x3)))), none], [.inr (.inl 10), .inr (.inl (w64 ((w64 ((U 83 x5.toNat) * x1)) + x3))), .inl x5, .inr (.inr 83)], (am_sh, am_mm U))) 12 (fun _ => rfl) ?_
        refine ev_lrem rfl (by decide) ?_
        show Ev (am_kz N X) (d, 161, 56, [some (.inr (.inr 82)), some (.inl x1), some (.inl x2), some (.inr (.inl x3)), none, some (.inl x5), some (.inr (.inl (w64 ((w64 ((U 83 x5.toNat) * x1)) + x3)))), none], [.inr (.inl (Int.tmod (w64 ((w64 ((U 83 x5.toNat) * x1)) + x3)) 10)), .inl x5, .inr (.inr 83)], (am_sh, am_mm U)) R
        refine ev_seg (σ1 := (d, 161, 57, [some (.inr (.inr 82)), some (.inl x1), some (.inl x2), some (.inr (.inl x3)), none, some (.inl x5), some (.inr (.inl (w64 ((w64 ((U 83 x5.toNat) * x1)) + x3)))), none], [.inl (w32 (Int.tmod (w64 ((w64 ((U 83 x5.toNat) * x1)) + x3)) 10)), .inl x5, .inr (.inr 83)], (am_sh, am_mm U))) 1 (fun _ => rfl) ?_
        refine eu_iast 83 (n := 64) rfl (by decide) rfl (fun _ => rfl) h222.1 ?_
        show Ev (am_kz N X) (d, 161, 58, [some (.inr (.inr 82)), some (.inl x1), some (.inl x2), some (.inr (.inl x3)), none, some (.inl x5), some (.inr (.inl (w64 ((w64 ((U 83 x5.toNat) * x1)) + x3)))), none], [], (am_sh, am_mm (am_upd U 83 x5.toNat (w32 (Int.tmod (w64 ((w64 ((U 83 x5.toNat) * x1)) + x3)) 10))))) R
        refine ev_seg (σ1 := (d, 161, 63, [some (.inr (.inr 82)), some (.inl x1), some (.inl x2), some (.inr (.inl x3)), none, some (.inl x5), some (.inr (.inl (w64 ((w64 ((U 83 x5.toNat) * x1)) + x3)))), none], [.inr (.inl 10), .inr (.inl (w64 ((w64 ((U 83 x5.toNat) * x1)) + x3)))], (am_sh, am_mm (am_upd U 83 x5.toNat (w32 (Int.tmod (w64 ((w64 ((U 83 x5.toNat) * x1)) + x3)) 10)))))) 2 (fun _ => rfl) ?_
        refine ev_ldiv rfl (by decide) ?_
        show Ev (am_kz N X) (d, 161, 64, [some (.inr (.inr 82)), some (.inl x1), some (.inl x2), some (.inr (.inl x3)), none, some (.inl x5), some (.inr (.inl (w64 ((w64 ((U 83 x5.toNat) * x1)) + x3)))), none], [.inr (.inl (w64 (Int.tdiv (w64 ((w64 ((U 83 x5.toNat) * x1)) + x3)) 10)))], (am_sh, am_mm (am_upd U 83 x5.toNat (w32 (Int.tmod (w64 ((w64 ((U 83 x5.toNat) * x1)) + x3)) 10))))) R
        refine ev_seg (σ1 := (d, 161, 70, [some (.inr (.inr 82)), some (.inl x1), some (.inl x2), some (.inr (.inl (w64 (Int.tdiv (w64 ((w64 ((U 83 x5.toNat) * x1)) + x3)) 10)))), none, some (.inl x5), some (.inr (.inl (w64 ((w64 ((U 83 x5.toNat) * x1)) + x3)))), none], [.inl (w32 (x5 + 1)), .inr (.inr 82)], (am_sh, am_mm (am_upd U 83 x5.toNat (w32 (Int.tmod (w64 ((w64 ((U 83 x5.toNat) * x1)) + x3)) 10)))))) 5 (fun _ => rfl) ?_
        refine eu_puti 82 (n := 4) rfl (by decide) rfl rfl ?_
        show Ev (am_kz N X) (d, 161, 73, [some (.inr (.inr 82)), some (.inl x1), some (.inl x2), some (.inr (.inl (w64 (Int.tdiv (w64 ((w64 ((U 83 x5.toNat) * x1)) + x3)) 10)))), none, some (.inl x5), some (.inr (.inl (w64 ((w64 ((U 83 x5.toNat) * x1)) + x3)))), none], [], (am_sh, am_mm (am_upd (am_upd U 83 x5.toNat (w32 (Int.tmod (w64 ((w64 ((U 83 x5.toNat) * x1)) + x3)) 10))) 82 1 (w32 (x5 + 1))))) R
        refine ev_seg (σ1 := (d, 161, 10, [some (.inr (.inr 82)), some (.inl x1), some (.inl x2), some (.inr (.inl (w64 (Int.tdiv (w64 ((w64 ((U 83 x5.toNat) * x1)) + x3)) 10)))), none, some (.inl (w32 (x5 + 1))), some (.inr (.inl (w64 ((w64 ((U 83 x5.toNat) * x1)) + x3)))), none], [], (am_sh, am_mm (am_upd (am_upd U 83 x5.toNat (w32 (Int.tmod (w64 ((w64 ((U 83 x5.toNat) * x1)) + x3)) 10))) 82 1 (w32 (x5 + 1)))))) 2 (fun _ => rfl) ?_
        exact ev_le (L := [some (.inr (.inr 82)), some (.inl x1), some (.inl x2), some (.inr (.inl (w64 (Int.tdiv (w64 ((w64 ((U 83 x5.toNat) * x1)) + x3)) 10)))), none, some (.inl (w32 (x5 + 1))), none, none]) ⟨rfl, ⟨rfl, ⟨rfl, ⟨rfl, ⟨rfl, trivial⟩⟩⟩⟩⟩ h222a
set_option maxRecDepth 8000 in
theorem M_timesBig_r0 {N : Nat} {X : Nat → Int} {d : Nat} {x1 : Int} {U : am_U} {R : Option am_V × am_M} (h : EvK N X (M_timesBig_s5 d x1 0 0 U) R) : EvK N X (M_timesBig_s0 d x1 U) R := by
  show Ev (am_kz N X) (d, 162, 0, [some (.inr (.inr 86)), some (.inr (.inl x1)), none, none, none, none], [], (am_sh, am_mm U)) R
  refine ev_seg (σ1 := (d, 162, 5, [some (.inr (.inr 86)), some (.inr (.inl x1)), none, some (.inr (.inl 0)), none, some (.inl 0)], [], (am_sh, am_mm U))) 4 (fun _ => rfl) ?_
  exact h
set_option maxRecDepth 8000 in
theorem M_timesBig_r5 {N : Nat} {X : Nat → Int} {d : Nat} {x1 x3 x5 : Int} {U : am_U} {R : Option am_V × am_M} (h : (((U 86 80) ≤ x5) → EvK N X (M_timesBig_s52 d x1 x3 x5 U) R) ∧ ((x5 < (U 86 80)) → (0 ≤ x5 ∧ x5 < 80) ∧ EvK N X (M_timesBig_s5 d x1 (w64 (Int.tdiv (w64 (x3 + (w64 ((U 133 x5.toNat) * x1)))) 10)) (w32 (x5 + 1)) (am_upd U 133 x5.toNat (w32 (Int.tmod (w64 (x3 + (w64 ((U 133 x5.toNat) * x1)))) 10)))) R)) : EvK N X (M_timesBig_s5 d x1 x3 x5 U) R := by
  show Ev (am_kz N X) (d, 162, 5, [some (.inr (.inr 86)), some (.inr (.inl x1)), none, some (.inr (.inl x3)), none, some (.inl x5)], [], (am_sh, am_mm U)) R
  refine ev_br (P := (U 86 80) ≤ x5) (σ1 := (d, 162, 52, [some (.inr (.inr 86)), some (.inr (.inl x1)), none, some (.inr (.inl x3)), none, some (.inl x5)], [], (am_sh, am_mm U))) (σ2 := (d, 162, 14, [some (.inr (.inr 86)), some (.inr (.inl x1)), none, some (.inr (.inl x3)), none, some (.inl x5)], [], (am_sh, am_mm U))) 4 (fun _ => rfl) (fun hc => ?_) (fun hc => ?_)
  · have h1 := h.1 hc
    exact h1
  · have h2 := h.2 (Int.not_le.mp hc)
    refine ev_seg (σ1 := (d, 162, 21, [some (.inr (.inr 86)), some (.inr (.inl x1)), none, some (.inr (.inl x3)), none, some (.inl x5)], [.inl x5, .inr (.inr 133), .inr (.inl x3)], (am_sh, am_mm U))) 4 (fun _ => rfl) ?_
    refine eu_iald 133 (n := 80) rfl (by decide) rfl (fun _ => rfl) h2.1 ?_
    show Ev (am_kz N X) (d, 162, 22, [some (.inr (.inr 86)), some (.inr (.inl x1)), none, some (.inr (.inl x3)), none, some (.inl x5)], [.inl (U 133 x5.toNat), .inr (.inl x3)], (am_sh, am_mm U)) R
    have h2a := h2.2
    refine ev_seg (σ1 := (d, 162, 37, [some (.inr (.inr 86)), some (.inr (.inl x1)), none, some (.inr (.inl (w64 (x3 + (w64 ((U 133 x5.toNat) * x1)))))), none, some (.inl x5)], [.inr (.inl 10), .inr (.inl (w64 (x3 + (w64 ((U 133 x5.toNat) * x1))))), .inl x5, .inr (.inr 133)], (am_sh, am_mm U))) 10 (fun _ => rfl) ?_
    refine ev_lrem rfl (by decide) ?_
    show Ev (am_kz N X) (d, 162, 38, [some (.inr (.inr 86)), some (.inr (.inl x1)), none, some (.inr (.inl (w64 (x3 + (w64 ((U 133 x5.toNat) * x1)))))), none, some (.inl x5)], [.inr (.inl (Int.tmod (w64 (x3 + (w64 ((U 133 x5.toNat) * x1)))) 10)), .inl x5, .inr (.inr 133)], (am_sh, am_mm U)) R
    refine ev_seg (σ1 := (d, 162, 39, [some (.inr (.inr 86)), some (.inr (.inl x1)), none, some (.inr (.inl (w64 (x3 + (w64 ((U 133 x5.toNat) * x1)))))), none, some (.inl x5)], [.inl (w32 (Int.tmod (w64 (x3 + (w64 ((U 133 x5.toNat) * x1)))) 10)), .inl x5, .inr (.inr 133)], (am_sh, am_mm U))) 1 (fun _ => rfl) ?_
    refine eu_iast 133 (n := 80) rfl (by decide) rfl (fun _ => rfl) h2.1 ?_
    show Ev (am_kz N X) (d, 162, 40, [some (.inr (.inr 86)), some (.inr (.inl x1)), none, some (.inr (.inl (w64 (x3 + (w64 ((U 133 x5.toNat) * x1)))))), none, some (.inl x5)], [], (am_sh, am_mm (am_upd U 133 x5.toNat (w32 (Int.tmod (w64 (x3 + (w64 ((U 133 x5.toNat) * x1)))) 10))))) R
    refine ev_seg (σ1 := (d, 162, 44, [some (.inr (.inr 86)), some (.inr (.inl x1)), none, some (.inr (.inl (w64 (x3 + (w64 ((U 133 x5.toNat) * x1)))))), none, some (.inl x5)], [.inr (.inl 10), .inr (.inl (w64 (x3 + (w64 ((U 133 x5.toNat) * x1)))))], (am_sh, am_mm (am_upd U 133 x5.toNat (w32 (Int.tmod (w64 (x3 + (w64 ((U 133 x5.toNat) * x1)))) 10)))))) 2 (fun _ => rfl) ?_
    refine ev_ldiv rfl (by decide) ?_
    show Ev (am_kz N X) (d, 162, 45, [some (.inr (.inr 86)), some (.inr (.inl x1)), none, some (.inr (.inl (w64 (x3 + (w64 ((U 133 x5.toNat) * x1)))))), none, some (.inl x5)], [.inr (.inl (w64 (Int.tdiv (w64 (x3 + (w64 ((U 133 x5.toNat) * x1)))) 10)))], (am_sh, am_mm (am_upd U 133 x5.toNat (w32 (Int.tmod (w64 (x3 + (w64 ((U 133 x5.toNat) * x1)))) 10))))) R
    refine ev_seg (σ1 := (d, 162, 5, [some (.inr (.inr 86)), some (.inr (.inl x1)), none, some (.inr (.inl (w64 (Int.tdiv (w64 (x3 + (w64 ((U 133 x5.toNat) * x1)))) 10)))), none, some (.inl (w32 (x5 + 1)))], [], (am_sh, am_mm (am_upd U 133 x5.toNat (w32 (Int.tmod (w64 (x3 + (w64 ((U 133 x5.toNat) * x1)))) 10)))))) 3 (fun _ => rfl) ?_
    exact h2a
set_option maxRecDepth 8000 in
theorem M_timesBig_r52 {N : Nat} {X : Nat → Int} {d : Nat} {x1 x3 x5 : Int} {U : am_U} {R : Option am_V × am_M} (h : ((x3 ≤ 0) → R = rV U) ∧ ((0 < x3) → (0 ≤ (U 86 80) ∧ (U 86 80) < 80) ∧ EvK N X (M_timesBig_s52 d x1 (w64 (Int.tdiv x3 10)) x5 (am_upd (am_upd U 133 ((U 86 80).toNat) (w32 (Int.tmod x3 10))) 86 80 (w32 ((U 86 80) + 1)))) R)) : EvK N X (M_timesBig_s52 d x1 x3 x5 U) R := by
  show Ev (am_kz N X) (d, 162, 52, [some (.inr (.inr 86)), some (.inr (.inl x1)), none, some (.inr (.inl x3)), none, some (.inl x5)], [], (am_sh, am_mm U)) R
  refine ev_br (P := (am_lcmp x3 0) ≤ 0) (σ1 := (d, 162, 92, [some (.inr (.inr 86)), some (.inr (.inl x1)), none, some (.inr (.inl x3)), none, some (.inl x5)], [], (am_sh, am_mm U))) (σ2 := (d, 162, 58, [some (.inr (.inr 86)), some (.inr (.inl x1)), none, some (.inr (.inl x3)), none, some (.inl x5)], [], (am_sh, am_mm U))) 4 (fun _ => rfl) (fun hc => ?_) (fun hc => ?_)
  · have h1 := h.1 ((am_lc_le x3 0).mp hc)
    subst h1
    exact ev_end 1 (fun _ => rfl)
  · have h2 := h.2 ((am_lcn_le x3 0).mp hc)
    refine ev_seg (σ1 := (d, 162, 70, [some (.inr (.inr 86)), some (.inr (.inl x1)), none, some (.inr (.inl x3)), none, some (.inl x5)], [.inr (.inl 10), .inr (.inl x3), .inl (U 86 80), .inr (.inr 133)], (am_sh, am_mm U))) 6 (fun _ => rfl) ?_
    refine ev_lrem rfl (by decide) ?_
    show Ev (am_kz N X) (d, 162, 71, [some (.inr (.inr 86)), some (.inr (.inl x1)), none, some (.inr (.inl x3)), none, some (.inl x5)], [.inr (.inl (Int.tmod x3 10)), .inl (U 86 80), .inr (.inr 133)], (am_sh, am_mm U)) R
    refine ev_seg (σ1 := (d, 162, 72, [some (.inr (.inr 86)), some (.inr (.inl x1)), none, some (.inr (.inl x3)), none, some (.inl x5)], [.inl (w32 (Int.tmod x3 10)), .inl (U 86 80), .inr (.inr 133)], (am_sh, am_mm U))) 1 (fun _ => rfl) ?_
    refine eu_iast 133 (n := 80) rfl (by decide) rfl (fun _ => rfl) h2.1 ?_
    show Ev (am_kz N X) (d, 162, 73, [some (.inr (.inr 86)), some (.inr (.inl x1)), none, some (.inr (.inl x3)), none, some (.inl x5)], [], (am_sh, am_mm (am_upd U 133 ((U 86 80).toNat) (w32 (Int.tmod x3 10))))) R
    have h2a := h2.2
    refine ev_seg (σ1 := (d, 162, 77, [some (.inr (.inr 86)), some (.inr (.inl x1)), none, some (.inr (.inl x3)), none, some (.inl x5)], [.inr (.inl 10), .inr (.inl x3)], (am_sh, am_mm (am_upd U 133 ((U 86 80).toNat) (w32 (Int.tmod x3 10)))))) 2 (fun _ => rfl) ?_
    refine ev_ldiv rfl (by decide) ?_
    show Ev (am_kz N X) (d, 162, 78, [some (.inr (.inr 86)), some (.inr (.inl x1)), none, some (.inr (.inl x3)), none, some (.inl x5)], [.inr (.inl (w64 (Int.tdiv x3 10)))], (am_sh, am_mm (am_upd U 133 ((U 86 80).toNat) (w32 (Int.tmod x3 10))))) R
    refine ev_seg (σ1 := (d, 162, 86, [some (.inr (.inr 86)), some (.inr (.inl x1)), none, some (.inr (.inl (w64 (Int.tdiv x3 10)))), none, some (.inl x5)], [.inl (w32 ((U 86 80) + 1)), .inr (.inr 86)], (am_sh, am_mm (am_upd U 133 ((U 86 80).toNat) (w32 (Int.tmod x3 10)))))) 6 (fun _ => rfl) ?_
    refine eu_puti 86 (n := 90) rfl (by decide) rfl rfl ?_
    show Ev (am_kz N X) (d, 162, 89, [some (.inr (.inr 86)), some (.inr (.inl x1)), none, some (.inr (.inl (w64 (Int.tdiv x3 10)))), none, some (.inl x5)], [], (am_sh, am_mm (am_upd (am_upd U 133 ((U 86 80).toNat) (w32 (Int.tmod x3 10))) 86 80 (w32 ((U 86 80) + 1))))) R
    refine ev_seg (σ1 := (d, 162, 52, [some (.inr (.inr 86)), some (.inr (.inl x1)), none, some (.inr (.inl (w64 (Int.tdiv x3 10)))), none, some (.inl x5)], [], (am_sh, am_mm (am_upd (am_upd U 133 ((U 86 80).toNat) (w32 (Int.tmod x3 10))) 86 80 (w32 ((U 86 80) + 1)))))) 1 (fun _ => rfl) ?_
    exact h2a
set_option maxRecDepth 8000 in
theorem M_netOf_r0 {N : Nat} {X : Nat → Int} {d : Nat} {x1 : Int} {U : am_U} {R : Option am_V × am_M} (h : EvK N X (M_netOf_s4 d x1 0 0 U) R) : EvK N X (M_netOf_s0 d x1 U) R := by
  show Ev (am_kz N X) (d, 163, 0, [some (.inr (.inr 86)), some (.inl x1), none, none, none], [], (am_sh, am_mm U)) R
  refine ev_seg (σ1 := (d, 163, 4, [some (.inr (.inr 86)), some (.inl x1), some (.inl 0), some (.inl 0), none], [], (am_sh, am_mm U))) 4 (fun _ => rfl) ?_
  exact h
set_option maxRecDepth 8000 in
theorem M_netOf_r4 {N : Nat} {X : Nat → Int} {d : Nat} {x1 x2 x3 : Int} {U : am_U} {R : Option am_V × am_M} (h : (0 ≤ (U 86 13) ∧ (U 86 13) < 2) ∧ (((U 106 ((U 86 13).toNat)) ≤ x3) → R = rI x2 U) ∧ ((x3 < (U 106 ((U 86 13).toNat))) → (0 ≤ (w32 ((w32 (16 * (U 86 13))) + x3)) ∧ (w32 ((w32 (16 * (U 86 13))) + x3)) < 32) ∧ (((U 108 ((w32 ((w32 (16 * (U 86 13))) + x3)).toNat)) ≠ x1) → (((U 107 ((w32 ((w32 (16 * (U 86 13))) + x3)).toNat)) ≠ x1) → EvK N X (M_netOf_s4 d x1 (w32 ((w32 (x2 + 0)) - 0)) (w32 (x3 + 1)) U) R) ∧ (((U 107 ((w32 ((w32 (16 * (U 86 13))) + x3)).toNat)) = x1) → EvK N X (M_netOf_s4 d x1 (w32 ((w32 (x2 + 0)) - (U 109 ((w32 ((w32 (16 * (U 86 13))) + x3)).toNat)))) (w32 (x3 + 1)) U) R)) ∧ (((U 108 ((w32 ((w32 (16 * (U 86 13))) + x3)).toNat)) = x1) → (((U 107 ((w32 ((w32 (16 * (U 86 13))) + x3)).toNat)) ≠ x1) → EvK N X (M_netOf_s4 d x1 (w32 ((w32 (x2 + (U 109 ((w32 ((w32 (16 * (U 86 13))) + x3)).toNat)))) - 0)) (w32 (x3 + 1)) U) R) ∧ (((U 107 ((w32 ((w32 (16 * (U 86 13))) + x3)).toNat)) = x1) → EvK N X (M_netOf_s4 d x1 (w32 ((w32 (x2 + (U 109 ((w32 ((w32 (16 * (U 86 13))) + x3)).toNat)))) - (U 109 ((w32 ((w32 (16 * (U 86 13))) + x3)).toNat)))) (w32 (x3 + 1)) U) R)))) : EvK N X (M_netOf_s4 d x1 x2 x3 U) R := by
  show Ev (am_kz N X) (d, 163, 4, [some (.inr (.inr 86)), some (.inl x1), some (.inl x2), some (.inl x3), none], [], (am_sh, am_mm U)) R
  refine ev_seg (σ1 := (d, 163, 13, [some (.inr (.inr 86)), some (.inl x1), some (.inl x2), some (.inl x3), none], [.inl (U 86 13), .inr (.inr 106), .inl x3], (am_sh, am_mm U))) 5 (fun _ => rfl) ?_
  refine eu_iald 106 (n := 2) rfl (by decide) rfl (fun _ => rfl) h.1 ?_
  show Ev (am_kz N X) (d, 163, 14, [some (.inr (.inr 86)), some (.inl x1), some (.inl x2), some (.inl x3), none], [.inl (U 106 ((U 86 13).toNat)), .inl x3], (am_sh, am_mm U)) R
  have ha := h.2
  refine ev_br (P := (U 106 ((U 86 13).toNat)) ≤ x3) (σ1 := (d, 163, 84, [some (.inr (.inr 86)), some (.inl x1), some (.inl x2), some (.inl x3), none], [], (am_sh, am_mm U))) (σ2 := (d, 163, 17, [some (.inr (.inr 86)), some (.inl x1), some (.inl x2), some (.inl x3), none], [], (am_sh, am_mm U))) 1 (fun _ => rfl) (fun hc => ?_) (fun hc => ?_)
  · have ha1 := ha.1 hc
    subst ha1
    exact ev_end 2 (fun _ => rfl)
  · have ha2 := ha.2 (Int.not_le.mp hc)
    refine ev_seg (σ1 := (d, 163, 35, [some (.inr (.inr 86)), some (.inl x1), some (.inl x2), some (.inl x3), some (.inl (w32 ((w32 (16 * (U 86 13))) + x3)))], [.inl (w32 ((w32 (16 * (U 86 13))) + x3)), .inr (.inr 108), .inl x2], (am_sh, am_mm U))) 11 (fun _ => rfl) ?_
    refine eu_iald 108 (n := 32) rfl (by decide) rfl (fun _ => rfl) ha2.1 ?_
    show Ev (am_kz N X) (d, 163, 36, [some (.inr (.inr 86)), some (.inl x1), some (.inl x2), some (.inl x3), some (.inl (w32 ((w32 (16 * (U 86 13))) + x3)))], [.inl (U 108 ((w32 ((w32 (16 * (U 86 13))) + x3)).toNat)), .inl x2], (am_sh, am_mm U)) R
    have ha2a := ha2.2
    refine ev_br (P := ¬ (U 108 ((w32 ((w32 (16 * (U 86 13))) + x3)).toNat)) = x1) (σ1 := (d, 163, 50, [some (.inr (.inr 86)), some (.inl x1), some (.inl x2), some (.inl x3), some (.inl (w32 ((w32 (16 * (U 86 13))) + x3)))], [.inl x2], (am_sh, am_mm U))) (σ2 := (d, 163, 40, [some (.inr (.inr 86)), some (.inl x1), some (.inl x2), some (.inl x3), some (.inl (w32 ((w32 (16 * (U 86 13))) + x3)))], [.inl x2], (am_sh, am_mm U))) 2 (fun _ => rfl) (fun hc => ?_) (fun hc => ?_)
    · have ha2a1 := ha2a.1 hc
      refine ev_seg (σ1 := (d, 163, 60, [some (.inr (.inr 86)), some (.inl x1), some (.inl (w32 (x2 + 0))), some (.inl x3), some (.inl (w32 ((w32 (16 * (U 86 13))) + x3)))], [.inl (w32 ((w32 (16 * (U 86 13))) + x3)), .inr (.inr 107), .inl (w32 (x2 + 0))], (am_sh, am_mm U))) 7 (fun _ => rfl) ?_
      refine eu_iald 107 (n := 32) rfl (by decide) rfl (fun _ => rfl) ha2.1 ?_
      show Ev (am_kz N X) (d, 163, 61, [some (.inr (.inr 86)), some (.inl x1), some (.inl (w32 (x2 + 0))), some (.inl x3), some (.inl (w32 ((w32 (16 * (U 86 13))) + x3)))], [.inl (U 107 ((w32 ((w32 (16 * (U 86 13))) + x3)).toNat)), .inl (w32 (x2 + 0))], (am_sh, am_mm U)) R
      refine ev_br (P := ¬ (U 107 ((w32 ((w32 (16 * (U 86 13))) + x3)).toNat)) = x1) (σ1 := (d, 163, 75, [some (.inr (.inr 86)), some (.inl x1), some (.inl (w32 (x2 + 0))), some (.inl x3), some (.inl (w32 ((w32 (16 * (U 86 13))) + x3)))], [.inl (w32 (x2 + 0))], (am_sh, am_mm U))) (σ2 := (d, 163, 65, [some (.inr (.inr 86)), some (.inl x1), some (.inl (w32 (x2 + 0))), some (.inl x3), some (.inl (w32 ((w32 (16 * (U 86 13))) + x3)))], [.inl (w32 (x2 + 0))], (am_sh, am_mm U))) 2 (fun _ => rfl) (fun hc => ?_) (fun hc => ?_)
      · have ha2a11 := ha2a1.1 hc
        refine ev_seg (σ1 := (d, 163, 4, [some (.inr (.inr 86)), some (.inl x1), some (.inl (w32 ((w32 (x2 + 0)) - 0))), some (.inl (w32 (x3 + 1))), some (.inl (w32 ((w32 (16 * (U 86 13))) + x3)))], [], (am_sh, am_mm U))) 5 (fun _ => rfl) ?_
        exact ev_le (L := [some (.inr (.inr 86)), some (.inl x1), some (.inl (w32 ((w32 (x2 + 0)) - 0))), some (.inl (w32 (x3 + 1))), none]) ⟨rfl, ⟨rfl, ⟨rfl, ⟨rfl, trivial⟩⟩⟩⟩ ha2a11
      · have ha2a12 := ha2a1.2 (Decidable.not_not.mp hc)
        refine ev_seg (σ1 := (d, 163, 71, [some (.inr (.inr 86)), some (.inl x1), some (.inl (w32 (x2 + 0))), some (.inl x3), some (.inl (w32 ((w32 (16 * (U 86 13))) + x3)))], [.inl (w32 ((w32 (16 * (U 86 13))) + x3)), .inr (.inr 109), .inl (w32 (x2 + 0))], (am_sh, am_mm U))) 3 (fun _ => rfl) ?_
        refine eu_iald 109 (n := 32) rfl (by decide) rfl (fun _ => rfl) ha2.1 ?_
        show Ev (am_kz N X) (d, 163, 72, [some (.inr (.inr 86)), some (.inl x1), some (.inl (w32 (x2 + 0))), some (.inl x3), some (.inl (w32 ((w32 (16 * (U 86 13))) + x3)))], [.inl (U 109 ((w32 ((w32 (16 * (U 86 13))) + x3)).toNat)), .inl (w32 (x2 + 0))], (am_sh, am_mm U)) R
        refine ev_seg (σ1 := (d, 163, 4, [some (.inr (.inr 86)), some (.inl x1), some (.inl (w32 ((w32 (x2 + 0)) - (U 109 ((w32 ((w32 (16 * (U 86 13))) + x3)).toNat))))), some (.inl (w32 (x3 + 1))), some (.inl (w32 ((w32 (16 * (U 86 13))) + x3)))], [], (am_sh, am_mm U))) 5 (fun _ => rfl) ?_
        exact ev_le (L := [some (.inr (.inr 86)), some (.inl x1), some (.inl (w32 ((w32 (x2 + 0)) - (U 109 ((w32 ((w32 (16 * (U 86 13))) + x3)).toNat))))), some (.inl (w32 (x3 + 1))), none]) ⟨rfl, ⟨rfl, ⟨rfl, ⟨rfl, trivial⟩⟩⟩⟩ ha2a12
    · have ha2a2 := ha2a.2 (Decidable.not_not.mp hc)
      refine ev_seg (σ1 := (d, 163, 46, [some (.inr (.inr 86)), some (.inl x1), some (.inl x2), some (.inl x3), some (.inl (w32 ((w32 (16 * (U 86 13))) + x3)))], [.inl (w32 ((w32 (16 * (U 86 13))) + x3)), .inr (.inr 109), .inl x2], (am_sh, am_mm U))) 3 (fun _ => rfl) ?_
      refine eu_iald 109 (n := 32) rfl (by decide) rfl (fun _ => rfl) ha2.1 ?_
      show Ev (am_kz N X) (d, 163, 47, [some (.inr (.inr 86)), some (.inl x1), some (.inl x2), some (.inl x3), some (.inl (w32 ((w32 (16 * (U 86 13))) + x3)))], [.inl (U 109 ((w32 ((w32 (16 * (U 86 13))) + x3)).toNat)), .inl x2], (am_sh, am_mm U)) R
      refine ev_seg (σ1 := (d, 163, 60, [some (.inr (.inr 86)), some (.inl x1), some (.inl (w32 (x2 + (U 109 ((w32 ((w32 (16 * (U 86 13))) + x3)).toNat))))), some (.inl x3), some (.inl (w32 ((w32 (16 * (U 86 13))) + x3)))], [.inl (w32 ((w32 (16 * (U 86 13))) + x3)), .inr (.inr 107), .inl (w32 (x2 + (U 109 ((w32 ((w32 (16 * (U 86 13))) + x3)).toNat))))], (am_sh, am_mm U))) 7 (fun _ => rfl) ?_
      refine eu_iald 107 (n := 32) rfl (by decide) rfl (fun _ => rfl) ha2.1 ?_
      show Ev (am_kz N X) (d, 163, 61, [some (.inr (.inr 86)), some (.inl x1), some (.inl (w32 (x2 + (U 109 ((w32 ((w32 (16 * (U 86 13))) + x3)).toNat))))), some (.inl x3), some (.inl (w32 ((w32 (16 * (U 86 13))) + x3)))], [.inl (U 107 ((w32 ((w32 (16 * (U 86 13))) + x3)).toNat)), .inl (w32 (x2 + (U 109 ((w32 ((w32 (16 * (U 86 13))) + x3)).toNat))))], (am_sh, am_mm U)) R
      refine ev_br (P := ¬ (U 107 ((w32 ((w32 (16 * (U 86 13))) + x3)).toNat)) = x1) (σ1 := (d, 163, 75, [some (.inr (.inr 86)), some (.inl x1), some (.inl (w32 (x2 + (U 109 ((w32 ((w32 (16 * (U 86 13))) + x3)).toNat))))), some (.inl x3), some (.inl (w32 ((w32 (16 * (U 86 13))) + x3)))], [.inl (w32 (x2 + (U 109 ((w32 ((w32 (16 * (U 86 13))) + x3)).toNat))))], (am_sh, am_mm U))) (σ2 := (d, 163, 65, [some (.inr (.inr 86)), some (.inl x1), some (.inl (w32 (x2 + (U 109 ((w32 ((w32 (16 * (U 86 13))) + x3)).toNat))))), some (.inl x3), some (.inl (w32 ((w32 (16 * (U 86 13))) + x3)))], [.inl (w32 (x2 + (U 109 ((w32 ((w32 (16 * (U 86 13))) + x3)).toNat))))], (am_sh, am_mm U))) 2 (fun _ => rfl) (fun hc => ?_) (fun hc => ?_)
      · have ha2a21 := ha2a2.1 hc
        refine ev_seg (σ1 := (d, 163, 4, [some (.inr (.inr 86)), some (.inl x1), some (.inl (w32 ((w32 (x2 + (U 109 ((w32 ((w32 (16 * (U 86 13))) + x3)).toNat)))) - 0))), some (.inl (w32 (x3 + 1))), some (.inl (w32 ((w32 (16 * (U 86 13))) + x3)))], [], (am_sh, am_mm U))) 5 (fun _ => rfl) ?_
        exact ev_le (L := [some (.inr (.inr 86)), some (.inl x1), some (.inl (w32 ((w32 (x2 + (U 109 ((w32 ((w32 (16 * (U 86 13))) + x3)).toNat)))) - 0))), some (.inl (w32 (x3 + 1))), none]) ⟨rfl, ⟨rfl, ⟨rfl, ⟨rfl, trivial⟩⟩⟩⟩ ha2a21
      · have ha2a22 := ha2a2.2 (Decidable.not_not.mp hc)
        refine ev_seg (σ1 := (d, 163, 71, [some (.inr (.inr 86)), some (.inl x1), some (.inl (w32 (x2 + (U 109 ((w32 ((w32 (16 * (U 86 13))) + x3)).toNat))))), some (.inl x3), some (.inl (w32 ((w32 (16 * (U 86 13))) + x3)))], [.inl (w32 ((w32 (16 * (U 86 13))) + x3)), .inr (.inr 109), .inl (w32 (x2 + (U 109 ((w32 ((w32 (16 * (U 86 13))) + x3)).toNat))))], (am_sh, am_mm U))) 3 (fun _ => rfl) ?_
        refine eu_iald 109 (n := 32) rfl (by decide) rfl (fun _ => rfl) ha2.1 ?_
        show Ev (am_kz N X) (d, 163, 72, [some (.inr (.inr 86)), some (.inl x1), some (.inl (w32 (x2 + (U 109 ((w32 ((w32 (16 * (U 86 13))) + x3)).toNat))))), some (.inl x3), some (.inl (w32 ((w32 (16 * (U 86 13))) + x3)))], [.inl (U 109 ((w32 ((w32 (16 * (U 86 13))) + x3)).toNat)), .inl (w32 (x2 + (U 109 ((w32 ((w32 (16 * (U 86 13))) + x3)).toNat))))], (am_sh, am_mm U)) R
        refine ev_seg (σ1 := (d, 163, 4, [some (.inr (.inr 86)), some (.inl x1), some (.inl (w32 ((w32 (x2 + (U 109 ((w32 ((w32 (16 * (U 86 13))) + x3)).toNat)))) - (U 109 ((w32 ((w32 (16 * (U 86 13))) + x3)).toNat))))), some (.inl (w32 (x3 + 1))), some (.inl (w32 ((w32 (16 * (U 86 13))) + x3)))], [], (am_sh, am_mm U))) 5 (fun _ => rfl) ?_
        exact ev_le (L := [some (.inr (.inr 86)), some (.inl x1), some (.inl (w32 ((w32 (x2 + (U 109 ((w32 ((w32 (16 * (U 86 13))) + x3)).toNat)))) - (U 109 ((w32 ((w32 (16 * (U 86 13))) + x3)).toNat))))), some (.inl (w32 (x3 + 1))), none]) ⟨rfl, ⟨rfl, ⟨rfl, ⟨rfl, trivial⟩⟩⟩⟩ ha2a22
set_option maxRecDepth 8000 in
theorem Tw_fewestPayments_r0 {N : Nat} {X : Nat → Int} {d : Nat} {U : am_U} {R : Option am_V × am_M} (h : EvK N X (Tw_fewestPayments_s4 (d + 1) 0 0 U) R) : EvK N X (Tw_fewestPayments_s0 (d + 1) U) R := by
  show Ev (am_kz N X) ((d + 1), 164, 0, [some (.inr (.inr 3)), some (.inr (.inr 44)), none, none], [], (am_sh, am_mm U)) R
  refine ev_seg (σ1 := ((d + 1), 164, 4, [some (.inr (.inr 3)), some (.inr (.inr 44)), some (.inl 0), some (.inl 0)], [], (am_sh, am_mm U))) 4 (fun _ => rfl) ?_
  exact h
set_option maxRecDepth 8000 in
theorem Tw_fewestPayments_r4 {N : Nat} {X : Nat → Int} {d : Nat} {x2 x3 : Int} {U : am_U} {R : Option am_V × am_M} (h : (((U 3 1) ≤ x3) → (((am_shl 1 x2) ≤ 4096) → EvK N X (Tw_fewestPayments_s58 (d + 1) x2 1 (am_upd U 44 0 0)) R) ∧ ((4096 < (am_shl 1 x2)) → R = rI (-1) U)) ∧ ((x3 < (U 3 1)) → (0 ≤ x3 ∧ x3 < 12) ∧ (((U 10 x3.toNat) = 0) → EvK N X (Tw_fewestPayments_s4 (d + 1) x2 (w32 (x3 + 1)) U) R) ∧ (((U 10 x3.toNat) ≠ 0) → (0 ≤ x2 ∧ x2 < 12) ∧ EvK N X (Tw_fewestPayments_s4 (d + 1) (w32 (x2 + 1)) (w32 (x3 + 1)) (am_upd U 11 x2.toNat (U 10 x3.toNat))) R))) : EvK N X (Tw_fewestPayments_s4 (d + 1) x2 x3 U) R := by
  show Ev (am_kz N X) ((d + 1), 164, 4, [some (.inr (.inr 3)), some (.inr (.inr 44)), some (.inl x2), some (.inl x3)], [], (am_sh, am_mm U)) R
  refine ev_br (P := (U 3 1) ≤ x3) (σ1 := ((d + 1), 164, 42, [some (.inr (.inr 3)), some (.inr (.inr 44)), some (.inl x2), some (.inl x3)], [], (am_sh, am_mm U))) (σ2 := ((d + 1), 164, 12, [some (.inr (.inr 3)), some (.inr (.inr 44)), some (.inl x2), some (.inl x3)], [], (am_sh, am_mm U))) 4 (fun _ => rfl) (fun hc => ?_) (fun hc => ?_)
  · have h1 := h.1 hc
    refine ev_br (P := (am_shl 1 x2) ≤ 4096) (σ1 := ((d + 1), 164, 52, [some (.inr (.inr 3)), some (.inr (.inr 44)), some (.inl x2), some (.inl x3)], [], (am_sh, am_mm U))) (σ2 := ((d + 1), 164, 50, [some (.inr (.inr 3)), some (.inr (.inr 44)), some (.inl x2), some (.inl x3)], [], (am_sh, am_mm U))) 6 (fun _ => rfl) (fun hc => ?_) (fun hc => ?_)
    · have h11 := h1.1 hc
      refine ev_seg (σ1 := ((d + 1), 164, 55, [some (.inr (.inr 3)), some (.inr (.inr 44)), some (.inl x2), some (.inl x3)], [.inl 0, .inl 0, .inr (.inr 44)], (am_sh, am_mm U))) 3 (fun _ => rfl) ?_
      refine eu_iast 44 (n := 4096) rfl (by decide) rfl (fun _ => rfl) (by decide) ?_
      show Ev (am_kz N X) ((d + 1), 164, 56, [some (.inr (.inr 3)), some (.inr (.inr 44)), some (.inl x2), some (.inl x3)], [], (am_sh, am_mm (am_upd U 44 0 0))) R
      refine ev_seg (σ1 := ((d + 1), 164, 58, [some (.inr (.inr 3)), some (.inr (.inr 44)), some (.inl x2), some (.inl 1)], [], (am_sh, am_mm (am_upd U 44 0 0)))) 2 (fun _ => rfl) ?_
      exact h11
    · have h12 := h1.2 (Int.not_le.mp hc)
      subst h12
      exact ev_end 2 (fun _ => rfl)
  · have h2 := h.2 (Int.not_le.mp hc)
    refine ev_seg (σ1 := ((d + 1), 164, 17, [some (.inr (.inr 3)), some (.inr (.inr 44)), some (.inl x2), some (.inl x3)], [.inl x3, .inr (.inr 10)], (am_sh, am_mm U))) 3 (fun _ => rfl) ?_
    refine eu_iald 10 (n := 12) rfl (by decide) rfl (fun _ => rfl) h2.1 ?_
    show Ev (am_kz N X) ((d + 1), 164, 18, [some (.inr (.inr 3)), some (.inr (.inr 44)), some (.inl x2), some (.inl x3)], [.inl (U 10 x3.toNat)], (am_sh, am_mm U)) R
    have h2a := h2.2
    refine ev_br (P := (U 10 x3.toNat) = 0) (σ1 := ((d + 1), 164, 36, [some (.inr (.inr 3)), some (.inr (.inr 44)), some (.inl x2), some (.inl x3)], [], (am_sh, am_mm U))) (σ2 := ((d + 1), 164, 21, [some (.inr (.inr 3)), some (.inr (.inr 44)), some (.inl x2), some (.inl x3)], [], (am_sh, am_mm U))) 1 (fun _ => rfl) (fun hc => ?_) (fun hc => ?_)
    · have h2a1 := h2a.1 hc
      refine ev_seg (σ1 := ((d + 1), 164, 4, [some (.inr (.inr 3)), some (.inr (.inr 44)), some (.inl x2), some (.inl (w32 (x3 + 1)))], [], (am_sh, am_mm U))) 2 (fun _ => rfl) ?_
      exact h2a1
    · have h2a2 := h2a.2 hc
      refine ev_seg (σ1 := ((d + 1), 164, 31, [some (.inr (.inr 3)), some (.inr (.inr 44)), some (.inl x2), some (.inl x3)], [.inl x3, .inr (.inr 10), .inl x2, .inr (.inr 11)], (am_sh, am_mm U))) 6 (fun _ => rfl) ?_
      refine eu_iald 10 (n := 12) rfl (by decide) rfl (fun _ => rfl) h2.1 ?_
      show Ev (am_kz N X) ((d + 1), 164, 32, [some (.inr (.inr 3)), some (.inr (.inr 44)), some (.inl x2), some (.inl x3)], [.inl (U 10 x3.toNat), .inl x2, .inr (.inr 11)], (am_sh, am_mm U)) R
      refine eu_iast 11 (n := 12) rfl (by decide) rfl (fun _ => rfl) h2a2.1 ?_
      show Ev (am_kz N X) ((d + 1), 164, 33, [some (.inr (.inr 3)), some (.inr (.inr 44)), some (.inl x2), some (.inl x3)], [], (am_sh, am_mm (am_upd U 11 x2.toNat (U 10 x3.toNat)))) R
      have h2a2a := h2a2.2
      refine ev_seg (σ1 := ((d + 1), 164, 4, [some (.inr (.inr 3)), some (.inr (.inr 44)), some (.inl (w32 (x2 + 1))), some (.inl (w32 (x3 + 1)))], [], (am_sh, am_mm (am_upd U 11 x2.toNat (U 10 x3.toNat))))) 3 (fun _ => rfl) ?_
      exact h2a2a
set_option maxRecDepth 8000 in
theorem Tw_fewestPayments_r58 {N : Nat} {X : Nat → Int} {d : Nat} {x2 x3 : Int} {U : am_U} {R : Option am_V × am_M} (h : (((am_shl 1 x2) ≤ x3) → (0 ≤ (w32 ((am_shl 1 x2) - 1)) ∧ (w32 ((am_shl 1 x2) - 1)) < 4096) ∧ R = rI (w32 (x2 - (am_and (U 44 ((w32 ((am_shl 1 x2) - 1)).toNat)) 15))) U) ∧ ((x3 < (am_shl 1 x2)) → ∃ U1 : am_U, EvK N X (Tw_fillSet_s0 d x3 x2 U) (rV U1) ∧ EvK N X (Tw_fewestPayments_s58 (d + 1) x2 (w32 (x3 + 1)) U1) R)) : EvK N X (Tw_fewestPayments_s58 (d + 1) x2 x3 U) R := by
  show Ev (am_kz N X) ((d + 1), 164, 58, [some (.inr (.inr 3)), some (.inr (.inr 44)), some (.inl x2), some (.inl x3)], [], (am_sh, am_mm U)) R
  refine ev_br (P := (am_shl 1 x2) ≤ x3) (σ1 := ((d + 1), 164, 78, [some (.inr (.inr 3)), some (.inr (.inr 44)), some (.inl x2), some (.inl x3)], [], (am_sh, am_mm U))) (σ2 := ((d + 1), 164, 65, [some (.inr (.inr 3)), some (.inr (.inr 44)), some (.inl x2), some (.inl x3)], [], (am_sh, am_mm U))) 5 (fun _ => rfl) (fun hc => ?_) (fun hc => ?_)
  · have h1 := h.1 hc
    refine ev_seg (σ1 := ((d + 1), 164, 85, [some (.inr (.inr 3)), some (.inr (.inr 44)), some (.inl x2), some (.inl x3)], [.inl (w32 ((am_shl 1 x2) - 1)), .inr (.inr 44), .inl x2], (am_sh, am_mm U))) 7 (fun _ => rfl) ?_
    refine eu_iald 44 (n := 4096) rfl (by decide) rfl (fun _ => rfl) h1.1 ?_
    show Ev (am_kz N X) ((d + 1), 164, 86, [some (.inr (.inr 3)), some (.inr (.inr 44)), some (.inl x2), some (.inl x3)], [.inl (U 44 ((w32 ((am_shl 1 x2) - 1)).toNat)), .inl x2], (am_sh, am_mm U)) R
    have h1a := h1.2
    subst h1a
    exact ev_end 4 (fun _ => rfl)
  · have h2 := h.2 (Int.not_le.mp hc)
    refine ev_seg (σ1 := ((d + 1), 164, 69, [some (.inr (.inr 3)), some (.inr (.inr 44)), some (.inl x2), some (.inl x3)], [.inl x2, .inl x3, .inr (.inr 44), .inr (.inr 3)], (am_sh, am_mm U))) 4 (fun _ => rfl) ?_
    obtain ⟨U1, h2c, h2a⟩ := h2
    refine ev_cal (σc := (Tw_fillSet_s0 d x3 x2 U)) (fun _ => rfl) h2c ?_
    show Ev (am_kz N X) ((d + 1), 164, 72, [some (.inr (.inr 3)), some (.inr (.inr 44)), some (.inl x2), some (.inl x3)], [], (am_sh, am_mm U1)) R
    refine ev_seg (σ1 := ((d + 1), 164, 58, [some (.inr (.inr 3)), some (.inr (.inr 44)), some (.inl x2), some (.inl (w32 (x3 + 1)))], [], (am_sh, am_mm U1))) 2 (fun _ => rfl) ?_
    exact h2a
set_option maxRecDepth 8000 in
theorem Rl_isTold_r0 {N : Nat} {X : Nat → Int} {d : Nat} {x1 : Int} {U : am_U} {R : Option am_V × am_M} (h : ((x1 < 3) → R = rI 0 U) ∧ ((3 ≤ x1) → ((1600 < x1) → R = rI 0 U) ∧ ((x1 ≤ 1600) → (((U 2 0) < 2) → R = rI 0 U) ∧ ((2 ≤ (U 2 0)) → (((U 2 0) ≤ 4) → (((U 2 1) < 1) → R = rI 0 U) ∧ ((1 ≤ (U 2 1)) → ((24 < (U 2 1)) → R = rI 0 U) ∧ (((U 2 1) ≤ 24) → ((x1 = (w32 (2 + (w32 (Int.tdiv (w32 ((U 2 0) * (w32 ((U 2 0) - 1)))) 2))))) → EvK N X (Rl_isTold_s63 d x1 2 U) R) ∧ ((x1 ≠ (w32 (2 + (w32 (Int.tdiv (w32 ((U 2 0) * (w32 ((U 2 0) - 1)))) 2))))) → R = rI 0 U)))) ∧ ((4 < (U 2 0)) → R = rI 0 U))))) : EvK N X (Rl_isTold_s0 d x1 U) R := by
  show Ev (am_kz N X) (d, 165, 0, [some (.inr (.inr 2)), some (.inl x1), none], [], (am_sh, am_mm U)) R
  refine ev_br (P := x1 < 3) (σ1 := (d, 165, 25, [some (.inr (.inr 2)), some (.inl x1), none], [], (am_sh, am_mm U))) (σ2 := (d, 165, 5, [some (.inr (.inr 2)), some (.inl x1), none], [], (am_sh, am_mm U))) 3 (fun _ => rfl) (fun hc => ?_) (fun hc => ?_)
  · have h1 := h.1 hc
    subst h1
    exact ev_end 2 (fun _ => rfl)
  · have h2 := h.2 (Int.not_lt.mp hc)
    refine ev_br (P := 1600 < x1) (σ1 := (d, 165, 25, [some (.inr (.inr 2)), some (.inl x1), none], [], (am_sh, am_mm U))) (σ2 := (d, 165, 11, [some (.inr (.inr 2)), some (.inl x1), none], [], (am_sh, am_mm U))) 4 (fun _ => rfl) (fun hc => ?_) (fun hc => ?_)
    · have h21 := h2.1 hc
      subst h21
      exact ev_end 2 (fun _ => rfl)
    · have h22 := h2.2 (Int.not_lt.mp hc)
      refine ev_seg (σ1 := (d, 165, 13, [some (.inr (.inr 2)), some (.inl x1), none], [.inl 0, .inr (.inr 2)], (am_sh, am_mm U))) 2 (fun _ => rfl) ?_
      refine eu_iald 2 (n := 1600) rfl (by decide) rfl (fun _ => rfl) (by decide) ?_
      show Ev (am_kz N X) (d, 165, 14, [some (.inr (.inr 2)), some (.inl x1), none], [.inl (U 2 0)], (am_sh, am_mm U)) R
      refine ev_br (P := (U 2 0) < 2) (σ1 := (d, 165, 25, [some (.inr (.inr 2)), some (.inl x1), none], [], (am_sh, am_mm U))) (σ2 := (d, 165, 18, [some (.inr (.inr 2)), some (.inl x1), none], [], (am_sh, am_mm U))) 2 (fun _ => rfl) (fun hc => ?_) (fun hc => ?_)
      · have h221 := h22.1 hc
        subst h221
        exact ev_end 2 (fun _ => rfl)
      · have h222 := h22.2 (Int.not_lt.mp hc)
        refine ev_seg (σ1 := (d, 165, 20, [some (.inr (.inr 2)), some (.inl x1), none], [.inl 0, .inr (.inr 2)], (am_sh, am_mm U))) 2 (fun _ => rfl) ?_
        refine eu_iald 2 (n := 1600) rfl (by decide) rfl (fun _ => rfl) (by decide) ?_
        show Ev (am_kz N X) (d, 165, 21, [some (.inr (.inr 2)), some (.inl x1), none], [.inl (U 2 0)], (am_sh, am_mm U)) R
        refine ev_br (P := (U 2 0) ≤ 4) (σ1 := (d, 165, 27, [some (.inr (.inr 2)), some (.inl x1), none], [], (am_sh, am_mm U))) (σ2 := (d, 165, 25, [some (.inr (.inr 2)), some (.inl x1), none], [], (am_sh, am_mm U))) 2 (fun _ => rfl) (fun hc => ?_) (fun hc => ?_)
        · have h2221 := h222.1 hc
          refine ev_seg (σ1 := (d, 165, 29, [some (.inr (.inr 2)), some (.inl x1), none], [.inl 1, .inr (.inr 2)], (am_sh, am_mm U))) 2 (fun _ => rfl) ?_
          refine eu_iald 2 (n := 1600) rfl (by decide) rfl (fun _ => rfl) (by decide) ?_
          show Ev (am_kz N X) (d, 165, 30, [some (.inr (.inr 2)), some (.inl x1), none], [.inl (U 2 1)], (am_sh, am_mm U)) R
          refine ev_br (P := (U 2 1) < 1) (σ1 := (d, 165, 59, [some (.inr (.inr 2)), some (.inl x1), none], [], (am_sh, am_mm U))) (σ2 := (d, 165, 34, [some (.inr (.inr 2)), some (.inl x1), none], [], (am_sh, am_mm U))) 2 (fun _ => rfl) (fun hc => ?_) (fun hc => ?_)
          · have h22211 := h2221.1 hc
            subst h22211
            exact ev_end 2 (fun _ => rfl)
          · have h22212 := h2221.2 (Int.not_lt.mp hc)
            refine ev_seg (σ1 := (d, 165, 36, [some (.inr (.inr 2)), some (.inl x1), none], [.inl 1, .inr (.inr 2)], (am_sh, am_mm U))) 2 (fun _ => rfl) ?_
            refine eu_iald 2 (n := 1600) rfl (by decide) rfl (fun _ => rfl) (by decide) ?_
            show Ev (am_kz N X) (d, 165, 37, [some (.inr (.inr 2)), some (.inl x1), none], [.inl (U 2 1)], (am_sh, am_mm U)) R
            refine ev_br (P := 24 < (U 2 1)) (σ1 := (d, 165, 59, [some (.inr (.inr 2)), some (.inl x1), none], [], (am_sh, am_mm U))) (σ2 := (d, 165, 42, [some (.inr (.inr 2)), some (.inl x1), none], [], (am_sh, am_mm U))) 2 (fun _ => rfl) (fun hc => ?_) (fun hc => ?_)
            · have h222121 := h22212.1 hc
              subst h222121
              exact ev_end 2 (fun _ => rfl)
            · have h222122 := h22212.2 (Int.not_lt.mp hc)
              refine ev_seg (σ1 := (d, 165, 46, [some (.inr (.inr 2)), some (.inl x1), none], [.inl 0, .inr (.inr 2), .inl 2, .inl x1], (am_sh, am_mm U))) 4 (fun _ => rfl) ?_
              refine eu_iald 2 (n := 1600) rfl (by decide) rfl (fun _ => rfl) (by decide) ?_
              show Ev (am_kz N X) (d, 165, 47, [some (.inr (.inr 2)), some (.inl x1), none], [.inl (U 2 0), .inl 2, .inl x1], (am_sh, am_mm U)) R
              refine ev_seg (σ1 := (d, 165, 49, [some (.inr (.inr 2)), some (.inl x1), none], [.inl 0, .inr (.inr 2), .inl (U 2 0), .inl 2, .inl x1], (am_sh, am_mm U))) 2 (fun _ => rfl) ?_
              refine eu_iald 2 (n := 1600) rfl (by decide) rfl (fun _ => rfl) (by decide) ?_
              show Ev (am_kz N X) (d, 165, 50, [some (.inr (.inr 2)), some (.inl x1), none], [.inl (U 2 0), .inl (U 2 0), .inl 2, .inl x1], (am_sh, am_mm U)) R
              refine ev_seg (σ1 := (d, 165, 54, [some (.inr (.inr 2)), some (.inl x1), none], [.inl 2, .inl (w32 ((U 2 0) * (w32 ((U 2 0) - 1)))), .inl 2, .inl x1], (am_sh, am_mm U))) 4 (fun _ => rfl) ?_
              refine ev_idiv rfl (by decide) ?_
              show Ev (am_kz N X) (d, 165, 55, [some (.inr (.inr 2)), some (.inl x1), none], [.inl (w32 (Int.tdiv (w32 ((U 2 0) * (w32 ((U 2 0) - 1)))) 2)), .inl 2, .inl x1], (am_sh, am_mm U)) R
              refine ev_br (P := x1 = (w32 (2 + (w32 (Int.tdiv (w32 ((U 2 0) * (w32 ((U 2 0) - 1)))) 2))))) (σ1 := (d, 165, 61, [some (.inr (.inr 2)), some (.inl x1), none], [], (am_sh, am_mm U))) (σ2 := (d, 165, 59, [some (.inr (.inr 2)), some (.inl x1), none], [], (am_sh, am_mm U))) 2 (fun _ => rfl) (fun hc => ?_) (fun hc => ?_)
              · have h2221221 := h222122.1 hc
                refine ev_seg (σ1 := (d, 165, 63, [some (.inr (.inr 2)), some (.inl x1), some (.inl 2)], [], (am_sh, am_mm U))) 2 (fun _ => rfl) ?_
                exact h2221221
              · have h2221222 := h222122.2 hc
                subst h2221222
                exact ev_end 2 (fun _ => rfl)
        · have h2222 := h222.2 (Int.not_le.mp hc)
          subst h2222
          exact ev_end 2 (fun _ => rfl)
set_option maxRecDepth 8000 in
theorem Rl_isTold_r63 {N : Nat} {X : Nat → Int} {d : Nat} {x1 x2 : Int} {U : am_U} {R : Option am_V × am_M} (h : ((x1 ≤ x2) → R = rI 1 U) ∧ ((x2 < x1) → (0 ≤ x2 ∧ x2 < 1600) ∧ (((U 2 x2.toNat) ≤ 1) → EvK N X (Rl_isTold_s63 d x1 (w32 (x2 + 1)) U) R) ∧ ((1 < (U 2 x2.toNat)) → R = rI 0 U))) : EvK N X (Rl_isTold_s63 d x1 x2 U) R := by
  show Ev (am_kz N X) (d, 165, 63, [some (.inr (.inr 2)), some (.inl x1), some (.inl x2)], [], (am_sh, am_mm U)) R
  refine ev_br (P := x1 ≤ x2) (σ1 := (d, 165, 83, [some (.inr (.inr 2)), some (.inl x1), some (.inl x2)], [], (am_sh, am_mm U))) (σ2 := (d, 165, 68, [some (.inr (.inr 2)), some (.inl x1), some (.inl x2)], [], (am_sh, am_mm U))) 3 (fun _ => rfl) (fun hc => ?_) (fun hc => ?_)
  · have h1 := h.1 hc
    subst h1
    exact ev_end 2 (fun _ => rfl)
  · have h2 := h.2 (Int.not_le.mp hc)
    refine ev_seg (σ1 := (d, 165, 70, [some (.inr (.inr 2)), some (.inl x1), some (.inl x2)], [.inl x2, .inr (.inr 2)], (am_sh, am_mm U))) 2 (fun _ => rfl) ?_
    refine eu_iald 2 (n := 1600) rfl (by decide) rfl (fun _ => rfl) h2.1 ?_
    show Ev (am_kz N X) (d, 165, 71, [some (.inr (.inr 2)), some (.inl x1), some (.inl x2)], [.inl (U 2 x2.toNat)], (am_sh, am_mm U)) R
    have h2a := h2.2
    refine ev_br (P := (U 2 x2.toNat) ≤ 1) (σ1 := (d, 165, 77, [some (.inr (.inr 2)), some (.inl x1), some (.inl x2)], [], (am_sh, am_mm U))) (σ2 := (d, 165, 75, [some (.inr (.inr 2)), some (.inl x1), some (.inl x2)], [], (am_sh, am_mm U))) 2 (fun _ => rfl) (fun hc => ?_) (fun hc => ?_)
    · have h2a1 := h2a.1 hc
      refine ev_seg (σ1 := (d, 165, 63, [some (.inr (.inr 2)), some (.inl x1), some (.inl (w32 (x2 + 1)))], [], (am_sh, am_mm U))) 2 (fun _ => rfl) ?_
      exact h2a1
    · have h2a2 := h2a.2 (Int.not_le.mp hc)
      subst h2a2
      exact ev_end 2 (fun _ => rfl)
set_option maxRecDepth 8000 in
theorem Rl_solve_r0 {N : Nat} {X : Nat → Int} {d : Nat} {U : am_U} {R : Option am_V × am_M} (h : ∃ U1 : am_U, EvK N X (Rl_findFoes_s0 d (am_upd (am_upd (am_upd U 78 3 (U 2 0)) 78 4 (w32 ((am_shl 2 (U 2 1)) - 2))) 78 5 0)) (rV U1) ∧ ∃ U2 : am_U, EvK N X (Rl_search_s0 d 0 U1) (rV U2) ∧ R = rV U2) : EvK N X (Rl_solve_s0 (d + 1) U) R := by
  show Ev (am_kz N X) ((d + 1), 166, 0, [some (.inr (.inr 78)), some (.inr (.inr 2))], [], (am_sh, am_mm U)) R
  refine ev_seg (σ1 := ((d + 1), 166, 3, [some (.inr (.inr 78)), some (.inr (.inr 2))], [.inl 0, .inr (.inr 2), .inr (.inr 78)], (am_sh, am_mm U))) 3 (fun _ => rfl) ?_
  refine eu_iald 2 (n := 1600) rfl (by decide) rfl (fun _ => rfl) (by decide) ?_
  show Ev (am_kz N X) ((d + 1), 166, 4, [some (.inr (.inr 78)), some (.inr (.inr 2))], [.inl (U 2 0), .inr (.inr 78)], (am_sh, am_mm U)) R
  refine eu_puti 78 (n := 6) rfl (by decide) rfl rfl ?_
  show Ev (am_kz N X) ((d + 1), 166, 7, [some (.inr (.inr 78)), some (.inr (.inr 2))], [], (am_sh, am_mm (am_upd U 78 3 (U 2 0)))) R
  refine ev_seg (σ1 := ((d + 1), 166, 11, [some (.inr (.inr 78)), some (.inr (.inr 2))], [.inl 1, .inr (.inr 2), .inl 2, .inr (.inr 78)], (am_sh, am_mm (am_upd U 78 3 (U 2 0))))) 4 (fun _ => rfl) ?_
  refine eu_iald 2 (n := 1600) rfl (by decide) rfl (fun _ => rfl) (by decide) ?_
  show Ev (am_kz N X) ((d + 1), 166, 12, [some (.inr (.inr 78)), some (.inr (.inr 2))], [.inl (U 2 1), .inl 2, .inr (.inr 78)], (am_sh, am_mm (am_upd U 78 3 (U 2 0)))) R
  refine ev_seg (σ1 := ((d + 1), 166, 15, [some (.inr (.inr 78)), some (.inr (.inr 2))], [.inl (w32 ((am_shl 2 (U 2 1)) - 2)), .inr (.inr 78)], (am_sh, am_mm (am_upd U 78 3 (U 2 0))))) 3 (fun _ => rfl) ?_
  refine eu_puti 78 (n := 6) rfl (by decide) rfl rfl ?_
  show Ev (am_kz N X) ((d + 1), 166, 18, [some (.inr (.inr 78)), some (.inr (.inr 2))], [], (am_sh, am_mm (am_upd (am_upd U 78 3 (U 2 0)) 78 4 (w32 ((am_shl 2 (U 2 1)) - 2))))) R
  refine ev_seg (σ1 := ((d + 1), 166, 20, [some (.inr (.inr 78)), some (.inr (.inr 2))], [.inl 0, .inr (.inr 78)], (am_sh, am_mm (am_upd (am_upd U 78 3 (U 2 0)) 78 4 (w32 ((am_shl 2 (U 2 1)) - 2)))))) 2 (fun _ => rfl) ?_
  refine eu_puti 78 (n := 6) rfl (by decide) rfl rfl ?_
  show Ev (am_kz N X) ((d + 1), 166, 23, [some (.inr (.inr 78)), some (.inr (.inr 2))], [], (am_sh, am_mm (am_upd (am_upd (am_upd U 78 3 (U 2 0)) 78 4 (w32 ((am_shl 2 (U 2 1)) - 2))) 78 5 0))) R
  refine ev_seg (σ1 := ((d + 1), 166, 24, [some (.inr (.inr 78)), some (.inr (.inr 2))], [.inr (.inr 78)], (am_sh, am_mm (am_upd (am_upd (am_upd U 78 3 (U 2 0)) 78 4 (w32 ((am_shl 2 (U 2 1)) - 2))) 78 5 0)))) 1 (fun _ => rfl) ?_
  obtain ⟨U1, hc, ha⟩ := h
  refine ev_cal (σc := (Rl_findFoes_s0 d (am_upd (am_upd (am_upd U 78 3 (U 2 0)) 78 4 (w32 ((am_shl 2 (U 2 1)) - 2))) 78 5 0))) (fun _ => rfl) hc ?_
  show Ev (am_kz N X) ((d + 1), 166, 27, [some (.inr (.inr 78)), some (.inr (.inr 2))], [], (am_sh, am_mm U1)) R
  refine ev_seg (σ1 := ((d + 1), 166, 30, [some (.inr (.inr 78)), some (.inr (.inr 2))], [.inr (.inr 2), .inl 0, .inr (.inr 78)], (am_sh, am_mm U1))) 3 (fun _ => rfl) ?_
  obtain ⟨U2, hac, haa⟩ := ha
  refine ev_cal (σc := (Rl_search_s0 d 0 U1)) (fun _ => rfl) hac ?_
  show Ev (am_kz N X) ((d + 1), 166, 33, [some (.inr (.inr 78)), some (.inr (.inr 2))], [], (am_sh, am_mm U2)) R
  subst haa
  exact ev_end 1 (fun _ => rfl)
set_option maxRecDepth 8000 in
theorem M_finds_r0 {N : Nat} {X : Nat → Int} {d : Nat} {U : am_U} {R : Option am_V × am_M} (h : EvK N X (M_finds_s9 (d + 1) 1 0 (am_upd U 86 84 0)) R) : EvK N X (M_finds_s0 (d + 1) U) R := by
  show Ev (am_kz N X) ((d + 1), 167, 0, [some (.inr (.inr 86)), none, none, none, none], [], (am_sh, am_mm U)) R
  refine ev_seg (σ1 := ((d + 1), 167, 2, [some (.inr (.inr 86)), none, none, none, none], [.inl 0, .inr (.inr 86)], (am_sh, am_mm U))) 2 (fun _ => rfl) ?_
  refine eu_puti 86 (n := 90) rfl (by decide) rfl rfl ?_
  show Ev (am_kz N X) ((d + 1), 167, 5, [some (.inr (.inr 86)), none, none, none, none], [], (am_sh, am_mm (am_upd U 86 84 0))) R
  refine ev_seg (σ1 := ((d + 1), 167, 9, [some (.inr (.inr 86)), some (.inl 1), some (.inl 0), none, none], [], (am_sh, am_mm (am_upd U 86 84 0)))) 4 (fun _ => rfl) ?_
  exact h
set_option maxRecDepth 8000 in
theorem M_finds_r9 {N : Nat} {X : Nat → Int} {d : Nat} {x1 x2 : Int} {U : am_U} {R : Option am_V × am_M} (h : (((U 86 82) ≤ x2) → EvK N X (M_finds_s32 (d + 1) x1 0 U) R) ∧ ((x2 < (U 86 82)) → EvK N X (M_finds_s9 (d + 1) (w32 (x1 * (U 86 83))) (w32 (x2 + 1)) U) R)) : EvK N X (M_finds_s9 (d + 1) x1 x2 U) R := by
  show Ev (am_kz N X) ((d + 1), 167, 9, [some (.inr (.inr 86)), some (.inl x1), some (.inl x2), none, none], [], (am_sh, am_mm U)) R
  refine ev_br (P := (U 86 82) ≤ x2) (σ1 := ((d + 1), 167, 30, [some (.inr (.inr 86)), some (.inl x1), some (.inl x2), none, none], [], (am_sh, am_mm U))) (σ2 := ((d + 1), 167, 17, [some (.inr (.inr 86)), some (.inl x1), some (.inl x2), none, none], [], (am_sh, am_mm U))) 4 (fun _ => rfl) (fun hc => ?_) (fun hc => ?_)
  · have h1 := h.1 hc
    refine ev_seg (σ1 := ((d + 1), 167, 32, [some (.inr (.inr 86)), some (.inl x1), some (.inl 0), none, none], [], (am_sh, am_mm U))) 2 (fun _ => rfl) ?_
    exact h1
  · have h2 := h.2 (Int.not_le.mp hc)
    refine ev_seg (σ1 := ((d + 1), 167, 9, [some (.inr (.inr 86)), some (.inl (w32 (x1 * (U 86 83)))), some (.inl (w32 (x2 + 1))), none, none], [], (am_sh, am_mm U))) 7 (fun _ => rfl) ?_
    exact h2
set_option maxRecDepth 8000 in
theorem M_finds_r32 {N : Nat} {X : Nat → Int} {d : Nat} {x1 x2 : Int} {U : am_U} {R : Option am_V × am_M} (h : ((x1 ≤ x2) → R = rV U) ∧ ((x2 < x1) → EvK N X (M_finds_s47 (d + 1) x1 x2 x2 (w32 ((U 86 82) - 1)) U) R)) : EvK N X (M_finds_s32 (d + 1) x1 x2 U) R := by
  show Ev (am_kz N X) ((d + 1), 167, 32, [some (.inr (.inr 86)), some (.inl x1), some (.inl x2), none, none], [], (am_sh, am_mm U)) R
  refine ev_br (P := x1 ≤ x2) (σ1 := ((d + 1), 167, 145, [some (.inr (.inr 86)), some (.inl x1), some (.inl x2), none, none], [], (am_sh, am_mm U))) (σ2 := ((d + 1), 167, 37, [some (.inr (.inr 86)), some (.inl x1), some (.inl x2), none, none], [], (am_sh, am_mm U))) 3 (fun _ => rfl) (fun hc => ?_) (fun hc => ?_)
  · have h1 := h.1 hc
    subst h1
    exact ev_end 1 (fun _ => rfl)
  · have h2 := h.2 (Int.not_le.mp hc)
    refine ev_seg (σ1 := ((d + 1), 167, 47, [some (.inr (.inr 86)), some (.inl x1), some (.inl x2), some (.inl x2), some (.inl (w32 ((U 86 82) - 1)))], [], (am_sh, am_mm U))) 7 (fun _ => rfl) ?_
    exact h2
set_option maxRecDepth 8000 in
theorem M_finds_r47 {N : Nat} {X : Nat → Int} {d : Nat} {x1 x2 x3 x4 : Int} {U : am_U} {R : Option am_V × am_M} (h : ((x4 < 0) → ∃ (r1 : Int) (U1 : am_U), EvK N X (M_isRow_s0 d U) (rI r1 U1) ∧ ((r1 ≠ 0) → EvK N X (M_finds_s93 (d + 1) x1 x2 x3 0 U1) R) ∧ ((r1 = 0) → EvK N X (M_finds_s32 (d + 1) x1 (w32 (x2 + 1)) U1) R)) ∧ ((0 ≤ x4) → (U 86 83) ≠ 0 ∧ (0 ≤ x4 ∧ x4 < 4) ∧ (U 86 83) ≠ 0 ∧ EvK N X (M_finds_s47 (d + 1) x1 x2 (w32 (Int.tdiv x3 (U 86 83))) (w32 (x4 + (-1))) (am_upd U 136 x4.toNat (w32 (1 + (Int.tmod x3 (U 86 83)))))) R)) : EvK N X (M_finds_s47 (d + 1) x1 x2 x3 x4 U) R := by
  show Ev (am_kz N X) ((d + 1), 167, 47, [some (.inr (.inr 86)), some (.inl x1), some (.inl x2), some (.inl x3), some (.inl x4)], [], (am_sh, am_mm U)) R
  refine ev_br (P := x4 < 0) (σ1 := ((d + 1), 167, 80, [some (.inr (.inr 86)), some (.inl x1), some (.inl x2), some (.inl x3), some (.inl x4)], [], (am_sh, am_mm U))) (σ2 := ((d + 1), 167, 52, [some (.inr (.inr 86)), some (.inl x1), some (.inl x2), some (.inl x3), some (.inl x4)], [], (am_sh, am_mm U))) 2 (fun _ => rfl) (fun hc => ?_) (fun hc => ?_)
  · have h1 := h.1 hc
    refine ev_seg (σ1 := ((d + 1), 167, 81, [some (.inr (.inr 86)), some (.inl x1), some (.inl x2), some (.inl x3), some (.inl x4)], [.inr (.inr 86)], (am_sh, am_mm U))) 1 (fun _ => rfl) ?_
    obtain ⟨r1, U1, h1c, h1a⟩ := h1
    refine ev_cal (σc := (M_isRow_s0 d U)) (fun _ => rfl) h1c ?_
    show Ev (am_kz N X) ((d + 1), 167, 84, [some (.inr (.inr 86)), some (.inl x1), some (.inl x2), some (.inl x3), some (.inl x4)], [.inl r1], (am_sh, am_mm U1)) R
    refine ev_br (P := ¬ r1 = 0) (σ1 := ((d + 1), 167, 90, [some (.inr (.inr 86)), some (.inl x1), some (.inl x2), some (.inl x3), some (.inl x4)], [], (am_sh, am_mm U1))) (σ2 := ((d + 1), 167, 87, [some (.inr (.inr 86)), some (.inl x1), some (.inl x2), some (.inl x3), some (.inl x4)], [], (am_sh, am_mm U1))) 1 (fun _ => rfl) (fun hc => ?_) (fun hc => ?_)
    · have h1a1 := h1a.1 hc
      refine ev_seg (σ1 := ((d + 1), 167, 93, [some (.inr (.inr 86)), some (.inl x1), some (.inl x2), some (.inl x3), some (.inl 0)], [], (am_sh, am_mm U1))) 2 (fun _ => rfl) ?_
      exact h1a1
    · have h1a2 := h1a.2 (Decidable.not_not.mp hc)
      refine ev_seg (σ1 := ((d + 1), 167, 32, [some (.inr (.inr 86)), some (.inl x1), some (.inl (w32 (x2 + 1))), some (.inl x3), some (.inl x4)], [], (am_sh, am_mm U1))) 3 (fun _ => rfl) ?_
      exact ev_le (L := [some (.inr (.inr 86)), some (.inl x1), some (.inl (w32 (x2 + 1))), none, none]) ⟨rfl, ⟨rfl, ⟨rfl, trivial⟩⟩⟩ h1a2
  · have h2 := h.2 (Int.not_lt.mp hc)
    refine ev_seg (σ1 := ((d + 1), 167, 64, [some (.inr (.inr 86)), some (.inl x1), some (.inl x2), some (.inl x3), some (.inl x4)], [.inl (U 86 83), .inl x3, .inl 1, .inl x4, .inr (.inr 136)], (am_sh, am_mm U))) 7 (fun _ => rfl) ?_
    refine ev_irem rfl h2.1 ?_
    show Ev (am_kz N X) ((d + 1), 167, 65, [some (.inr (.inr 86)), some (.inl x1), some (.inl x2), some (.inl x3), some (.inl x4)], [.inl (Int.tmod x3 (U 86 83)), .inl 1, .inl x4, .inr (.inr 136)], (am_sh, am_mm U)) R
    have h2a := h2.2
    refine ev_seg (σ1 := ((d + 1), 167, 66, [some (.inr (.inr 86)), some (.inl x1), some (.inl x2), some (.inl x3), some (.inl x4)], [.inl (w32 (1 + (Int.tmod x3 (U 86 83)))), .inl x4, .inr (.inr 136)], (am_sh, am_mm U))) 1 (fun _ => rfl) ?_
    refine eu_iast 136 (n := 4) rfl (by decide) rfl (fun _ => rfl) h2a.1 ?_
    show Ev (am_kz N X) ((d + 1), 167, 67, [some (.inr (.inr 86)), some (.inl x1), some (.inl x2), some (.inl x3), some (.inl x4)], [], (am_sh, am_mm (am_upd U 136 x4.toNat (w32 (1 + (Int.tmod x3 (U 86 83))))))) R
    have h2aa := h2a.2
    refine ev_seg (σ1 := ((d + 1), 167, 72, [some (.inr (.inr 86)), some (.inl x1), some (.inl x2), some (.inl x3), some (.inl x4)], [.inl (U 86 83), .inl x3], (am_sh, am_mm (am_upd U 136 x4.toNat (w32 (1 + (Int.tmod x3 (U 86 83)))))))) 3 (fun _ => rfl) ?_
    refine ev_idiv rfl h2aa.1 ?_
    show Ev (am_kz N X) ((d + 1), 167, 73, [some (.inr (.inr 86)), some (.inl x1), some (.inl x2), some (.inl x3), some (.inl x4)], [.inl (w32 (Int.tdiv x3 (U 86 83)))], (am_sh, am_mm (am_upd U 136 x4.toNat (w32 (1 + (Int.tmod x3 (U 86 83))))))) R
    have h2aaa := h2aa.2
    refine ev_seg (σ1 := ((d + 1), 167, 47, [some (.inr (.inr 86)), some (.inl x1), some (.inl x2), some (.inl (w32 (Int.tdiv x3 (U 86 83)))), some (.inl (w32 (x4 + (-1))))], [], (am_sh, am_mm (am_upd U 136 x4.toNat (w32 (1 + (Int.tmod x3 (U 86 83)))))))) 3 (fun _ => rfl) ?_
    exact h2aaa
set_option maxRecDepth 8000 in
theorem M_finds_r93 {N : Nat} {X : Nat → Int} {d : Nat} {x1 x2 x3 x4 : Int} {U : am_U} {R : Option am_V × am_M} (h : (((U 86 82) ≤ x4) → EvK N X (M_finds_s32 (d + 1) x1 (w32 (x2 + 1)) (am_upd U 86 84 (w32 ((U 86 84) + 1)))) R) ∧ ((x4 < (U 86 82)) → (((U 86 84) ≠ 0) → EvK N X (M_finds_s32 (d + 1) x1 (w32 (x2 + 1)) (am_upd U 86 84 (w32 ((U 86 84) + 1)))) R) ∧ (((U 86 84) = 0) → (0 ≤ x4 ∧ x4 < 4) ∧ EvK N X (M_finds_s93 (d + 1) x1 x2 x3 (w32 (x4 + 1)) (am_upd U 137 x4.toNat (U 136 x4.toNat))) R))) : EvK N X (M_finds_s93 (d + 1) x1 x2 x3 x4 U) R := by
  show Ev (am_kz N X) ((d + 1), 167, 93, [some (.inr (.inr 86)), some (.inl x1), some (.inl x2), some (.inl x3), some (.inl x4)], [], (am_sh, am_mm U)) R
  refine ev_br (P := (U 86 82) ≤ x4) (σ1 := ((d + 1), 167, 129, [some (.inr (.inr 86)), some (.inl x1), some (.inl x2), some (.inl x3), some (.inl x4)], [], (am_sh, am_mm U))) (σ2 := ((d + 1), 167, 102, [some (.inr (.inr 86)), some (.inl x1), some (.inl x2), some (.inl x3), some (.inl x4)], [], (am_sh, am_mm U))) 4 (fun _ => rfl) (fun hc => ?_) (fun hc => ?_)
  · have h1 := h.1 hc
    refine ev_seg (σ1 := ((d + 1), 167, 136, [some (.inr (.inr 86)), some (.inl x1), some (.inl x2), some (.inl x3), some (.inl x4)], [.inl (w32 ((U 86 84) + 1)), .inr (.inr 86)], (am_sh, am_mm U))) 5 (fun _ => rfl) ?_
    refine eu_puti 86 (n := 90) rfl (by decide) rfl rfl ?_
    show Ev (am_kz N X) ((d + 1), 167, 139, [some (.inr (.inr 86)), some (.inl x1), some (.inl x2), some (.inl x3), some (.inl x4)], [], (am_sh, am_mm (am_upd U 86 84 (w32 ((U 86 84) + 1))))) R
    refine ev_seg (σ1 := ((d + 1), 167, 32, [some (.inr (.inr 86)), some (.inl x1), some (.inl (w32 (x2 + 1))), some (.inl x3), some (.inl x4)], [], (am_sh, am_mm (am_upd U 86 84 (w32 ((U 86 84) + 1)))))) 2 (fun _ => rfl) ?_
    exact ev_le (L := [some (.inr (.inr 86)), some (.inl x1), some (.inl (w32 (x2 + 1))), none, none]) ⟨rfl, ⟨rfl, ⟨rfl, trivial⟩⟩⟩ h1
  · have h2 := h.2 (Int.not_le.mp hc)
    refine ev_br (P := ¬ (U 86 84) = 0) (σ1 := ((d + 1), 167, 129, [some (.inr (.inr 86)), some (.inl x1), some (.inl x2), some (.inl x3), some (.inl x4)], [], (am_sh, am_mm U))) (σ2 := ((d + 1), 167, 109, [some (.inr (.inr 86)), some (.inl x1), some (.inl x2), some (.inl x3), some (.inl x4)], [], (am_sh, am_mm U))) 3 (fun _ => rfl) (fun hc => ?_) (fun hc => ?_)
    · have h21 := h2.1 hc
      refine ev_seg (σ1 := ((d + 1), 167, 136, [some (.inr (.inr 86)), some (.inl x1), some (.inl x2), some (.inl x3), some (.inl x4)], [.inl (w32 ((U 86 84) + 1)), .inr (.inr 86)], (am_sh, am_mm U))) 5 (fun _ => rfl) ?_
      refine eu_puti 86 (n := 90) rfl (by decide) rfl rfl ?_
      show Ev (am_kz N X) ((d + 1), 167, 139, [some (.inr (.inr 86)), some (.inl x1), some (.inl x2), some (.inl x3), some (.inl x4)], [], (am_sh, am_mm (am_upd U 86 84 (w32 ((U 86 84) + 1))))) R
      refine ev_seg (σ1 := ((d + 1), 167, 32, [some (.inr (.inr 86)), some (.inl x1), some (.inl (w32 (x2 + 1))), some (.inl x3), some (.inl x4)], [], (am_sh, am_mm (am_upd U 86 84 (w32 ((U 86 84) + 1)))))) 2 (fun _ => rfl) ?_
      exact ev_le (L := [some (.inr (.inr 86)), some (.inl x1), some (.inl (w32 (x2 + 1))), none, none]) ⟨rfl, ⟨rfl, ⟨rfl, trivial⟩⟩⟩ h21
    · have h22 := h2.2 (Decidable.not_not.mp hc)
      refine ev_seg (σ1 := ((d + 1), 167, 121, [some (.inr (.inr 86)), some (.inl x1), some (.inl x2), some (.inl x3), some (.inl x4)], [.inl x4, .inr (.inr 136), .inl x4, .inr (.inr 137)], (am_sh, am_mm U))) 6 (fun _ => rfl) ?_
      refine eu_iald 136 (n := 4) rfl (by decide) rfl (fun _ => rfl) h22.1 ?_
      show Ev (am_kz N X) ((d + 1), 167, 122, [some (.inr (.inr 86)), some (.inl x1), some (.inl x2), some (.inl x3), some (.inl x4)], [.inl (U 136 x4.toNat), .inl x4, .inr (.inr 137)], (am_sh, am_mm U)) R
      have h22a := h22.2
      refine eu_iast 137 (n := 4) rfl (by decide) rfl (fun _ => rfl) h22.1 ?_
      show Ev (am_kz N X) ((d + 1), 167, 123, [some (.inr (.inr 86)), some (.inl x1), some (.inl x2), some (.inl x3), some (.inl x4)], [], (am_sh, am_mm (am_upd U 137 x4.toNat (U 136 x4.toNat)))) R
      refine ev_seg (σ1 := ((d + 1), 167, 93, [some (.inr (.inr 86)), some (.inl x1), some (.inl x2), some (.inl x3), some (.inl (w32 (x4 + 1)))], [], (am_sh, am_mm (am_upd U 137 x4.toNat (U 136 x4.toNat))))) 2 (fun _ => rfl) ?_
      exact h22a
