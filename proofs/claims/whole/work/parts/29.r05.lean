set_option maxRecDepth 8000 in
theorem M_isRow_r0 {N : Nat} {X : Nat → Int} {d : Nat} {U : am_U} {R : Option am_V × am_M} (h : EvK N X (M_isRow_s4 (d + 1) 0 0 U) R) : EvK N X (M_isRow_s0 (d + 1) U) R := by
  show Ev (am_kz N X) ((d + 1), 243, 0, [some (.inr (.inr 86)), none, none, none], [], (am_sh, am_mm U)) R
  refine ev_seg (σ1 := ((d + 1), 243, 4, [some (.inr (.inr 86)), some (.inl 0), some (.inl 0), none], [], (am_sh, am_mm U))) 4 (fun _ => rfl) ?_
  exact h
set_option maxRecDepth 8000 in
theorem M_isRow_r4 {N : Nat} {X : Nat → Int} {d : Nat} {x1 x2 : Int} {U : am_U} {R : Option am_V × am_M} (h : (((U 86 82) ≤ x2) → R = rI 1 U) ∧ ((x2 < (U 86 82)) → EvK N X (M_isRow_s16 (d + 1) x1 x2 (w32 (x2 + 1)) U) R)) : EvK N X (M_isRow_s4 (d + 1) x1 x2 U) R := by
  show Ev (am_kz N X) ((d + 1), 243, 4, [some (.inr (.inr 86)), some (.inl x1), some (.inl x2), none], [], (am_sh, am_mm U)) R
  refine ev_br (P := (U 86 82) ≤ x2) (σ1 := ((d + 1), 243, 77, [some (.inr (.inr 86)), some (.inl x1), some (.inl x2), none], [], (am_sh, am_mm U))) (σ2 := ((d + 1), 243, 12, [some (.inr (.inr 86)), some (.inl x1), some (.inl x2), none], [], (am_sh, am_mm U))) 4 (fun _ => rfl) (fun hc => ?_) (fun hc => ?_)
  · have h1 := h.1 hc
    subst h1
    exact ev_end 2 (fun _ => rfl)
  · have h2 := h.2 (Int.not_le.mp hc)
    refine ev_seg (σ1 := ((d + 1), 243, 16, [some (.inr (.inr 86)), some (.inl x1), some (.inl x2), some (.inl (w32 (x2 + 1)))], [], (am_sh, am_mm U))) 4 (fun _ => rfl) ?_
    exact h2
set_option maxRecDepth 8000 in
theorem M_isRow_r16 {N : Nat} {X : Nat → Int} {d : Nat} {x1 x2 x3 : Int} {U : am_U} {R : Option am_V × am_M} (h : (((U 86 82) ≤ x3) → EvK N X (M_isRow_s4 (d + 1) x1 (w32 (x2 + 1)) U) R) ∧ ((x3 < (U 86 82)) → (0 ≤ x2 ∧ x2 < 4) ∧ (0 ≤ x3 ∧ x3 < 4) ∧ ∃ (r1 : Int) (U1 : am_U), EvK N X (M_gcd_s0 d (U 136 x2.toNat) (U 136 x3.toNat) U) (rJ r1 U1) ∧ ((r1 ≤ 1) → (0 ≤ x1 ∧ x1 < 6) ∧ ((0 = (U1 135 x1.toNat)) → EvK N X (M_isRow_s16 (d + 1) (w32 (x1 + 1)) x2 (w32 (x3 + 1)) U1) R) ∧ ((0 ≠ (U1 135 x1.toNat)) → R = rI 0 U1)) ∧ ((1 < r1) → (0 ≤ x1 ∧ x1 < 6) ∧ ((1 = (U1 135 x1.toNat)) → EvK N X (M_isRow_s16 (d + 1) (w32 (x1 + 1)) x2 (w32 (x3 + 1)) U1) R) ∧ ((1 ≠ (U1 135 x1.toNat)) → R = rI 0 U1)))) : EvK N X (M_isRow_s16 (d + 1) x1 x2 x3 U) R := by
  show Ev (am_kz N X) ((d + 1), 243, 16, [some (.inr (.inr 86)), some (.inl x1), some (.inl x2), some (.inl x3)], [], (am_sh, am_mm U)) R
  refine ev_br (P := (U 86 82) ≤ x3) (σ1 := ((d + 1), 243, 71, [some (.inr (.inr 86)), some (.inl x1), some (.inl x2), some (.inl x3)], [], (am_sh, am_mm U))) (σ2 := ((d + 1), 243, 24, [some (.inr (.inr 86)), some (.inl x1), some (.inl x2), some (.inl x3)], [], (am_sh, am_mm U))) 4 (fun _ => rfl) (fun hc => ?_) (fun hc => ?_)
  · have h1 := h.1 hc
    refine ev_seg (σ1 := ((d + 1), 243, 4, [some (.inr (.inr 86)), some (.inl x1), some (.inl (w32 (x2 + 1))), some (.inl x3)], [], (am_sh, am_mm U))) 2 (fun _ => rfl) ?_
    exact ev_le (L := [some (.inr (.inr 86)), some (.inl x1), some (.inl (w32 (x2 + 1))), none]) ⟨rfl, ⟨rfl, ⟨rfl, trivial⟩⟩⟩ h1
  · have h2 := h.2 (Int.not_le.mp hc)
    refine ev_seg (σ1 := ((d + 1), 243, 29, [some (.inr (.inr 86)), some (.inl x1), some (.inl x2), some (.inl x3)], [.inl x2, .inr (.inr 136)], (am_sh, am_mm U))) 3 (fun _ => rfl) ?_
    refine eu_iald 136 (n := 4) rfl (by decide) rfl (fun _ => rfl) h2.1 ?_
    show Ev (am_kz N X) ((d + 1), 243, 30, [some (.inr (.inr 86)), some (.inl x1), some (.inl x2), some (.inl x3)], [.inl (U 136 x2.toNat)], (am_sh, am_mm U)) R
    have h2a := h2.2
    refine ev_seg (σ1 := ((d + 1), 243, 36, [some (.inr (.inr 86)), some (.inl x1), some (.inl x2), some (.inl x3)], [.inl x3, .inr (.inr 136), .inr (.inl (U 136 x2.toNat))], (am_sh, am_mm U))) 4 (fun _ => rfl) ?_
    refine eu_iald 136 (n := 4) rfl (by decide) rfl (fun _ => rfl) h2a.1 ?_
    show Ev (am_kz N X) ((d + 1), 243, 37, [some (.inr (.inr 86)), some (.inl x1), some (.inl x2), some (.inl x3)], [.inl (U 136 x3.toNat), .inr (.inl (U 136 x2.toNat))], (am_sh, am_mm U)) R
    have h2aa := h2a.2
    refine ev_seg (σ1 := ((d + 1), 243, 38, [some (.inr (.inr 86)), some (.inl x1), some (.inl x2), some (.inl x3)], [.inr (.inl (U 136 x3.toNat)), .inr (.inl (U 136 x2.toNat))], (am_sh, am_mm U))) 1 (fun _ => rfl) ?_
    obtain ⟨r1, U1, h2aac, h2aaa⟩ := h2aa
    refine ev_cal (σc := (M_gcd_s0 d (U 136 x2.toNat) (U 136 x3.toNat) U)) (fun _ => rfl) h2aac ?_
    show Ev (am_kz N X) ((d + 1), 243, 41, [some (.inr (.inr 86)), some (.inl x1), some (.inl x2), some (.inl x3)], [.inr (.inl r1)], (am_sh, am_mm U1)) R
    refine ev_br (P := (am_lcmp r1 1) ≤ 0) (σ1 := ((d + 1), 243, 50, [some (.inr (.inr 86)), some (.inl x1), some (.inl x2), some (.inl x3)], [], (am_sh, am_mm U1))) (σ2 := ((d + 1), 243, 46, [some (.inr (.inr 86)), some (.inl x1), some (.inl x2), some (.inl x3)], [], (am_sh, am_mm U1))) 3 (fun _ => rfl) (fun hc => ?_) (fun hc => ?_)
    · have h2aaa1 := h2aaa.1 ((am_lc_le r1 1).mp hc)
      refine ev_seg (σ1 := ((d + 1), 243, 56, [some (.inr (.inr 86)), some (.inl x1), some (.inl x2), some (.inl x3)], [.inl x1, .inr (.inr 135), .inl 0], (am_sh, am_mm U1))) 4 (fun _ => rfl) ?_
      refine eu_iald 135 (n := 6) rfl (by decide) rfl (fun _ => rfl) h2aaa1.1 ?_
      show Ev (am_kz N X) ((d + 1), 243, 57, [some (.inr (.inr 86)), some (.inl x1), some (.inl x2), some (.inl x3)], [.inl (U1 135 x1.toNat), .inl 0], (am_sh, am_mm U1)) R
      have h2aaa1a := h2aaa1.2
      refine ev_br (P := 0 = (U1 135 x1.toNat)) (σ1 := ((d + 1), 243, 62, [some (.inr (.inr 86)), some (.inl x1), some (.inl x2), some (.inl x3)], [], (am_sh, am_mm U1))) (σ2 := ((d + 1), 243, 60, [some (.inr (.inr 86)), some (.inl x1), some (.inl x2), some (.inl x3)], [], (am_sh, am_mm U1))) 1 (fun _ => rfl) (fun hc => ?_) (fun hc => ?_)
      · have h2aaa1a1 := h2aaa1a.1 hc
        refine ev_seg (σ1 := ((d + 1), 243, 16, [some (.inr (.inr 86)), some (.inl (w32 (x1 + 1))), some (.inl x2), some (.inl (w32 (x3 + 1)))], [], (am_sh, am_mm U1))) 3 (fun _ => rfl) ?_
        exact h2aaa1a1
      · have h2aaa1a2 := h2aaa1a.2 hc
        subst h2aaa1a2
        exact ev_end 2 (fun _ => rfl)
    · have h2aaa2 := h2aaa.2 ((am_lcn_le r1 1).mp hc)
      refine ev_seg (σ1 := ((d + 1), 243, 56, [some (.inr (.inr 86)), some (.inl x1), some (.inl x2), some (.inl x3)], [.inl x1, .inr (.inr 135), .inl 1], (am_sh, am_mm U1))) 5 (fun _ => rfl) ?_
      refine eu_iald 135 (n := 6) rfl (by decide) rfl (fun _ => rfl) h2aaa2.1 ?_
      show Ev (am_kz N X) ((d + 1), 243, 57, [some (.inr (.inr 86)), some (.inl x1), some (.inl x2), some (.inl x3)], [.inl (U1 135 x1.toNat), .inl 1], (am_sh, am_mm U1)) R
      have h2aaa2a := h2aaa2.2
      refine ev_br (P := 1 = (U1 135 x1.toNat)) (σ1 := ((d + 1), 243, 62, [some (.inr (.inr 86)), some (.inl x1), some (.inl x2), some (.inl x3)], [], (am_sh, am_mm U1))) (σ2 := ((d + 1), 243, 60, [some (.inr (.inr 86)), some (.inl x1), some (.inl x2), some (.inl x3)], [], (am_sh, am_mm U1))) 1 (fun _ => rfl) (fun hc => ?_) (fun hc => ?_)
      · have h2aaa2a1 := h2aaa2a.1 hc
        refine ev_seg (σ1 := ((d + 1), 243, 16, [some (.inr (.inr 86)), some (.inl (w32 (x1 + 1))), some (.inl x2), some (.inl (w32 (x3 + 1)))], [], (am_sh, am_mm U1))) 3 (fun _ => rfl) ?_
        exact h2aaa2a1
      · have h2aaa2a2 := h2aaa2a.2 hc
        subst h2aaa2a2
        exact ev_end 2 (fun _ => rfl)
set_option maxRecDepth 8000 in
theorem Fk_checkOf_84_r0 {N : Nat} {X : Nat → Int} {d : Nat} {x1 : Int} {U : am_U} {R : Option am_V × am_M} (h : EvK N X (Fk_checkOf_84_s5 d x1 73 0 U) R) : EvK N X (Fk_checkOf_84_s0 d x1 U) R := by
  show Ev (am_kz N X) (d, 244, 0, [some (.inr (.inr 84)), some (.inl x1), none, none], [], (am_sh, am_mm U)) R
  refine ev_seg (σ1 := (d, 244, 5, [some (.inr (.inr 84)), some (.inl x1), some (.inl 73), some (.inl 0)], [], (am_sh, am_mm U))) 4 (fun _ => rfl) ?_
  exact h
set_option maxRecDepth 8000 in
theorem Fk_checkOf_84_r5 {N : Nat} {X : Nat → Int} {d : Nat} {x1 x2 x3 : Int} {U : am_U} {R : Option am_V × am_M} (h : ((x1 ≤ x3) → R = rI x2 U) ∧ ((x3 < x1) → ((85 ≤ x3) → R = rI x2 U) ∧ ((x3 < 85) → (0 ≤ x3 ∧ x3 < 85) ∧ EvK N X (Fk_checkOf_84_s5 d x1 (Int.tmod (w32 ((w32 (5 * x2)) + (U 84 x3.toNat))) 251) (w32 (x3 + 1)) U) R))) : EvK N X (Fk_checkOf_84_s5 d x1 x2 x3 U) R := by
  show Ev (am_kz N X) (d, 244, 5, [some (.inr (.inr 84)), some (.inl x1), some (.inl x2), some (.inl x3)], [], (am_sh, am_mm U)) R
  refine ev_br (P := x1 ≤ x3) (σ1 := (d, 244, 34, [some (.inr (.inr 84)), some (.inl x1), some (.inl x2), some (.inl x3)], [], (am_sh, am_mm U))) (σ2 := (d, 244, 10, [some (.inr (.inr 84)), some (.inl x1), some (.inl x2), some (.inl x3)], [], (am_sh, am_mm U))) 3 (fun _ => rfl) (fun hc => ?_) (fun hc => ?_)
  · have h1 := h.1 hc
    subst h1
    exact ev_end 2 (fun _ => rfl)
  · have h2 := h.2 (Int.not_le.mp hc)
    refine ev_br (P := 85 ≤ x3) (σ1 := (d, 244, 34, [some (.inr (.inr 84)), some (.inl x1), some (.inl x2), some (.inl x3)], [], (am_sh, am_mm U))) (σ2 := (d, 244, 16, [some (.inr (.inr 84)), some (.inl x1), some (.inl x2), some (.inl x3)], [], (am_sh, am_mm U))) 4 (fun _ => rfl) (fun hc => ?_) (fun hc => ?_)
    · have h21 := h2.1 hc
      subst h21
      exact ev_end 2 (fun _ => rfl)
    · have h22 := h2.2 (Int.not_le.mp hc)
      refine ev_seg (σ1 := (d, 244, 21, [some (.inr (.inr 84)), some (.inl x1), some (.inl x2), some (.inl x3)], [.inl x3, .inr (.inr 84), .inl (w32 (5 * x2))], (am_sh, am_mm U))) 5 (fun _ => rfl) ?_
      refine eu_iald 84 (n := 85) rfl (by decide) rfl (fun _ => rfl) h22.1 ?_
      show Ev (am_kz N X) (d, 244, 22, [some (.inr (.inr 84)), some (.inl x1), some (.inl x2), some (.inl x3)], [.inl (U 84 x3.toNat), .inl (w32 (5 * x2))], (am_sh, am_mm U)) R
      have h22a := h22.2
      refine ev_seg (σ1 := (d, 244, 26, [some (.inr (.inr 84)), some (.inl x1), some (.inl x2), some (.inl x3)], [.inl 251, .inl (w32 ((w32 (5 * x2)) + (U 84 x3.toNat)))], (am_sh, am_mm U))) 2 (fun _ => rfl) ?_
      refine ev_irem rfl (by decide) ?_
      show Ev (am_kz N X) (d, 244, 27, [some (.inr (.inr 84)), some (.inl x1), some (.inl x2), some (.inl x3)], [.inl (Int.tmod (w32 ((w32 (5 * x2)) + (U 84 x3.toNat))) 251)], (am_sh, am_mm U)) R
      refine ev_seg (σ1 := (d, 244, 5, [some (.inr (.inr 84)), some (.inl x1), some (.inl (Int.tmod (w32 ((w32 (5 * x2)) + (U 84 x3.toNat))) 251)), some (.inl (w32 (x3 + 1)))], [], (am_sh, am_mm U))) 3 (fun _ => rfl) ?_
      exact h22a
set_option maxRecDepth 8000 in
theorem Fk_checkOf_2_r0 {N : Nat} {X : Nat → Int} {d : Nat} {x1 : Int} {U : am_U} {R : Option am_V × am_M} (h : EvK N X (Fk_checkOf_2_s5 d x1 73 0 U) R) : EvK N X (Fk_checkOf_2_s0 d x1 U) R := by
  show Ev (am_kz N X) (d, 244, 0, [some (.inr (.inr 2)), some (.inl x1), none, none], [], (am_sh, am_mm U)) R
  refine ev_seg (σ1 := (d, 244, 5, [some (.inr (.inr 2)), some (.inl x1), some (.inl 73), some (.inl 0)], [], (am_sh, am_mm U))) 4 (fun _ => rfl) ?_
  exact h
set_option maxRecDepth 8000 in
theorem Fk_checkOf_2_r5 {N : Nat} {X : Nat → Int} {d : Nat} {x1 x2 x3 : Int} {U : am_U} {R : Option am_V × am_M} (h : ((x1 ≤ x3) → R = rI x2 U) ∧ ((x3 < x1) → ((1600 ≤ x3) → R = rI x2 U) ∧ ((x3 < 1600) → (0 ≤ x3 ∧ x3 < 1600) ∧ EvK N X (Fk_checkOf_2_s5 d x1 (Int.tmod (w32 ((w32 (5 * x2)) + (U 2 x3.toNat))) 251) (w32 (x3 + 1)) U) R))) : EvK N X (Fk_checkOf_2_s5 d x1 x2 x3 U) R := by
  show Ev (am_kz N X) (d, 244, 5, [some (.inr (.inr 2)), some (.inl x1), some (.inl x2), some (.inl x3)], [], (am_sh, am_mm U)) R
  refine ev_br (P := x1 ≤ x3) (σ1 := (d, 244, 34, [some (.inr (.inr 2)), some (.inl x1), some (.inl x2), some (.inl x3)], [], (am_sh, am_mm U))) (σ2 := (d, 244, 10, [some (.inr (.inr 2)), some (.inl x1), some (.inl x2), some (.inl x3)], [], (am_sh, am_mm U))) 3 (fun _ => rfl) (fun hc => ?_) (fun hc => ?_)
  · have h1 := h.1 hc
    subst h1
    exact ev_end 2 (fun _ => rfl)
  · have h2 := h.2 (Int.not_le.mp hc)
    refine ev_br (P := 1600 ≤ x3) (σ1 := (d, 244, 34, [some (.inr (.inr 2)), some (.inl x1), some (.inl x2), some (.inl x3)], [], (am_sh, am_mm U))) (σ2 := (d, 244, 16, [some (.inr (.inr 2)), some (.inl x1), some (.inl x2), some (.inl x3)], [], (am_sh, am_mm U))) 4 (fun _ => rfl) (fun hc => ?_) (fun hc => ?_)
    · have h21 := h2.1 hc
      subst h21
      exact ev_end 2 (fun _ => rfl)
    · have h22 := h2.2 (Int.not_le.mp hc)
      refine ev_seg (σ1 := (d, 244, 21, [some (.inr (.inr 2)), some (.inl x1), some (.inl x2), some (.inl x3)], [.inl x3, .inr (.inr 2), .inl (w32 (5 * x2))], (am_sh, am_mm U))) 5 (fun _ => rfl) ?_
      refine eu_iald 2 (n := 1600) rfl (by decide) rfl (fun _ => rfl) h22.1 ?_
      show Ev (am_kz N X) (d, 244, 22, [some (.inr (.inr 2)), some (.inl x1), some (.inl x2), some (.inl x3)], [.inl (U 2 x3.toNat), .inl (w32 (5 * x2))], (am_sh, am_mm U)) R
      have h22a := h22.2
      refine ev_seg (σ1 := (d, 244, 26, [some (.inr (.inr 2)), some (.inl x1), some (.inl x2), some (.inl x3)], [.inl 251, .inl (w32 ((w32 (5 * x2)) + (U 2 x3.toNat)))], (am_sh, am_mm U))) 2 (fun _ => rfl) ?_
      refine ev_irem rfl (by decide) ?_
      show Ev (am_kz N X) (d, 244, 27, [some (.inr (.inr 2)), some (.inl x1), some (.inl x2), some (.inl x3)], [.inl (Int.tmod (w32 ((w32 (5 * x2)) + (U 2 x3.toNat))) 251)], (am_sh, am_mm U)) R
      refine ev_seg (σ1 := (d, 244, 5, [some (.inr (.inr 2)), some (.inl x1), some (.inl (Int.tmod (w32 ((w32 (5 * x2)) + (U 2 x3.toNat))) 251)), some (.inl (w32 (x3 + 1)))], [], (am_sh, am_mm U))) 3 (fun _ => rfl) ?_
      exact h22a
set_option maxRecDepth 8000 in
theorem Fk_readOne_r0 {N : Nat} {X : Nat → Int} {d : Nat} {x1 x2 : Int} {U : am_U} {R : Option am_V × am_M} (h : ((x1 = 0) → R = rI 0 U) ∧ ((x1 ≠ 0) → ((999999999 < x1) → R = rI 0 U) ∧ ((x1 ≤ 999999999) → ((x1 < (-999999999)) → R = rI 0 U) ∧ (((-999999999) ≤ x1) → ∃ (r1 : Int) (U1 : am_U), EvK N X (Fk_find_21_s0 d x1 U) (rI r1 U1) ∧ ((r1 < 0) → (((U1 3 1) ≤ x2) → R = rI 0 U1) ∧ ((x2 < (U1 3 1)) → ((x2 < 0) → ∃ U2 : am_U, EvK N X (Fk_add_21_s0 d x1 x2 U1) (rV U2) ∧ R = rI 1 U2) ∧ ((0 ≤ x2) → ∃ (r3 : Int) (U3 : am_U), EvK N X (Fk_living_21_s0 d x2 U1) (rI r3 U3) ∧ (0 ≤ x2 ∧ x2 < 12) ∧ ((r3 < (U3 8 x2.toNat)) → ∃ U4 : am_U, EvK N X (Fk_add_21_s0 d x1 x2 U3) (rV U4) ∧ R = rI 1 U4) ∧ (((U3 8 x2.toNat) ≤ r3) → R = rI 0 U3)))) ∧ ((0 ≤ r1) → R = rI 0 U1))))) : EvK N X (Fk_readOne_s0 (d + 1) x1 x2 U) R := by
  show Ev (am_kz N X) ((d + 1), 245, 0, [some (.inr (.inr 21)), some (.inl x1), some (.inl x2), some (.inr (.inr 3))], [], (am_sh, am_mm U)) R
  refine ev_br (P := x1 = 0) (σ1 := ((d + 1), 245, 24, [some (.inr (.inr 21)), some (.inl x1), some (.inl x2), some (.inr (.inr 3))], [], (am_sh, am_mm U))) (σ2 := ((d + 1), 245, 4, [some (.inr (.inr 21)), some (.inl x1), some (.inl x2), some (.inr (.inr 3))], [], (am_sh, am_mm U))) 2 (fun _ => rfl) (fun hc => ?_) (fun hc => ?_)
  · have h1 := h.1 hc
    subst h1
    exact ev_end 2 (fun _ => rfl)
  · have h2 := h.2 hc
    refine ev_br (P := 999999999 < x1) (σ1 := ((d + 1), 245, 24, [some (.inr (.inr 21)), some (.inl x1), some (.inl x2), some (.inr (.inr 3))], [], (am_sh, am_mm U))) (σ2 := ((d + 1), 245, 10, [some (.inr (.inr 21)), some (.inl x1), some (.inl x2), some (.inr (.inr 3))], [], (am_sh, am_mm U))) 3 (fun _ => rfl) (fun hc => ?_) (fun hc => ?_)
    · have h21 := h2.1 hc
      subst h21
      exact ev_end 2 (fun _ => rfl)
    · have h22 := h2.2 (Int.not_lt.mp hc)
      refine ev_br (P := x1 < (-999999999)) (σ1 := ((d + 1), 245, 24, [some (.inr (.inr 21)), some (.inl x1), some (.inl x2), some (.inr (.inr 3))], [], (am_sh, am_mm U))) (σ2 := ((d + 1), 245, 16, [some (.inr (.inr 21)), some (.inl x1), some (.inl x2), some (.inr (.inr 3))], [], (am_sh, am_mm U))) 3 (fun _ => rfl) (fun hc => ?_) (fun hc => ?_)
      · have h221 := h22.1 hc
        subst h221
        exact ev_end 2 (fun _ => rfl)
      · have h222 := h22.2 (Int.not_lt.mp hc)
        refine ev_seg (σ1 := ((d + 1), 245, 18, [some (.inr (.inr 21)), some (.inl x1), some (.inl x2), some (.inr (.inr 3))], [.inl x1, .inr (.inr 21)], (am_sh, am_mm U))) 2 (fun _ => rfl) ?_
        obtain ⟨r1, U1, h222c, h222a⟩ := h222
        refine ev_cal (σc := (Fk_find_21_s0 d x1 U)) (fun _ => rfl) h222c ?_
        show Ev (am_kz N X) ((d + 1), 245, 21, [some (.inr (.inr 21)), some (.inl x1), some (.inl x2), some (.inr (.inr 3))], [.inl r1], (am_sh, am_mm U1)) R
        refine ev_br (P := r1 < 0) (σ1 := ((d + 1), 245, 26, [some (.inr (.inr 21)), some (.inl x1), some (.inl x2), some (.inr (.inr 3))], [], (am_sh, am_mm U1))) (σ2 := ((d + 1), 245, 24, [some (.inr (.inr 21)), some (.inl x1), some (.inl x2), some (.inr (.inr 3))], [], (am_sh, am_mm U1))) 1 (fun _ => rfl) (fun hc => ?_) (fun hc => ?_)
        · have h222a1 := h222a.1 hc
          refine ev_br (P := (U1 3 1) ≤ x2) (σ1 := ((d + 1), 245, 52, [some (.inr (.inr 21)), some (.inl x1), some (.inl x2), some (.inr (.inr 3))], [], (am_sh, am_mm U1))) (σ2 := ((d + 1), 245, 34, [some (.inr (.inr 21)), some (.inl x1), some (.inl x2), some (.inr (.inr 3))], [], (am_sh, am_mm U1))) 4 (fun _ => rfl) (fun hc => ?_) (fun hc => ?_)
          · have h222a11 := h222a1.1 hc
            subst h222a11
            exact ev_end 2 (fun _ => rfl)
          · have h222a12 := h222a1.2 (Int.not_le.mp hc)
            refine ev_br (P := x2 < 0) (σ1 := ((d + 1), 245, 54, [some (.inr (.inr 21)), some (.inl x1), some (.inl x2), some (.inr (.inr 3))], [], (am_sh, am_mm U1))) (σ2 := ((d + 1), 245, 38, [some (.inr (.inr 21)), some (.inl x1), some (.inl x2), some (.inr (.inr 3))], [], (am_sh, am_mm U1))) 2 (fun _ => rfl) (fun hc => ?_) (fun hc => ?_)
            · have h222a121 := h222a12.1 hc
              refine ev_seg (σ1 := ((d + 1), 245, 57, [some (.inr (.inr 21)), some (.inl x1), some (.inl x2), some (.inr (.inr 3))], [.inl x2, .inl x1, .inr (.inr 21)], (am_sh, am_mm U1))) 3 (fun _ => rfl) ?_
              obtain ⟨U2, h222a121c, h222a121a⟩ := h222a121
              refine ev_cal (σc := (Fk_add_21_s0 d x1 x2 U1)) (fun _ => rfl) h222a121c ?_
              show Ev (am_kz N X) ((d + 1), 245, 60, [some (.inr (.inr 21)), some (.inl x1), some (.inl x2), some (.inr (.inr 3))], [], (am_sh, am_mm U2)) R
              subst h222a121a
              exact ev_end 2 (fun _ => rfl)
            · have h222a122 := h222a12.2 (Int.not_lt.mp hc)
              refine ev_seg (σ1 := ((d + 1), 245, 40, [some (.inr (.inr 21)), some (.inl x1), some (.inl x2), some (.inr (.inr 3))], [.inl x2, .inr (.inr 21)], (am_sh, am_mm U1))) 2 (fun _ => rfl) ?_
              obtain ⟨r3, U3, h222a122c, h222a122a⟩ := h222a122
              refine ev_cal (σc := (Fk_living_21_s0 d x2 U1)) (fun _ => rfl) h222a122c ?_
              show Ev (am_kz N X) ((d + 1), 245, 43, [some (.inr (.inr 21)), some (.inl x1), some (.inl x2), some (.inr (.inr 3))], [.inl r3], (am_sh, am_mm U3)) R
              refine ev_seg (σ1 := ((d + 1), 245, 48, [some (.inr (.inr 21)), some (.inl x1), some (.inl x2), some (.inr (.inr 3))], [.inl x2, .inr (.inr 8), .inl r3], (am_sh, am_mm U3))) 3 (fun _ => rfl) ?_
              refine eu_iald 8 (n := 12) rfl (by decide) rfl (fun _ => rfl) h222a122a.1 ?_
              show Ev (am_kz N X) ((d + 1), 245, 49, [some (.inr (.inr 21)), some (.inl x1), some (.inl x2), some (.inr (.inr 3))], [.inl (U3 8 x2.toNat), .inl r3], (am_sh, am_mm U3)) R
              have h222a122aa := h222a122a.2
              refine ev_br (P := r3 < (U3 8 x2.toNat)) (σ1 := ((d + 1), 245, 54, [some (.inr (.inr 21)), some (.inl x1), some (.inl x2), some (.inr (.inr 3))], [], (am_sh, am_mm U3))) (σ2 := ((d + 1), 245, 52, [some (.inr (.inr 21)), some (.inl x1), some (.inl x2), some (.inr (.inr 3))], [], (am_sh, am_mm U3))) 1 (fun _ => rfl) (fun hc => ?_) (fun hc => ?_)
              · have h222a122aa1 := h222a122aa.1 hc
                refine ev_seg (σ1 := ((d + 1), 245, 57, [some (.inr (.inr 21)), some (.inl x1), some (.inl x2), some (.inr (.inr 3))], [.inl x2, .inl x1, .inr (.inr 21)], (am_sh, am_mm U3))) 3 (fun _ => rfl) ?_
                obtain ⟨U4, h222a122aa1c, h222a122aa1a⟩ := h222a122aa1
                refine ev_cal (σc := (Fk_add_21_s0 d x1 x2 U3)) (fun _ => rfl) h222a122aa1c ?_
                show Ev (am_kz N X) ((d + 1), 245, 60, [some (.inr (.inr 21)), some (.inl x1), some (.inl x2), some (.inr (.inr 3))], [], (am_sh, am_mm U4)) R
                subst h222a122aa1a
                exact ev_end 2 (fun _ => rfl)
              · have h222a122aa2 := h222a122aa.2 (Int.not_lt.mp hc)
                subst h222a122aa2
                exact ev_end 2 (fun _ => rfl)
        · have h222a2 := h222a.2 (Int.not_lt.mp hc)
          subst h222a2
          exact ev_end 2 (fun _ => rfl)
set_option maxRecDepth 8000 in
theorem M_fourBytes_r0 {N : Nat} {X : Nat → Int} {d : Nat} {x1 : Int} {U : am_U} {R : Option am_V × am_M} (h : (0 ≤ x1 ∧ x1 < 1800) ∧ (0 ≤ (w32 (x1 + 1)) ∧ (w32 (x1 + 1)) < 1800) ∧ (0 ≤ (w32 (x1 + 2)) ∧ (w32 (x1 + 2)) < 1800) ∧ (0 ≤ (w32 (x1 + 3)) ∧ (w32 (x1 + 3)) < 1800) ∧ R = rI (am_or (am_or (am_or (am_shl (U 87 x1.toNat) 24) (am_shl (U 87 ((w32 (x1 + 1)).toNat)) 16)) (am_shl (U 87 ((w32 (x1 + 2)).toNat)) 8)) (U 87 ((w32 (x1 + 3)).toNat))) U) : EvK N X (M_fourBytes_s0 d x1 U) R := by
  show Ev (am_kz N X) (d, 246, 0, [some (.inr (.inr 86)), some (.inl x1)], [], (am_sh, am_mm U)) R
  refine ev_seg (σ1 := (d, 246, 5, [some (.inr (.inr 86)), some (.inl x1)], [.inl x1, .inr (.inr 87)], (am_sh, am_mm U))) 3 (fun _ => rfl) ?_
  refine eu_iald 87 (n := 1800) rfl (by decide) rfl (fun _ => rfl) h.1 ?_
  show Ev (am_kz N X) (d, 246, 6, [some (.inr (.inr 86)), some (.inl x1)], [.inl (U 87 x1.toNat)], (am_sh, am_mm U)) R
  have ha := h.2
  refine ev_seg (σ1 := (d, 246, 16, [some (.inr (.inr 86)), some (.inl x1)], [.inl (w32 (x1 + 1)), .inr (.inr 87), .inl (am_shl (U 87 x1.toNat) 24)], (am_sh, am_mm U))) 7 (fun _ => rfl) ?_
  refine eu_iald 87 (n := 1800) rfl (by decide) rfl (fun _ => rfl) ha.1 ?_
  show Ev (am_kz N X) (d, 246, 17, [some (.inr (.inr 86)), some (.inl x1)], [.inl (U 87 ((w32 (x1 + 1)).toNat)), .inl (am_shl (U 87 x1.toNat) 24)], (am_sh, am_mm U)) R
  have haa := ha.2
  refine ev_seg (σ1 := (d, 246, 28, [some (.inr (.inr 86)), some (.inl x1)], [.inl (w32 (x1 + 2)), .inr (.inr 87), .inl (am_or (am_shl (U 87 x1.toNat) 24) (am_shl (U 87 ((w32 (x1 + 1)).toNat)) 16))], (am_sh, am_mm U))) 8 (fun _ => rfl) ?_
  refine eu_iald 87 (n := 1800) rfl (by decide) rfl (fun _ => rfl) haa.1 ?_
  show Ev (am_kz N X) (d, 246, 29, [some (.inr (.inr 86)), some (.inl x1)], [.inl (U 87 ((w32 (x1 + 2)).toNat)), .inl (am_or (am_shl (U 87 x1.toNat) 24) (am_shl (U 87 ((w32 (x1 + 1)).toNat)) 16))], (am_sh, am_mm U)) R
  have haaa := haa.2
  refine ev_seg (σ1 := (d, 246, 40, [some (.inr (.inr 86)), some (.inl x1)], [.inl (w32 (x1 + 3)), .inr (.inr 87), .inl (am_or (am_or (am_shl (U 87 x1.toNat) 24) (am_shl (U 87 ((w32 (x1 + 1)).toNat)) 16)) (am_shl (U 87 ((w32 (x1 + 2)).toNat)) 8))], (am_sh, am_mm U))) 8 (fun _ => rfl) ?_
  refine eu_iald 87 (n := 1800) rfl (by decide) rfl (fun _ => rfl) haaa.1 ?_
  show Ev (am_kz N X) (d, 246, 41, [some (.inr (.inr 86)), some (.inl x1)], [.inl (U 87 ((w32 (x1 + 3)).toNat)), .inl (am_or (am_or (am_shl (U 87 x1.toNat) 24) (am_shl (U 87 ((w32 (x1 + 1)).toNat)) 16)) (am_shl (U 87 ((w32 (x1 + 2)).toNat)) 8))], (am_sh, am_mm U)) R
  have haaaa := haaa.2
  subst haaaa
  exact ev_end 2 (fun _ => rfl)
set_option maxRecDepth 8000 in
theorem Tk_put_r0 {N : Nat} {X : Nat → Int} {d : Nat} {x1 x2 x3 : Int} {U : am_U} {R : Option am_V × am_M} (h : ((1601 ≤ (U 27 1)) → R = rV U) ∧ (((U 27 1) < 1601) → (0 ≤ (U 27 1) ∧ (U 27 1) < 1601) ∧ R = rV (am_upd (am_upd U 28 ((U 27 1).toNat) (am_lor (am_lor (am_lshl x2 14) (am_shl x3 3)) x1)) 27 1 (w32 ((U 27 1) + 1))))) : EvK N X (Tk_put_s0 d x1 x2 x3 U) R := by
  show Ev (am_kz N X) (d, 248, 0, [some (.inr (.inr 27)), some (.inl x1), some (.inl x2), some (.inl x3)], [], (am_sh, am_mm U)) R
  refine ev_br (P := 1601 ≤ (U 27 1)) (σ1 := (d, 248, 44, [some (.inr (.inr 27)), some (.inl x1), some (.inl x2), some (.inl x3)], [], (am_sh, am_mm U))) (σ2 := (d, 248, 12, [some (.inr (.inr 27)), some (.inl x1), some (.inl x2), some (.inl x3)], [], (am_sh, am_mm U))) 6 (fun _ => rfl) (fun hc => ?_) (fun hc => ?_)
  · have h1 := h.1 hc
    subst h1
    exact ev_end 1 (fun _ => rfl)
  · have h2 := h.2 (Int.not_le.mp hc)
    refine ev_seg (σ1 := (d, 248, 33, [some (.inr (.inr 27)), some (.inl x1), some (.inl x2), some (.inl x3)], [.inr (.inl (am_lor (am_lor (am_lshl x2 14) (am_shl x3 3)) x1)), .inl (U 27 1), .inr (.inr 28)], (am_sh, am_mm U))) 16 (fun _ => rfl) ?_
    refine eu_last 28 (n := 1601) rfl (by decide) rfl (fun _ => rfl) h2.1 ?_
    show Ev (am_kz N X) (d, 248, 34, [some (.inr (.inr 27)), some (.inl x1), some (.inl x2), some (.inl x3)], [], (am_sh, am_mm (am_upd U 28 ((U 27 1).toNat) (am_lor (am_lor (am_lshl x2 14) (am_shl x3 3)) x1)))) R
    have h2a := h2.2
    refine ev_seg (σ1 := (d, 248, 41, [some (.inr (.inr 27)), some (.inl x1), some (.inl x2), some (.inl x3)], [.inl (w32 ((U 27 1) + 1)), .inr (.inr 27)], (am_sh, am_mm (am_upd U 28 ((U 27 1).toNat) (am_lor (am_lor (am_lshl x2 14) (am_shl x3 3)) x1))))) 5 (fun _ => rfl) ?_
    refine eu_puti 27 (n := 4) rfl (by decide) rfl rfl ?_
    show Ev (am_kz N X) (d, 248, 44, [some (.inr (.inr 27)), some (.inl x1), some (.inl x2), some (.inl x3)], [], (am_sh, am_mm (am_upd (am_upd U 28 ((U 27 1).toNat) (am_lor (am_lor (am_lshl x2 14) (am_shl x3 3)) x1)) 27 1 (w32 ((U 27 1) + 1))))) R
    subst h2a
    exact ev_end 1 (fun _ => rfl)
set_option maxRecDepth 8000 in
theorem Tk_cutOne_r0 {N : Nat} {X : Nat → Int} {d : Nat} {x2 x3 : Int} {U : am_U} {R : Option am_V × am_M} (h : (0 ≤ x3 ∧ x3 < 1600) ∧ (((U 2 x3.toNat) = 10) → R = rI (w32 (x3 + 1)) U) ∧ (((U 2 x3.toNat) ≠ 10) → (((U 2 x3.toNat) ≠ 32) → ∃ (r1 : Int) (U1 : am_U), EvK N X (Tk_isLetter_s0 d (U 2 x3.toNat) U) (rI r1 U1) ∧ ((r1 ≠ 0) → ∃ (r2 : Int) (U2 : am_U), EvK N X (Tk_isLetter_s0 d (U 2 x3.toNat) U1) (rI r2 U2) ∧ ∃ (r3 : Int) (U3 : am_U), EvK N X (Tk_cutRun_s0 d x2 x3 r2 U2) (rI r3 U3) ∧ R = rI r3 U3) ∧ ((r1 = 0) → ∃ (r4 : Int) (U4 : am_U), EvK N X (Tk_isDigit_s0 d (U 2 x3.toNat) U1) (rI r4 U4) ∧ ((r4 = 0) → ∃ (r5 : Int) (U5 : am_U), EvK N X (St_indexOf_I_s0 d (((Int32.ofInt (U 2 x3.toNat)).toUInt32 % 65536).toInt32.toInt) U4) (rI r5 U5) ∧ ((0 ≤ r5) → ∃ U6 : am_U, EvK N X (Tk_put_s0 d 4 (U 2 x3.toNat) x3 U5) (rV U6) ∧ R = rI (w32 (x3 + 1)) U6) ∧ ((r5 < 0) → ∃ (r7 : Int) (U7 : am_U), EvK N X (Tk_putBad_s0 d x3 x3 x2 U5) (rI r7 U7) ∧ R = rI r7 U7)) ∧ ((r4 ≠ 0) → ∃ (r8 : Int) (U8 : am_U), EvK N X (Tk_isLetter_s0 d (U 2 x3.toNat) U4) (rI r8 U8) ∧ ∃ (r9 : Int) (U9 : am_U), EvK N X (Tk_cutRun_s0 d x2 x3 r8 U8) (rI r9 U9) ∧ R = rI r9 U9))) ∧ (((U 2 x3.toNat) = 32) → R = rI (w32 (x3 + 1)) U))) : EvK N X (Tk_cutOne_s0 (d + 1) x2 x3 U) R := by
  show Ev (am_kz N X) ((d + 1), 247, 0, [some (.inr (.inr 27)), some (.inr (.inr 2)), some (.inl x2), some (.inl x3), none], [], (am_sh, am_mm U)) R
  refine ev_seg (σ1 := ((d + 1), 247, 2, [some (.inr (.inr 27)), some (.inr (.inr 2)), some (.inl x2), some (.inl x3), none], [.inl x3, .inr (.inr 2)], (am_sh, am_mm U))) 2 (fun _ => rfl) ?_
  refine eu_iald 2 (n := 1600) rfl (by decide) rfl (fun _ => rfl) h.1 ?_
  show Ev (am_kz N X) ((d + 1), 247, 3, [some (.inr (.inr 27)), some (.inr (.inr 2)), some (.inl x2), some (.inl x3), none], [.inl (U 2 x3.toNat)], (am_sh, am_mm U)) R
  have ha := h.2
  refine ev_br (P := (U 2 x3.toNat) = 10) (σ1 := ((d + 1), 247, 19, [some (.inr (.inr 27)), some (.inr (.inr 2)), some (.inl x2), some (.inl x3), some (.inl (U 2 x3.toNat))], [], (am_sh, am_mm U))) (σ2 := ((d + 1), 247, 12, [some (.inr (.inr 27)), some (.inr (.inr 2)), some (.inl x2), some (.inl x3), some (.inl (U 2 x3.toNat))], [], (am_sh, am_mm U))) 4 (fun _ => rfl) (fun hc => ?_) (fun hc => ?_)
  · have ha1 := ha.1 hc
    subst ha1
    exact ev_end 4 (fun _ => rfl)
  · have ha2 := ha.2 hc
    refine ev_br (P := ¬ (U 2 x3.toNat) = 32) (σ1 := ((d + 1), 247, 23, [some (.inr (.inr 27)), some (.inr (.inr 2)), some (.inl x2), some (.inl x3), some (.inl (U 2 x3.toNat))], [], (am_sh, am_mm U))) (σ2 := ((d + 1), 247, 19, [some (.inr (.inr 27)), some (.inr (.inr 2)), some (.inl x2), some (.inl x3), some (.inl (U 2 x3.toNat))], [], (am_sh, am_mm U))) 3 (fun _ => rfl) (fun hc => ?_) (fun hc => ?_)
    · have ha21 := ha2.1 hc
      refine ev_seg (σ1 := ((d + 1), 247, 25, [some (.inr (.inr 27)), some (.inr (.inr 2)), some (.inl x2), some (.inl x3), some (.inl (U 2 x3.toNat))], [.inl (U 2 x3.toNat)], (am_sh, am_mm U))) 1 (fun _ => rfl) ?_
      obtain ⟨r1, U1, ha21c, ha21a⟩ := ha21
      refine ev_cal (σc := (Tk_isLetter_s0 d (U 2 x3.toNat) U)) (fun _ => rfl) ha21c ?_
      show Ev (am_kz N X) ((d + 1), 247, 28, [some (.inr (.inr 27)), some (.inr (.inr 2)), some (.inl x2), some (.inl x3), some (.inl (U 2 x3.toNat))], [.inl r1], (am_sh, am_mm U1)) R
      refine ev_br (P := ¬ r1 = 0) (σ1 := ((d + 1), 247, 39, [some (.inr (.inr 27)), some (.inr (.inr 2)), some (.inl x2), some (.inl x3), some (.inl (U 2 x3.toNat))], [], (am_sh, am_mm U1))) (σ2 := ((d + 1), 247, 31, [some (.inr (.inr 27)), some (.inr (.inr 2)), some (.inl x2), some (.inl x3), some (.inl (U 2 x3.toNat))], [], (am_sh, am_mm U1))) 1 (fun _ => rfl) (fun hc => ?_) (fun hc => ?_)
      · have ha21a1 := ha21a.1 hc
        refine ev_seg (σ1 := ((d + 1), 247, 45, [some (.inr (.inr 27)), some (.inr (.inr 2)), some (.inl x2), some (.inl x3), some (.inl (U 2 x3.toNat))], [.inl (U 2 x3.toNat), .inl x3, .inl x2, .inr (.inr 2), .inr (.inr 27)], (am_sh, am_mm U1))) 5 (fun _ => rfl) ?_
        obtain ⟨r2, U2, ha21a1c, ha21a1a⟩ := ha21a1
        refine ev_cal (σc := (Tk_isLetter_s0 d (U 2 x3.toNat) U1)) (fun _ => rfl) ha21a1c ?_
        show Ev (am_kz N X) ((d + 1), 247, 48, [some (.inr (.inr 27)), some (.inr (.inr 2)), some (.inl x2), some (.inl x3), some (.inl (U 2 x3.toNat))], [.inl r2, .inl x3, .inl x2, .inr (.inr 2), .inr (.inr 27)], (am_sh, am_mm U2)) R
        obtain ⟨r3, U3, ha21a1ac, ha21a1aa⟩ := ha21a1a
        refine ev_cal (σc := (Tk_cutRun_s0 d x2 x3 r2 U2)) (fun _ => rfl) ha21a1ac ?_
        show Ev (am_kz N X) ((d + 1), 247, 51, [some (.inr (.inr 27)), some (.inr (.inr 2)), some (.inl x2), some (.inl x3), some (.inl (U 2 x3.toNat))], [.inl r3], (am_sh, am_mm U3)) R
        subst ha21a1aa
        exact ev_end 1 (fun _ => rfl)
      · have ha21a2 := ha21a.2 (Decidable.not_not.mp hc)
        refine ev_seg (σ1 := ((d + 1), 247, 33, [some (.inr (.inr 27)), some (.inr (.inr 2)), some (.inl x2), some (.inl x3), some (.inl (U 2 x3.toNat))], [.inl (U 2 x3.toNat)], (am_sh, am_mm U1))) 1 (fun _ => rfl) ?_
        obtain ⟨r4, U4, ha21a2c, ha21a2a⟩ := ha21a2
        refine ev_cal (σc := (Tk_isDigit_s0 d (U 2 x3.toNat) U1)) (fun _ => rfl) ha21a2c ?_
        show Ev (am_kz N X) ((d + 1), 247, 36, [some (.inr (.inr 27)), some (.inr (.inr 2)), some (.inl x2), some (.inl x3), some (.inl (U 2 x3.toNat))], [.inl r4], (am_sh, am_mm U4)) R
        refine ev_br (P := r4 = 0) (σ1 := ((d + 1), 247, 52, [some (.inr (.inr 27)), some (.inr (.inr 2)), some (.inl x2), some (.inl x3), some (.inl (U 2 x3.toNat))], [], (am_sh, am_mm U4))) (σ2 := ((d + 1), 247, 39, [some (.inr (.inr 27)), some (.inr (.inr 2)), some (.inl x2), some (.inl x3), some (.inl (U 2 x3.toNat))], [], (am_sh, am_mm U4))) 1 (fun _ => rfl) (fun hc => ?_) (fun hc => ?_)
        · have ha21a2a1 := ha21a2a.1 hc
          refine ev_seg (σ1 := ((d + 1), 247, 57, [some (.inr (.inr 27)), some (.inr (.inr 2)), some (.inl x2), some (.inl x3), some (.inl (U 2 x3.toNat))], [.inl (((Int32.ofInt (U 2 x3.toNat)).toUInt32 % 65536).toInt32.toInt), .inr (.inr (-2))], (am_sh, am_mm U4))) 3 (fun _ => rfl) ?_
          obtain ⟨r5, U5, ha21a2a1c, ha21a2a1a⟩ := ha21a2a1
          refine ev_cal (σc := (St_indexOf_I_s0 d (((Int32.ofInt (U 2 x3.toNat)).toUInt32 % 65536).toInt32.toInt) U4)) (fun _ => rfl) ha21a2a1c ?_
          show Ev (am_kz N X) ((d + 1), 247, 60, [some (.inr (.inr 27)), some (.inr (.inr 2)), some (.inl x2), some (.inl x3), some (.inl (U 2 x3.toNat))], [.inl r5], (am_sh, am_mm U5)) R
          refine ev_br (P := 0 ≤ r5) (σ1 := ((d + 1), 247, 71, [some (.inr (.inr 27)), some (.inr (.inr 2)), some (.inl x2), some (.inl x3), some (.inl (U 2 x3.toNat))], [], (am_sh, am_mm U5))) (σ2 := ((d + 1), 247, 63, [some (.inr (.inr 27)), some (.inr (.inr 2)), some (.inl x2), some (.inl x3), some (.inl (U 2 x3.toNat))], [], (am_sh, am_mm U5))) 1 (fun _ => rfl) (fun hc => ?_) (fun hc => ?_)
          · have ha21a2a1a1 := ha21a2a1a.1 hc
            refine ev_seg (σ1 := ((d + 1), 247, 76, [some (.inr (.inr 27)), some (.inr (.inr 2)), some (.inl x2), some (.inl x3), some (.inl (U 2 x3.toNat))], [.inl x3, .inl (U 2 x3.toNat), .inl 4, .inr (.inr 27)], (am_sh, am_mm U5))) 4 (fun _ => rfl) ?_
            obtain ⟨U6, ha21a2a1a1c, ha21a2a1a1a⟩ := ha21a2a1a1
            refine ev_cal (σc := (Tk_put_s0 d 4 (U 2 x3.toNat) x3 U5)) (fun _ => rfl) ha21a2a1a1c ?_
            show Ev (am_kz N X) ((d + 1), 247, 79, [some (.inr (.inr 27)), some (.inr (.inr 2)), some (.inl x2), some (.inl x3), some (.inl (U 2 x3.toNat))], [], (am_sh, am_mm U6)) R
            subst ha21a2a1a1a
            exact ev_end 4 (fun _ => rfl)
          · have ha21a2a1a2 := ha21a2a1a.2 (Int.not_le.mp hc)
            refine ev_seg (σ1 := ((d + 1), 247, 67, [some (.inr (.inr 27)), some (.inr (.inr 2)), some (.inl x2), some (.inl x3), some (.inl (U 2 x3.toNat))], [.inl x2, .inl x3, .inl x3, .inr (.inr 27)], (am_sh, am_mm U5))) 4 (fun _ => rfl) ?_
            obtain ⟨r7, U7, ha21a2a1a2c, ha21a2a1a2a⟩ := ha21a2a1a2
            refine ev_cal (σc := (Tk_putBad_s0 d x3 x3 x2 U5)) (fun _ => rfl) ha21a2a1a2c ?_
            show Ev (am_kz N X) ((d + 1), 247, 70, [some (.inr (.inr 27)), some (.inr (.inr 2)), some (.inl x2), some (.inl x3), some (.inl (U 2 x3.toNat))], [.inl r7], (am_sh, am_mm U7)) R
            subst ha21a2a1a2a
            exact ev_end 1 (fun _ => rfl)
        · have ha21a2a2 := ha21a2a.2 hc
          refine ev_seg (σ1 := ((d + 1), 247, 45, [some (.inr (.inr 27)), some (.inr (.inr 2)), some (.inl x2), some (.inl x3), some (.inl (U 2 x3.toNat))], [.inl (U 2 x3.toNat), .inl x3, .inl x2, .inr (.inr 2), .inr (.inr 27)], (am_sh, am_mm U4))) 5 (fun _ => rfl) ?_
          obtain ⟨r8, U8, ha21a2a2c, ha21a2a2a⟩ := ha21a2a2
          refine ev_cal (σc := (Tk_isLetter_s0 d (U 2 x3.toNat) U4)) (fun _ => rfl) ha21a2a2c ?_
          show Ev (am_kz N X) ((d + 1), 247, 48, [some (.inr (.inr 27)), some (.inr (.inr 2)), some (.inl x2), some (.inl x3), some (.inl (U 2 x3.toNat))], [.inl r8, .inl x3, .inl x2, .inr (.inr 2), .inr (.inr 27)], (am_sh, am_mm U8)) R
          obtain ⟨r9, U9, ha21a2a2ac, ha21a2a2aa⟩ := ha21a2a2a
          refine ev_cal (σc := (Tk_cutRun_s0 d x2 x3 r8 U8)) (fun _ => rfl) ha21a2a2ac ?_
          show Ev (am_kz N X) ((d + 1), 247, 51, [some (.inr (.inr 27)), some (.inr (.inr 2)), some (.inl x2), some (.inl x3), some (.inl (U 2 x3.toNat))], [.inl r9], (am_sh, am_mm U9)) R
          subst ha21a2a2aa
          exact ev_end 1 (fun _ => rfl)
    · have ha22 := ha2.2 (Decidable.not_not.mp hc)
      subst ha22
      exact ev_end 4 (fun _ => rfl)
set_option maxRecDepth 8000 in
theorem Ar_fill_II_24_r0 {N : Nat} {X : Nat → Int} {d : Nat} {x1 : Int} {U : am_U} {R : Option am_V × am_M} (h : EvK N X (Ar_fill_II_24_s5 d x1 0 12 U) R) : EvK N X (Ar_fill_II_24_s0 d x1 U) R := by
  show Ev (am_kz N X) (d, 211, 0, [some (.inr (.inr 24)), some (.inl x1), none, none], [], (am_sh, am_mm U)) R
  refine ev_seg (σ1 := (d, 211, 5, [some (.inr (.inr 24)), some (.inl x1), some (.inl 0), some (.inl 12)], [], (am_sh, am_mm U))) 5 (fun _ => rfl) ?_
  exact h
set_option maxRecDepth 8000 in
theorem Ar_fill_II_24_r5 {N : Nat} {X : Nat → Int} {d : Nat} {x1 x2 x3 : Int} {U : am_U} {R : Option am_V × am_M} (h : ((x3 ≤ x2) → R = rV U) ∧ ((x2 < x3) → (0 ≤ x2 ∧ x2 < 12) ∧ EvK N X (Ar_fill_II_24_s5 d x1 (w32 (x2 + 1)) x3 (am_upd U 24 x2.toNat x1)) R)) : EvK N X (Ar_fill_II_24_s5 d x1 x2 x3 U) R := by
  show Ev (am_kz N X) (d, 211, 5, [some (.inr (.inr 24)), some (.inl x1), some (.inl x2), some (.inl x3)], [], (am_sh, am_mm U)) R
  refine ev_br (P := x3 ≤ x2) (σ1 := (d, 211, 20, [some (.inr (.inr 24)), some (.inl x1), some (.inl x2), some (.inl x3)], [], (am_sh, am_mm U))) (σ2 := (d, 211, 10, [some (.inr (.inr 24)), some (.inl x1), some (.inl x2), some (.inl x3)], [], (am_sh, am_mm U))) 3 (fun _ => rfl) (fun hc => ?_) (fun hc => ?_)
  · have h1 := h.1 hc
    subst h1
    exact ev_end 1 (fun _ => rfl)
  · have h2 := h.2 (Int.not_le.mp hc)
    refine ev_seg (σ1 := (d, 211, 13, [some (.inr (.inr 24)), some (.inl x1), some (.inl x2), some (.inl x3)], [.inl x1, .inl x2, .inr (.inr 24)], (am_sh, am_mm U))) 3 (fun _ => rfl) ?_
    refine eu_iast 24 (n := 12) rfl (by decide) rfl (fun _ => rfl) h2.1 ?_
    show Ev (am_kz N X) (d, 211, 14, [some (.inr (.inr 24)), some (.inl x1), some (.inl x2), some (.inl x3)], [], (am_sh, am_mm (am_upd U 24 x2.toNat x1))) R
    have h2a := h2.2
    refine ev_seg (σ1 := (d, 211, 5, [some (.inr (.inr 24)), some (.inl x1), some (.inl (w32 (x2 + 1))), some (.inl x3)], [], (am_sh, am_mm (am_upd U 24 x2.toNat x1)))) 2 (fun _ => rfl) ?_
    exact h2a
set_option maxRecDepth 8000 in
theorem Tk_kindOf_r0 {N : Nat} {X : Nat → Int} {d : Nat} {x1 : Int} {U : am_U} {R : Option am_V × am_M} (h : ((x1 < 0) → R = rI 0 U) ∧ ((0 ≤ x1) → (((U 27 1) ≤ x1) → R = rI 0 U) ∧ ((x1 < (U 27 1)) → ((1601 ≤ x1) → R = rI 0 U) ∧ ((x1 < 1601) → (0 ≤ x1 ∧ x1 < 1601) ∧ R = rI (w32 (am_land (U 28 x1.toNat) 7)) U)))) : EvK N X (Tk_kindOf_s0 d x1 U) R := by
  show Ev (am_kz N X) (d, 348, 0, [some (.inr (.inr 27)), some (.inl x1)], [], (am_sh, am_mm U)) R
  refine ev_br (P := x1 < 0) (σ1 := (d, 348, 35, [some (.inr (.inr 27)), some (.inl x1)], [], (am_sh, am_mm U))) (σ2 := (d, 348, 4, [some (.inr (.inr 27)), some (.inl x1)], [], (am_sh, am_mm U))) 2 (fun _ => rfl) (fun hc => ?_) (fun hc => ?_)
  · have h1 := h.1 hc
    subst h1
    exact ev_end 2 (fun _ => rfl)
  · have h2 := h.2 (Int.not_lt.mp hc)
    refine ev_br (P := (U 27 1) ≤ x1) (σ1 := (d, 348, 35, [some (.inr (.inr 27)), some (.inl x1)], [], (am_sh, am_mm U))) (σ2 := (d, 348, 12, [some (.inr (.inr 27)), some (.inl x1)], [], (am_sh, am_mm U))) 4 (fun _ => rfl) (fun hc => ?_) (fun hc => ?_)
    · have h21 := h2.1 hc
      subst h21
      exact ev_end 2 (fun _ => rfl)
    · have h22 := h2.2 (Int.not_le.mp hc)
      refine ev_br (P := 1601 ≤ x1) (σ1 := (d, 348, 35, [some (.inr (.inr 27)), some (.inl x1)], [], (am_sh, am_mm U))) (σ2 := (d, 348, 21, [some (.inr (.inr 27)), some (.inl x1)], [], (am_sh, am_mm U))) 5 (fun _ => rfl) (fun hc => ?_) (fun hc => ?_)
      · have h221 := h22.1 hc
        subst h221
        exact ev_end 2 (fun _ => rfl)
      · have h222 := h22.2 (Int.not_le.mp hc)
        refine ev_seg (σ1 := (d, 348, 26, [some (.inr (.inr 27)), some (.inl x1)], [.inl x1, .inr (.inr 28)], (am_sh, am_mm U))) 3 (fun _ => rfl) ?_
        refine eu_lald 28 (n := 1601) rfl (by decide) rfl (fun _ => rfl) h222.1 ?_
        show Ev (am_kz N X) (d, 348, 27, [some (.inr (.inr 27)), some (.inl x1)], [.inr (.inl (U 28 x1.toNat))], (am_sh, am_mm U)) R
        have h222a := h222.2
        subst h222a
        exact ev_end 5 (fun _ => rfl)
set_option maxRecDepth 8000 in
theorem Tk_valueOf_r0 {N : Nat} {X : Nat → Int} {d : Nat} {x1 : Int} {U : am_U} {R : Option am_V × am_M} (h : ((x1 < 0) → R = rI 0 U) ∧ ((0 ≤ x1) → (((U 27 1) ≤ x1) → R = rI 0 U) ∧ ((x1 < (U 27 1)) → ((1601 ≤ x1) → R = rI 0 U) ∧ ((x1 < 1601) → (0 ≤ x1 ∧ x1 < 1601) ∧ R = rI (w32 (am_lshr (U 28 x1.toNat) 14)) U)))) : EvK N X (Tk_valueOf_s0 d x1 U) R := by
  show Ev (am_kz N X) (d, 349, 0, [some (.inr (.inr 27)), some (.inl x1)], [], (am_sh, am_mm U)) R
  refine ev_br (P := x1 < 0) (σ1 := (d, 349, 34, [some (.inr (.inr 27)), some (.inl x1)], [], (am_sh, am_mm U))) (σ2 := (d, 349, 4, [some (.inr (.inr 27)), some (.inl x1)], [], (am_sh, am_mm U))) 2 (fun _ => rfl) (fun hc => ?_) (fun hc => ?_)
  · have h1 := h.1 hc
    subst h1
    exact ev_end 2 (fun _ => rfl)
  · have h2 := h.2 (Int.not_lt.mp hc)
    refine ev_br (P := (U 27 1) ≤ x1) (σ1 := (d, 349, 34, [some (.inr (.inr 27)), some (.inl x1)], [], (am_sh, am_mm U))) (σ2 := (d, 349, 12, [some (.inr (.inr 27)), some (.inl x1)], [], (am_sh, am_mm U))) 4 (fun _ => rfl) (fun hc => ?_) (fun hc => ?_)
    · have h21 := h2.1 hc
      subst h21
      exact ev_end 2 (fun _ => rfl)
    · have h22 := h2.2 (Int.not_le.mp hc)
      refine ev_br (P := 1601 ≤ x1) (σ1 := (d, 349, 34, [some (.inr (.inr 27)), some (.inl x1)], [], (am_sh, am_mm U))) (σ2 := (d, 349, 21, [some (.inr (.inr 27)), some (.inl x1)], [], (am_sh, am_mm U))) 5 (fun _ => rfl) (fun hc => ?_) (fun hc => ?_)
      · have h221 := h22.1 hc
        subst h221
        exact ev_end 2 (fun _ => rfl)
      · have h222 := h22.2 (Int.not_le.mp hc)
        refine ev_seg (σ1 := (d, 349, 26, [some (.inr (.inr 27)), some (.inl x1)], [.inl x1, .inr (.inr 28)], (am_sh, am_mm U))) 3 (fun _ => rfl) ?_
        refine eu_lald 28 (n := 1601) rfl (by decide) rfl (fun _ => rfl) h222.1 ?_
        show Ev (am_kz N X) (d, 349, 27, [some (.inr (.inr 27)), some (.inl x1)], [.inr (.inl (U 28 x1.toNat))], (am_sh, am_mm U)) R
        have h222a := h222.2
        subst h222a
        exact ev_end 5 (fun _ => rfl)
set_option maxRecDepth 8000 in
theorem Tk_placeOf_r0 {N : Nat} {X : Nat → Int} {d : Nat} {x1 : Int} {U : am_U} {R : Option am_V × am_M} (h : ((x1 < 0) → R = rI 0 U) ∧ ((0 ≤ x1) → (((U 27 1) ≤ x1) → R = rI 0 U) ∧ ((x1 < (U 27 1)) → ((1601 ≤ x1) → R = rI 0 U) ∧ ((x1 < 1601) → (0 ≤ x1 ∧ x1 < 1601) ∧ R = rI (w32 (am_land (am_lshr (U 28 x1.toNat) 3) 2047)) U)))) : EvK N X (Tk_placeOf_s0 d x1 U) R := by
  show Ev (am_kz N X) (d, 350, 0, [some (.inr (.inr 27)), some (.inl x1)], [], (am_sh, am_mm U)) R
  refine ev_br (P := x1 < 0) (σ1 := (d, 350, 37, [some (.inr (.inr 27)), some (.inl x1)], [], (am_sh, am_mm U))) (σ2 := (d, 350, 4, [some (.inr (.inr 27)), some (.inl x1)], [], (am_sh, am_mm U))) 2 (fun _ => rfl) (fun hc => ?_) (fun hc => ?_)
  · have h1 := h.1 hc
    subst h1
    exact ev_end 2 (fun _ => rfl)
  · have h2 := h.2 (Int.not_lt.mp hc)
    refine ev_br (P := (U 27 1) ≤ x1) (σ1 := (d, 350, 37, [some (.inr (.inr 27)), some (.inl x1)], [], (am_sh, am_mm U))) (σ2 := (d, 350, 12, [some (.inr (.inr 27)), some (.inl x1)], [], (am_sh, am_mm U))) 4 (fun _ => rfl) (fun hc => ?_) (fun hc => ?_)
    · have h21 := h2.1 hc
      subst h21
      exact ev_end 2 (fun _ => rfl)
    · have h22 := h2.2 (Int.not_le.mp hc)
      refine ev_br (P := 1601 ≤ x1) (σ1 := (d, 350, 37, [some (.inr (.inr 27)), some (.inl x1)], [], (am_sh, am_mm U))) (σ2 := (d, 350, 21, [some (.inr (.inr 27)), some (.inl x1)], [], (am_sh, am_mm U))) 5 (fun _ => rfl) (fun hc => ?_) (fun hc => ?_)
      · have h221 := h22.1 hc
        subst h221
        exact ev_end 2 (fun _ => rfl)
      · have h222 := h22.2 (Int.not_le.mp hc)
        refine ev_seg (σ1 := (d, 350, 26, [some (.inr (.inr 27)), some (.inl x1)], [.inl x1, .inr (.inr 28)], (am_sh, am_mm U))) 3 (fun _ => rfl) ?_
        refine eu_lald 28 (n := 1601) rfl (by decide) rfl (fun _ => rfl) h222.1 ?_
        show Ev (am_kz N X) (d, 350, 27, [some (.inr (.inr 27)), some (.inl x1)], [.inr (.inl (U 28 x1.toNat))], (am_sh, am_mm U)) R
        have h222a := h222.2
        subst h222a
        exact ev_end 7 (fun _ => rfl)
set_option maxRecDepth 8000 in
theorem Rd_refuseFor_r0 {N : Nat} {X : Nat → Int} {d : Nat} {x1 x2 : Int} {U : am_U} {R : Option am_V × am_M} (h : R = rI 0 (am_upd (am_upd U 26 4 x1) 26 5 x2)) : EvK N X (Rd_refuseFor_s0 d x1 x2 U) R := by
  show Ev (am_kz N X) (d, 249, 0, [some (.inr (.inr 26)), some (.inl x1), some (.inl x2)], [], (am_sh, am_mm U)) R
  refine ev_seg (σ1 := (d, 249, 2, [some (.inr (.inr 26)), some (.inl x1), some (.inl x2)], [.inl x1, .inr (.inr 26)], (am_sh, am_mm U))) 2 (fun _ => rfl) ?_
  refine eu_puti 26 (n := 12) rfl (by decide) rfl rfl ?_
  show Ev (am_kz N X) (d, 249, 5, [some (.inr (.inr 26)), some (.inl x1), some (.inl x2)], [], (am_sh, am_mm (am_upd U 26 4 x1))) R
  refine ev_seg (σ1 := (d, 249, 7, [some (.inr (.inr 26)), some (.inl x1), some (.inl x2)], [.inl x2, .inr (.inr 26)], (am_sh, am_mm (am_upd U 26 4 x1)))) 2 (fun _ => rfl) ?_
  refine eu_puti 26 (n := 12) rfl (by decide) rfl rfl ?_
  show Ev (am_kz N X) (d, 249, 10, [some (.inr (.inr 26)), some (.inl x1), some (.inl x2)], [], (am_sh, am_mm (am_upd (am_upd U 26 4 x1) 26 5 x2))) R
  subst h
  exact ev_end 2 (fun _ => rfl)
set_option maxRecDepth 8000 in
theorem Rd_isFull_r0 {N : Nat} {X : Nat → Int} {d : Nat} {x1 : Int} {U : am_U} {R : Option am_V × am_M} (h : (x1 = 0 → (((U 31 0) < 4) → R = rI 0 U) ∧ ((4 ≤ (U 31 0)) → R = rI 1 U)) ∧ (x1 = 1 → (((U 31 1) < 12) → R = rI 0 U) ∧ ((12 ≤ (U 31 1)) → R = rI 1 U)) ∧ (x1 = 2 → R = rI 0 U) ∧ (x1 = 3 → R = rI 0 U) ∧ (x1 = 4 → (((U 31 2) < 10) → R = rI 0 U) ∧ ((10 ≤ (U 31 2)) → R = rI 1 U)) ∧ (x1 = 5 → (((U 21 0) < 16) → R = rI 0 U) ∧ ((16 ≤ (U 21 0)) → R = rI 1 U)) ∧ (x1 = 6 → R = rI 0 U) ∧ (x1 = 7 → (((U 31 4) < 8) → R = rI 0 U) ∧ ((8 ≤ (U 31 4)) → R = rI 1 U)) ∧ (x1 = 8 → R = rI 0 U) ∧ (x1 = 9 → R = rI 0 U) ∧ (x1 = 10 → R = rI 0 U) ∧ (x1 = 11 → ∃ (r1 : Int) (U1 : am_U), EvK N X (Tw_hasTest_31_s0 d 8 U) (rI r1 U1) ∧ (r1 = 0 ∨ r1 = 1) ∧ R = rI r1 U1) ∧ (x1 = 12 → (((U 31 3) < 16) → R = rI 0 U) ∧ ((16 ≤ (U 31 3)) → R = rI 1 U)) ∧ (¬ x1 = 0 ∧ ¬ x1 = 1 ∧ ¬ x1 = 2 ∧ ¬ x1 = 3 ∧ ¬ x1 = 4 ∧ ¬ x1 = 5 ∧ ¬ x1 = 6 ∧ ¬ x1 = 7 ∧ ¬ x1 = 8 ∧ ¬ x1 = 9 ∧ ¬ x1 = 10 ∧ ¬ x1 = 11 ∧ ¬ x1 = 12 → R = rI 0 U)) : EvK N X (Rd_isFull_s0 (d + 1) x1 U) R := by
  show Ev (am_kz N X) ((d + 1), 250, 0, [some (.inr (.inr 26)), some (.inl x1)], [], (am_sh, am_mm U)) R
  refine ev_seg (σ1 := ((d + 1), 250, 1, [some (.inr (.inr 26)), some (.inl x1)], [.inl x1], (am_sh, am_mm U))) 1 (fun _ => rfl) ?_
  by_cases hc : x1 = 0
  · have hk0 := h.1 hc
    refine ev_sw (off := 67) rfl (by rw [hc]; rfl) (pt := 68) rfl ?_
    refine ev_br (P := (U 31 0) < 4) (σ1 := ((d + 1), 250, 83, [some (.inr (.inr 26)), some (.inl x1)], [], (am_sh, am_mm U))) (σ2 := ((d + 1), 250, 79, [some (.inr (.inr 26)), some (.inl x1)], [], (am_sh, am_mm U))) 5 (fun _ => rfl) (fun hc => ?_) (fun hc => ?_)
    · have hk01 := hk0.1 hc
      subst hk01
      exact ev_end 2 (fun _ => rfl)
    · have hk02 := hk0.2 (Int.not_lt.mp hc)
      subst hk02
      exact ev_end 3 (fun _ => rfl)
  have nh0 := hc
  clear hc
  by_cases hc : x1 = 1
  · have hk1 := h.2.1 hc
    refine ev_sw (off := 84) rfl (by rw [hc]; rfl) (pt := 85) rfl ?_
    refine ev_br (P := (U 31 1) < 12) (σ1 := ((d + 1), 250, 101, [some (.inr (.inr 26)), some (.inl x1)], [], (am_sh, am_mm U))) (σ2 := ((d + 1), 250, 97, [some (.inr (.inr 26)), some (.inl x1)], [], (am_sh, am_mm U))) 5 (fun _ => rfl) (fun hc => ?_) (fun hc => ?_)
    · have hk11 := hk1.1 hc
      subst hk11
      exact ev_end 2 (fun _ => rfl)
    · have hk12 := hk1.2 (Int.not_lt.mp hc)
      subst hk12
      exact ev_end 3 (fun _ => rfl)
  have nh1 := hc
  clear hc
  by_cases hc : x1 = 2
  · have hk2 := h.2.2.1 hc
    refine ev_sw (off := 184) rfl (by rw [hc]; rfl) (pt := 185) rfl ?_
    subst hk2
    exact ev_end 2 (fun _ => rfl)
  have nh2 := hc
  clear hc
  by_cases hc : x1 = 3
  · have hk3 := h.2.2.2.1 hc
    refine ev_sw (off := 184) rfl (by rw [hc]; rfl) (pt := 185) rfl ?_
    subst hk3
    exact ev_end 2 (fun _ => rfl)
  have nh3 := hc
  clear hc
  by_cases hc : x1 = 4
  · have hk4 := h.2.2.2.2.1 hc
    refine ev_sw (off := 102) rfl (by rw [hc]; rfl) (pt := 103) rfl ?_
    refine ev_br (P := (U 31 2) < 10) (σ1 := ((d + 1), 250, 119, [some (.inr (.inr 26)), some (.inl x1)], [], (am_sh, am_mm U))) (σ2 := ((d + 1), 250, 115, [some (.inr (.inr 26)), some (.inl x1)], [], (am_sh, am_mm U))) 5 (fun _ => rfl) (fun hc => ?_) (fun hc => ?_)
    · have hk41 := hk4.1 hc
      subst hk41
      exact ev_end 2 (fun _ => rfl)
    · have hk42 := hk4.2 (Int.not_lt.mp hc)
      subst hk42
      exact ev_end 3 (fun _ => rfl)
  have nh4 := hc
  clear hc
  by_cases hc : x1 = 5
  · have hk5 := h.2.2.2.2.2.1 hc
    refine ev_sw (off := 120) rfl (by rw [hc]; rfl) (pt := 121) rfl ?_
    refine ev_br (P := (U 21 0) < 16) (σ1 := ((d + 1), 250, 137, [some (.inr (.inr 26)), some (.inl x1)], [], (am_sh, am_mm U))) (σ2 := ((d + 1), 250, 133, [some (.inr (.inr 26)), some (.inl x1)], [], (am_sh, am_mm U))) 5 (fun _ => rfl) (fun hc => ?_) (fun hc => ?_)
    · have hk51 := hk5.1 hc
      subst hk51
      exact ev_end 2 (fun _ => rfl)
    · have hk52 := hk5.2 (Int.not_lt.mp hc)
      subst hk52
      exact ev_end 3 (fun _ => rfl)
  have nh5 := hc
  clear hc
  by_cases hc : x1 = 6
  · have hk6 := h.2.2.2.2.2.2.1 hc
    refine ev_sw (off := 184) rfl (by rw [hc]; rfl) (pt := 185) rfl ?_
    subst hk6
    exact ev_end 2 (fun _ => rfl)
  have nh6 := hc
  clear hc
  by_cases hc : x1 = 7
  · have hk7 := h.2.2.2.2.2.2.2.1 hc
    refine ev_sw (off := 138) rfl (by rw [hc]; rfl) (pt := 139) rfl ?_
    refine ev_br (P := (U 31 4) < 8) (σ1 := ((d + 1), 250, 155, [some (.inr (.inr 26)), some (.inl x1)], [], (am_sh, am_mm U))) (σ2 := ((d + 1), 250, 151, [some (.inr (.inr 26)), some (.inl x1)], [], (am_sh, am_mm U))) 5 (fun _ => rfl) (fun hc => ?_) (fun hc => ?_)
    · have hk71 := hk7.1 hc
      subst hk71
      exact ev_end 2 (fun _ => rfl)
    · have hk72 := hk7.2 (Int.not_lt.mp hc)
      subst hk72
      exact ev_end 3 (fun _ => rfl)
  have nh7 := hc
  clear hc
  by_cases hc : x1 = 8
  · have hk8 := h.2.2.2.2.2.2.2.2.1 hc
    refine ev_sw (off := 184) rfl (by rw [hc]; rfl) (pt := 185) rfl ?_
    subst hk8
    exact ev_end 2 (fun _ => rfl)
  have nh8 := hc
  clear hc
  by_cases hc : x1 = 9
  · have hk9 := h.2.2.2.2.2.2.2.2.2.1 hc
    refine ev_sw (off := 184) rfl (by rw [hc]; rfl) (pt := 185) rfl ?_
    subst hk9
    exact ev_end 2 (fun _ => rfl)
  have nh9 := hc
  clear hc
  by_cases hc : x1 = 10
  · have hk10 := h.2.2.2.2.2.2.2.2.2.2.1 hc
    refine ev_sw (off := 184) rfl (by rw [hc]; rfl) (pt := 185) rfl ?_
    subst hk10
    exact ev_end 2 (fun _ => rfl)
  have nh10 := hc
  clear hc
  by_cases hc : x1 = 11
  · have hk11 := h.2.2.2.2.2.2.2.2.2.2.2.1 hc
    refine ev_sw (off := 156) rfl (by rw [hc]; rfl) (pt := 157) rfl ?_
    refine ev_seg (σ1 := ((d + 1), 250, 163, [some (.inr (.inr 26)), some (.inl x1)], [.inl 8, .inr (.inr 31)], (am_sh, am_mm U))) 3 (fun _ => rfl) ?_
    obtain ⟨r1, U1, hk11c, hk11a⟩ := hk11
    refine ev_cal (σc := (Tw_hasTest_31_s0 d 8 U)) (fun _ => rfl) hk11c ?_
    show Ev (am_kz N X) ((d + 1), 250, 166, [some (.inr (.inr 26)), some (.inl x1)], [.inl r1], (am_sh, am_mm U1)) R
    rw [hk11a.2]
    exact ev_retz rfl rfl hk11a.1
  have nh11 := hc
  clear hc
  by_cases hc : x1 = 12
  · have hk12 := h.2.2.2.2.2.2.2.2.2.2.2.2.1 hc
    refine ev_sw (off := 166) rfl (by rw [hc]; rfl) (pt := 167) rfl ?_
    refine ev_br (P := (U 31 3) < 16) (σ1 := ((d + 1), 250, 183, [some (.inr (.inr 26)), some (.inl x1)], [], (am_sh, am_mm U))) (σ2 := ((d + 1), 250, 179, [some (.inr (.inr 26)), some (.inl x1)], [], (am_sh, am_mm U))) 5 (fun _ => rfl) (fun hc => ?_) (fun hc => ?_)
    · have hk121 := hk12.1 hc
      subst hk121
      exact ev_end 2 (fun _ => rfl)
    · have hk122 := hk12.2 (Int.not_lt.mp hc)
      subst hk122
      exact ev_end 3 (fun _ => rfl)
  have nh12 := hc
  clear hc
  have hkd := h.2.2.2.2.2.2.2.2.2.2.2.2.2 ⟨nh0, nh1, nh2, nh3, nh4, nh5, nh6, nh7, nh8, nh9, nh10, nh11, nh12⟩
  refine ev_sw (off := 184) rfl (if_pos (by omega)) (pt := 185) rfl ?_
  subst hkd
  exact ev_end 2 (fun _ => rfl)
set_option maxRecDepth 8000 in
theorem Rd_readStreet_r0 {N : Nat} {X : Nat → Int} {d : Nat} {U : am_U} {R : Option am_V × am_M} (h : ∃ U1 : am_U, EvK N X (Rd_next_s0 d U) (rV U1) ∧ ∃ (r2 : Int) (U2 : am_U), EvK N X (Rd_takeNewName_s0 d U1) (rI r2 U2) ∧ ((r2 ≠ 0) → ∃ U3 : am_U, EvK N X (Tw_addStreet_s0 d (U1 26 8) U2) (rV U3) ∧ R = rI 1 U3) ∧ ((r2 = 0) → R = rI 0 U2)) : EvK N X (Rd_readStreet_s0 (d + 1) U) R := by
  show Ev (am_kz N X) ((d + 1), 251, 0, [some (.inr (.inr 26)), none], [], (am_sh, am_mm U)) R
  refine ev_seg (σ1 := ((d + 1), 251, 1, [some (.inr (.inr 26)), none], [.inr (.inr 26)], (am_sh, am_mm U))) 1 (fun _ => rfl) ?_
  obtain ⟨U1, hc, ha⟩ := h
  refine ev_cal (σc := (Rd_next_s0 d U)) (fun _ => rfl) hc ?_
  show Ev (am_kz N X) ((d + 1), 251, 4, [some (.inr (.inr 26)), none], [], (am_sh, am_mm U1)) R
  refine ev_seg (σ1 := ((d + 1), 251, 10, [some (.inr (.inr 26)), some (.inl (U1 26 8))], [.inr (.inr 26)], (am_sh, am_mm U1))) 4 (fun _ => rfl) ?_
  obtain ⟨r2, U2, hac, haa⟩ := ha
  refine ev_cal (σc := (Rd_takeNewName_s0 d U1)) (fun _ => rfl) hac ?_
  show Ev (am_kz N X) ((d + 1), 251, 13, [some (.inr (.inr 26)), some (.inl (U1 26 8))], [.inl r2], (am_sh, am_mm U2)) R
  refine ev_br (P := ¬ r2 = 0) (σ1 := ((d + 1), 251, 18, [some (.inr (.inr 26)), some (.inl (U1 26 8))], [], (am_sh, am_mm U2))) (σ2 := ((d + 1), 251, 16, [some (.inr (.inr 26)), some (.inl (U1 26 8))], [], (am_sh, am_mm U2))) 1 (fun _ => rfl) (fun hc => ?_) (fun hc => ?_)
  · have haa1 := haa.1 hc
    refine ev_seg (σ1 := ((d + 1), 251, 23, [some (.inr (.inr 26)), some (.inl (U1 26 8))], [.inl (U1 26 8), .inr (.inr 31)], (am_sh, am_mm U2))) 3 (fun _ => rfl) ?_
    obtain ⟨U3, haa1c, haa1a⟩ := haa1
    refine ev_cal (σc := (Tw_addStreet_s0 d (U1 26 8) U2)) (fun _ => rfl) haa1c ?_
    show Ev (am_kz N X) ((d + 1), 251, 26, [some (.inr (.inr 26)), some (.inl (U1 26 8))], [], (am_sh, am_mm U3)) R
    subst haa1a
    exact ev_end 2 (fun _ => rfl)
  · have haa2 := haa.2 (Decidable.not_not.mp hc)
    subst haa2
    exact ev_end 2 (fun _ => rfl)
set_option maxRecDepth 8000 in
theorem Rd_readHouse_r0 {N : Nat} {X : Nat → Int} {d : Nat} {U : am_U} {R : Option am_V × am_M} (h : ∃ U1 : am_U, EvK N X (Rd_next_s0 d U) (rV U1) ∧ ∃ (r2 : Int) (U2 : am_U), EvK N X (Rd_takeNewName_s0 d U1) (rI r2 U2) ∧ ((r2 = 0) → R = rI 0 U2) ∧ ((r2 ≠ 0) → ∃ (r3 : Int) (U3 : am_U), EvK N X (Rd_takeWord_s0 d 2 U2) (rI r3 U3) ∧ ((r3 ≠ 0) → ∃ (r4 : Int) (U4 : am_U), EvK N X (Rd_takeStreet_s0 d U3) (rI r4 U4) ∧ ((r4 < 0) → R = rI 0 U4) ∧ ((0 ≤ r4) → ∃ (r5 : Int) (U5 : am_U), EvK N X (Rd_takeWord_s0 d 3 U4) (rI r5 U5) ∧ ((r5 ≠ 0) → ∃ (r6 : Int) (U6 : am_U), EvK N X (Rd_takeNumber_s0 d 1 6 U5) (rI r6 U6) ∧ ((0 ≤ r6) → ∃ U7 : am_U, EvK N X (Tw_addHouse_s0 d (U1 26 8) r4 r6 U6) (rV U7) ∧ R = rI 1 U7) ∧ ((r6 < 0) → R = rI 0 U6)) ∧ ((r5 = 0) → R = rI 0 U5))) ∧ ((r3 = 0) → R = rI 0 U3))) : EvK N X (Rd_readHouse_s0 (d + 1) U) R := by
  show Ev (am_kz N X) ((d + 1), 252, 0, [some (.inr (.inr 26)), none, none, none], [], (am_sh, am_mm U)) R
  refine ev_seg (σ1 := ((d + 1), 252, 1, [some (.inr (.inr 26)), none, none, none], [.inr (.inr 26)], (am_sh, am_mm U))) 1 (fun _ => rfl) ?_
  obtain ⟨U1, hc, ha⟩ := h
  refine ev_cal (σc := (Rd_next_s0 d U)) (fun _ => rfl) hc ?_
  show Ev (am_kz N X) ((d + 1), 252, 4, [some (.inr (.inr 26)), none, none, none], [], (am_sh, am_mm U1)) R
  refine ev_seg (σ1 := ((d + 1), 252, 10, [some (.inr (.inr 26)), some (.inl (U1 26 8)), none, none], [.inr (.inr 26)], (am_sh, am_mm U1))) 4 (fun _ => rfl) ?_
  obtain ⟨r2, U2, hac, haa⟩ := ha
  refine ev_cal (σc := (Rd_takeNewName_s0 d U1)) (fun _ => rfl) hac ?_
  show Ev (am_kz N X) ((d + 1), 252, 13, [some (.inr (.inr 26)), some (.inl (U1 26 8)), none, none], [.inl r2], (am_sh, am_mm U2)) R
  refine ev_br (P := r2 = 0) (σ1 := ((d + 1), 252, 24, [some (.inr (.inr 26)), some (.inl (U1 26 8)), none, none], [], (am_sh, am_mm U2))) (σ2 := ((d + 1), 252, 16, [some (.inr (.inr 26)), some (.inl (U1 26 8)), none, none], [], (am_sh, am_mm U2))) 1 (fun _ => rfl) (fun hc => ?_) (fun hc => ?_)
  · have haa1 := haa.1 hc
    subst haa1
    exact ev_end 2 (fun _ => rfl)
  · have haa2 := haa.2 hc
    refine ev_seg (σ1 := ((d + 1), 252, 18, [some (.inr (.inr 26)), some (.inl (U1 26 8)), none, none], [.inl 2, .inr (.inr 26)], (am_sh, am_mm U2))) 2 (fun _ => rfl) ?_
    obtain ⟨r3, U3, haa2c, haa2a⟩ := haa2
    refine ev_cal (σc := (Rd_takeWord_s0 d 2 U2)) (fun _ => rfl) haa2c ?_
    show Ev (am_kz N X) ((d + 1), 252, 21, [some (.inr (.inr 26)), some (.inl (U1 26 8)), none, none], [.inl r3], (am_sh, am_mm U3)) R
    refine ev_br (P := ¬ r3 = 0) (σ1 := ((d + 1), 252, 26, [some (.inr (.inr 26)), some (.inl (U1 26 8)), none, none], [], (am_sh, am_mm U3))) (σ2 := ((d + 1), 252, 24, [some (.inr (.inr 26)), some (.inl (U1 26 8)), none, none], [], (am_sh, am_mm U3))) 1 (fun _ => rfl) (fun hc => ?_) (fun hc => ?_)
    · have haa2a1 := haa2a.1 hc
      refine ev_seg (σ1 := ((d + 1), 252, 27, [some (.inr (.inr 26)), some (.inl (U1 26 8)), none, none], [.inr (.inr 26)], (am_sh, am_mm U3))) 1 (fun _ => rfl) ?_
      obtain ⟨r4, U4, haa2a1c, haa2a1a⟩ := haa2a1
      refine ev_cal (σc := (Rd_takeStreet_s0 d U3)) (fun _ => rfl) haa2a1c ?_
      show Ev (am_kz N X) ((d + 1), 252, 30, [some (.inr (.inr 26)), some (.inl (U1 26 8)), none, none], [.inl r4], (am_sh, am_mm U4)) R
      refine ev_br (P := r4 < 0) (σ1 := ((d + 1), 252, 43, [some (.inr (.inr 26)), some (.inl (U1 26 8)), some (.inl r4), none], [], (am_sh, am_mm U4))) (σ2 := ((d + 1), 252, 35, [some (.inr (.inr 26)), some (.inl (U1 26 8)), some (.inl r4), none], [], (am_sh, am_mm U4))) 3 (fun _ => rfl) (fun hc => ?_) (fun hc => ?_)
      · have haa2a1a1 := haa2a1a.1 hc
        subst haa2a1a1
        exact ev_end 2 (fun _ => rfl)
      · have haa2a1a2 := haa2a1a.2 (Int.not_lt.mp hc)
        refine ev_seg (σ1 := ((d + 1), 252, 37, [some (.inr (.inr 26)), some (.inl (U1 26 8)), some (.inl r4), none], [.inl 3, .inr (.inr 26)], (am_sh, am_mm U4))) 2 (fun _ => rfl) ?_
        obtain ⟨r5, U5, haa2a1a2c, haa2a1a2a⟩ := haa2a1a2
        refine ev_cal (σc := (Rd_takeWord_s0 d 3 U4)) (fun _ => rfl) haa2a1a2c ?_
        show Ev (am_kz N X) ((d + 1), 252, 40, [some (.inr (.inr 26)), some (.inl (U1 26 8)), some (.inl r4), none], [.inl r5], (am_sh, am_mm U5)) R
        refine ev_br (P := ¬ r5 = 0) (σ1 := ((d + 1), 252, 45, [some (.inr (.inr 26)), some (.inl (U1 26 8)), some (.inl r4), none], [], (am_sh, am_mm U5))) (σ2 := ((d + 1), 252, 43, [some (.inr (.inr 26)), some (.inl (U1 26 8)), some (.inl r4), none], [], (am_sh, am_mm U5))) 1 (fun _ => rfl) (fun hc => ?_) (fun hc => ?_)
        · have haa2a1a2a1 := haa2a1a2a.1 hc
          refine ev_seg (σ1 := ((d + 1), 252, 49, [some (.inr (.inr 26)), some (.inl (U1 26 8)), some (.inl r4), none], [.inl 6, .inl 1, .inr (.inr 26)], (am_sh, am_mm U5))) 3 (fun _ => rfl) ?_
          obtain ⟨r6, U6, haa2a1a2a1c, haa2a1a2a1a⟩ := haa2a1a2a1
          refine ev_cal (σc := (Rd_takeNumber_s0 d 1 6 U5)) (fun _ => rfl) haa2a1a2a1c ?_
          show Ev (am_kz N X) ((d + 1), 252, 52, [some (.inr (.inr 26)), some (.inl (U1 26 8)), some (.inl r4), none], [.inl r6], (am_sh, am_mm U6)) R
          refine ev_br (P := 0 ≤ r6) (σ1 := ((d + 1), 252, 59, [some (.inr (.inr 26)), some (.inl (U1 26 8)), some (.inl r4), some (.inl r6)], [], (am_sh, am_mm U6))) (σ2 := ((d + 1), 252, 57, [some (.inr (.inr 26)), some (.inl (U1 26 8)), some (.inl r4), some (.inl r6)], [], (am_sh, am_mm U6))) 3 (fun _ => rfl) (fun hc => ?_) (fun hc => ?_)
          · have haa2a1a2a1a1 := haa2a1a2a1a.1 hc
            refine ev_seg (σ1 := ((d + 1), 252, 66, [some (.inr (.inr 26)), some (.inl (U1 26 8)), some (.inl r4), some (.inl r6)], [.inl r6, .inl r4, .inl (U1 26 8), .inr (.inr 31)], (am_sh, am_mm U6))) 5 (fun _ => rfl) ?_
            obtain ⟨U7, haa2a1a2a1a1c, haa2a1a2a1a1a⟩ := haa2a1a2a1a1
            refine ev_cal (σc := (Tw_addHouse_s0 d (U1 26 8) r4 r6 U6)) (fun _ => rfl) haa2a1a2a1a1c ?_
            show Ev (am_kz N X) ((d + 1), 252, 69, [some (.inr (.inr 26)), some (.inl (U1 26 8)), some (.inl r4), some (.inl r6)], [], (am_sh, am_mm U7)) R
            subst haa2a1a2a1a1a
            exact ev_end 2 (fun _ => rfl)
          · have haa2a1a2a1a2 := haa2a1a2a1a.2 (Int.not_le.mp hc)
            subst haa2a1a2a1a2
            exact ev_end 2 (fun _ => rfl)
        · have haa2a1a2a2 := haa2a1a2a.2 (Decidable.not_not.mp hc)
          subst haa2a1a2a2
          exact ev_end 2 (fun _ => rfl)
    · have haa2a2 := haa2a.2 (Decidable.not_not.mp hc)
      subst haa2a2
      exact ev_end 2 (fun _ => rfl)
set_option maxRecDepth 8000 in
theorem Rd_refuseHere_r0 {N : Nat} {X : Nat → Int} {d : Nat} {U : am_U} {R : Option am_V × am_M} (h : (((U 26 7) ≠ 5) → R = rI 0 (am_upd (am_upd U 26 4 1) 26 5 (U 26 9))) ∧ (((U 26 7) = 5) → R = rI 0 (am_upd (am_upd U 26 4 1) 26 5 (U 27 2)))) : EvK N X (Rd_refuseHere_s0 d U) R := by
  show Ev (am_kz N X) (d, 262, 0, [some (.inr (.inr 26))], [], (am_sh, am_mm U)) R
  refine ev_seg (σ1 := (d, 262, 2, [some (.inr (.inr 26))], [.inl 1, .inr (.inr 26)], (am_sh, am_mm U))) 2 (fun _ => rfl) ?_
  refine eu_puti 26 (n := 12) rfl (by decide) rfl rfl ?_
  show Ev (am_kz N X) (d, 262, 5, [some (.inr (.inr 26))], [], (am_sh, am_mm (am_upd U 26 4 1))) R
  refine ev_br (P := ¬ (U 26 7) = 5) (σ1 := (d, 262, 24, [some (.inr (.inr 26))], [.inr (.inr 26)], (am_sh, am_mm (am_upd U 26 4 1)))) (σ2 := (d, 262, 14, [some (.inr (.inr 26))], [.inr (.inr 26)], (am_sh, am_mm (am_upd U 26 4 1)))) 5 (fun _ => rfl) (fun hc => ?_) (fun hc => ?_)
  · have h1 := h.1 hc
    refine ev_seg (σ1 := (d, 262, 28, [some (.inr (.inr 26))], [.inl (U 26 9), .inr (.inr 26)], (am_sh, am_mm (am_upd U 26 4 1)))) 2 (fun _ => rfl) ?_
    refine eu_puti 26 (n := 12) rfl (by decide) rfl rfl ?_
    show Ev (am_kz N X) (d, 262, 31, [some (.inr (.inr 26))], [], (am_sh, am_mm (am_upd (am_upd U 26 4 1) 26 5 (U 26 9)))) R
    subst h1
    exact ev_end 2 (fun _ => rfl)
  · have h2 := h.2 (Decidable.not_not.mp hc)
    refine ev_seg (σ1 := (d, 262, 28, [some (.inr (.inr 26))], [.inl (U 27 2), .inr (.inr 26)], (am_sh, am_mm (am_upd U 26 4 1)))) 4 (fun _ => rfl) ?_
    refine eu_puti 26 (n := 12) rfl (by decide) rfl rfl ?_
    show Ev (am_kz N X) (d, 262, 31, [some (.inr (.inr 26))], [], (am_sh, am_mm (am_upd (am_upd U 26 4 1) 26 5 (U 27 2)))) R
    subst h2
    exact ev_end 2 (fun _ => rfl)
set_option maxRecDepth 8000 in
theorem Rd_readLane_r0 {N : Nat} {X : Nat → Int} {d : Nat} {U : am_U} {R : Option am_V × am_M} (h : ∃ U1 : am_U, EvK N X (Rd_next_s0 d U) (rV U1) ∧ ∃ (r2 : Int) (U2 : am_U), EvK N X (Rd_takeHouse_s0 d 0 U1) (rI r2 U2) ∧ ((0 ≤ r2) → (0 ≤ r2 ∧ r2 < 12) ∧ ∃ (r3 : Int) (U3 : am_U), EvK N X (Rd_takeHouse_s0 d (am_or (U2 37 r2.toNat) (am_shl 1 r2)) U2) (rI r3 U3) ∧ ((0 ≤ r3) → ∃ U4 : am_U, EvK N X (Tw_addLane_s0 d r2 r3 U3) (rV U4) ∧ R = rI 1 U4) ∧ ((r3 < 0) → R = rI 0 U3)) ∧ ((r2 < 0) → R = rI 0 U2)) : EvK N X (Rd_readLane_s0 (d + 1) U) R := by
  show Ev (am_kz N X) ((d + 1), 253, 0, [some (.inr (.inr 26)), none, none], [], (am_sh, am_mm U)) R
  refine ev_seg (σ1 := ((d + 1), 253, 1, [some (.inr (.inr 26)), none, none], [.inr (.inr 26)], (am_sh, am_mm U))) 1 (fun _ => rfl) ?_
  obtain ⟨U1, hc, ha⟩ := h
  refine ev_cal (σc := (Rd_next_s0 d U)) (fun _ => rfl) hc ?_
  show Ev (am_kz N X) ((d + 1), 253, 4, [some (.inr (.inr 26)), none, none], [], (am_sh, am_mm U1)) R
  refine ev_seg (σ1 := ((d + 1), 253, 6, [some (.inr (.inr 26)), none, none], [.inl 0, .inr (.inr 26)], (am_sh, am_mm U1))) 2 (fun _ => rfl) ?_
  obtain ⟨r2, U2, hac, haa⟩ := ha
  refine ev_cal (σc := (Rd_takeHouse_s0 d 0 U1)) (fun _ => rfl) hac ?_
  show Ev (am_kz N X) ((d + 1), 253, 9, [some (.inr (.inr 26)), none, none], [.inl r2], (am_sh, am_mm U2)) R
  refine ev_br (P := 0 ≤ r2) (σ1 := ((d + 1), 253, 16, [some (.inr (.inr 26)), some (.inl r2), none], [], (am_sh, am_mm U2))) (σ2 := ((d + 1), 253, 14, [some (.inr (.inr 26)), some (.inl r2), none], [], (am_sh, am_mm U2))) 3 (fun _ => rfl) (fun hc => ?_) (fun hc => ?_)
  · have haa1 := haa.1 hc
    refine ev_seg (σ1 := ((d + 1), 253, 25, [some (.inr (.inr 26)), some (.inl r2), none], [.inl r2, .inr (.inr 37), .inr (.inr 26)], (am_sh, am_mm U2))) 5 (fun _ => rfl) ?_
    refine eu_iald 37 (n := 12) rfl (by decide) rfl (fun _ => rfl) haa1.1 ?_
    show Ev (am_kz N X) ((d + 1), 253, 26, [some (.inr (.inr 26)), some (.inl r2), none], [.inl (U2 37 r2.toNat), .inr (.inr 26)], (am_sh, am_mm U2)) R
    have haa1a := haa1.2
    refine ev_seg (σ1 := ((d + 1), 253, 30, [some (.inr (.inr 26)), some (.inl r2), none], [.inl (am_or (U2 37 r2.toNat) (am_shl 1 r2)), .inr (.inr 26)], (am_sh, am_mm U2))) 4 (fun _ => rfl) ?_
    obtain ⟨r3, U3, haa1ac, haa1aa⟩ := haa1a
    refine ev_cal (σc := (Rd_takeHouse_s0 d (am_or (U2 37 r2.toNat) (am_shl 1 r2)) U2)) (fun _ => rfl) haa1ac ?_
    show Ev (am_kz N X) ((d + 1), 253, 33, [some (.inr (.inr 26)), some (.inl r2), none], [.inl r3], (am_sh, am_mm U3)) R
    refine ev_br (P := 0 ≤ r3) (σ1 := ((d + 1), 253, 40, [some (.inr (.inr 26)), some (.inl r2), some (.inl r3)], [], (am_sh, am_mm U3))) (σ2 := ((d + 1), 253, 38, [some (.inr (.inr 26)), some (.inl r2), some (.inl r3)], [], (am_sh, am_mm U3))) 3 (fun _ => rfl) (fun hc => ?_) (fun hc => ?_)
    · have haa1aa1 := haa1aa.1 hc
      refine ev_seg (σ1 := ((d + 1), 253, 46, [some (.inr (.inr 26)), some (.inl r2), some (.inl r3)], [.inl r3, .inl r2, .inr (.inr 31)], (am_sh, am_mm U3))) 4 (fun _ => rfl) ?_
      obtain ⟨U4, haa1aa1c, haa1aa1a⟩ := haa1aa1
      refine ev_cal (σc := (Tw_addLane_s0 d r2 r3 U3)) (fun _ => rfl) haa1aa1c ?_
      show Ev (am_kz N X) ((d + 1), 253, 49, [some (.inr (.inr 26)), some (.inl r2), some (.inl r3)], [], (am_sh, am_mm U4)) R
      subst haa1aa1a
      exact ev_end 2 (fun _ => rfl)
    · have haa1aa2 := haa1aa.2 (Int.not_le.mp hc)
      subst haa1aa2
      exact ev_end 2 (fun _ => rfl)
  · have haa2 := haa.2 (Int.not_le.mp hc)
    subst haa2
    exact ev_end 2 (fun _ => rfl)
set_option maxRecDepth 8000 in
theorem Rd_readPerson_r0 {N : Nat} {X : Nat → Int} {d : Nat} {U : am_U} {R : Option am_V × am_M} (h : ∃ U1 : am_U, EvK N X (Rd_next_s0 d U) (rV U1) ∧ ∃ (r2 : Int) (U2 : am_U), EvK N X (Rd_isSign_s0 d 45 U1) (rI r2 U2) ∧ ((r2 = 0) → (((U2 26 7) = 3) → (((U2 26 8) = 0) → ∃ (r3 : Int) (U3 : am_U), EvK N X (Rd_refuseFor_s0 d 4 (U1 26 9) U2) (rI r3 U3) ∧ (r3 = 0 ∨ r3 = 1) ∧ R = rI r3 U3) ∧ (((U2 26 8) ≠ 0) → ∃ (r4 : Int) (U4 : am_U), EvK N X (Fk_find_21_s0 d (U2 26 8) U2) (rI r4 U4) ∧ ((r4 < 0) → ∃ U5 : am_U, EvK N X (Rd_next_s0 d U4) (rV U5) ∧ ∃ (r6 : Int) (U6 : am_U), EvK N X (Rd_isOwn_s0 d 6 U5) (rI r6 U6) ∧ ((r6 = 0) → ∃ U7 : am_U, EvK N X (Fk_add_21_s0 d (U2 26 8) (-1) U6) (rV U7) ∧ R = rI 1 U7) ∧ ((r6 ≠ 0) → ∃ U8 : am_U, EvK N X (Rd_next_s0 d U6) (rV U8) ∧ ∃ (r9 : Int) (U9 : am_U), EvK N X (Rd_fullHouses_s0 d U8) (rI r9 U9) ∧ ∃ (r10 : Int) (U10 : am_U), EvK N X (Rd_takeHouse_s0 d r9 U9) (rI r10 U10) ∧ ((0 ≤ r10) → ∃ U11 : am_U, EvK N X (Fk_add_21_s0 d (U2 26 8) r10 U10) (rV U11) ∧ R = rI 1 U11) ∧ ((r10 < 0) → R = rI 0 U10))) ∧ ((0 ≤ r4) → ∃ (r12 : Int) (U12 : am_U), EvK N X (Rd_refuseFor_s0 d 4 (U1 26 9) U4) (rI r12 U12) ∧ (r12 = 0 ∨ r12 = 1) ∧ R = rI r12 U12))) ∧ (((U2 26 7) ≠ 3) → ∃ (r13 : Int) (U13 : am_U), EvK N X (Rd_refuseHere_s0 d U2) (rI r13 U13) ∧ (r13 = 0 ∨ r13 = 1) ∧ R = rI r13 U13)) ∧ ((r2 ≠ 0) → ∃ U14 : am_U, EvK N X (Rd_next_s0 d U2) (rV U14) ∧ (((U14 26 7) = 3) → (((w32 (-(U14 26 8))) = 0) → ∃ (r15 : Int) (U15 : am_U), EvK N X (Rd_refuseFor_s0 d 4 (U1 26 9) U14) (rI r15 U15) ∧ (r15 = 0 ∨ r15 = 1) ∧ R = rI r15 U15) ∧ (((w32 (-(U14 26 8))) ≠ 0) → ∃ (r16 : Int) (U16 : am_U), EvK N X (Fk_find_21_s0 d (w32 (-(U14 26 8))) U14) (rI r16 U16) ∧ ((r16 < 0) → ∃ U17 : am_U, EvK N X (Rd_next_s0 d U16) (rV U17) ∧ ∃ (r18 : Int) (U18 : am_U), EvK N X (Rd_isOwn_s0 d 6 U17) (rI r18 U18) ∧ ((r18 = 0) → ∃ U19 : am_U, EvK N X (Fk_add_21_s0 d (w32 (-(U14 26 8))) (-1) U18) (rV U19) ∧ R = rI 1 U19) ∧ ((r18 ≠ 0) → ∃ U20 : am_U, EvK N X (Rd_next_s0 d U18) (rV U20) ∧ ∃ (r21 : Int) (U21 : am_U), EvK N X (Rd_fullHouses_s0 d U20) (rI r21 U21) ∧ ∃ (r22 : Int) (U22 : am_U), EvK N X (Rd_takeHouse_s0 d r21 U21) (rI r22 U22) ∧ ((0 ≤ r22) → ∃ U23 : am_U, EvK N X (Fk_add_21_s0 d (w32 (-(U14 26 8))) r22 U22) (rV U23) ∧ R = rI 1 U23) ∧ ((r22 < 0) → R = rI 0 U22))) ∧ ((0 ≤ r16) → ∃ (r24 : Int) (U24 : am_U), EvK N X (Rd_refuseFor_s0 d 4 (U1 26 9) U16) (rI r24 U24) ∧ (r24 = 0 ∨ r24 = 1) ∧ R = rI r24 U24))) ∧ (((U14 26 7) ≠ 3) → ∃ (r25 : Int) (U25 : am_U), EvK N X (Rd_refuseHere_s0 d U14) (rI r25 U25) ∧ (r25 = 0 ∨ r25 = 1) ∧ R = rI r25 U25))) : EvK N X (Rd_readPerson_s0 (d + 1) U) R := by
  show Ev (am_kz N X) ((d + 1), 254, 0, [some (.inr (.inr 26)), none, none, none, none], [], (am_sh, am_mm U)) R
  refine ev_seg (σ1 := ((d + 1), 254, 1, [some (.inr (.inr 26)), none, none, none, none], [.inr (.inr 26)], (am_sh, am_mm U))) 1 (fun _ => rfl) ?_
  obtain ⟨U1, hc, ha⟩ := h
  refine ev_cal (σc := (Rd_next_s0 d U)) (fun _ => rfl) hc ?_
  show Ev (am_kz N X) ((d + 1), 254, 4, [some (.inr (.inr 26)), none, none, none, none], [], (am_sh, am_mm U1)) R
  refine ev_seg (σ1 := ((d + 1), 254, 12, [some (.inr (.inr 26)), some (.inl (U1 26 9)), none, none, none], [.inl 45, .inr (.inr 26)], (am_sh, am_mm U1))) 5 (fun _ => rfl) ?_
  obtain ⟨r2, U2, hac, haa⟩ := ha
  refine ev_cal (σc := (Rd_isSign_s0 d 45 U1)) (fun _ => rfl) hac ?_
  show Ev (am_kz N X) ((d + 1), 254, 15, [some (.inr (.inr 26)), some (.inl (U1 26 9)), none, none, none], [.inl r2], (am_sh, am_mm U2)) R
  refine ev_br (P := r2 = 0) (σ1 := ((d + 1), 254, 24, [some (.inr (.inr 26)), some (.inl (U1 26 9)), some (.inl r2), none, none], [], (am_sh, am_mm U2))) (σ2 := ((d + 1), 254, 20, [some (.inr (.inr 26)), some (.inl (U1 26 9)), some (.inl r2), none, none], [], (am_sh, am_mm U2))) 3 (fun _ => rfl) (fun hc => ?_) (fun hc => ?_)
  · have haa1 := haa.1 hc
    have haaq := hc
    refine ev_br (P := (U2 26 7) = 3) (σ1 := ((d + 1), 254, 37, [some (.inr (.inr 26)), some (.inl (U1 26 9)), some (.inl r2), none, none], [], (am_sh, am_mm U2))) (σ2 := ((d + 1), 254, 32, [some (.inr (.inr 26)), some (.inl (U1 26 9)), some (.inl r2), none, none], [], (am_sh, am_mm U2))) 4 (fun _ => rfl) (fun hc => ?_) (fun hc => ?_)
    · have haa11 := haa1.1 hc
      refine ev_br (P := r2 = 0) (σ1 := ((d + 1), 254, 49, [some (.inr (.inr 26)), some (.inl (U1 26 9)), some (.inl r2), none, none], [], (am_sh, am_mm U2))) (σ2 := ((d + 1), 254, 41, [some (.inr (.inr 26)), some (.inl (U1 26 9)), some (.inl r2), none, none], [], (am_sh, am_mm U2))) 2 (fun _ => rfl) (fun hc => ?_) (fun hc => absurd haaq (fun h0 => by have h1 := hc; omega))
      refine ev_br (P := (U2 26 8) = 0) (σ1 := ((d + 1), 254, 69, [some (.inr (.inr 26)), some (.inl (U1 26 9)), some (.inl r2), some (.inl (U2 26 8)), none], [], (am_sh, am_mm U2))) (σ2 := ((d + 1), 254, 58, [some (.inr (.inr 26)), some (.inl (U1 26 9)), some (.inl r2), some (.inl (U2 26 8)), none], [], (am_sh, am_mm U2))) 5 (fun _ => rfl) (fun hc => ?_) (fun hc => ?_)
      · have haa111 := haa11.1 hc
        refine ev_seg (σ1 := ((d + 1), 254, 72, [some (.inr (.inr 26)), some (.inl (U1 26 9)), some (.inl r2), some (.inl (U2 26 8)), none], [.inl (U1 26 9), .inl 4, .inr (.inr 26)], (am_sh, am_mm U2))) 3 (fun _ => rfl) ?_
        obtain ⟨r3, U3, haa111c, haa111a⟩ := haa111
        refine ev_cal (σc := (Rd_refuseFor_s0 d 4 (U1 26 9) U2)) (fun _ => rfl) haa111c ?_
        show Ev (am_kz N X) ((d + 1), 254, 75, [some (.inr (.inr 26)), some (.inl (U1 26 9)), some (.inl r2), some (.inl (U2 26 8)), none], [.inl r3], (am_sh, am_mm U3)) R
        rw [haa111a.2]
        exact ev_retz rfl rfl haa111a.1
      · have haa112 := haa11.2 hc
        refine ev_seg (σ1 := ((d + 1), 254, 63, [some (.inr (.inr 26)), some (.inl (U1 26 9)), some (.inl r2), some (.inl (U2 26 8)), none], [.inl (U2 26 8), .inr (.inr 21)], (am_sh, am_mm U2))) 3 (fun _ => rfl) ?_
        obtain ⟨r4, U4, haa112c, haa112a⟩ := haa112
        refine ev_cal (σc := (Fk_find_21_s0 d (U2 26 8) U2)) (fun _ => rfl) haa112c ?_
        show Ev (am_kz N X) ((d + 1), 254, 66, [some (.inr (.inr 26)), some (.inl (U1 26 9)), some (.inl r2), some (.inl (U2 26 8)), none], [.inl r4], (am_sh, am_mm U4)) R
        refine ev_br (P := r4 < 0) (σ1 := ((d + 1), 254, 76, [some (.inr (.inr 26)), some (.inl (U1 26 9)), some (.inl r2), some (.inl (U2 26 8)), none], [], (am_sh, am_mm U4))) (σ2 := ((d + 1), 254, 69, [some (.inr (.inr 26)), some (.inl (U1 26 9)), some (.inl r2), some (.inl (U2 26 8)), none], [], (am_sh, am_mm U4))) 1 (fun _ => rfl) (fun hc => ?_) (fun hc => ?_)
        · have haa112a1 := haa112a.1 hc
          refine ev_seg (σ1 := ((d + 1), 254, 77, [some (.inr (.inr 26)), some (.inl (U1 26 9)), some (.inl r2), some (.inl (U2 26 8)), none], [.inr (.inr 26)], (am_sh, am_mm U4))) 1 (fun _ => rfl) ?_
          obtain ⟨U5, haa112a1c, haa112a1a⟩ := haa112a1
          refine ev_cal (σc := (Rd_next_s0 d U4)) (fun _ => rfl) haa112a1c ?_
          show Ev (am_kz N X) ((d + 1), 254, 80, [some (.inr (.inr 26)), some (.inl (U1 26 9)), some (.inl r2), some (.inl (U2 26 8)), none], [], (am_sh, am_mm U5)) R
          refine ev_seg (σ1 := ((d + 1), 254, 86, [some (.inr (.inr 26)), some (.inl (U1 26 9)), some (.inl r2), some (.inl (U2 26 8)), some (.inl (-1))], [.inl 6, .inr (.inr 26)], (am_sh, am_mm U5))) 4 (fun _ => rfl) ?_
          obtain ⟨r6, U6, haa112a1ac, haa112a1aa⟩ := haa112a1a
          refine ev_cal (σc := (Rd_isOwn_s0 d 6 U5)) (fun _ => rfl) haa112a1ac ?_
          show Ev (am_kz N X) ((d + 1), 254, 89, [some (.inr (.inr 26)), some (.inl (U1 26 9)), some (.inl r2), some (.inl (U2 26 8)), some (.inl (-1))], [.inl r6], (am_sh, am_mm U6)) R
          refine ev_br (P := r6 = 0) (σ1 := ((d + 1), 254, 113, [some (.inr (.inr 26)), some (.inl (U1 26 9)), some (.inl r2), some (.inl (U2 26 8)), some (.inl (-1))], [], (am_sh, am_mm U6))) (σ2 := ((d + 1), 254, 92, [some (.inr (.inr 26)), some (.inl (U1 26 9)), some (.inl r2), some (.inl (U2 26 8)), some (.inl (-1))], [], (am_sh, am_mm U6))) 1 (fun _ => rfl) (fun hc => ?_) (fun hc => ?_)
          · have haa112a1aa1 := haa112a1aa.1 hc
            refine ev_seg (σ1 := ((d + 1), 254, 120, [some (.inr (.inr 26)), some (.inl (U1 26 9)), some (.inl r2), some (.inl (U2 26 8)), some (.inl (-1))], [.inl (-1), .inl (U2 26 8), .inr (.inr 21)], (am_sh, am_mm U6))) 4 (fun _ => rfl) ?_
            obtain ⟨U7, haa112a1aa1c, haa112a1aa1a⟩ := haa112a1aa1
            refine ev_cal (σc := (Fk_add_21_s0 d (U2 26 8) (-1) U6)) (fun _ => rfl) haa112a1aa1c ?_
            show Ev (am_kz N X) ((d + 1), 254, 123, [some (.inr (.inr 26)), some (.inl (U1 26 9)), some (.inl r2), some (.inl (U2 26 8)), some (.inl (-1))], [], (am_sh, am_mm U7)) R
            subst haa112a1aa1a
            exact ev_end 2 (fun _ => rfl)
          · have haa112a1aa2 := haa112a1aa.2 hc
            refine ev_seg (σ1 := ((d + 1), 254, 93, [some (.inr (.inr 26)), some (.inl (U1 26 9)), some (.inl r2), some (.inl (U2 26 8)), some (.inl (-1))], [.inr (.inr 26)], (am_sh, am_mm U6))) 1 (fun _ => rfl) ?_
            obtain ⟨U8, haa112a1aa2c, haa112a1aa2a⟩ := haa112a1aa2
            refine ev_cal (σc := (Rd_next_s0 d U6)) (fun _ => rfl) haa112a1aa2c ?_
            show Ev (am_kz N X) ((d + 1), 254, 96, [some (.inr (.inr 26)), some (.inl (U1 26 9)), some (.inl r2), some (.inl (U2 26 8)), some (.inl (-1))], [], (am_sh, am_mm U8)) R
            refine ev_seg (σ1 := ((d + 1), 254, 98, [some (.inr (.inr 26)), some (.inl (U1 26 9)), some (.inl r2), some (.inl (U2 26 8)), some (.inl (-1))], [.inr (.inr 26), .inr (.inr 26)], (am_sh, am_mm U8))) 2 (fun _ => rfl) ?_
            obtain ⟨r9, U9, haa112a1aa2ac, haa112a1aa2aa⟩ := haa112a1aa2a
            refine ev_cal (σc := (Rd_fullHouses_s0 d U8)) (fun _ => rfl) haa112a1aa2ac ?_
            show Ev (am_kz N X) ((d + 1), 254, 101, [some (.inr (.inr 26)), some (.inl (U1 26 9)), some (.inl r2), some (.inl (U2 26 8)), some (.inl (-1))], [.inl r9, .inr (.inr 26)], (am_sh, am_mm U9)) R
            obtain ⟨r10, U10, haa112a1aa2aac, haa112a1aa2aaa⟩ := haa112a1aa2aa
            refine ev_cal (σc := (Rd_takeHouse_s0 d r9 U9)) (fun _ => rfl) haa112a1aa2aac ?_
            show Ev (am_kz N X) ((d + 1), 254, 104, [some (.inr (.inr 26)), some (.inl (U1 26 9)), some (.inl r2), some (.inl (U2 26 8)), some (.inl (-1))], [.inl r10], (am_sh, am_mm U10)) R
            refine ev_br (P := 0 ≤ r10) (σ1 := ((d + 1), 254, 113, [some (.inr (.inr 26)), some (.inl (U1 26 9)), some (.inl r2), some (.inl (U2 26 8)), some (.inl r10)], [], (am_sh, am_mm U10))) (σ2 := ((d + 1), 254, 111, [some (.inr (.inr 26)), some (.inl (U1 26 9)), some (.inl r2), some (.inl (U2 26 8)), some (.inl r10)], [], (am_sh, am_mm U10))) 3 (fun _ => rfl) (fun hc => ?_) (fun hc => ?_)
            · have haa112a1aa2aaa1 := haa112a1aa2aaa.1 hc
              refine ev_seg (σ1 := ((d + 1), 254, 120, [some (.inr (.inr 26)), some (.inl (U1 26 9)), some (.inl r2), some (.inl (U2 26 8)), some (.inl r10)], [.inl r10, .inl (U2 26 8), .inr (.inr 21)], (am_sh, am_mm U10))) 4 (fun _ => rfl) ?_
              obtain ⟨U11, haa112a1aa2aaa1c, haa112a1aa2aaa1a⟩ := haa112a1aa2aaa1
              refine ev_cal (σc := (Fk_add_21_s0 d (U2 26 8) r10 U10)) (fun _ => rfl) haa112a1aa2aaa1c ?_
              show Ev (am_kz N X) ((d + 1), 254, 123, [some (.inr (.inr 26)), some (.inl (U1 26 9)), some (.inl r2), some (.inl (U2 26 8)), some (.inl r10)], [], (am_sh, am_mm U11)) R
              subst haa112a1aa2aaa1a
              exact ev_end 2 (fun _ => rfl)
            · have haa112a1aa2aaa2 := haa112a1aa2aaa.2 (Int.not_le.mp hc)
              subst haa112a1aa2aaa2
              exact ev_end 2 (fun _ => rfl)
        · have haa112a2 := haa112a.2 (Int.not_lt.mp hc)
          refine ev_seg (σ1 := ((d + 1), 254, 72, [some (.inr (.inr 26)), some (.inl (U1 26 9)), some (.inl r2), some (.inl (U2 26 8)), none], [.inl (U1 26 9), .inl 4, .inr (.inr 26)], (am_sh, am_mm U4))) 3 (fun _ => rfl) ?_
          obtain ⟨r12, U12, haa112a2c, haa112a2a⟩ := haa112a2
          refine ev_cal (σc := (Rd_refuseFor_s0 d 4 (U1 26 9) U4)) (fun _ => rfl) haa112a2c ?_
          show Ev (am_kz N X) ((d + 1), 254, 75, [some (.inr (.inr 26)), some (.inl (U1 26 9)), some (.inl r2), some (.inl (U2 26 8)), none], [.inl r12], (am_sh, am_mm U12)) R
          rw [haa112a2a.2]
          exact ev_retz rfl rfl haa112a2a.1
    · have haa12 := haa1.2 hc
      refine ev_seg (σ1 := ((d + 1), 254, 33, [some (.inr (.inr 26)), some (.inl (U1 26 9)), some (.inl r2), none, none], [.inr (.inr 26)], (am_sh, am_mm U2))) 1 (fun _ => rfl) ?_
      obtain ⟨r13, U13, haa12c, haa12a⟩ := haa12
      refine ev_cal (σc := (Rd_refuseHere_s0 d U2)) (fun _ => rfl) haa12c ?_
      show Ev (am_kz N X) ((d + 1), 254, 36, [some (.inr (.inr 26)), some (.inl (U1 26 9)), some (.inl r2), none, none], [.inl r13], (am_sh, am_mm U13)) R
      rw [haa12a.2]
      exact ev_retz rfl rfl haa12a.1
  · have haa2 := haa.2 hc
    have haaq := hc
    refine ev_seg (σ1 := ((d + 1), 254, 21, [some (.inr (.inr 26)), some (.inl (U1 26 9)), some (.inl r2), none, none], [.inr (.inr 26)], (am_sh, am_mm U2))) 1 (fun _ => rfl) ?_
    obtain ⟨U14, haa2c, haa2a⟩ := haa2
    refine ev_cal (σc := (Rd_next_s0 d U2)) (fun _ => rfl) haa2c ?_
    show Ev (am_kz N X) ((d + 1), 254, 24, [some (.inr (.inr 26)), some (.inl (U1 26 9)), some (.inl r2), none, none], [], (am_sh, am_mm U14)) R
    refine ev_br (P := (U14 26 7) = 3) (σ1 := ((d + 1), 254, 37, [some (.inr (.inr 26)), some (.inl (U1 26 9)), some (.inl r2), none, none], [], (am_sh, am_mm U14))) (σ2 := ((d + 1), 254, 32, [some (.inr (.inr 26)), some (.inl (U1 26 9)), some (.inl r2), none, none], [], (am_sh, am_mm U14))) 4 (fun _ => rfl) (fun hc => ?_) (fun hc => ?_)
    · have haa2a1 := haa2a.1 hc
      refine ev_br (P := r2 = 0) (σ1 := ((d + 1), 254, 49, [some (.inr (.inr 26)), some (.inl (U1 26 9)), some (.inl r2), none, none], [], (am_sh, am_mm U14))) (σ2 := ((d + 1), 254, 41, [some (.inr (.inr 26)), some (.inl (U1 26 9)), some (.inl r2), none, none], [], (am_sh, am_mm U14))) 2 (fun _ => rfl) (fun hc => absurd haaq (fun h0 => by have h1 := hc; omega)) (fun hc => ?_)
      refine ev_br (P := (w32 (-(U14 26 8))) = 0) (σ1 := ((d + 1), 254, 69, [some (.inr (.inr 26)), some (.inl (U1 26 9)), some (.inl r2), some (.inl (w32 (-(U14 26 8)))), none], [], (am_sh, am_mm U14))) (σ2 := ((d + 1), 254, 58, [some (.inr (.inr 26)), some (.inl (U1 26 9)), some (.inl r2), some (.inl (w32 (-(U14 26 8)))), none], [], (am_sh, am_mm U14))) 7 (fun _ => rfl) (fun hc => ?_) (fun hc => ?_)
      · have haa2a11 := haa2a1.1 hc
        refine ev_seg (σ1 := ((d + 1), 254, 72, [some (.inr (.inr 26)), some (.inl (U1 26 9)), some (.inl r2), some (.inl (w32 (-(U14 26 8)))), none], [.inl (U1 26 9), .inl 4, .inr (.inr 26)], (am_sh, am_mm U14))) 3 (fun _ => rfl) ?_
        obtain ⟨r15, U15, haa2a11c, haa2a11a⟩ := haa2a11
        refine ev_cal (σc := (Rd_refuseFor_s0 d 4 (U1 26 9) U14)) (fun _ => rfl) haa2a11c ?_
        show Ev (am_kz N X) ((d + 1), 254, 75, [some (.inr (.inr 26)), some (.inl (U1 26 9)), some (.inl r2), some (.inl (w32 (-(U14 26 8)))), none], [.inl r15], (am_sh, am_mm U15)) R
        rw [haa2a11a.2]
        exact ev_retz rfl rfl haa2a11a.1
      · have haa2a12 := haa2a1.2 hc
        refine ev_seg (σ1 := ((d + 1), 254, 63, [some (.inr (.inr 26)), some (.inl (U1 26 9)), some (.inl r2), some (.inl (w32 (-(U14 26 8)))), none], [.inl (w32 (-(U14 26 8))), .inr (.inr 21)], (am_sh, am_mm U14))) 3 (fun _ => rfl) ?_
        obtain ⟨r16, U16, haa2a12c, haa2a12a⟩ := haa2a12
        refine ev_cal (σc := (Fk_find_21_s0 d (w32 (-(U14 26 8))) U14)) (fun _ => rfl) haa2a12c ?_
        show Ev (am_kz N X) ((d + 1), 254, 66, [some (.inr (.inr 26)), some (.inl (U1 26 9)), some (.inl r2), some (.inl (w32 (-(U14 26 8)))), none], [.inl r16], (am_sh, am_mm U16)) R
        refine ev_br (P := r16 < 0) (σ1 := ((d + 1), 254, 76, [some (.inr (.inr 26)), some (.inl (U1 26 9)), some (.inl r2), some (.inl (w32 (-(U14 26 8)))), none], [], (am_sh, am_mm U16))) (σ2 := ((d + 1), 254, 69, [some (.inr (.inr 26)), some (.inl (U1 26 9)), some (.inl r2), some (.inl (w32 (-(U14 26 8)))), none], [], (am_sh, am_mm U16))) 1 (fun _ => rfl) (fun hc => ?_) (fun hc => ?_)
        · have haa2a12a1 := haa2a12a.1 hc
          refine ev_seg (σ1 := ((d + 1), 254, 77, [some (.inr (.inr 26)), some (.inl (U1 26 9)), some (.inl r2), some (.inl (w32 (-(U14 26 8)))), none], [.inr (.inr 26)], (am_sh, am_mm U16))) 1 (fun _ => rfl) ?_
          obtain ⟨U17, haa2a12a1c, haa2a12a1a⟩ := haa2a12a1
          refine ev_cal (σc := (Rd_next_s0 d U16)) (fun _ => rfl) haa2a12a1c ?_
          show Ev (am_kz N X) ((d + 1), 254, 80, [some (.inr (.inr 26)), some (.inl (U1 26 9)), some (.inl r2), some (.inl (w32 (-(U14 26 8)))), none], [], (am_sh, am_mm U17)) R
          refine ev_seg (σ1 := ((d + 1), 254, 86, [some (.inr (.inr 26)), some (.inl (U1 26 9)), some (.inl r2), some (.inl (w32 (-(U14 26 8)))), some (.inl (-1))], [.inl 6, .inr (.inr 26)], (am_sh, am_mm U17))) 4 (fun _ => rfl) ?_
          obtain ⟨r18, U18, haa2a12a1ac, haa2a12a1aa⟩ := haa2a12a1a
          refine ev_cal (σc := (Rd_isOwn_s0 d 6 U17)) (fun _ => rfl) haa2a12a1ac ?_
          show Ev (am_kz N X) ((d + 1), 254, 89, [some (.inr (.inr 26)), some (.inl (U1 26 9)), some (.inl r2), some (.inl (w32 (-(U14 26 8)))), some (.inl (-1))], [.inl r18], (am_sh, am_mm U18)) R
          refine ev_br (P := r18 = 0) (σ1 := ((d + 1), 254, 113, [some (.inr (.inr 26)), some (.inl (U1 26 9)), some (.inl r2), some (.inl (w32 (-(U14 26 8)))), some (.inl (-1))], [], (am_sh, am_mm U18))) (σ2 := ((d + 1), 254, 92, [some (.inr (.inr 26)), some (.inl (U1 26 9)), some (.inl r2), some (.inl (w32 (-(U14 26 8)))), some (.inl (-1))], [], (am_sh, am_mm U18))) 1 (fun _ => rfl) (fun hc => ?_) (fun hc => ?_)
          · have haa2a12a1aa1 := haa2a12a1aa.1 hc
            refine ev_seg (σ1 := ((d + 1), 254, 120, [some (.inr (.inr 26)), some (.inl (U1 26 9)), some (.inl r2), some (.inl (w32 (-(U14 26 8)))), some (.inl (-1))], [.inl (-1), .inl (w32 (-(U14 26 8))), .inr (.inr 21)], (am_sh, am_mm U18))) 4 (fun _ => rfl) ?_
            obtain ⟨U19, haa2a12a1aa1c, haa2a12a1aa1a⟩ := haa2a12a1aa1
            refine ev_cal (σc := (Fk_add_21_s0 d (w32 (-(U14 26 8))) (-1) U18)) (fun _ => rfl) haa2a12a1aa1c ?_
            show Ev (am_kz N X) ((d + 1), 254, 123, [some (.inr (.inr 26)), some (.inl (U1 26 9)), some (.inl r2), some (.inl (w32 (-(U14 26 8)))), some (.inl (-1))], [], (am_sh, am_mm U19)) R
            subst haa2a12a1aa1a
            exact ev_end 2 (fun _ => rfl)
          · have haa2a12a1aa2 := haa2a12a1aa.2 hc
            refine ev_seg (σ1 := ((d + 1), 254, 93, [some (.inr (.inr 26)), some (.inl (U1 26 9)), some (.inl r2), some (.inl (w32 (-(U14 26 8)))), some (.inl (-1))], [.inr (.inr 26)], (am_sh, am_mm U18))) 1 (fun _ => rfl) ?_
            obtain ⟨U20, haa2a12a1aa2c, haa2a12a1aa2a⟩ := haa2a12a1aa2
            refine ev_cal (σc := (Rd_next_s0 d U18)) (fun _ => rfl) haa2a12a1aa2c ?_
            show Ev (am_kz N X) ((d + 1), 254, 96, [some (.inr (.inr 26)), some (.inl (U1 26 9)), some (.inl r2), some (.inl (w32 (-(U14 26 8)))), some (.inl (-1))], [], (am_sh, am_mm U20)) R
            refine ev_seg (σ1 := ((d + 1), 254, 98, [some (.inr (.inr 26)), some (.inl (U1 26 9)), some (.inl r2), some (.inl (w32 (-(U14 26 8)))), some (.inl (-1))], [.inr (.inr 26), .inr (.inr 26)], (am_sh, am_mm U20))) 2 (fun _ => rfl) ?_
            obtain ⟨r21, U21, haa2a12a1aa2ac, haa2a12a1aa2aa⟩ := haa2a12a1aa2a
            refine ev_cal (σc := (Rd_fullHouses_s0 d U20)) (fun _ => rfl) haa2a12a1aa2ac ?_
            show Ev (am_kz N X) ((d + 1), 254, 101, [some (.inr (.inr 26)), some (.inl (U1 26 9)), some (.inl r2), some (.inl (w32 (-(U14 26 8)))), some (.inl (-1))], [.inl r21, .inr (.inr 26)], (am_sh, am_mm U21)) R
            obtain ⟨r22, U22, haa2a12a1aa2aac, haa2a12a1aa2aaa⟩ := haa2a12a1aa2aa
            refine ev_cal (σc := (Rd_takeHouse_s0 d r21 U21)) (fun _ => rfl) haa2a12a1aa2aac ?_
            show Ev (am_kz N X) ((d + 1), 254, 104, [some (.inr (.inr 26)), some (.inl (U1 26 9)), some (.inl r2), some (.inl (w32 (-(U14 26 8)))), some (.inl (-1))], [.inl r22], (am_sh, am_mm U22)) R
            refine ev_br (P := 0 ≤ r22) (σ1 := ((d + 1), 254, 113, [some (.inr (.inr 26)), some (.inl (U1 26 9)), some (.inl r2), some (.inl (w32 (-(U14 26 8)))), some (.inl r22)], [], (am_sh, am_mm U22))) (σ2 := ((d + 1), 254, 111, [some (.inr (.inr 26)), some (.inl (U1 26 9)), some (.inl r2), some (.inl (w32 (-(U14 26 8)))), some (.inl r22)], [], (am_sh, am_mm U22))) 3 (fun _ => rfl) (fun hc => ?_) (fun hc => ?_)
            · have haa2a12a1aa2aaa1 := haa2a12a1aa2aaa.1 hc
              refine ev_seg (σ1 := ((d + 1), 254, 120, [some (.inr (.inr 26)), some (.inl (U1 26 9)), some (.inl r2), some (.inl (w32 (-(U14 26 8)))), some (.inl r22)], [.inl r22, .inl (w32 (-(U14 26 8))), .inr (.inr 21)], (am_sh, am_mm U22))) 4 (fun _ => rfl) ?_
              obtain ⟨U23, haa2a12a1aa2aaa1c, haa2a12a1aa2aaa1a⟩ := haa2a12a1aa2aaa1
              refine ev_cal (σc := (Fk_add_21_s0 d (w32 (-(U14 26 8))) r22 U22)) (fun _ => rfl) haa2a12a1aa2aaa1c ?_
              show Ev (am_kz N X) ((d + 1), 254, 123, [some (.inr (.inr 26)), some (.inl (U1 26 9)), some (.inl r2), some (.inl (w32 (-(U14 26 8)))), some (.inl r22)], [], (am_sh, am_mm U23)) R
              subst haa2a12a1aa2aaa1a
              exact ev_end 2 (fun _ => rfl)
            · have haa2a12a1aa2aaa2 := haa2a12a1aa2aaa.2 (Int.not_le.mp hc)
              subst haa2a12a1aa2aaa2
              exact ev_end 2 (fun _ => rfl)
        · have haa2a12a2 := haa2a12a.2 (Int.not_lt.mp hc)
          refine ev_seg (σ1 := ((d + 1), 254, 72, [some (.inr (.inr 26)), some (.inl (U1 26 9)), some (.inl r2), some (.inl (w32 (-(U14 26 8)))), none], [.inl (U1 26 9), .inl 4, .inr (.inr 26)], (am_sh, am_mm U16))) 3 (fun _ => rfl) ?_
          obtain ⟨r24, U24, haa2a12a2c, haa2a12a2a⟩ := haa2a12a2
          refine ev_cal (σc := (Rd_refuseFor_s0 d 4 (U1 26 9) U16)) (fun _ => rfl) haa2a12a2c ?_
          show Ev (am_kz N X) ((d + 1), 254, 75, [some (.inr (.inr 26)), some (.inl (U1 26 9)), some (.inl r2), some (.inl (w32 (-(U14 26 8)))), none], [.inl r24], (am_sh, am_mm U24)) R
          rw [haa2a12a2a.2]
          exact ev_retz rfl rfl haa2a12a2a.1
    · have haa2a2 := haa2a.2 hc
      refine ev_seg (σ1 := ((d + 1), 254, 33, [some (.inr (.inr 26)), some (.inl (U1 26 9)), some (.inl r2), none, none], [.inr (.inr 26)], (am_sh, am_mm U14))) 1 (fun _ => rfl) ?_
      obtain ⟨r25, U25, haa2a2c, haa2a2a⟩ := haa2a2
      refine ev_cal (σc := (Rd_refuseHere_s0 d U14)) (fun _ => rfl) haa2a2c ?_
      show Ev (am_kz N X) ((d + 1), 254, 36, [some (.inr (.inr 26)), some (.inl (U1 26 9)), some (.inl r2), none, none], [.inl r25], (am_sh, am_mm U25)) R
      rw [haa2a2a.2]
      exact ev_retz rfl rfl haa2a2a.1
set_option maxRecDepth 8000 in
theorem Rd_takeLawKind_r0 {N : Nat} {X : Nat → Int} {d : Nat} {U : am_U} {R : Option am_V × am_M} (h : ∃ U1 : am_U, EvK N X (Rd_next_s0 d U) (rV U1) ∧ (((U1 26 7) ≠ 1) → ∃ (r2 : Int) (U2 : am_U), EvK N X (Rd_refuseHere_s0 d U1) (rI r2 U2) ∧ (r2 = 0 ∨ r2 = 1) ∧ R = rI r2 U2) ∧ (((U1 26 7) = 1) → (((U1 26 8) < 8) → ∃ (r3 : Int) (U3 : am_U), EvK N X (Rd_refuseHere_s0 d U1) (rI r3 U3) ∧ (r3 = 0 ∨ r3 = 1) ∧ R = rI r3 U3) ∧ ((8 ≤ (U1 26 8)) → (((U1 26 8) ≤ 10) → ∃ U4 : am_U, EvK N X (Rd_next_s0 d (am_upd (am_upd U1 26 10 (U1 26 8)) 26 11 (U1 31 18))) (rV U4) ∧ R = rI 1 U4) ∧ ((10 < (U1 26 8)) → ∃ (r5 : Int) (U5 : am_U), EvK N X (Rd_refuseHere_s0 d U1) (rI r5 U5) ∧ (r5 = 0 ∨ r5 = 1) ∧ R = rI r5 U5)))) : EvK N X (Rd_takeLawKind_s0 (d + 1) U) R := by
  show Ev (am_kz N X) ((d + 1), 255, 0, [some (.inr (.inr 26))], [], (am_sh, am_mm U)) R
  refine ev_seg (σ1 := ((d + 1), 255, 1, [some (.inr (.inr 26))], [.inr (.inr 26)], (am_sh, am_mm U))) 1 (fun _ => rfl) ?_
  obtain ⟨U1, hc, ha⟩ := h
  refine ev_cal (σc := (Rd_next_s0 d U)) (fun _ => rfl) hc ?_
  show Ev (am_kz N X) ((d + 1), 255, 4, [some (.inr (.inr 26))], [], (am_sh, am_mm U1)) R
  refine ev_br (P := ¬ (U1 26 7) = 1) (σ1 := ((d + 1), 255, 30, [some (.inr (.inr 26))], [], (am_sh, am_mm U1))) (σ2 := ((d + 1), 255, 12, [some (.inr (.inr 26))], [], (am_sh, am_mm U1))) 4 (fun _ => rfl) (fun hc => ?_) (fun hc => ?_)
  · have ha1 := ha.1 hc
    refine ev_seg (σ1 := ((d + 1), 255, 31, [some (.inr (.inr 26))], [.inr (.inr 26)], (am_sh, am_mm U1))) 1 (fun _ => rfl) ?_
    obtain ⟨r2, U2, ha1c, ha1a⟩ := ha1
    refine ev_cal (σc := (Rd_refuseHere_s0 d U1)) (fun _ => rfl) ha1c ?_
    show Ev (am_kz N X) ((d + 1), 255, 34, [some (.inr (.inr 26))], [.inl r2], (am_sh, am_mm U2)) R
    rw [ha1a.2]
    exact ev_retz rfl rfl ha1a.1
  · have ha2 := ha.2 (Decidable.not_not.mp hc)
    refine ev_br (P := (U1 26 8) < 8) (σ1 := ((d + 1), 255, 30, [some (.inr (.inr 26))], [], (am_sh, am_mm U1))) (σ2 := ((d + 1), 255, 21, [some (.inr (.inr 26))], [], (am_sh, am_mm U1))) 4 (fun _ => rfl) (fun hc => ?_) (fun hc => ?_)
    · have ha21 := ha2.1 hc
      refine ev_seg (σ1 := ((d + 1), 255, 31, [some (.inr (.inr 26))], [.inr (.inr 26)], (am_sh, am_mm U1))) 1 (fun _ => rfl) ?_
      obtain ⟨r3, U3, ha21c, ha21a⟩ := ha21
      refine ev_cal (σc := (Rd_refuseHere_s0 d U1)) (fun _ => rfl) ha21c ?_
      show Ev (am_kz N X) ((d + 1), 255, 34, [some (.inr (.inr 26))], [.inl r3], (am_sh, am_mm U3)) R
      rw [ha21a.2]
      exact ev_retz rfl rfl ha21a.1
    · have ha22 := ha2.2 (Int.not_lt.mp hc)
      refine ev_br (P := (U1 26 8) ≤ 10) (σ1 := ((d + 1), 255, 35, [some (.inr (.inr 26))], [], (am_sh, am_mm U1))) (σ2 := ((d + 1), 255, 30, [some (.inr (.inr 26))], [], (am_sh, am_mm U1))) 4 (fun _ => rfl) (fun hc => ?_) (fun hc => ?_)
      · have ha221 := ha22.1 hc
        refine ev_seg (σ1 := ((d + 1), 255, 40, [some (.inr (.inr 26))], [.inl (U1 26 8), .inr (.inr 26)], (am_sh, am_mm U1))) 3 (fun _ => rfl) ?_
        refine eu_puti 26 (n := 12) rfl (by decide) rfl rfl ?_
        show Ev (am_kz N X) ((d + 1), 255, 43, [some (.inr (.inr 26))], [], (am_sh, am_mm (am_upd U1 26 10 (U1 26 8)))) R
        refine ev_seg (σ1 := ((d + 1), 255, 51, [some (.inr (.inr 26))], [.inl (U1 31 18), .inr (.inr 26)], (am_sh, am_mm (am_upd U1 26 10 (U1 26 8))))) 4 (fun _ => rfl) ?_
        refine eu_puti 26 (n := 12) rfl (by decide) rfl rfl ?_
        show Ev (am_kz N X) ((d + 1), 255, 54, [some (.inr (.inr 26))], [], (am_sh, am_mm (am_upd (am_upd U1 26 10 (U1 26 8)) 26 11 (U1 31 18)))) R
        refine ev_seg (σ1 := ((d + 1), 255, 55, [some (.inr (.inr 26))], [.inr (.inr 26)], (am_sh, am_mm (am_upd (am_upd U1 26 10 (U1 26 8)) 26 11 (U1 31 18))))) 1 (fun _ => rfl) ?_
        obtain ⟨U4, ha221c, ha221a⟩ := ha221
        refine ev_cal (σc := (Rd_next_s0 d (am_upd (am_upd U1 26 10 (U1 26 8)) 26 11 (U1 31 18)))) (fun _ => rfl) ha221c ?_
        show Ev (am_kz N X) ((d + 1), 255, 58, [some (.inr (.inr 26))], [], (am_sh, am_mm U4)) R
        subst ha221a
        exact ev_end 2 (fun _ => rfl)
      · have ha222 := ha22.2 (Int.not_le.mp hc)
        refine ev_seg (σ1 := ((d + 1), 255, 31, [some (.inr (.inr 26))], [.inr (.inr 26)], (am_sh, am_mm U1))) 1 (fun _ => rfl) ?_
        obtain ⟨r5, U5, ha222c, ha222a⟩ := ha222
        refine ev_cal (σc := (Rd_refuseHere_s0 d U1)) (fun _ => rfl) ha222c ?_
        show Ev (am_kz N X) ((d + 1), 255, 34, [some (.inr (.inr 26))], [.inl r5], (am_sh, am_mm U5)) R
        rw [ha222a.2]
        exact ev_retz rfl rfl ha222a.1
set_option maxRecDepth 8000 in
theorem Rd_readTest_r0 {N : Nat} {X : Nat → Int} {d : Nat} {x1 : Int} {U : am_U} {R : Option am_V × am_M} (h : ∃ (r1 : Int) (U1 : am_U), EvK N X (Rd_readBoth_s0 d x1 U) (rI r1 U1) ∧ EvK N X (Rd_readTest_s8 (d + 1) x1 r1 0 U1) R) : EvK N X (Rd_readTest_s0 (d + 1) x1 U) R := by
  show Ev (am_kz N X) ((d + 1), 256, 0, [some (.inr (.inr 26)), some (.inl x1), none, none], [], (am_sh, am_mm U)) R
  refine ev_seg (σ1 := ((d + 1), 256, 2, [some (.inr (.inr 26)), some (.inl x1), none, none], [.inl x1, .inr (.inr 26)], (am_sh, am_mm U))) 2 (fun _ => rfl) ?_
  obtain ⟨r1, U1, hc, ha⟩ := h
  refine ev_cal (σc := (Rd_readBoth_s0 d x1 U)) (fun _ => rfl) hc ?_
  show Ev (am_kz N X) ((d + 1), 256, 5, [some (.inr (.inr 26)), some (.inl x1), none, none], [.inl r1], (am_sh, am_mm U1)) R
  refine ev_seg (σ1 := ((d + 1), 256, 8, [some (.inr (.inr 26)), some (.inl x1), some (.inl r1), some (.inl 0)], [], (am_sh, am_mm U1))) 3 (fun _ => rfl) ?_
  exact ha
set_option maxRecDepth 8000 in
theorem Rd_readTest_r8 {N : Nat} {X : Nat → Int} {d : Nat} {x1 x2 x3 : Int} {U : am_U} {R : Option am_V × am_M} (h : ((1600 ≤ x3) → (x2 = 0 ∨ x2 = 1) ∧ R = rI x2 U) ∧ ((x3 < 1600) → ((x2 = 0) → (x2 = 0 ∨ x2 = 1) ∧ R = rI x2 U) ∧ ((x2 ≠ 0) → ∃ (r1 : Int) (U1 : am_U), EvK N X (Rd_isOwn_s0 d 19 U) (rI r1 U1) ∧ ((r1 = 0) → (x2 = 0 ∨ x2 = 1) ∧ R = rI x2 U1) ∧ ((r1 ≠ 0) → ∃ U2 : am_U, EvK N X (Rd_next_s0 d U1) (rV U2) ∧ ∃ (r3 : Int) (U3 : am_U), EvK N X (Rd_readBoth_s0 d x1 U2) (rI r3 U3) ∧ ((r3 = 0) → EvK N X (Rd_readTest_s8 (d + 1) x1 0 (w32 (x3 + 1)) U3) R) ∧ ((r3 ≠ 0) → ∃ (r4 : Int) (U4 : am_U), EvK N X (Tw_emitWord_s0 d 19 U3) (rI r4 U4) ∧ ((r4 = 0) → EvK N X (Rd_readTest_s8 (d + 1) x1 0 (w32 (x3 + 1)) U4) R) ∧ ((r4 ≠ 0) → EvK N X (Rd_readTest_s8 (d + 1) x1 1 (w32 (x3 + 1)) U4) R)))))) : EvK N X (Rd_readTest_s8 (d + 1) x1 x2 x3 U) R := by
  show Ev (am_kz N X) ((d + 1), 256, 8, [some (.inr (.inr 26)), some (.inl x1), some (.inl x2), some (.inl x3)], [], (am_sh, am_mm U)) R
  refine ev_br (P := 1600 ≤ x3) (σ1 := ((d + 1), 256, 64, [some (.inr (.inr 26)), some (.inl x1), some (.inl x2), some (.inl x3)], [], (am_sh, am_mm U))) (σ2 := ((d + 1), 256, 15, [some (.inr (.inr 26)), some (.inl x1), some (.inl x2), some (.inl x3)], [], (am_sh, am_mm U))) 3 (fun _ => rfl) (fun hc => ?_) (fun hc => ?_)
  · have h1 := h.1 hc
    refine ev_seg (σ1 := ((d + 1), 256, 65, [some (.inr (.inr 26)), some (.inl x1), some (.inl x2), some (.inl x3)], [.inl x2], (am_sh, am_mm U))) 1 (fun _ => rfl) ?_
    rw [h1.2]
    exact ev_retz rfl rfl h1.1
  · have h2 := h.2 (Int.not_le.mp hc)
    refine ev_br (P := x2 = 0) (σ1 := ((d + 1), 256, 64, [some (.inr (.inr 26)), some (.inl x1), some (.inl x2), some (.inl x3)], [], (am_sh, am_mm U))) (σ2 := ((d + 1), 256, 19, [some (.inr (.inr 26)), some (.inl x1), some (.inl x2), some (.inl x3)], [], (am_sh, am_mm U))) 2 (fun _ => rfl) (fun hc => ?_) (fun hc => ?_)
    · have h21 := h2.1 hc
      refine ev_seg (σ1 := ((d + 1), 256, 65, [some (.inr (.inr 26)), some (.inl x1), some (.inl x2), some (.inl x3)], [.inl x2], (am_sh, am_mm U))) 1 (fun _ => rfl) ?_
      rw [h21.2]
      exact ev_retz rfl rfl h21.1
    · have h22 := h2.2 hc
      refine ev_seg (σ1 := ((d + 1), 256, 22, [some (.inr (.inr 26)), some (.inl x1), some (.inl x2), some (.inl x3)], [.inl 19, .inr (.inr 26)], (am_sh, am_mm U))) 2 (fun _ => rfl) ?_
      obtain ⟨r1, U1, h22c, h22a⟩ := h22
      refine ev_cal (σc := (Rd_isOwn_s0 d 19 U)) (fun _ => rfl) h22c ?_
      show Ev (am_kz N X) ((d + 1), 256, 25, [some (.inr (.inr 26)), some (.inl x1), some (.inl x2), some (.inl x3)], [.inl r1], (am_sh, am_mm U1)) R
      refine ev_br (P := r1 = 0) (σ1 := ((d + 1), 256, 64, [some (.inr (.inr 26)), some (.inl x1), some (.inl x2), some (.inl x3)], [], (am_sh, am_mm U1))) (σ2 := ((d + 1), 256, 28, [some (.inr (.inr 26)), some (.inl x1), some (.inl x2), some (.inl x3)], [], (am_sh, am_mm U1))) 1 (fun _ => rfl) (fun hc => ?_) (fun hc => ?_)
      · have h22a1 := h22a.1 hc
        refine ev_seg (σ1 := ((d + 1), 256, 65, [some (.inr (.inr 26)), some (.inl x1), some (.inl x2), some (.inl x3)], [.inl x2], (am_sh, am_mm U1))) 1 (fun _ => rfl) ?_
        rw [h22a1.2]
        exact ev_retz rfl rfl h22a1.1
      · have h22a2 := h22a.2 hc
        refine ev_seg (σ1 := ((d + 1), 256, 29, [some (.inr (.inr 26)), some (.inl x1), some (.inl x2), some (.inl x3)], [.inr (.inr 26)], (am_sh, am_mm U1))) 1 (fun _ => rfl) ?_
        obtain ⟨U2, h22a2c, h22a2a⟩ := h22a2
        refine ev_cal (σc := (Rd_next_s0 d U1)) (fun _ => rfl) h22a2c ?_
        show Ev (am_kz N X) ((d + 1), 256, 32, [some (.inr (.inr 26)), some (.inl x1), some (.inl x2), some (.inl x3)], [], (am_sh, am_mm U2)) R
        refine ev_seg (σ1 := ((d + 1), 256, 34, [some (.inr (.inr 26)), some (.inl x1), some (.inl x2), some (.inl x3)], [.inl x1, .inr (.inr 26)], (am_sh, am_mm U2))) 2 (fun _ => rfl) ?_
        obtain ⟨r3, U3, h22a2ac, h22a2aa⟩ := h22a2a
        refine ev_cal (σc := (Rd_readBoth_s0 d x1 U2)) (fun _ => rfl) h22a2ac ?_
        show Ev (am_kz N X) ((d + 1), 256, 37, [some (.inr (.inr 26)), some (.inl x1), some (.inl x2), some (.inl x3)], [.inl r3], (am_sh, am_mm U3)) R
        refine ev_br (P := r3 = 0) (σ1 := ((d + 1), 256, 56, [some (.inr (.inr 26)), some (.inl x1), some (.inl x2), some (.inl x3)], [], (am_sh, am_mm U3))) (σ2 := ((d + 1), 256, 40, [some (.inr (.inr 26)), some (.inl x1), some (.inl x2), some (.inl x3)], [], (am_sh, am_mm U3))) 1 (fun _ => rfl) (fun hc => ?_) (fun hc => ?_)
        · have h22a2aa1 := h22a2aa.1 hc
          refine ev_seg (σ1 := ((d + 1), 256, 8, [some (.inr (.inr 26)), some (.inl x1), some (.inl 0), some (.inl (w32 (x3 + 1)))], [], (am_sh, am_mm U3))) 4 (fun _ => rfl) ?_
          exact h22a2aa1
        · have h22a2aa2 := h22a2aa.2 hc
          refine ev_seg (σ1 := ((d + 1), 256, 46, [some (.inr (.inr 26)), some (.inl x1), some (.inl x2), some (.inl x3)], [.inl 19, .inr (.inr 31)], (am_sh, am_mm U3))) 3 (fun _ => rfl) ?_
          obtain ⟨r4, U4, h22a2aa2c, h22a2aa2a⟩ := h22a2aa2
          refine ev_cal (σc := (Tw_emitWord_s0 d 19 U3)) (fun _ => rfl) h22a2aa2c ?_
          show Ev (am_kz N X) ((d + 1), 256, 49, [some (.inr (.inr 26)), some (.inl x1), some (.inl x2), some (.inl x3)], [.inl r4], (am_sh, am_mm U4)) R
          refine ev_br (P := r4 = 0) (σ1 := ((d + 1), 256, 56, [some (.inr (.inr 26)), some (.inl x1), some (.inl x2), some (.inl x3)], [], (am_sh, am_mm U4))) (σ2 := ((d + 1), 256, 52, [some (.inr (.inr 26)), some (.inl x1), some (.inl x2), some (.inl x3)], [], (am_sh, am_mm U4))) 1 (fun _ => rfl) (fun hc => ?_) (fun hc => ?_)
          · have h22a2aa2a1 := h22a2aa2a.1 hc
            refine ev_seg (σ1 := ((d + 1), 256, 8, [some (.inr (.inr 26)), some (.inl x1), some (.inl 0), some (.inl (w32 (x3 + 1)))], [], (am_sh, am_mm U4))) 4 (fun _ => rfl) ?_
            exact h22a2aa2a1
          · have h22a2aa2a2 := h22a2aa2a.2 hc
            refine ev_seg (σ1 := ((d + 1), 256, 8, [some (.inr (.inr 26)), some (.inl x1), some (.inl 1), some (.inl (w32 (x3 + 1)))], [], (am_sh, am_mm U4))) 5 (fun _ => rfl) ?_
            exact h22a2aa2a2
set_option maxRecDepth 8000 in
theorem Tw_addLaw_r0 {N : Nat} {X : Nat → Int} {d : Nat} {x1 x2 : Int} {U : am_U} {R : Option am_V × am_M} (h : ((8 ≤ (U 31 4)) → R = rI 1 U) ∧ (((U 31 4) < 8) → (0 ≤ (U 31 4) ∧ (U 31 4) < 8) ∧ (0 ≤ (U 31 4) ∧ (U 31 4) < 9) ∧ R = rI 1 (am_upd (am_upd (am_upd (am_upd U 40 ((U 31 4).toNat) x1) 41 ((U 31 4).toNat) x2) 42 ((U 31 4).toNat) (U 31 18)) 31 4 (w32 ((U 31 4) + 1))))) : EvK N X (Tw_addLaw_s0 d x1 x2 U) R := by
  show Ev (am_kz N X) (d, 257, 0, [some (.inr (.inr 31)), some (.inl x1), some (.inl x2)], [], (am_sh, am_mm U)) R
  refine ev_br (P := 8 ≤ (U 31 4)) (σ1 := (d, 257, 52, [some (.inr (.inr 31)), some (.inl x1), some (.inl x2)], [], (am_sh, am_mm U))) (σ2 := (d, 257, 9, [some (.inr (.inr 31)), some (.inl x1), some (.inl x2)], [], (am_sh, am_mm U))) 4 (fun _ => rfl) (fun hc => ?_) (fun hc => ?_)
  · have h1 := h.1 hc
    subst h1
    exact ev_end 2 (fun _ => rfl)
  · have h2 := h.2 (Int.not_le.mp hc)
    refine ev_seg (σ1 := (d, 257, 18, [some (.inr (.inr 31)), some (.inl x1), some (.inl x2)], [.inl x1, .inl (U 31 4), .inr (.inr 40)], (am_sh, am_mm U))) 5 (fun _ => rfl) ?_
    refine eu_iast 40 (n := 8) rfl (by decide) rfl (fun _ => rfl) h2.1 ?_
    show Ev (am_kz N X) (d, 257, 19, [some (.inr (.inr 31)), some (.inl x1), some (.inl x2)], [], (am_sh, am_mm (am_upd U 40 ((U 31 4).toNat) x1))) R
    have h2a := h2.2
    refine ev_seg (σ1 := (d, 257, 28, [some (.inr (.inr 31)), some (.inl x1), some (.inl x2)], [.inl x2, .inl (U 31 4), .inr (.inr 41)], (am_sh, am_mm (am_upd U 40 ((U 31 4).toNat) x1)))) 5 (fun _ => rfl) ?_
    refine eu_iast 41 (n := 9) rfl (by decide) rfl (fun _ => rfl) h2a.1 ?_
    show Ev (am_kz N X) (d, 257, 29, [some (.inr (.inr 31)), some (.inl x1), some (.inl x2)], [], (am_sh, am_mm (am_upd (am_upd U 40 ((U 31 4).toNat) x1) 41 ((U 31 4).toNat) x2))) R
    have h2aa := h2a.2
    refine ev_seg (σ1 := (d, 257, 41, [some (.inr (.inr 31)), some (.inl x1), some (.inl x2)], [.inl (U 31 18), .inl (U 31 4), .inr (.inr 42)], (am_sh, am_mm (am_upd (am_upd U 40 ((U 31 4).toNat) x1) 41 ((U 31 4).toNat) x2)))) 6 (fun _ => rfl) ?_
    refine eu_iast 42 (n := 9) rfl (by decide) rfl (fun _ => rfl) h2a.1 ?_
    show Ev (am_kz N X) (d, 257, 42, [some (.inr (.inr 31)), some (.inl x1), some (.inl x2)], [], (am_sh, am_mm (am_upd (am_upd (am_upd U 40 ((U 31 4).toNat) x1) 41 ((U 31 4).toNat) x2) 42 ((U 31 4).toNat) (U 31 18)))) R
    refine ev_seg (σ1 := (d, 257, 49, [some (.inr (.inr 31)), some (.inl x1), some (.inl x2)], [.inl (w32 ((U 31 4) + 1)), .inr (.inr 31)], (am_sh, am_mm (am_upd (am_upd (am_upd U 40 ((U 31 4).toNat) x1) 41 ((U 31 4).toNat) x2) 42 ((U 31 4).toNat) (U 31 18))))) 5 (fun _ => rfl) ?_
    refine eu_puti 31 (n := 19) rfl (by decide) rfl rfl ?_
    show Ev (am_kz N X) (d, 257, 52, [some (.inr (.inr 31)), some (.inl x1), some (.inl x2)], [], (am_sh, am_mm (am_upd (am_upd (am_upd (am_upd U 40 ((U 31 4).toNat) x1) 41 ((U 31 4).toNat) x2) 42 ((U 31 4).toNat) (U 31 18)) 31 4 (w32 ((U 31 4) + 1))))) R
    subst h2aa
    exact ev_end 2 (fun _ => rfl)
set_option maxRecDepth 8000 in
theorem Rd_takeWed_r0 {N : Nat} {X : Nat → Int} {d : Nat} {U : am_U} {R : Option am_V × am_M} (h : ∃ U1 : am_U, EvK N X (Rd_next_s0 d (am_upd U 26 11 (U 31 18))) (rV U1) ∧ R = rI 1 U1) : EvK N X (Rd_takeWed_s0 (d + 1) U) R := by
  show Ev (am_kz N X) ((d + 1), 258, 0, [some (.inr (.inr 26))], [], (am_sh, am_mm U)) R
  refine ev_seg (σ1 := ((d + 1), 258, 8, [some (.inr (.inr 26))], [.inl (U 31 18), .inr (.inr 26)], (am_sh, am_mm U))) 4 (fun _ => rfl) ?_
  refine eu_puti 26 (n := 12) rfl (by decide) rfl rfl ?_
  show Ev (am_kz N X) ((d + 1), 258, 11, [some (.inr (.inr 26))], [], (am_sh, am_mm (am_upd U 26 11 (U 31 18)))) R
  refine ev_seg (σ1 := ((d + 1), 258, 12, [some (.inr (.inr 26))], [.inr (.inr 26)], (am_sh, am_mm (am_upd U 26 11 (U 31 18))))) 1 (fun _ => rfl) ?_
  obtain ⟨U1, hc, ha⟩ := h
  refine ev_cal (σc := (Rd_next_s0 d (am_upd U 26 11 (U 31 18)))) (fun _ => rfl) hc ?_
  show Ev (am_kz N X) ((d + 1), 258, 15, [some (.inr (.inr 26))], [], (am_sh, am_mm U1)) R
  subst ha
  exact ev_end 2 (fun _ => rfl)
set_option maxRecDepth 8000 in
theorem Tw_addWed_r0 {N : Nat} {X : Nat → Int} {d : Nat} {x1 : Int} {U : am_U} {R : Option am_V × am_M} (h : R = rI 1 (am_upd (am_upd U 41 8 x1) 42 8 (U 31 18))) : EvK N X (Tw_addWed_s0 d x1 U) R := by
  show Ev (am_kz N X) (d, 259, 0, [some (.inr (.inr 31)), some (.inl x1)], [], (am_sh, am_mm U)) R
  refine ev_seg (σ1 := (d, 259, 7, [some (.inr (.inr 31)), some (.inl x1)], [.inl x1, .inl 8, .inr (.inr 41)], (am_sh, am_mm U))) 4 (fun _ => rfl) ?_
  refine eu_iast 41 (n := 9) rfl (by decide) rfl (fun _ => rfl) (by decide) ?_
  show Ev (am_kz N X) (d, 259, 8, [some (.inr (.inr 31)), some (.inl x1)], [], (am_sh, am_mm (am_upd U 41 8 x1))) R
  refine ev_seg (σ1 := (d, 259, 18, [some (.inr (.inr 31)), some (.inl x1)], [.inl (U 31 18), .inl 8, .inr (.inr 42)], (am_sh, am_mm (am_upd U 41 8 x1)))) 5 (fun _ => rfl) ?_
  refine eu_iast 42 (n := 9) rfl (by decide) rfl (fun _ => rfl) (by decide) ?_
  show Ev (am_kz N X) (d, 259, 19, [some (.inr (.inr 31)), some (.inl x1)], [], (am_sh, am_mm (am_upd (am_upd U 41 8 x1) 42 8 (U 31 18)))) R
  subst h
  exact ev_end 2 (fun _ => rfl)
set_option maxRecDepth 8000 in
theorem Rd_readDebt_r0 {N : Nat} {X : Nat → Int} {d : Nat} {U : am_U} {R : Option am_V × am_M} (h : ∃ U1 : am_U, EvK N X (Rd_next_s0 d U) (rV U1) ∧ ∃ (r2 : Int) (U2 : am_U), EvK N X (Rd_takeHouse_s0 d 0 U1) (rI r2 U2) ∧ ((0 ≤ r2) → ∃ (r3 : Int) (U3 : am_U), EvK N X (Rd_takeHouse_s0 d (am_shl 1 r2) U2) (rI r3 U3) ∧ ((0 ≤ r3) → ∃ (r4 : Int) (U4 : am_U), EvK N X (Rd_takeNumber_s0 d 1 9999 U3) (rI r4 U4) ∧ ((0 ≤ r4) → ∃ U5 : am_U, EvK N X (Tw_addDebt_s0 d r2 r3 r4 U4) (rV U5) ∧ R = rI 1 U5) ∧ ((r4 < 0) → R = rI 0 U4)) ∧ ((r3 < 0) → R = rI 0 U3)) ∧ ((r2 < 0) → R = rI 0 U2)) : EvK N X (Rd_readDebt_s0 (d + 1) U) R := by
  show Ev (am_kz N X) ((d + 1), 260, 0, [some (.inr (.inr 26)), none, none, none], [], (am_sh, am_mm U)) R
  refine ev_seg (σ1 := ((d + 1), 260, 1, [some (.inr (.inr 26)), none, none, none], [.inr (.inr 26)], (am_sh, am_mm U))) 1 (fun _ => rfl) ?_
  obtain ⟨U1, hc, ha⟩ := h
  refine ev_cal (σc := (Rd_next_s0 d U)) (fun _ => rfl) hc ?_
  show Ev (am_kz N X) ((d + 1), 260, 4, [some (.inr (.inr 26)), none, none, none], [], (am_sh, am_mm U1)) R
  refine ev_seg (σ1 := ((d + 1), 260, 6, [some (.inr (.inr 26)), none, none, none], [.inl 0, .inr (.inr 26)], (am_sh, am_mm U1))) 2 (fun _ => rfl) ?_
  obtain ⟨r2, U2, hac, haa⟩ := ha
  refine ev_cal (σc := (Rd_takeHouse_s0 d 0 U1)) (fun _ => rfl) hac ?_
  show Ev (am_kz N X) ((d + 1), 260, 9, [some (.inr (.inr 26)), none, none, none], [.inl r2], (am_sh, am_mm U2)) R
  refine ev_br (P := 0 ≤ r2) (σ1 := ((d + 1), 260, 16, [some (.inr (.inr 26)), some (.inl r2), none, none], [], (am_sh, am_mm U2))) (σ2 := ((d + 1), 260, 14, [some (.inr (.inr 26)), some (.inl r2), none, none], [], (am_sh, am_mm U2))) 3 (fun _ => rfl) (fun hc => ?_) (fun hc => ?_)
  · have haa1 := haa.1 hc
    refine ev_seg (σ1 := ((d + 1), 260, 20, [some (.inr (.inr 26)), some (.inl r2), none, none], [.inl (am_shl 1 r2), .inr (.inr 26)], (am_sh, am_mm U2))) 4 (fun _ => rfl) ?_
    obtain ⟨r3, U3, haa1c, haa1a⟩ := haa1
    refine ev_cal (σc := (Rd_takeHouse_s0 d (am_shl 1 r2) U2)) (fun _ => rfl) haa1c ?_
    show Ev (am_kz N X) ((d + 1), 260, 23, [some (.inr (.inr 26)), some (.inl r2), none, none], [.inl r3], (am_sh, am_mm U3)) R
    refine ev_br (P := 0 ≤ r3) (σ1 := ((d + 1), 260, 30, [some (.inr (.inr 26)), some (.inl r2), some (.inl r3), none], [], (am_sh, am_mm U3))) (σ2 := ((d + 1), 260, 28, [some (.inr (.inr 26)), some (.inl r2), some (.inl r3), none], [], (am_sh, am_mm U3))) 3 (fun _ => rfl) (fun hc => ?_) (fun hc => ?_)
    · have haa1a1 := haa1a.1 hc
      refine ev_seg (σ1 := ((d + 1), 260, 35, [some (.inr (.inr 26)), some (.inl r2), some (.inl r3), none], [.inl 9999, .inl 1, .inr (.inr 26)], (am_sh, am_mm U3))) 3 (fun _ => rfl) ?_
      obtain ⟨r4, U4, haa1a1c, haa1a1a⟩ := haa1a1
      refine ev_cal (σc := (Rd_takeNumber_s0 d 1 9999 U3)) (fun _ => rfl) haa1a1c ?_
      show Ev (am_kz N X) ((d + 1), 260, 38, [some (.inr (.inr 26)), some (.inl r2), some (.inl r3), none], [.inl r4], (am_sh, am_mm U4)) R
      refine ev_br (P := 0 ≤ r4) (σ1 := ((d + 1), 260, 45, [some (.inr (.inr 26)), some (.inl r2), some (.inl r3), some (.inl r4)], [], (am_sh, am_mm U4))) (σ2 := ((d + 1), 260, 43, [some (.inr (.inr 26)), some (.inl r2), some (.inl r3), some (.inl r4)], [], (am_sh, am_mm U4))) 3 (fun _ => rfl) (fun hc => ?_) (fun hc => ?_)
      · have haa1a1a1 := haa1a1a.1 hc
        refine ev_seg (σ1 := ((d + 1), 260, 52, [some (.inr (.inr 26)), some (.inl r2), some (.inl r3), some (.inl r4)], [.inl r4, .inl r3, .inl r2, .inr (.inr 31)], (am_sh, am_mm U4))) 5 (fun _ => rfl) ?_
        obtain ⟨U5, haa1a1a1c, haa1a1a1a⟩ := haa1a1a1
        refine ev_cal (σc := (Tw_addDebt_s0 d r2 r3 r4 U4)) (fun _ => rfl) haa1a1a1c ?_
        show Ev (am_kz N X) ((d + 1), 260, 55, [some (.inr (.inr 26)), some (.inl r2), some (.inl r3), some (.inl r4)], [], (am_sh, am_mm U5)) R
        subst haa1a1a1a
        exact ev_end 2 (fun _ => rfl)
      · have haa1a1a2 := haa1a1a.2 (Int.not_le.mp hc)
        subst haa1a1a2
        exact ev_end 2 (fun _ => rfl)
    · have haa1a2 := haa1a.2 (Int.not_le.mp hc)
      subst haa1a2
      exact ev_end 2 (fun _ => rfl)
  · have haa2 := haa.2 (Int.not_le.mp hc)
    subst haa2
    exact ev_end 2 (fun _ => rfl)
set_option maxRecDepth 8000 in
theorem Rd_readFire_r0 {N : Nat} {X : Nat → Int} {d : Nat} {U : am_U} {R : Option am_V × am_M} (h : ∃ U1 : am_U, EvK N X (Rd_next_s0 d U) (rV U1) ∧ ∃ (r2 : Int) (U2 : am_U), EvK N X (Rd_takeNumber_s0 d 0 100 U1) (rI r2 U2) ∧ ((0 ≤ r2) → R = rI 1 (am_upd U2 31 5 r2)) ∧ ((r2 < 0) → R = rI 0 U2)) : EvK N X (Rd_readFire_s0 (d + 1) U) R := by
  show Ev (am_kz N X) ((d + 1), 261, 0, [some (.inr (.inr 26)), none], [], (am_sh, am_mm U)) R
  refine ev_seg (σ1 := ((d + 1), 261, 1, [some (.inr (.inr 26)), none], [.inr (.inr 26)], (am_sh, am_mm U))) 1 (fun _ => rfl) ?_
  obtain ⟨U1, hc, ha⟩ := h
  refine ev_cal (σc := (Rd_next_s0 d U)) (fun _ => rfl) hc ?_
  show Ev (am_kz N X) ((d + 1), 261, 4, [some (.inr (.inr 26)), none], [], (am_sh, am_mm U1)) R
  refine ev_seg (σ1 := ((d + 1), 261, 8, [some (.inr (.inr 26)), none], [.inl 100, .inl 0, .inr (.inr 26)], (am_sh, am_mm U1))) 3 (fun _ => rfl) ?_
  obtain ⟨r2, U2, hac, haa⟩ := ha
  refine ev_cal (σc := (Rd_takeNumber_s0 d 0 100 U1)) (fun _ => rfl) hac ?_
  show Ev (am_kz N X) ((d + 1), 261, 11, [some (.inr (.inr 26)), none], [.inl r2], (am_sh, am_mm U2)) R
  refine ev_br (P := 0 ≤ r2) (σ1 := ((d + 1), 261, 18, [some (.inr (.inr 26)), some (.inl r2)], [], (am_sh, am_mm U2))) (σ2 := ((d + 1), 261, 16, [some (.inr (.inr 26)), some (.inl r2)], [], (am_sh, am_mm U2))) 3 (fun _ => rfl) (fun hc => ?_) (fun hc => ?_)
  · have haa1 := haa.1 hc
    refine ev_seg (σ1 := ((d + 1), 261, 23, [some (.inr (.inr 26)), some (.inl r2)], [.inl r2, .inr (.inr 31)], (am_sh, am_mm U2))) 3 (fun _ => rfl) ?_
    refine eu_puti 31 (n := 19) rfl (by decide) rfl rfl ?_
    show Ev (am_kz N X) ((d + 1), 261, 26, [some (.inr (.inr 26)), some (.inl r2)], [], (am_sh, am_mm (am_upd U2 31 5 r2))) R
    subst haa1
    exact ev_end 2 (fun _ => rfl)
  · have haa2 := haa.2 (Int.not_le.mp hc)
    subst haa2
    exact ev_end 2 (fun _ => rfl)
set_option maxRecDepth 8000 in
theorem Rd_takeSign_r0 {N : Nat} {X : Nat → Int} {d : Nat} {x1 : Int} {U : am_U} {R : Option am_V × am_M} (h : ∃ (r1 : Int) (U1 : am_U), EvK N X (Rd_isSign_s0 d x1 U) (rI r1 U1) ∧ ((r1 ≠ 0) → ∃ U2 : am_U, EvK N X (Rd_next_s0 d U1) (rV U2) ∧ R = rI 1 U2) ∧ ((r1 = 0) → ∃ (r3 : Int) (U3 : am_U), EvK N X (Rd_refuseHere_s0 d U1) (rI r3 U3) ∧ (r3 = 0 ∨ r3 = 1) ∧ R = rI r3 U3)) : EvK N X (Rd_takeSign_s0 (d + 1) x1 U) R := by
  show Ev (am_kz N X) ((d + 1), 263, 0, [some (.inr (.inr 26)), some (.inl x1)], [], (am_sh, am_mm U)) R
  refine ev_seg (σ1 := ((d + 1), 263, 2, [some (.inr (.inr 26)), some (.inl x1)], [.inl x1, .inr (.inr 26)], (am_sh, am_mm U))) 2 (fun _ => rfl) ?_
  obtain ⟨r1, U1, hc, ha⟩ := h
  refine ev_cal (σc := (Rd_isSign_s0 d x1 U)) (fun _ => rfl) hc ?_
  show Ev (am_kz N X) ((d + 1), 263, 5, [some (.inr (.inr 26)), some (.inl x1)], [.inl r1], (am_sh, am_mm U1)) R
  refine ev_br (P := ¬ r1 = 0) (σ1 := ((d + 1), 263, 13, [some (.inr (.inr 26)), some (.inl x1)], [], (am_sh, am_mm U1))) (σ2 := ((d + 1), 263, 8, [some (.inr (.inr 26)), some (.inl x1)], [], (am_sh, am_mm U1))) 1 (fun _ => rfl) (fun hc => ?_) (fun hc => ?_)
  · have ha1 := ha.1 hc
    refine ev_seg (σ1 := ((d + 1), 263, 14, [some (.inr (.inr 26)), some (.inl x1)], [.inr (.inr 26)], (am_sh, am_mm U1))) 1 (fun _ => rfl) ?_
    obtain ⟨U2, ha1c, ha1a⟩ := ha1
    refine ev_cal (σc := (Rd_next_s0 d U1)) (fun _ => rfl) ha1c ?_
    show Ev (am_kz N X) ((d + 1), 263, 17, [some (.inr (.inr 26)), some (.inl x1)], [], (am_sh, am_mm U2)) R
    subst ha1a
    exact ev_end 2 (fun _ => rfl)
  · have ha2 := ha.2 (Decidable.not_not.mp hc)
    refine ev_seg (σ1 := ((d + 1), 263, 9, [some (.inr (.inr 26)), some (.inl x1)], [.inr (.inr 26)], (am_sh, am_mm U1))) 1 (fun _ => rfl) ?_
    obtain ⟨r3, U3, ha2c, ha2a⟩ := ha2
    refine ev_cal (σc := (Rd_refuseHere_s0 d U1)) (fun _ => rfl) ha2c ?_
    show Ev (am_kz N X) ((d + 1), 263, 12, [some (.inr (.inr 26)), some (.inl x1)], [.inl r3], (am_sh, am_mm U3)) R
    rw [ha2a.2]
    exact ev_retz rfl rfl ha2a.1
set_option maxRecDepth 8000 in
theorem Ar_fill_II_19_r0 {N : Nat} {X : Nat → Int} {d : Nat} {x1 : Int} {U : am_U} {R : Option am_V × am_M} (h : EvK N X (Ar_fill_II_19_s5 d x1 0 12 U) R) : EvK N X (Ar_fill_II_19_s0 d x1 U) R := by
  show Ev (am_kz N X) (d, 211, 0, [some (.inr (.inr 19)), some (.inl x1), none, none], [], (am_sh, am_mm U)) R
  refine ev_seg (σ1 := (d, 211, 5, [some (.inr (.inr 19)), some (.inl x1), some (.inl 0), some (.inl 12)], [], (am_sh, am_mm U))) 5 (fun _ => rfl) ?_
  exact h
set_option maxRecDepth 8000 in
theorem Ar_fill_II_19_r5 {N : Nat} {X : Nat → Int} {d : Nat} {x1 x2 x3 : Int} {U : am_U} {R : Option am_V × am_M} (h : ((x3 ≤ x2) → R = rV U) ∧ ((x2 < x3) → (0 ≤ x2 ∧ x2 < 12) ∧ EvK N X (Ar_fill_II_19_s5 d x1 (w32 (x2 + 1)) x3 (am_upd U 19 x2.toNat x1)) R)) : EvK N X (Ar_fill_II_19_s5 d x1 x2 x3 U) R := by
  show Ev (am_kz N X) (d, 211, 5, [some (.inr (.inr 19)), some (.inl x1), some (.inl x2), some (.inl x3)], [], (am_sh, am_mm U)) R
  refine ev_br (P := x3 ≤ x2) (σ1 := (d, 211, 20, [some (.inr (.inr 19)), some (.inl x1), some (.inl x2), some (.inl x3)], [], (am_sh, am_mm U))) (σ2 := (d, 211, 10, [some (.inr (.inr 19)), some (.inl x1), some (.inl x2), some (.inl x3)], [], (am_sh, am_mm U))) 3 (fun _ => rfl) (fun hc => ?_) (fun hc => ?_)
  · have h1 := h.1 hc
    subst h1
    exact ev_end 1 (fun _ => rfl)
  · have h2 := h.2 (Int.not_le.mp hc)
    refine ev_seg (σ1 := (d, 211, 13, [some (.inr (.inr 19)), some (.inl x1), some (.inl x2), some (.inl x3)], [.inl x1, .inl x2, .inr (.inr 19)], (am_sh, am_mm U))) 3 (fun _ => rfl) ?_
    refine eu_iast 19 (n := 12) rfl (by decide) rfl (fun _ => rfl) h2.1 ?_
    show Ev (am_kz N X) (d, 211, 14, [some (.inr (.inr 19)), some (.inl x1), some (.inl x2), some (.inl x3)], [], (am_sh, am_mm (am_upd U 19 x2.toNat x1))) R
    have h2a := h2.2
    refine ev_seg (σ1 := (d, 211, 5, [some (.inr (.inr 19)), some (.inl x1), some (.inl (w32 (x2 + 1))), some (.inl x3)], [], (am_sh, am_mm (am_upd U 19 x2.toNat x1)))) 2 (fun _ => rfl) ?_
    exact h2a
set_option maxRecDepth 8000 in
theorem M_counts_r0 {N : Nat} {X : Nat → Int} {d : Nat} {x1 : Int} {U : am_U} {R : Option am_V × am_M} (h : (((U 86 8) ≠ 0) → R = rI 0 U) ∧ (((U 86 8) = 0) → ((x1 = 0) → ∃ U1 : am_U, EvK N X (M_ahead_s0 d U) (rV U1) ∧ (((U1 86 8) ≠ 0) → R = rI 0 U1) ∧ (((U1 86 8) = 0) → R = rI 1 U1)) ∧ ((x1 ≠ 0) → ∃ U2 : am_U, EvK N X (M_blame_s0 d 6 (U 86 4) U) (rV U2) ∧ (((U2 86 8) ≠ 0) → R = rI 0 U2) ∧ (((U2 86 8) = 0) → ∃ U3 : am_U, EvK N X (M_ahead_s0 d U2) (rV U3) ∧ (((U3 86 8) ≠ 0) → R = rI 0 U3) ∧ (((U3 86 8) = 0) → R = rI 1 U3))))) : EvK N X (M_counts_s0 (d + 1) x1 U) R := by
  show Ev (am_kz N X) ((d + 1), 264, 0, [some (.inr (.inr 86)), some (.inl x1)], [], (am_sh, am_mm U)) R
  refine ev_br (P := ¬ (U 86 8) = 0) (σ1 := ((d + 1), 264, 21, [some (.inr (.inr 86)), some (.inl x1)], [], (am_sh, am_mm U))) (σ2 := ((d + 1), 264, 7, [some (.inr (.inr 86)), some (.inl x1)], [], (am_sh, am_mm U))) 3 (fun _ => rfl) (fun hc => ?_) (fun hc => ?_)
  · have h1 := h.1 hc
    have hq := hc
    refine ev_br (P := ¬ (U 86 8) = 0) (σ1 := ((d + 1), 264, 32, [some (.inr (.inr 86)), some (.inl x1)], [], (am_sh, am_mm U))) (σ2 := ((d + 1), 264, 28, [some (.inr (.inr 86)), some (.inl x1)], [], (am_sh, am_mm U))) 3 (fun _ => rfl) (fun hc => ?_) (fun hc => absurd hq (fun h0 => by have h1 := (Decidable.not_not.mp hc); omega))
    refine ev_br (P := ¬ (U 86 8) = 0) (σ1 := ((d + 1), 264, 43, [some (.inr (.inr 86)), some (.inl x1)], [], (am_sh, am_mm U))) (σ2 := ((d + 1), 264, 39, [some (.inr (.inr 86)), some (.inl x1)], [], (am_sh, am_mm U))) 3 (fun _ => rfl) (fun hc => ?_) (fun hc => absurd hq (fun h0 => by have h1 := (Decidable.not_not.mp hc); omega))
    subst h1
    exact ev_end 2 (fun _ => rfl)
  · have h2 := h.2 (Decidable.not_not.mp hc)
    have hq := (Decidable.not_not.mp hc)
    refine ev_br (P := x1 = 0) (σ1 := ((d + 1), 264, 21, [some (.inr (.inr 86)), some (.inl x1)], [], (am_sh, am_mm U))) (σ2 := ((d + 1), 264, 11, [some (.inr (.inr 86)), some (.inl x1)], [], (am_sh, am_mm U))) 2 (fun _ => rfl) (fun hc => ?_) (fun hc => ?_)
    · have h21 := h2.1 hc
      refine ev_br (P := ¬ (U 86 8) = 0) (σ1 := ((d + 1), 264, 32, [some (.inr (.inr 86)), some (.inl x1)], [], (am_sh, am_mm U))) (σ2 := ((d + 1), 264, 28, [some (.inr (.inr 86)), some (.inl x1)], [], (am_sh, am_mm U))) 3 (fun _ => rfl) (fun hc => absurd hq (fun h0 => by have h1 := hc; omega)) (fun hc => ?_)
      refine ev_seg (σ1 := ((d + 1), 264, 29, [some (.inr (.inr 86)), some (.inl x1)], [.inr (.inr 86)], (am_sh, am_mm U))) 1 (fun _ => rfl) ?_
      obtain ⟨U1, h21c, h21a⟩ := h21
      refine ev_cal (σc := (M_ahead_s0 d U)) (fun _ => rfl) h21c ?_
      show Ev (am_kz N X) ((d + 1), 264, 32, [some (.inr (.inr 86)), some (.inl x1)], [], (am_sh, am_mm U1)) R
      refine ev_br (P := ¬ (U1 86 8) = 0) (σ1 := ((d + 1), 264, 43, [some (.inr (.inr 86)), some (.inl x1)], [], (am_sh, am_mm U1))) (σ2 := ((d + 1), 264, 39, [some (.inr (.inr 86)), some (.inl x1)], [], (am_sh, am_mm U1))) 3 (fun _ => rfl) (fun hc => ?_) (fun hc => ?_)
      · have h21a1 := h21a.1 hc
        subst h21a1
        exact ev_end 2 (fun _ => rfl)
      · have h21a2 := h21a.2 (Decidable.not_not.mp hc)
        subst h21a2
        exact ev_end 3 (fun _ => rfl)
    · have h22 := h2.2 hc
      refine ev_seg (σ1 := ((d + 1), 264, 18, [some (.inr (.inr 86)), some (.inl x1)], [.inl (U 86 4), .inl 6, .inr (.inr 86)], (am_sh, am_mm U))) 4 (fun _ => rfl) ?_
      obtain ⟨U2, h22c, h22a⟩ := h22
      refine ev_cal (σc := (M_blame_s0 d 6 (U 86 4) U)) (fun _ => rfl) h22c ?_
      show Ev (am_kz N X) ((d + 1), 264, 21, [some (.inr (.inr 86)), some (.inl x1)], [], (am_sh, am_mm U2)) R
      refine ev_br (P := ¬ (U2 86 8) = 0) (σ1 := ((d + 1), 264, 32, [some (.inr (.inr 86)), some (.inl x1)], [], (am_sh, am_mm U2))) (σ2 := ((d + 1), 264, 28, [some (.inr (.inr 86)), some (.inl x1)], [], (am_sh, am_mm U2))) 3 (fun _ => rfl) (fun hc => ?_) (fun hc => ?_)
      · have h22a1 := h22a.1 hc
        have h22aq := hc
        refine ev_br (P := ¬ (U2 86 8) = 0) (σ1 := ((d + 1), 264, 43, [some (.inr (.inr 86)), some (.inl x1)], [], (am_sh, am_mm U2))) (σ2 := ((d + 1), 264, 39, [some (.inr (.inr 86)), some (.inl x1)], [], (am_sh, am_mm U2))) 3 (fun _ => rfl) (fun hc => ?_) (fun hc => absurd h22aq (fun h0 => by have h1 := (Decidable.not_not.mp hc); omega))
        subst h22a1
        exact ev_end 2 (fun _ => rfl)
      · have h22a2 := h22a.2 (Decidable.not_not.mp hc)
        refine ev_seg (σ1 := ((d + 1), 264, 29, [some (.inr (.inr 86)), some (.inl x1)], [.inr (.inr 86)], (am_sh, am_mm U2))) 1 (fun _ => rfl) ?_
        obtain ⟨U3, h22a2c, h22a2a⟩ := h22a2
        refine ev_cal (σc := (M_ahead_s0 d U2)) (fun _ => rfl) h22a2c ?_
        show Ev (am_kz N X) ((d + 1), 264, 32, [some (.inr (.inr 86)), some (.inl x1)], [], (am_sh, am_mm U3)) R
        refine ev_br (P := ¬ (U3 86 8) = 0) (σ1 := ((d + 1), 264, 43, [some (.inr (.inr 86)), some (.inl x1)], [], (am_sh, am_mm U3))) (σ2 := ((d + 1), 264, 39, [some (.inr (.inr 86)), some (.inl x1)], [], (am_sh, am_mm U3))) 3 (fun _ => rfl) (fun hc => ?_) (fun hc => ?_)
        · have h22a2a1 := h22a2a.1 hc
          subst h22a2a1
          exact ev_end 2 (fun _ => rfl)
        · have h22a2a2 := h22a2a.2 (Decidable.not_not.mp hc)
          subst h22a2a2
          exact ev_end 3 (fun _ => rfl)
set_option maxRecDepth 8000 in
theorem M_numeral_r0 {N : Nat} {X : Nat → Int} {d : Nat} {x1 x2 : Int} {U : am_U} {R : Option am_V × am_M} (h : ∃ U1 : am_U, EvK N X (M_lex_s0 d U) (rV U1) ∧ (((U1 86 8) ≤ 0) → (((U1 86 3) = 2) → (((U1 86 8) ≠ 0) → R = rI (U1 86 6) U1) ∧ (((U1 86 8) = 0) → ∃ (r2 : Int) (U2 : am_U), EvK N X (M_is_s0 d (U1 86 6) x1 x2 U1) (rI r2 U2) ∧ ((r2 ≠ 0) → (((U2 86 8) ≠ 0) → R = rI (U2 86 6) U2) ∧ (((U2 86 8) = 0) → ∃ U3 : am_U, EvK N X (M_ahead_s0 d U2) (rV U3) ∧ R = rI (U2 86 6) U3)) ∧ ((r2 = 0) → ∃ U4 : am_U, EvK N X (M_blame_s0 d 4 (U2 86 4) U2) (rV U4) ∧ (((U4 86 8) ≠ 0) → R = rI (U4 86 6) U4) ∧ (((U4 86 8) = 0) → ∃ U5 : am_U, EvK N X (M_ahead_s0 d U4) (rV U5) ∧ R = rI (U4 86 6) U5)))) ∧ (((U1 86 3) ≠ 2) → ∃ U6 : am_U, EvK N X (M_blame_s0 d 1 (U1 86 4) U1) (rV U6) ∧ (((U6 86 8) ≠ 0) → R = rI (U6 86 6) U6) ∧ (((U6 86 8) = 0) → ∃ (r7 : Int) (U7 : am_U), EvK N X (M_is_s0 d (U6 86 6) x1 x2 U6) (rI r7 U7) ∧ ((r7 ≠ 0) → (((U7 86 8) ≠ 0) → R = rI (U7 86 6) U7) ∧ (((U7 86 8) = 0) → ∃ U8 : am_U, EvK N X (M_ahead_s0 d U7) (rV U8) ∧ R = rI (U7 86 6) U8)) ∧ ((r7 = 0) → ∃ U9 : am_U, EvK N X (M_blame_s0 d 4 (U7 86 4) U7) (rV U9) ∧ (((U9 86 8) ≠ 0) → R = rI (U9 86 6) U9) ∧ (((U9 86 8) = 0) → ∃ U10 : am_U, EvK N X (M_ahead_s0 d U9) (rV U10) ∧ R = rI (U9 86 6) U10))))) ∧ ((0 < (U1 86 8)) → R = rI 0 U1)) : EvK N X (M_numeral_s0 (d + 1) x1 x2 U) R := by
  show Ev (am_kz N X) ((d + 1), 268, 0, [some (.inr (.inr 86)), some (.inl x1), some (.inl x2), none], [], (am_sh, am_mm U)) R
  refine ev_seg (σ1 := ((d + 1), 268, 1, [some (.inr (.inr 86)), some (.inl x1), some (.inl x2), none], [.inr (.inr 86)], (am_sh, am_mm U))) 1 (fun _ => rfl) ?_
  obtain ⟨U1, hc, ha⟩ := h
  refine ev_cal (σc := (M_lex_s0 d U)) (fun _ => rfl) hc ?_
  show Ev (am_kz N X) ((d + 1), 268, 4, [some (.inr (.inr 86)), some (.inl x1), some (.inl x2), none], [], (am_sh, am_mm U1)) R
  refine ev_br (P := (U1 86 8) ≤ 0) (σ1 := ((d + 1), 268, 13, [some (.inr (.inr 86)), some (.inl x1), some (.inl x2), none], [], (am_sh, am_mm U1))) (σ2 := ((d + 1), 268, 11, [some (.inr (.inr 86)), some (.inl x1), some (.inl x2), none], [], (am_sh, am_mm U1))) 3 (fun _ => rfl) (fun hc => ?_) (fun hc => ?_)
  · have ha1 := ha.1 hc
    refine ev_br (P := (U1 86 3) = 2) (σ1 := ((d + 1), 268, 30, [some (.inr (.inr 86)), some (.inl x1), some (.inl x2), none], [], (am_sh, am_mm U1))) (σ2 := ((d + 1), 268, 21, [some (.inr (.inr 86)), some (.inl x1), some (.inl x2), none], [], (am_sh, am_mm U1))) 4 (fun _ => rfl) (fun hc => ?_) (fun hc => ?_)
    · have ha11 := ha1.1 hc
      refine ev_br (P := ¬ (U1 86 8) = 0) (σ1 := ((d + 1), 268, 58, [some (.inr (.inr 86)), some (.inl x1), some (.inl x2), none], [], (am_sh, am_mm U1))) (σ2 := ((d + 1), 268, 37, [some (.inr (.inr 86)), some (.inl x1), some (.inl x2), none], [], (am_sh, am_mm U1))) 3 (fun _ => rfl) (fun hc => ?_) (fun hc => ?_)
      · have ha111 := ha11.1 hc
        have ha11q := hc
        refine ev_br (P := ¬ (U1 86 8) = 0) (σ1 := ((d + 1), 268, 74, [some (.inr (.inr 86)), some (.inl x1), some (.inl x2), some (.inl (U1 86 6))], [], (am_sh, am_mm U1))) (σ2 := ((d + 1), 268, 70, [some (.inr (.inr 86)), some (.inl x1), some (.inl x2), some (.inl (U1 86 6))], [], (am_sh, am_mm U1))) 6 (fun _ => rfl) (fun hc => ?_) (fun hc => absurd ha11q (fun h0 => by have h1 := (Decidable.not_not.mp hc); omega))
        subst ha111
        exact ev_end 2 (fun _ => rfl)
      · have ha112 := ha11.2 (Decidable.not_not.mp hc)
        refine ev_seg (σ1 := ((d + 1), 268, 43, [some (.inr (.inr 86)), some (.inl x1), some (.inl x2), none], [.inl x2, .inl x1, .inl (U1 86 6)], (am_sh, am_mm U1))) 4 (fun _ => rfl) ?_
        obtain ⟨r2, U2, ha112c, ha112a⟩ := ha112
        refine ev_cal (σc := (M_is_s0 d (U1 86 6) x1 x2 U1)) (fun _ => rfl) ha112c ?_
        show Ev (am_kz N X) ((d + 1), 268, 46, [some (.inr (.inr 86)), some (.inl x1), some (.inl x2), none], [.inl r2], (am_sh, am_mm U2)) R
        refine ev_br (P := ¬ r2 = 0) (σ1 := ((d + 1), 268, 58, [some (.inr (.inr 86)), some (.inl x1), some (.inl x2), none], [], (am_sh, am_mm U2))) (σ2 := ((d + 1), 268, 49, [some (.inr (.inr 86)), some (.inl x1), some (.inl x2), none], [], (am_sh, am_mm U2))) 1 (fun _ => rfl) (fun hc => ?_) (fun hc => ?_)
        · have ha112a1 := ha112a.1 hc
          refine ev_br (P := ¬ (U2 86 8) = 0) (σ1 := ((d + 1), 268, 74, [some (.inr (.inr 86)), some (.inl x1), some (.inl x2), some (.inl (U2 86 6))], [], (am_sh, am_mm U2))) (σ2 := ((d + 1), 268, 70, [some (.inr (.inr 86)), some (.inl x1), some (.inl x2), some (.inl (U2 86 6))], [], (am_sh, am_mm U2))) 6 (fun _ => rfl) (fun hc => ?_) (fun hc => ?_)
          · have ha112a11 := ha112a1.1 hc
            subst ha112a11
            exact ev_end 2 (fun _ => rfl)
          · have ha112a12 := ha112a1.2 (Decidable.not_not.mp hc)
            refine ev_seg (σ1 := ((d + 1), 268, 71, [some (.inr (.inr 86)), some (.inl x1), some (.inl x2), some (.inl (U2 86 6))], [.inr (.inr 86)], (am_sh, am_mm U2))) 1 (fun _ => rfl) ?_
            obtain ⟨U3, ha112a12c, ha112a12a⟩ := ha112a12
            refine ev_cal (σc := (M_ahead_s0 d U2)) (fun _ => rfl) ha112a12c ?_
            show Ev (am_kz N X) ((d + 1), 268, 74, [some (.inr (.inr 86)), some (.inl x1), some (.inl x2), some (.inl (U2 86 6))], [], (am_sh, am_mm U3)) R
            subst ha112a12a
            exact ev_end 2 (fun _ => rfl)
        · have ha112a2 := ha112a.2 (Decidable.not_not.mp hc)
          refine ev_seg (σ1 := ((d + 1), 268, 55, [some (.inr (.inr 86)), some (.inl x1), some (.inl x2), none], [.inl (U2 86 4), .inl 4, .inr (.inr 86)], (am_sh, am_mm U2))) 4 (fun _ => rfl) ?_
          obtain ⟨U4, ha112a2c, ha112a2a⟩ := ha112a2
          refine ev_cal (σc := (M_blame_s0 d 4 (U2 86 4) U2)) (fun _ => rfl) ha112a2c ?_
          show Ev (am_kz N X) ((d + 1), 268, 58, [some (.inr (.inr 86)), some (.inl x1), some (.inl x2), none], [], (am_sh, am_mm U4)) R
          refine ev_br (P := ¬ (U4 86 8) = 0) (σ1 := ((d + 1), 268, 74, [some (.inr (.inr 86)), some (.inl x1), some (.inl x2), some (.inl (U4 86 6))], [], (am_sh, am_mm U4))) (σ2 := ((d + 1), 268, 70, [some (.inr (.inr 86)), some (.inl x1), some (.inl x2), some (.inl (U4 86 6))], [], (am_sh, am_mm U4))) 6 (fun _ => rfl) (fun hc => ?_) (fun hc => ?_)
          · have ha112a2a1 := ha112a2a.1 hc
            subst ha112a2a1
            exact ev_end 2 (fun _ => rfl)
          · have ha112a2a2 := ha112a2a.2 (Decidable.not_not.mp hc)
            refine ev_seg (σ1 := ((d + 1), 268, 71, [some (.inr (.inr 86)), some (.inl x1), some (.inl x2), some (.inl (U4 86 6))], [.inr (.inr 86)], (am_sh, am_mm U4))) 1 (fun _ => rfl) ?_
            obtain ⟨U5, ha112a2a2c, ha112a2a2a⟩ := ha112a2a2
            refine ev_cal (σc := (M_ahead_s0 d U4)) (fun _ => rfl) ha112a2a2c ?_
            show Ev (am_kz N X) ((d + 1), 268, 74, [some (.inr (.inr 86)), some (.inl x1), some (.inl x2), some (.inl (U4 86 6))], [], (am_sh, am_mm U5)) R
            subst ha112a2a2a
            exact ev_end 2 (fun _ => rfl)
    · have ha12 := ha1.2 hc
      refine ev_seg (σ1 := ((d + 1), 268, 27, [some (.inr (.inr 86)), some (.inl x1), some (.inl x2), none], [.inl (U1 86 4), .inl 1, .inr (.inr 86)], (am_sh, am_mm U1))) 4 (fun _ => rfl) ?_
      obtain ⟨U6, ha12c, ha12a⟩ := ha12
      refine ev_cal (σc := (M_blame_s0 d 1 (U1 86 4) U1)) (fun _ => rfl) ha12c ?_
      show Ev (am_kz N X) ((d + 1), 268, 30, [some (.inr (.inr 86)), some (.inl x1), some (.inl x2), none], [], (am_sh, am_mm U6)) R
      refine ev_br (P := ¬ (U6 86 8) = 0) (σ1 := ((d + 1), 268, 58, [some (.inr (.inr 86)), some (.inl x1), some (.inl x2), none], [], (am_sh, am_mm U6))) (σ2 := ((d + 1), 268, 37, [some (.inr (.inr 86)), some (.inl x1), some (.inl x2), none], [], (am_sh, am_mm U6))) 3 (fun _ => rfl) (fun hc => ?_) (fun hc => ?_)
      · have ha12a1 := ha12a.1 hc
        have ha12aq := hc
        refine ev_br (P := ¬ (U6 86 8) = 0) (σ1 := ((d + 1), 268, 74, [some (.inr (.inr 86)), some (.inl x1), some (.inl x2), some (.inl (U6 86 6))], [], (am_sh, am_mm U6))) (σ2 := ((d + 1), 268, 70, [some (.inr (.inr 86)), some (.inl x1), some (.inl x2), some (.inl (U6 86 6))], [], (am_sh, am_mm U6))) 6 (fun _ => rfl) (fun hc => ?_) (fun hc => absurd ha12aq (fun h0 => by have h1 := (Decidable.not_not.mp hc); omega))
        subst ha12a1
        exact ev_end 2 (fun _ => rfl)
      · have ha12a2 := ha12a.2 (Decidable.not_not.mp hc)
        refine ev_seg (σ1 := ((d + 1), 268, 43, [some (.inr (.inr 86)), some (.inl x1), some (.inl x2), none], [.inl x2, .inl x1, .inl (U6 86 6)], (am_sh, am_mm U6))) 4 (fun _ => rfl) ?_
        obtain ⟨r7, U7, ha12a2c, ha12a2a⟩ := ha12a2
        refine ev_cal (σc := (M_is_s0 d (U6 86 6) x1 x2 U6)) (fun _ => rfl) ha12a2c ?_
        show Ev (am_kz N X) ((d + 1), 268, 46, [some (.inr (.inr 86)), some (.inl x1), some (.inl x2), none], [.inl r7], (am_sh, am_mm U7)) R
        refine ev_br (P := ¬ r7 = 0) (σ1 := ((d + 1), 268, 58, [some (.inr (.inr 86)), some (.inl x1), some (.inl x2), none], [], (am_sh, am_mm U7))) (σ2 := ((d + 1), 268, 49, [some (.inr (.inr 86)), some (.inl x1), some (.inl x2), none], [], (am_sh, am_mm U7))) 1 (fun _ => rfl) (fun hc => ?_) (fun hc => ?_)
        · have ha12a2a1 := ha12a2a.1 hc
          refine ev_br (P := ¬ (U7 86 8) = 0) (σ1 := ((d + 1), 268, 74, [some (.inr (.inr 86)), some (.inl x1), some (.inl x2), some (.inl (U7 86 6))], [], (am_sh, am_mm U7))) (σ2 := ((d + 1), 268, 70, [some (.inr (.inr 86)), some (.inl x1), some (.inl x2), some (.inl (U7 86 6))], [], (am_sh, am_mm U7))) 6 (fun _ => rfl) (fun hc => ?_) (fun hc => ?_)
          · have ha12a2a11 := ha12a2a1.1 hc
            subst ha12a2a11
            exact ev_end 2 (fun _ => rfl)
          · have ha12a2a12 := ha12a2a1.2 (Decidable.not_not.mp hc)
            refine ev_seg (σ1 := ((d + 1), 268, 71, [some (.inr (.inr 86)), some (.inl x1), some (.inl x2), some (.inl (U7 86 6))], [.inr (.inr 86)], (am_sh, am_mm U7))) 1 (fun _ => rfl) ?_
            obtain ⟨U8, ha12a2a12c, ha12a2a12a⟩ := ha12a2a12
            refine ev_cal (σc := (M_ahead_s0 d U7)) (fun _ => rfl) ha12a2a12c ?_
            show Ev (am_kz N X) ((d + 1), 268, 74, [some (.inr (.inr 86)), some (.inl x1), some (.inl x2), some (.inl (U7 86 6))], [], (am_sh, am_mm U8)) R
            subst ha12a2a12a
            exact ev_end 2 (fun _ => rfl)
        · have ha12a2a2 := ha12a2a.2 (Decidable.not_not.mp hc)
          refine ev_seg (σ1 := ((d + 1), 268, 55, [some (.inr (.inr 86)), some (.inl x1), some (.inl x2), none], [.inl (U7 86 4), .inl 4, .inr (.inr 86)], (am_sh, am_mm U7))) 4 (fun _ => rfl) ?_
          obtain ⟨U9, ha12a2a2c, ha12a2a2a⟩ := ha12a2a2
          refine ev_cal (σc := (M_blame_s0 d 4 (U7 86 4) U7)) (fun _ => rfl) ha12a2a2c ?_
          show Ev (am_kz N X) ((d + 1), 268, 58, [some (.inr (.inr 86)), some (.inl x1), some (.inl x2), none], [], (am_sh, am_mm U9)) R
          refine ev_br (P := ¬ (U9 86 8) = 0) (σ1 := ((d + 1), 268, 74, [some (.inr (.inr 86)), some (.inl x1), some (.inl x2), some (.inl (U9 86 6))], [], (am_sh, am_mm U9))) (σ2 := ((d + 1), 268, 70, [some (.inr (.inr 86)), some (.inl x1), some (.inl x2), some (.inl (U9 86 6))], [], (am_sh, am_mm U9))) 6 (fun _ => rfl) (fun hc => ?_) (fun hc => ?_)
          · have ha12a2a2a1 := ha12a2a2a.1 hc
            subst ha12a2a2a1
            exact ev_end 2 (fun _ => rfl)
          · have ha12a2a2a2 := ha12a2a2a.2 (Decidable.not_not.mp hc)
            refine ev_seg (σ1 := ((d + 1), 268, 71, [some (.inr (.inr 86)), some (.inl x1), some (.inl x2), some (.inl (U9 86 6))], [.inr (.inr 86)], (am_sh, am_mm U9))) 1 (fun _ => rfl) ?_
            obtain ⟨U10, ha12a2a2a2c, ha12a2a2a2a⟩ := ha12a2a2a2
            refine ev_cal (σc := (M_ahead_s0 d U9)) (fun _ => rfl) ha12a2a2a2c ?_
            show Ev (am_kz N X) ((d + 1), 268, 74, [some (.inr (.inr 86)), some (.inl x1), some (.inl x2), some (.inl (U9 86 6))], [], (am_sh, am_mm U10)) R
            subst ha12a2a2a2a
            exact ev_end 2 (fun _ => rfl)
  · have ha2 := ha.2 (Int.not_le.mp hc)
    subst ha2
    exact ev_end 2 (fun _ => rfl)
set_option maxRecDepth 8000 in
theorem M_asked_r0 {N : Nat} {X : Nat → Int} {d : Nat} {x1 : Int} {U : am_U} {R : Option am_V × am_M} (h : ∃ (r1 : Int) (U1 : am_U), EvK N X (M_looked_s0 d x1 U) (rI r1 U1) ∧ (((U1 86 8) ≠ 0) → (((U1 86 8) ≤ 0) → R = rI r1 U1) ∧ ((0 < (U1 86 8)) → R = rI 0 U1)) ∧ (((U1 86 8) = 0) → ∃ U2 : am_U, EvK N X (M_ahead_s0 d U1) (rV U2) ∧ (((U2 86 8) ≤ 0) → R = rI r1 U2) ∧ ((0 < (U2 86 8)) → R = rI 0 U2))) : EvK N X (M_asked_s0 (d + 1) x1 U) R := by
  show Ev (am_kz N X) ((d + 1), 267, 0, [some (.inr (.inr 86)), some (.inl x1), none], [], (am_sh, am_mm U)) R
  refine ev_seg (σ1 := ((d + 1), 267, 2, [some (.inr (.inr 86)), some (.inl x1), none], [.inl x1, .inr (.inr 86)], (am_sh, am_mm U))) 2 (fun _ => rfl) ?_
  obtain ⟨r1, U1, hc, ha⟩ := h
  refine ev_cal (σc := (M_looked_s0 d x1 U)) (fun _ => rfl) hc ?_
  show Ev (am_kz N X) ((d + 1), 267, 5, [some (.inr (.inr 86)), some (.inl x1), none], [.inl r1], (am_sh, am_mm U1)) R
  refine ev_br (P := ¬ (U1 86 8) = 0) (σ1 := ((d + 1), 267, 17, [some (.inr (.inr 86)), some (.inl x1), some (.inl r1)], [], (am_sh, am_mm U1))) (σ2 := ((d + 1), 267, 13, [some (.inr (.inr 86)), some (.inl x1), some (.inl r1)], [], (am_sh, am_mm U1))) 4 (fun _ => rfl) (fun hc => ?_) (fun hc => ?_)
  · have ha1 := ha.1 hc
    refine ev_br (P := (U1 86 8) ≤ 0) (σ1 := ((d + 1), 267, 28, [some (.inr (.inr 86)), some (.inl x1), some (.inl r1)], [], (am_sh, am_mm U1))) (σ2 := ((d + 1), 267, 24, [some (.inr (.inr 86)), some (.inl x1), some (.inl r1)], [], (am_sh, am_mm U1))) 3 (fun _ => rfl) (fun hc => ?_) (fun hc => ?_)
    · have ha11 := ha1.1 hc
      subst ha11
      exact ev_end 2 (fun _ => rfl)
    · have ha12 := ha1.2 (Int.not_le.mp hc)
      subst ha12
      exact ev_end 3 (fun _ => rfl)
  · have ha2 := ha.2 (Decidable.not_not.mp hc)
    refine ev_seg (σ1 := ((d + 1), 267, 14, [some (.inr (.inr 86)), some (.inl x1), some (.inl r1)], [.inr (.inr 86)], (am_sh, am_mm U1))) 1 (fun _ => rfl) ?_
    obtain ⟨U2, ha2c, ha2a⟩ := ha2
    refine ev_cal (σc := (M_ahead_s0 d U1)) (fun _ => rfl) ha2c ?_
    show Ev (am_kz N X) ((d + 1), 267, 17, [some (.inr (.inr 86)), some (.inl x1), some (.inl r1)], [], (am_sh, am_mm U2)) R
    refine ev_br (P := (U2 86 8) ≤ 0) (σ1 := ((d + 1), 267, 28, [some (.inr (.inr 86)), some (.inl x1), some (.inl r1)], [], (am_sh, am_mm U2))) (σ2 := ((d + 1), 267, 24, [some (.inr (.inr 86)), some (.inl x1), some (.inl r1)], [], (am_sh, am_mm U2))) 3 (fun _ => rfl) (fun hc => ?_) (fun hc => ?_)
    · have ha2a1 := ha2a.1 hc
      subst ha2a1
      exact ev_end 2 (fun _ => rfl)
    · have ha2a2 := ha2a.2 (Int.not_le.mp hc)
      subst ha2a2
      exact ev_end 3 (fun _ => rfl)
set_option maxRecDepth 8000 in
theorem M_looked_r0 {N : Nat} {X : Nat → Int} {d : Nat} {x1 : Int} {U : am_U} {R : Option am_V × am_M} (h : ∃ U1 : am_U, EvK N X (M_lex_s0 d U) (rV U1) ∧ (((U1 86 8) ≤ 0) → (((U1 86 3) ≠ 1) → ∃ U2 : am_U, EvK N X (M_blame_s0 d 1 (U1 86 4) U1) (rV U2) ∧ (((U2 86 8) ≤ 0) → ∃ (r3 : Int) (U3 : am_U), EvK N X (M_named_s0 d x1 (U2 86 7) U2) (rI r3 U3) ∧ (((U3 86 8) ≠ 0) → EvK N X (M_looked_s83 (d + 1) x1 r3 U3) R) ∧ (((U3 86 8) = 0) → ((r3 ≠ (-1)) → EvK N X (M_looked_s83 (d + 1) x1 r3 U3) R) ∧ ((r3 = (-1)) → ∃ U4 : am_U, EvK N X (M_blame_s0 d 3 (U3 86 4) U3) (rV U4) ∧ EvK N X (M_looked_s83 (d + 1) x1 r3 U4) R))) ∧ ((0 < (U2 86 8)) → (((U2 86 8) ≠ 0) → EvK N X (M_looked_s83 (d + 1) x1 0 U2) R) ∧ (((U2 86 8) = 0) → EvK N X (M_looked_s83 (d + 1) x1 0 U2) R))) ∧ (((U1 86 3) = 1) → ∃ (r5 : Int) (U5 : am_U), EvK N X (M_isOwn_s0 d (U1 86 7) U1) (rI r5 U5) ∧ ((r5 = 0) → (((U5 86 8) ≤ 0) → ∃ (r6 : Int) (U6 : am_U), EvK N X (M_named_s0 d x1 (U5 86 7) U5) (rI r6 U6) ∧ (((U6 86 8) ≠ 0) → EvK N X (M_looked_s83 (d + 1) x1 r6 U6) R) ∧ (((U6 86 8) = 0) → ((r6 ≠ (-1)) → EvK N X (M_looked_s83 (d + 1) x1 r6 U6) R) ∧ ((r6 = (-1)) → ∃ U7 : am_U, EvK N X (M_blame_s0 d 3 (U6 86 4) U6) (rV U7) ∧ EvK N X (M_looked_s83 (d + 1) x1 r6 U7) R))) ∧ ((0 < (U5 86 8)) → (((U5 86 8) ≠ 0) → EvK N X (M_looked_s83 (d + 1) x1 0 U5) R) ∧ (((U5 86 8) = 0) → EvK N X (M_looked_s83 (d + 1) x1 0 U5) R))) ∧ ((r5 ≠ 0) → ∃ U8 : am_U, EvK N X (M_blame_s0 d 1 (U5 86 4) U5) (rV U8) ∧ (((U8 86 8) ≤ 0) → ∃ (r9 : Int) (U9 : am_U), EvK N X (M_named_s0 d x1 (U8 86 7) U8) (rI r9 U9) ∧ (((U9 86 8) ≠ 0) → EvK N X (M_looked_s83 (d + 1) x1 r9 U9) R) ∧ (((U9 86 8) = 0) → ((r9 ≠ (-1)) → EvK N X (M_looked_s83 (d + 1) x1 r9 U9) R) ∧ ((r9 = (-1)) → ∃ U10 : am_U, EvK N X (M_blame_s0 d 3 (U9 86 4) U9) (rV U10) ∧ EvK N X (M_looked_s83 (d + 1) x1 r9 U10) R))) ∧ ((0 < (U8 86 8)) → (((U8 86 8) ≠ 0) → EvK N X (M_looked_s83 (d + 1) x1 0 U8) R) ∧ (((U8 86 8) = 0) → EvK N X (M_looked_s83 (d + 1) x1 0 U8) R))))) ∧ ((0 < (U1 86 8)) → R = rI 0 U1)) : EvK N X (M_looked_s0 (d + 1) x1 U) R := by
  show Ev (am_kz N X) ((d + 1), 269, 0, [some (.inr (.inr 86)), some (.inl x1), none], [], (am_sh, am_mm U)) R
  refine ev_seg (σ1 := ((d + 1), 269, 1, [some (.inr (.inr 86)), some (.inl x1), none], [.inr (.inr 86)], (am_sh, am_mm U))) 1 (fun _ => rfl) ?_
  obtain ⟨U1, hc, ha⟩ := h
  refine ev_cal (σc := (M_lex_s0 d U)) (fun _ => rfl) hc ?_
  show Ev (am_kz N X) ((d + 1), 269, 4, [some (.inr (.inr 86)), some (.inl x1), none], [], (am_sh, am_mm U1)) R
  refine ev_br (P := (U1 86 8) ≤ 0) (σ1 := ((d + 1), 269, 13, [some (.inr (.inr 86)), some (.inl x1), none], [], (am_sh, am_mm U1))) (σ2 := ((d + 1), 269, 11, [some (.inr (.inr 86)), some (.inl x1), none], [], (am_sh, am_mm U1))) 3 (fun _ => rfl) (fun hc => ?_) (fun hc => ?_)
  · have ha1 := ha.1 hc
    refine ev_br (P := ¬ (U1 86 3) = 1) (σ1 := ((d + 1), 269, 32, [some (.inr (.inr 86)), some (.inl x1), none], [], (am_sh, am_mm U1))) (σ2 := ((d + 1), 269, 21, [some (.inr (.inr 86)), some (.inl x1), none], [], (am_sh, am_mm U1))) 4 (fun _ => rfl) (fun hc => ?_) (fun hc => ?_)
    · have ha11 := ha1.1 hc
      refine ev_seg (σ1 := ((d + 1), 269, 38, [some (.inr (.inr 86)), some (.inl x1), none], [.inl (U1 86 4), .inl 1, .inr (.inr 86)], (am_sh, am_mm U1))) 4 (fun _ => rfl) ?_
      obtain ⟨U2, ha11c, ha11a⟩ := ha11
      refine ev_cal (σc := (M_blame_s0 d 1 (U1 86 4) U1)) (fun _ => rfl) ha11c ?_
      show Ev (am_kz N X) ((d + 1), 269, 41, [some (.inr (.inr 86)), some (.inl x1), none], [], (am_sh, am_mm U2)) R
      refine ev_br (P := (U2 86 8) ≤ 0) (σ1 := ((d + 1), 269, 52, [some (.inr (.inr 86)), some (.inl x1), none], [], (am_sh, am_mm U2))) (σ2 := ((d + 1), 269, 48, [some (.inr (.inr 86)), some (.inl x1), none], [], (am_sh, am_mm U2))) 3 (fun _ => rfl) (fun hc => ?_) (fun hc => ?_)
      · have ha11a1 := ha11a.1 hc
        refine ev_seg (σ1 := ((d + 1), 269, 58, [some (.inr (.inr 86)), some (.inl x1), none], [.inr (.inl (U2 86 7)), .inl x1, .inr (.inr 86)], (am_sh, am_mm U2))) 4 (fun _ => rfl) ?_
        obtain ⟨r3, U3, ha11a1c, ha11a1a⟩ := ha11a1
        refine ev_cal (σc := (M_named_s0 d x1 (U2 86 7) U2)) (fun _ => rfl) ha11a1c ?_
        show Ev (am_kz N X) ((d + 1), 269, 61, [some (.inr (.inr 86)), some (.inl x1), none], [.inl r3], (am_sh, am_mm U3)) R
        refine ev_br (P := ¬ (U3 86 8) = 0) (σ1 := ((d + 1), 269, 83, [some (.inr (.inr 86)), some (.inl x1), some (.inl r3)], [], (am_sh, am_mm U3))) (σ2 := ((d + 1), 269, 69, [some (.inr (.inr 86)), some (.inl x1), some (.inl r3)], [], (am_sh, am_mm U3))) 4 (fun _ => rfl) (fun hc => ?_) (fun hc => ?_)
        · have ha11a1a1 := ha11a1a.1 hc
          exact ha11a1a1
        · have ha11a1a2 := ha11a1a.2 (Decidable.not_not.mp hc)
          refine ev_br (P := ¬ r3 = (-1)) (σ1 := ((d + 1), 269, 83, [some (.inr (.inr 86)), some (.inl x1), some (.inl r3)], [], (am_sh, am_mm U3))) (σ2 := ((d + 1), 269, 74, [some (.inr (.inr 86)), some (.inl x1), some (.inl r3)], [], (am_sh, am_mm U3))) 3 (fun _ => rfl) (fun hc => ?_) (fun hc => ?_)
          · have ha11a1a21 := ha11a1a2.1 hc
            exact ha11a1a21
          · have ha11a1a22 := ha11a1a2.2 (Decidable.not_not.mp hc)
            refine ev_seg (σ1 := ((d + 1), 269, 80, [some (.inr (.inr 86)), some (.inl x1), some (.inl r3)], [.inl (U3 86 4), .inl 3, .inr (.inr 86)], (am_sh, am_mm U3))) 4 (fun _ => rfl) ?_
            obtain ⟨U4, ha11a1a22c, ha11a1a22a⟩ := ha11a1a22
            refine ev_cal (σc := (M_blame_s0 d 3 (U3 86 4) U3)) (fun _ => rfl) ha11a1a22c ?_
            show Ev (am_kz N X) ((d + 1), 269, 83, [some (.inr (.inr 86)), some (.inl x1), some (.inl r3)], [], (am_sh, am_mm U4)) R
            exact ha11a1a22a
      · have ha11a2 := ha11a.2 (Int.not_le.mp hc)
        refine ev_br (P := ¬ (U2 86 8) = 0) (σ1 := ((d + 1), 269, 83, [some (.inr (.inr 86)), some (.inl x1), some (.inl 0)], [], (am_sh, am_mm U2))) (σ2 := ((d + 1), 269, 69, [some (.inr (.inr 86)), some (.inl x1), some (.inl 0)], [], (am_sh, am_mm U2))) 6 (fun _ => rfl) (fun hc => ?_) (fun hc => ?_)
        · have ha11a21 := ha11a2.1 hc
          exact ha11a21
        · have ha11a22 := ha11a2.2 (Decidable.not_not.mp hc)
          refine ev_seg (σ1 := ((d + 1), 269, 83, [some (.inr (.inr 86)), some (.inl x1), some (.inl 0)], [], (am_sh, am_mm U2))) 3 (fun _ => rfl) ?_
          exact ha11a22
    · have ha12 := ha1.2 (Decidable.not_not.mp hc)
      refine ev_seg (σ1 := ((d + 1), 269, 26, [some (.inr (.inr 86)), some (.inl x1), none], [.inr (.inl (U1 86 7)), .inr (.inr 86)], (am_sh, am_mm U1))) 3 (fun _ => rfl) ?_
      obtain ⟨r5, U5, ha12c, ha12a⟩ := ha12
      refine ev_cal (σc := (M_isOwn_s0 d (U1 86 7) U1)) (fun _ => rfl) ha12c ?_
      show Ev (am_kz N X) ((d + 1), 269, 29, [some (.inr (.inr 86)), some (.inl x1), none], [.inl r5], (am_sh, am_mm U5)) R
      refine ev_br (P := r5 = 0) (σ1 := ((d + 1), 269, 41, [some (.inr (.inr 86)), some (.inl x1), none], [], (am_sh, am_mm U5))) (σ2 := ((d + 1), 269, 32, [some (.inr (.inr 86)), some (.inl x1), none], [], (am_sh, am_mm U5))) 1 (fun _ => rfl) (fun hc => ?_) (fun hc => ?_)
      · have ha12a1 := ha12a.1 hc
        refine ev_br (P := (U5 86 8) ≤ 0) (σ1 := ((d + 1), 269, 52, [some (.inr (.inr 86)), some (.inl x1), none], [], (am_sh, am_mm U5))) (σ2 := ((d + 1), 269, 48, [some (.inr (.inr 86)), some (.inl x1), none], [], (am_sh, am_mm U5))) 3 (fun _ => rfl) (fun hc => ?_) (fun hc => ?_)
        · have ha12a11 := ha12a1.1 hc
          refine ev_seg (σ1 := ((d + 1), 269, 58, [some (.inr (.inr 86)), some (.inl x1), none], [.inr (.inl (U5 86 7)), .inl x1, .inr (.inr 86)], (am_sh, am_mm U5))) 4 (fun _ => rfl) ?_
          obtain ⟨r6, U6, ha12a11c, ha12a11a⟩ := ha12a11
          refine ev_cal (σc := (M_named_s0 d x1 (U5 86 7) U5)) (fun _ => rfl) ha12a11c ?_
          show Ev (am_kz N X) ((d + 1), 269, 61, [some (.inr (.inr 86)), some (.inl x1), none], [.inl r6], (am_sh, am_mm U6)) R
          refine ev_br (P := ¬ (U6 86 8) = 0) (σ1 := ((d + 1), 269, 83, [some (.inr (.inr 86)), some (.inl x1), some (.inl r6)], [], (am_sh, am_mm U6))) (σ2 := ((d + 1), 269, 69, [some (.inr (.inr 86)), some (.inl x1), some (.inl r6)], [], (am_sh, am_mm U6))) 4 (fun _ => rfl) (fun hc => ?_) (fun hc => ?_)
          · have ha12a11a1 := ha12a11a.1 hc
            exact ha12a11a1
          · have ha12a11a2 := ha12a11a.2 (Decidable.not_not.mp hc)
            refine ev_br (P := ¬ r6 = (-1)) (σ1 := ((d + 1), 269, 83, [some (.inr (.inr 86)), some (.inl x1), some (.inl r6)], [], (am_sh, am_mm U6))) (σ2 := ((d + 1), 269, 74, [some (.inr (.inr 86)), some (.inl x1), some (.inl r6)], [], (am_sh, am_mm U6))) 3 (fun _ => rfl) (fun hc => ?_) (fun hc => ?_)
            · have ha12a11a21 := ha12a11a2.1 hc
              exact ha12a11a21
            · have ha12a11a22 := ha12a11a2.2 (Decidable.not_not.mp hc)
              refine ev_seg (σ1 := ((d + 1), 269, 80, [some (.inr (.inr 86)), some (.inl x1), some (.inl r6)], [.inl (U6 86 4), .inl 3, .inr (.inr 86)], (am_sh, am_mm U6))) 4 (fun _ => rfl) ?_
              obtain ⟨U7, ha12a11a22c, ha12a11a22a⟩ := ha12a11a22
              refine ev_cal (σc := (M_blame_s0 d 3 (U6 86 4) U6)) (fun _ => rfl) ha12a11a22c ?_
              show Ev (am_kz N X) ((d + 1), 269, 83, [some (.inr (.inr 86)), some (.inl x1), some (.inl r6)], [], (am_sh, am_mm U7)) R
              exact ha12a11a22a
        · have ha12a12 := ha12a1.2 (Int.not_le.mp hc)
          refine ev_br (P := ¬ (U5 86 8) = 0) (σ1 := ((d + 1), 269, 83, [some (.inr (.inr 86)), some (.inl x1), some (.inl 0)], [], (am_sh, am_mm U5))) (σ2 := ((d + 1), 269, 69, [some (.inr (.inr 86)), some (.inl x1), some (.inl 0)], [], (am_sh, am_mm U5))) 6 (fun _ => rfl) (fun hc => ?_) (fun hc => ?_)
          · have ha12a121 := ha12a12.1 hc
            exact ha12a121
          · have ha12a122 := ha12a12.2 (Decidable.not_not.mp hc)
            refine ev_seg (σ1 := ((d + 1), 269, 83, [some (.inr (.inr 86)), some (.inl x1), some (.inl 0)], [], (am_sh, am_mm U5))) 3 (fun _ => rfl) ?_
            exact ha12a122
      · have ha12a2 := ha12a.2 hc
        refine ev_seg (σ1 := ((d + 1), 269, 38, [some (.inr (.inr 86)), some (.inl x1), none], [.inl (U5 86 4), .inl 1, .inr (.inr 86)], (am_sh, am_mm U5))) 4 (fun _ => rfl) ?_
        obtain ⟨U8, ha12a2c, ha12a2a⟩ := ha12a2
        refine ev_cal (σc := (M_blame_s0 d 1 (U5 86 4) U5)) (fun _ => rfl) ha12a2c ?_
        show Ev (am_kz N X) ((d + 1), 269, 41, [some (.inr (.inr 86)), some (.inl x1), none], [], (am_sh, am_mm U8)) R
        refine ev_br (P := (U8 86 8) ≤ 0) (σ1 := ((d + 1), 269, 52, [some (.inr (.inr 86)), some (.inl x1), none], [], (am_sh, am_mm U8))) (σ2 := ((d + 1), 269, 48, [some (.inr (.inr 86)), some (.inl x1), none], [], (am_sh, am_mm U8))) 3 (fun _ => rfl) (fun hc => ?_) (fun hc => ?_)
        · have ha12a2a1 := ha12a2a.1 hc
          refine ev_seg (σ1 := ((d + 1), 269, 58, [some (.inr (.inr 86)), some (.inl x1), none], [.inr (.inl (U8 86 7)), .inl x1, .inr (.inr 86)], (am_sh, am_mm U8))) 4 (fun _ => rfl) ?_
          obtain ⟨r9, U9, ha12a2a1c, ha12a2a1a⟩ := ha12a2a1
          refine ev_cal (σc := (M_named_s0 d x1 (U8 86 7) U8)) (fun _ => rfl) ha12a2a1c ?_
          show Ev (am_kz N X) ((d + 1), 269, 61, [some (.inr (.inr 86)), some (.inl x1), none], [.inl r9], (am_sh, am_mm U9)) R
          refine ev_br (P := ¬ (U9 86 8) = 0) (σ1 := ((d + 1), 269, 83, [some (.inr (.inr 86)), some (.inl x1), some (.inl r9)], [], (am_sh, am_mm U9))) (σ2 := ((d + 1), 269, 69, [some (.inr (.inr 86)), some (.inl x1), some (.inl r9)], [], (am_sh, am_mm U9))) 4 (fun _ => rfl) (fun hc => ?_) (fun hc => ?_)
          · have ha12a2a1a1 := ha12a2a1a.1 hc
            exact ha12a2a1a1
          · have ha12a2a1a2 := ha12a2a1a.2 (Decidable.not_not.mp hc)
            refine ev_br (P := ¬ r9 = (-1)) (σ1 := ((d + 1), 269, 83, [some (.inr (.inr 86)), some (.inl x1), some (.inl r9)], [], (am_sh, am_mm U9))) (σ2 := ((d + 1), 269, 74, [some (.inr (.inr 86)), some (.inl x1), some (.inl r9)], [], (am_sh, am_mm U9))) 3 (fun _ => rfl) (fun hc => ?_) (fun hc => ?_)
            · have ha12a2a1a21 := ha12a2a1a2.1 hc
              exact ha12a2a1a21
            · have ha12a2a1a22 := ha12a2a1a2.2 (Decidable.not_not.mp hc)
              refine ev_seg (σ1 := ((d + 1), 269, 80, [some (.inr (.inr 86)), some (.inl x1), some (.inl r9)], [.inl (U9 86 4), .inl 3, .inr (.inr 86)], (am_sh, am_mm U9))) 4 (fun _ => rfl) ?_
              obtain ⟨U10, ha12a2a1a22c, ha12a2a1a22a⟩ := ha12a2a1a22
              refine ev_cal (σc := (M_blame_s0 d 3 (U9 86 4) U9)) (fun _ => rfl) ha12a2a1a22c ?_
              show Ev (am_kz N X) ((d + 1), 269, 83, [some (.inr (.inr 86)), some (.inl x1), some (.inl r9)], [], (am_sh, am_mm U10)) R
              exact ha12a2a1a22a
        · have ha12a2a2 := ha12a2a.2 (Int.not_le.mp hc)
          refine ev_br (P := ¬ (U8 86 8) = 0) (σ1 := ((d + 1), 269, 83, [some (.inr (.inr 86)), some (.inl x1), some (.inl 0)], [], (am_sh, am_mm U8))) (σ2 := ((d + 1), 269, 69, [some (.inr (.inr 86)), some (.inl x1), some (.inl 0)], [], (am_sh, am_mm U8))) 6 (fun _ => rfl) (fun hc => ?_) (fun hc => ?_)
          · have ha12a2a21 := ha12a2a2.1 hc
            exact ha12a2a21
          · have ha12a2a22 := ha12a2a2.2 (Decidable.not_not.mp hc)
            refine ev_seg (σ1 := ((d + 1), 269, 83, [some (.inr (.inr 86)), some (.inl x1), some (.inl 0)], [], (am_sh, am_mm U8))) 3 (fun _ => rfl) ?_
            exact ha12a2a22
  · have ha2 := ha.2 (Int.not_le.mp hc)
    subst ha2
    exact ev_end 2 (fun _ => rfl)
set_option maxRecDepth 8000 in
theorem M_looked_r83 {N : Nat} {X : Nat → Int} {d : Nat} {x1 x2 : Int} {U : am_U} {R : Option am_V × am_M} (h : (((U 86 8) ≤ 0) → R = rI x2 U) ∧ ((0 < (U 86 8)) → R = rI 0 U)) : EvK N X (M_looked_s83 (d + 1) x1 x2 U) R := by
  show Ev (am_kz N X) ((d + 1), 269, 83, [some (.inr (.inr 86)), some (.inl x1), some (.inl x2)], [], (am_sh, am_mm U)) R
  refine ev_br (P := (U 86 8) ≤ 0) (σ1 := ((d + 1), 269, 94, [some (.inr (.inr 86)), some (.inl x1), some (.inl x2)], [], (am_sh, am_mm U))) (σ2 := ((d + 1), 269, 90, [some (.inr (.inr 86)), some (.inl x1), some (.inl x2)], [], (am_sh, am_mm U))) 3 (fun _ => rfl) (fun hc => ?_) (fun hc => ?_)
  · have h1 := h.1 hc
    subst h1
    exact ev_end 2 (fun _ => rfl)
  · have h2 := h.2 (Int.not_le.mp hc)
    subst h2
    exact ev_end 3 (fun _ => rfl)
set_option maxRecDepth 8000 in
theorem M_reads_r0 {N : Nat} {X : Nat → Int} {d : Nat} {x1 : Int} {U : am_U} {R : Option am_V × am_M} (h : (((U 86 8) ≤ 0) → ((x1 = 0) → ∃ U1 : am_U, EvK N X (M_pushes_s0 d 0 (am_upd (am_upd (am_upd (am_upd U 86 46 0) 86 47 0) 86 49 0) 86 50 0)) (rV U1) ∧ EvK N X (M_reads_s43 (d + 1) x1 1 U1) R) ∧ ((x1 ≠ 0) → ∃ U2 : am_U, EvK N X (M_pushes_s0 d 1 (am_upd (am_upd (am_upd (am_upd U 86 46 0) 86 47 0) 86 49 0) 86 50 0)) (rV U2) ∧ EvK N X (M_reads_s43 (d + 1) x1 1 U2) R)) ∧ ((0 < (U 86 8)) → R = rV U)) : EvK N X (M_reads_s0 (d + 1) x1 U) R := by
  show Ev (am_kz N X) ((d + 1), 271, 0, [some (.inr (.inr 86)), some (.inl x1), none], [], (am_sh, am_mm U)) R
  refine ev_br (P := (U 86 8) ≤ 0) (σ1 := ((d + 1), 271, 8, [some (.inr (.inr 86)), some (.inl x1), none], [], (am_sh, am_mm U))) (σ2 := ((d + 1), 271, 7, [some (.inr (.inr 86)), some (.inl x1), none], [], (am_sh, am_mm U))) 3 (fun _ => rfl) (fun hc => ?_) (fun hc => ?_)
  · have h1 := h.1 hc
    refine ev_seg (σ1 := ((d + 1), 271, 10, [some (.inr (.inr 86)), some (.inl x1), none], [.inl 0, .inr (.inr 86)], (am_sh, am_mm U))) 2 (fun _ => rfl) ?_
    refine eu_puti 86 (n := 90) rfl (by decide) rfl rfl ?_
    show Ev (am_kz N X) ((d + 1), 271, 13, [some (.inr (.inr 86)), some (.inl x1), none], [], (am_sh, am_mm (am_upd U 86 46 0))) R
    refine ev_seg (σ1 := ((d + 1), 271, 15, [some (.inr (.inr 86)), some (.inl x1), none], [.inl 0, .inr (.inr 86)], (am_sh, am_mm (am_upd U 86 46 0)))) 2 (fun _ => rfl) ?_
    refine eu_puti 86 (n := 90) rfl (by decide) rfl rfl ?_
    show Ev (am_kz N X) ((d + 1), 271, 18, [some (.inr (.inr 86)), some (.inl x1), none], [], (am_sh, am_mm (am_upd (am_upd U 86 46 0) 86 47 0))) R
    refine ev_seg (σ1 := ((d + 1), 271, 20, [some (.inr (.inr 86)), some (.inl x1), none], [.inl 0, .inr (.inr 86)], (am_sh, am_mm (am_upd (am_upd U 86 46 0) 86 47 0)))) 2 (fun _ => rfl) ?_
    refine eu_puti 86 (n := 90) rfl (by decide) rfl rfl ?_
    show Ev (am_kz N X) ((d + 1), 271, 23, [some (.inr (.inr 86)), some (.inl x1), none], [], (am_sh, am_mm (am_upd (am_upd (am_upd U 86 46 0) 86 47 0) 86 49 0))) R
    refine ev_seg (σ1 := ((d + 1), 271, 25, [some (.inr (.inr 86)), some (.inl x1), none], [.inl 0, .inr (.inr 86)], (am_sh, am_mm (am_upd (am_upd (am_upd U 86 46 0) 86 47 0) 86 49 0)))) 2 (fun _ => rfl) ?_
    refine eu_putz 86 (n := 90) rfl (by decide) rfl rfl (by decide) ?_
    show Ev (am_kz N X) ((d + 1), 271, 28, [some (.inr (.inr 86)), some (.inl x1), none], [], (am_sh, am_mm (am_upd (am_upd (am_upd (am_upd U 86 46 0) 86 47 0) 86 49 0) 86 50 0))) R
    refine ev_br (P := x1 = 0) (σ1 := ((d + 1), 271, 37, [some (.inr (.inr 86)), some (.inl x1), none], [.inr (.inr 86)], (am_sh, am_mm (am_upd (am_upd (am_upd (am_upd U 86 46 0) 86 47 0) 86 49 0) 86 50 0)))) (σ2 := ((d + 1), 271, 33, [some (.inr (.inr 86)), some (.inl x1), none], [.inr (.inr 86)], (am_sh, am_mm (am_upd (am_upd (am_upd (am_upd U 86 46 0) 86 47 0) 86 49 0) 86 50 0)))) 3 (fun _ => rfl) (fun hc => ?_) (fun hc => ?_)
    · have h11 := h1.1 hc
      refine ev_seg (σ1 := ((d + 1), 271, 38, [some (.inr (.inr 86)), some (.inl x1), none], [.inl 0, .inr (.inr 86)], (am_sh, am_mm (am_upd (am_upd (am_upd (am_upd U 86 46 0) 86 47 0) 86 49 0) 86 50 0)))) 1 (fun _ => rfl) ?_
      obtain ⟨U1, h11c, h11a⟩ := h11
      refine ev_cal (σc := (M_pushes_s0 d 0 (am_upd (am_upd (am_upd (am_upd U 86 46 0) 86 47 0) 86 49 0) 86 50 0))) (fun _ => rfl) h11c ?_
      show Ev (am_kz N X) ((d + 1), 271, 41, [some (.inr (.inr 86)), some (.inl x1), none], [], (am_sh, am_mm U1)) R
      refine ev_seg (σ1 := ((d + 1), 271, 43, [some (.inr (.inr 86)), some (.inl x1), some (.inl 1)], [], (am_sh, am_mm U1))) 2 (fun _ => rfl) ?_
      exact h11a
    · have h12 := h1.2 hc
      refine ev_seg (σ1 := ((d + 1), 271, 38, [some (.inr (.inr 86)), some (.inl x1), none], [.inl 1, .inr (.inr 86)], (am_sh, am_mm (am_upd (am_upd (am_upd (am_upd U 86 46 0) 86 47 0) 86 49 0) 86 50 0)))) 2 (fun _ => rfl) ?_
      obtain ⟨U2, h12c, h12a⟩ := h12
      refine ev_cal (σc := (M_pushes_s0 d 1 (am_upd (am_upd (am_upd (am_upd U 86 46 0) 86 47 0) 86 49 0) 86 50 0))) (fun _ => rfl) h12c ?_
      show Ev (am_kz N X) ((d + 1), 271, 41, [some (.inr (.inr 86)), some (.inl x1), none], [], (am_sh, am_mm U2)) R
      refine ev_seg (σ1 := ((d + 1), 271, 43, [some (.inr (.inr 86)), some (.inl x1), some (.inl 1)], [], (am_sh, am_mm U2))) 2 (fun _ => rfl) ?_
      exact h12a
  · have h2 := h.2 (Int.not_le.mp hc)
    subst h2
    exact ev_end 1 (fun _ => rfl)
set_option maxRecDepth 8000 in
theorem M_reads_r43 {N : Nat} {X : Nat → Int} {d : Nat} {x1 x2 : Int} {U : am_U} {R : Option am_V × am_M} (h : ((x2 = 0) → R = rV U) ∧ ((x2 ≠ 0) → (((U 86 50) ≠ 0) → ∃ (r1 : Int) (U1 : am_U), EvK N X (M_goesOn_s0 d U) (rI r1 U1) ∧ ((r1 = 0) → EvK N X (M_reads_s43 (d + 1) x1 0 U1) R) ∧ ((r1 ≠ 0) → (((U1 86 8) ≠ 0) → EvK N X (M_reads_s43 (d + 1) x1 0 U1) R) ∧ (((U1 86 8) = 0) → EvK N X (M_reads_s43 (d + 1) x1 1 U1) R))) ∧ (((U 86 50) = 0) → ∃ (r2 : Int) (U2 : am_U), EvK N X (M_operand_s0 d U) (rI r2 U2) ∧ (r2 = 0 ∨ r2 = 1) ∧ (((U2 86 8) ≠ 0) → EvK N X (M_reads_s43 (d + 1) x1 0 (am_upd U2 86 50 r2)) R) ∧ (((U2 86 8) = 0) → EvK N X (M_reads_s43 (d + 1) x1 1 (am_upd U2 86 50 r2)) R)))) : EvK N X (M_reads_s43 (d + 1) x1 x2 U) R := by
  show Ev (am_kz N X) ((d + 1), 271, 43, [some (.inr (.inr 86)), some (.inl x1), some (.inl x2)], [], (am_sh, am_mm U)) R
  refine ev_br (P := x2 = 0) (σ1 := ((d + 1), 271, 90, [some (.inr (.inr 86)), some (.inl x1), some (.inl x2)], [], (am_sh, am_mm U))) (σ2 := ((d + 1), 271, 47, [some (.inr (.inr 86)), some (.inl x1), some (.inl x2)], [], (am_sh, am_mm U))) 2 (fun _ => rfl) (fun hc => ?_) (fun hc => ?_)
  · have h1 := h.1 hc
    subst h1
    exact ev_end 1 (fun _ => rfl)
  · have h2 := h.2 hc
    have hq := hc
    refine ev_br (P := ¬ (U 86 50) = 0) (σ1 := ((d + 1), 271, 65, [some (.inr (.inr 86)), some (.inl x1), some (.inl x2)], [], (am_sh, am_mm U))) (σ2 := ((d + 1), 271, 54, [some (.inr (.inr 86)), some (.inl x1), some (.inl x2)], [], (am_sh, am_mm U))) 3 (fun _ => rfl) (fun hc => ?_) (fun hc => ?_)
    · have h21 := h2.1 hc
      refine ev_seg (σ1 := ((d + 1), 271, 66, [some (.inr (.inr 86)), some (.inl x1), some (.inl x2)], [.inr (.inr 86)], (am_sh, am_mm U))) 1 (fun _ => rfl) ?_
      obtain ⟨r1, U1, h21c, h21a⟩ := h21
      refine ev_cal (σc := (M_goesOn_s0 d U)) (fun _ => rfl) h21c ?_
      show Ev (am_kz N X) ((d + 1), 271, 69, [some (.inr (.inr 86)), some (.inl x1), some (.inl x2)], [.inl r1], (am_sh, am_mm U1)) R
      refine ev_br (P := r1 = 0) (σ1 := ((d + 1), 271, 85, [some (.inr (.inr 86)), some (.inl x1), some (.inl r1)], [], (am_sh, am_mm U1))) (σ2 := ((d + 1), 271, 74, [some (.inr (.inr 86)), some (.inl x1), some (.inl r1)], [], (am_sh, am_mm U1))) 3 (fun _ => rfl) (fun hc => ?_) (fun hc => ?_)
      · have h21a1 := h21a.1 hc
        refine ev_seg (σ1 := ((d + 1), 271, 43, [some (.inr (.inr 86)), some (.inl x1), some (.inl 0)], [], (am_sh, am_mm U1))) 3 (fun _ => rfl) ?_
        exact h21a1
      · have h21a2 := h21a.2 hc
        refine ev_br (P := ¬ (U1 86 8) = 0) (σ1 := ((d + 1), 271, 85, [some (.inr (.inr 86)), some (.inl x1), some (.inl r1)], [], (am_sh, am_mm U1))) (σ2 := ((d + 1), 271, 81, [some (.inr (.inr 86)), some (.inl x1), some (.inl r1)], [], (am_sh, am_mm U1))) 3 (fun _ => rfl) (fun hc => ?_) (fun hc => ?_)
        · have h21a21 := h21a2.1 hc
          refine ev_seg (σ1 := ((d + 1), 271, 43, [some (.inr (.inr 86)), some (.inl x1), some (.inl 0)], [], (am_sh, am_mm U1))) 3 (fun _ => rfl) ?_
          exact h21a21
        · have h21a22 := h21a2.2 (Decidable.not_not.mp hc)
          refine ev_seg (σ1 := ((d + 1), 271, 43, [some (.inr (.inr 86)), some (.inl x1), some (.inl 1)], [], (am_sh, am_mm U1))) 4 (fun _ => rfl) ?_
          exact h21a22
    · have h22 := h2.2 (Decidable.not_not.mp hc)
      refine ev_seg (σ1 := ((d + 1), 271, 56, [some (.inr (.inr 86)), some (.inl x1), some (.inl x2)], [.inr (.inr 86), .inr (.inr 86)], (am_sh, am_mm U))) 2 (fun _ => rfl) ?_
      obtain ⟨r2, U2, h22c, h22a⟩ := h22
      refine ev_cal (σc := (M_operand_s0 d U)) (fun _ => rfl) h22c ?_
      show Ev (am_kz N X) ((d + 1), 271, 59, [some (.inr (.inr 86)), some (.inl x1), some (.inl x2)], [.inl r2, .inr (.inr 86)], (am_sh, am_mm U2)) R
      refine eu_putz 86 (n := 90) rfl (by decide) rfl rfl h22a.1 ?_
      show Ev (am_kz N X) ((d + 1), 271, 62, [some (.inr (.inr 86)), some (.inl x1), some (.inl x2)], [], (am_sh, am_mm (am_upd U2 86 50 r2))) R
      have h22aa := h22a.2
      refine ev_br (P := x2 = 0) (σ1 := ((d + 1), 271, 85, [some (.inr (.inr 86)), some (.inl x1), some (.inl x2)], [], (am_sh, am_mm (am_upd U2 86 50 r2)))) (σ2 := ((d + 1), 271, 74, [some (.inr (.inr 86)), some (.inl x1), some (.inl x2)], [], (am_sh, am_mm (am_upd U2 86 50 r2)))) 3 (fun _ => rfl) (fun hc => absurd hq (fun h0 => by have h1 := hc; omega)) (fun hc => ?_)
      refine ev_br (P := ¬ (U2 86 8) = 0) (σ1 := ((d + 1), 271, 85, [some (.inr (.inr 86)), some (.inl x1), some (.inl x2)], [], (am_sh, am_mm (am_upd U2 86 50 r2)))) (σ2 := ((d + 1), 271, 81, [some (.inr (.inr 86)), some (.inl x1), some (.inl x2)], [], (am_sh, am_mm (am_upd U2 86 50 r2)))) 3 (fun _ => rfl) (fun hc => ?_) (fun hc => ?_)
      · have h22aa1 := h22aa.1 hc
        refine ev_seg (σ1 := ((d + 1), 271, 43, [some (.inr (.inr 86)), some (.inl x1), some (.inl 0)], [], (am_sh, am_mm (am_upd U2 86 50 r2)))) 3 (fun _ => rfl) ?_
        exact h22aa1
      · have h22aa2 := h22aa.2 (Decidable.not_not.mp hc)
        refine ev_seg (σ1 := ((d + 1), 271, 43, [some (.inr (.inr 86)), some (.inl x1), some (.inl 1)], [], (am_sh, am_mm (am_upd U2 86 50 r2)))) 4 (fun _ => rfl) ?_
        exact h22aa2
set_option maxRecDepth 8000 in
theorem M_livingTold_r0 {N : Nat} {X : Nat → Int} {d : Nat} {x1 : Int} {U : am_U} {R : Option am_V × am_M} (h : EvK N X (M_livingTold_s4 d x1 0 0 U) R) : EvK N X (M_livingTold_s0 d x1 U) R := by
  show Ev (am_kz N X) (d, 270, 0, [some (.inr (.inr 86)), some (.inl x1), none, none], [], (am_sh, am_mm U)) R
  refine ev_seg (σ1 := (d, 270, 4, [some (.inr (.inr 86)), some (.inl x1), some (.inl 0), some (.inl 0)], [], (am_sh, am_mm U))) 4 (fun _ => rfl) ?_
  exact h
set_option maxRecDepth 8000 in
theorem M_livingTold_r4 {N : Nat} {X : Nat → Int} {d : Nat} {x1 x2 x3 : Int} {U : am_U} {R : Option am_V × am_M} (h : (0 ≤ (U 86 40) ∧ (U 86 40) < 2) ∧ (((U 97 ((U 86 40).toNat)) ≤ x3) → R = rI x2 U) ∧ ((x3 < (U 97 ((U 86 40).toNat))) → (0 ≤ (w32 ((w32 (16 * (U 86 40))) + x3)) ∧ (w32 ((w32 (16 * (U 86 40))) + x3)) < 32) ∧ (((U 99 ((w32 ((w32 (16 * (U 86 40))) + x3)).toNat)) ≠ x1) → EvK N X (M_livingTold_s4 d x1 (w32 (x2 + 0)) (w32 (x3 + 1)) U) R) ∧ (((U 99 ((w32 ((w32 (16 * (U 86 40))) + x3)).toNat)) = x1) → EvK N X (M_livingTold_s4 d x1 (w32 (x2 + 1)) (w32 (x3 + 1)) U) R))) : EvK N X (M_livingTold_s4 d x1 x2 x3 U) R := by
  show Ev (am_kz N X) (d, 270, 4, [some (.inr (.inr 86)), some (.inl x1), some (.inl x2), some (.inl x3)], [], (am_sh, am_mm U)) R
  refine ev_seg (σ1 := (d, 270, 13, [some (.inr (.inr 86)), some (.inl x1), some (.inl x2), some (.inl x3)], [.inl (U 86 40), .inr (.inr 97), .inl x3], (am_sh, am_mm U))) 5 (fun _ => rfl) ?_
  refine eu_iald 97 (n := 2) rfl (by decide) rfl (fun _ => rfl) h.1 ?_
  show Ev (am_kz N X) (d, 270, 14, [some (.inr (.inr 86)), some (.inl x1), some (.inl x2), some (.inl x3)], [.inl (U 97 ((U 86 40).toNat)), .inl x3], (am_sh, am_mm U)) R
  have ha := h.2
  refine ev_br (P := (U 97 ((U 86 40).toNat)) ≤ x3) (σ1 := (d, 270, 49, [some (.inr (.inr 86)), some (.inl x1), some (.inl x2), some (.inl x3)], [], (am_sh, am_mm U))) (σ2 := (d, 270, 17, [some (.inr (.inr 86)), some (.inl x1), some (.inl x2), some (.inl x3)], [], (am_sh, am_mm U))) 1 (fun _ => rfl) (fun hc => ?_) (fun hc => ?_)
  · have ha1 := ha.1 hc
    subst ha1
    exact ev_end 2 (fun _ => rfl)
  · have ha2 := ha.2 (Int.not_le.mp hc)
    refine ev_seg (σ1 := (d, 270, 31, [some (.inr (.inr 86)), some (.inl x1), some (.inl x2), some (.inl x3)], [.inl (w32 ((w32 (16 * (U 86 40))) + x3)), .inr (.inr 99), .inl x2], (am_sh, am_mm U))) 9 (fun _ => rfl) ?_
    refine eu_iald 99 (n := 32) rfl (by decide) rfl (fun _ => rfl) ha2.1 ?_
    show Ev (am_kz N X) (d, 270, 32, [some (.inr (.inr 86)), some (.inl x1), some (.inl x2), some (.inl x3)], [.inl (U 99 ((w32 ((w32 (16 * (U 86 40))) + x3)).toNat)), .inl x2], (am_sh, am_mm U)) R
    have ha2a := ha2.2
    refine ev_br (P := ¬ (U 99 ((w32 ((w32 (16 * (U 86 40))) + x3)).toNat)) = x1) (σ1 := (d, 270, 40, [some (.inr (.inr 86)), some (.inl x1), some (.inl x2), some (.inl x3)], [.inl x2], (am_sh, am_mm U))) (σ2 := (d, 270, 36, [some (.inr (.inr 86)), some (.inl x1), some (.inl x2), some (.inl x3)], [.inl x2], (am_sh, am_mm U))) 2 (fun _ => rfl) (fun hc => ?_) (fun hc => ?_)
    · have ha2a1 := ha2a.1 hc
      refine ev_seg (σ1 := (d, 270, 4, [some (.inr (.inr 86)), some (.inl x1), some (.inl (w32 (x2 + 0))), some (.inl (w32 (x3 + 1)))], [], (am_sh, am_mm U))) 5 (fun _ => rfl) ?_
      exact ha2a1
    · have ha2a2 := ha2a.2 (Decidable.not_not.mp hc)
      refine ev_seg (σ1 := (d, 270, 4, [some (.inr (.inr 86)), some (.inl x1), some (.inl (w32 (x2 + 1))), some (.inl (w32 (x3 + 1)))], [], (am_sh, am_mm U))) 6 (fun _ => rfl) ?_
      exact ha2a2
set_option maxRecDepth 8000 in
theorem M_fresh_r0 {N : Nat} {X : Nat → Int} {d : Nat} {U : am_U} {R : Option am_V × am_M} (h : ∃ U1 : am_U, EvK N X (M_lex_s0 d U) (rV U1) ∧ (((U1 86 8) ≤ 0) → (((U1 86 3) ≠ 1) → ∃ U2 : am_U, EvK N X (M_blame_s0 d 1 (U1 86 4) U1) (rV U2) ∧ EvK N X (M_fresh_s43 (d + 1) 0 U2) R) ∧ (((U1 86 3) = 1) → ∃ (r3 : Int) (U3 : am_U), EvK N X (M_isOwn_s0 d (U1 86 7) U1) (rI r3 U3) ∧ ((r3 = 0) → EvK N X (M_fresh_s43 (d + 1) 0 U3) R) ∧ ((r3 ≠ 0) → ∃ U4 : am_U, EvK N X (M_blame_s0 d 1 (U3 86 4) U3) (rV U4) ∧ EvK N X (M_fresh_s43 (d + 1) 0 U4) R))) ∧ ((0 < (U1 86 8)) → R = rJ 0 U1)) : EvK N X (M_fresh_s0 (d + 1) U) R := by
  show Ev (am_kz N X) ((d + 1), 265, 0, [some (.inr (.inr 86)), none, none], [], (am_sh, am_mm U)) R
  refine ev_seg (σ1 := ((d + 1), 265, 1, [some (.inr (.inr 86)), none, none], [.inr (.inr 86)], (am_sh, am_mm U))) 1 (fun _ => rfl) ?_
  obtain ⟨U1, hc, ha⟩ := h
  refine ev_cal (σc := (M_lex_s0 d U)) (fun _ => rfl) hc ?_
  show Ev (am_kz N X) ((d + 1), 265, 4, [some (.inr (.inr 86)), none, none], [], (am_sh, am_mm U1)) R
  refine ev_br (P := (U1 86 8) ≤ 0) (σ1 := ((d + 1), 265, 13, [some (.inr (.inr 86)), none, none], [], (am_sh, am_mm U1))) (σ2 := ((d + 1), 265, 11, [some (.inr (.inr 86)), none, none], [], (am_sh, am_mm U1))) 3 (fun _ => rfl) (fun hc => ?_) (fun hc => ?_)
  · have ha1 := ha.1 hc
    refine ev_br (P := ¬ (U1 86 3) = 1) (σ1 := ((d + 1), 265, 32, [some (.inr (.inr 86)), none, none], [], (am_sh, am_mm U1))) (σ2 := ((d + 1), 265, 21, [some (.inr (.inr 86)), none, none], [], (am_sh, am_mm U1))) 4 (fun _ => rfl) (fun hc => ?_) (fun hc => ?_)
    · have ha11 := ha1.1 hc
      refine ev_seg (σ1 := ((d + 1), 265, 38, [some (.inr (.inr 86)), none, none], [.inl (U1 86 4), .inl 1, .inr (.inr 86)], (am_sh, am_mm U1))) 4 (fun _ => rfl) ?_
      obtain ⟨U2, ha11c, ha11a⟩ := ha11
      refine ev_cal (σc := (M_blame_s0 d 1 (U1 86 4) U1)) (fun _ => rfl) ha11c ?_
      show Ev (am_kz N X) ((d + 1), 265, 41, [some (.inr (.inr 86)), none, none], [], (am_sh, am_mm U2)) R
      refine ev_seg (σ1 := ((d + 1), 265, 43, [some (.inr (.inr 86)), some (.inl 0), none], [], (am_sh, am_mm U2))) 2 (fun _ => rfl) ?_
      exact ha11a
    · have ha12 := ha1.2 (Decidable.not_not.mp hc)
      refine ev_seg (σ1 := ((d + 1), 265, 26, [some (.inr (.inr 86)), none, none], [.inr (.inl (U1 86 7)), .inr (.inr 86)], (am_sh, am_mm U1))) 3 (fun _ => rfl) ?_
      obtain ⟨r3, U3, ha12c, ha12a⟩ := ha12
      refine ev_cal (σc := (M_isOwn_s0 d (U1 86 7) U1)) (fun _ => rfl) ha12c ?_
      show Ev (am_kz N X) ((d + 1), 265, 29, [some (.inr (.inr 86)), none, none], [.inl r3], (am_sh, am_mm U3)) R
      refine ev_br (P := r3 = 0) (σ1 := ((d + 1), 265, 41, [some (.inr (.inr 86)), none, none], [], (am_sh, am_mm U3))) (σ2 := ((d + 1), 265, 32, [some (.inr (.inr 86)), none, none], [], (am_sh, am_mm U3))) 1 (fun _ => rfl) (fun hc => ?_) (fun hc => ?_)
      · have ha12a1 := ha12a.1 hc
        refine ev_seg (σ1 := ((d + 1), 265, 43, [some (.inr (.inr 86)), some (.inl 0), none], [], (am_sh, am_mm U3))) 2 (fun _ => rfl) ?_
        exact ha12a1
      · have ha12a2 := ha12a.2 hc
        refine ev_seg (σ1 := ((d + 1), 265, 38, [some (.inr (.inr 86)), none, none], [.inl (U3 86 4), .inl 1, .inr (.inr 86)], (am_sh, am_mm U3))) 4 (fun _ => rfl) ?_
        obtain ⟨U4, ha12a2c, ha12a2a⟩ := ha12a2
        refine ev_cal (σc := (M_blame_s0 d 1 (U3 86 4) U3)) (fun _ => rfl) ha12a2c ?_
        show Ev (am_kz N X) ((d + 1), 265, 41, [some (.inr (.inr 86)), none, none], [], (am_sh, am_mm U4)) R
        refine ev_seg (σ1 := ((d + 1), 265, 43, [some (.inr (.inr 86)), some (.inl 0), none], [], (am_sh, am_mm U4))) 2 (fun _ => rfl) ?_
        exact ha12a2a
  · have ha2 := ha.2 (Int.not_le.mp hc)
    subst ha2
    exact ev_end 2 (fun _ => rfl)
set_option maxRecDepth 8000 in
theorem M_fresh_r43 {N : Nat} {X : Nat → Int} {d : Nat} {x1 : Int} {U : am_U} {R : Option am_V × am_M} (h : ((1 < x1) → (((U 86 8) ≠ 0) → R = rJ (U 86 7) U) ∧ (((U 86 8) = 0) → ∃ U1 : am_U, EvK N X (M_ahead_s0 d U) (rV U1) ∧ R = rJ (U 86 7) U1)) ∧ ((x1 ≤ 1) → (((U 86 8) ≠ 0) → R = rJ (U 86 7) U) ∧ (((U 86 8) = 0) → ∃ (r2 : Int) (U2 : am_U), EvK N X (M_named_s0 d x1 (U 86 7) U) (rI r2 U2) ∧ ((r2 = (-1)) → EvK N X (M_fresh_s43 (d + 1) (w32 (x1 + 1)) U2) R) ∧ ((r2 ≠ (-1)) → ∃ U3 : am_U, EvK N X (M_blame_s0 d 2 (U2 86 4) U2) (rV U3) ∧ EvK N X (M_fresh_s43 (d + 1) (w32 (x1 + 1)) U3) R)))) : EvK N X (M_fresh_s43 (d + 1) x1 U) R := by
  show Ev (am_kz N X) ((d + 1), 265, 43, [some (.inr (.inr 86)), some (.inl x1), none], [], (am_sh, am_mm U)) R
  refine ev_br (P := 1 < x1) (σ1 := ((d + 1), 265, 83, [some (.inr (.inr 86)), some (.inl x1), none], [], (am_sh, am_mm U))) (σ2 := ((d + 1), 265, 48, [some (.inr (.inr 86)), some (.inl x1), none], [], (am_sh, am_mm U))) 3 (fun _ => rfl) (fun hc => ?_) (fun hc => ?_)
  · have h1 := h.1 hc
    refine ev_br (P := ¬ (U 86 8) = 0) (σ1 := ((d + 1), 265, 99, [some (.inr (.inr 86)), some (.inr (.inl (U 86 7))), none], [], (am_sh, am_mm U))) (σ2 := ((d + 1), 265, 95, [some (.inr (.inr 86)), some (.inr (.inl (U 86 7))), none], [], (am_sh, am_mm U))) 6 (fun _ => rfl) (fun hc => ?_) (fun hc => ?_)
    · have h11 := h1.1 hc
      subst h11
      exact ev_end 2 (fun _ => rfl)
    · have h12 := h1.2 (Decidable.not_not.mp hc)
      refine ev_seg (σ1 := ((d + 1), 265, 96, [some (.inr (.inr 86)), some (.inr (.inl (U 86 7))), none], [.inr (.inr 86)], (am_sh, am_mm U))) 1 (fun _ => rfl) ?_
      obtain ⟨U1, h12c, h12a⟩ := h12
      refine ev_cal (σc := (M_ahead_s0 d U)) (fun _ => rfl) h12c ?_
      show Ev (am_kz N X) ((d + 1), 265, 99, [some (.inr (.inr 86)), some (.inr (.inl (U 86 7))), none], [], (am_sh, am_mm U1)) R
      subst h12a
      exact ev_end 2 (fun _ => rfl)
  · have h2 := h.2 (Int.not_lt.mp hc)
    refine ev_br (P := ¬ (U 86 8) = 0) (σ1 := ((d + 1), 265, 83, [some (.inr (.inr 86)), some (.inl x1), none], [], (am_sh, am_mm U))) (σ2 := ((d + 1), 265, 55, [some (.inr (.inr 86)), some (.inl x1), none], [], (am_sh, am_mm U))) 3 (fun _ => rfl) (fun hc => ?_) (fun hc => ?_)
    · have h21 := h2.1 hc
      have h2q := hc
      refine ev_br (P := ¬ (U 86 8) = 0) (σ1 := ((d + 1), 265, 99, [some (.inr (.inr 86)), some (.inr (.inl (U 86 7))), none], [], (am_sh, am_mm U))) (σ2 := ((d + 1), 265, 95, [some (.inr (.inr 86)), some (.inr (.inl (U 86 7))), none], [], (am_sh, am_mm U))) 6 (fun _ => rfl) (fun hc => ?_) (fun hc => absurd h2q (fun h0 => by have h1 := (Decidable.not_not.mp hc); omega))
      subst h21
      exact ev_end 2 (fun _ => rfl)
    · have h22 := h2.2 (Decidable.not_not.mp hc)
      refine ev_seg (σ1 := ((d + 1), 265, 61, [some (.inr (.inr 86)), some (.inl x1), none], [.inr (.inl (U 86 7)), .inl x1, .inr (.inr 86)], (am_sh, am_mm U))) 4 (fun _ => rfl) ?_
      obtain ⟨r2, U2, h22c, h22a⟩ := h22
      refine ev_cal (σc := (M_named_s0 d x1 (U 86 7) U)) (fun _ => rfl) h22c ?_
      show Ev (am_kz N X) ((d + 1), 265, 64, [some (.inr (.inr 86)), some (.inl x1), none], [.inl r2], (am_sh, am_mm U2)) R
      refine ev_br (P := r2 = (-1)) (σ1 := ((d + 1), 265, 77, [some (.inr (.inr 86)), some (.inl x1), none], [], (am_sh, am_mm U2))) (σ2 := ((d + 1), 265, 68, [some (.inr (.inr 86)), some (.inl x1), none], [], (am_sh, am_mm U2))) 2 (fun _ => rfl) (fun hc => ?_) (fun hc => ?_)
      · have h22a1 := h22a.1 hc
        refine ev_seg (σ1 := ((d + 1), 265, 43, [some (.inr (.inr 86)), some (.inl (w32 (x1 + 1))), none], [], (am_sh, am_mm U2))) 2 (fun _ => rfl) ?_
        exact h22a1
      · have h22a2 := h22a.2 hc
        refine ev_seg (σ1 := ((d + 1), 265, 74, [some (.inr (.inr 86)), some (.inl x1), none], [.inl (U2 86 4), .inl 2, .inr (.inr 86)], (am_sh, am_mm U2))) 4 (fun _ => rfl) ?_
        obtain ⟨U3, h22a2c, h22a2a⟩ := h22a2
        refine ev_cal (σc := (M_blame_s0 d 2 (U2 86 4) U2)) (fun _ => rfl) h22a2c ?_
        show Ev (am_kz N X) ((d + 1), 265, 77, [some (.inr (.inr 86)), some (.inl x1), none], [], (am_sh, am_mm U3)) R
        refine ev_seg (σ1 := ((d + 1), 265, 43, [some (.inr (.inr 86)), some (.inl (w32 (x1 + 1))), none], [], (am_sh, am_mm U3))) 2 (fun _ => rfl) ?_
        exact h22a2a
set_option maxRecDepth 8000 in
theorem M_must_J_r0 {N : Nat} {X : Nat → Int} {d : Nat} {x1 : Int} {U : am_U} {R : Option am_V × am_M} (h : ∃ U1 : am_U, EvK N X (M_lex_s0 d U) (rV U1) ∧ (((U1 86 8) ≤ 0) → ∃ (r2 : Int) (U2 : am_U), EvK N X (M_isWord_s0 d x1 U1) (rI r2 U2) ∧ ((r2 ≠ 0) → (((U2 86 8) ≠ 0) → R = rV U2) ∧ (((U2 86 8) = 0) → ∃ U3 : am_U, EvK N X (M_ahead_s0 d U2) (rV U3) ∧ R = rV U3)) ∧ ((r2 = 0) → ∃ U4 : am_U, EvK N X (M_blame_s0 d 1 (U2 86 4) U2) (rV U4) ∧ (((U4 86 8) ≠ 0) → R = rV U4) ∧ (((U4 86 8) = 0) → ∃ U5 : am_U, EvK N X (M_ahead_s0 d U4) (rV U5) ∧ R = rV U5))) ∧ ((0 < (U1 86 8)) → R = rV U1)) : EvK N X (M_must_J_s0 (d + 1) x1 U) R := by
  show Ev (am_kz N X) ((d + 1), 266, 0, [some (.inr (.inr 86)), some (.inr (.inl x1)), none], [], (am_sh, am_mm U)) R
  refine ev_seg (σ1 := ((d + 1), 266, 1, [some (.inr (.inr 86)), some (.inr (.inl x1)), none], [.inr (.inr 86)], (am_sh, am_mm U))) 1 (fun _ => rfl) ?_
  obtain ⟨U1, hc, ha⟩ := h
  refine ev_cal (σc := (M_lex_s0 d U)) (fun _ => rfl) hc ?_
  show Ev (am_kz N X) ((d + 1), 266, 4, [some (.inr (.inr 86)), some (.inr (.inl x1)), none], [], (am_sh, am_mm U1)) R
  refine ev_br (P := (U1 86 8) ≤ 0) (σ1 := ((d + 1), 266, 12, [some (.inr (.inr 86)), some (.inr (.inl x1)), none], [], (am_sh, am_mm U1))) (σ2 := ((d + 1), 266, 11, [some (.inr (.inr 86)), some (.inr (.inl x1)), none], [], (am_sh, am_mm U1))) 3 (fun _ => rfl) (fun hc => ?_) (fun hc => ?_)
  · have ha1 := ha.1 hc
    refine ev_seg (σ1 := ((d + 1), 266, 14, [some (.inr (.inr 86)), some (.inr (.inl x1)), none], [.inr (.inl x1), .inr (.inr 86)], (am_sh, am_mm U1))) 2 (fun _ => rfl) ?_
    obtain ⟨r2, U2, ha1c, ha1a⟩ := ha1
    refine ev_cal (σc := (M_isWord_s0 d x1 U1)) (fun _ => rfl) ha1c ?_
    show Ev (am_kz N X) ((d + 1), 266, 17, [some (.inr (.inr 86)), some (.inr (.inl x1)), none], [.inl r2], (am_sh, am_mm U2)) R
    refine ev_br (P := ¬ r2 = 0) (σ1 := ((d + 1), 266, 29, [some (.inr (.inr 86)), some (.inr (.inl x1)), none], [], (am_sh, am_mm U2))) (σ2 := ((d + 1), 266, 20, [some (.inr (.inr 86)), some (.inr (.inl x1)), none], [], (am_sh, am_mm U2))) 1 (fun _ => rfl) (fun hc => ?_) (fun hc => ?_)
    · have ha1a1 := ha1a.1 hc
      refine ev_br (P := ¬ (U2 86 8) = 0) (σ1 := ((d + 1), 266, 40, [some (.inr (.inr 86)), some (.inr (.inl x1)), none], [], (am_sh, am_mm U2))) (σ2 := ((d + 1), 266, 36, [some (.inr (.inr 86)), some (.inr (.inl x1)), none], [], (am_sh, am_mm U2))) 3 (fun _ => rfl) (fun hc => ?_) (fun hc => ?_)
      · have ha1a11 := ha1a1.1 hc
        subst ha1a11
        exact ev_end 1 (fun _ => rfl)
      · have ha1a12 := ha1a1.2 (Decidable.not_not.mp hc)
        refine ev_seg (σ1 := ((d + 1), 266, 37, [some (.inr (.inr 86)), some (.inr (.inl x1)), none], [.inr (.inr 86)], (am_sh, am_mm U2))) 1 (fun _ => rfl) ?_
        obtain ⟨U3, ha1a12c, ha1a12a⟩ := ha1a12
        refine ev_cal (σc := (M_ahead_s0 d U2)) (fun _ => rfl) ha1a12c ?_
        show Ev (am_kz N X) ((d + 1), 266, 40, [some (.inr (.inr 86)), some (.inr (.inl x1)), none], [], (am_sh, am_mm U3)) R
        subst ha1a12a
        exact ev_end 1 (fun _ => rfl)
    · have ha1a2 := ha1a.2 (Decidable.not_not.mp hc)
      refine ev_seg (σ1 := ((d + 1), 266, 26, [some (.inr (.inr 86)), some (.inr (.inl x1)), none], [.inl (U2 86 4), .inl 1, .inr (.inr 86)], (am_sh, am_mm U2))) 4 (fun _ => rfl) ?_
      obtain ⟨U4, ha1a2c, ha1a2a⟩ := ha1a2
      refine ev_cal (σc := (M_blame_s0 d 1 (U2 86 4) U2)) (fun _ => rfl) ha1a2c ?_
      show Ev (am_kz N X) ((d + 1), 266, 29, [some (.inr (.inr 86)), some (.inr (.inl x1)), none], [], (am_sh, am_mm U4)) R
      refine ev_br (P := ¬ (U4 86 8) = 0) (σ1 := ((d + 1), 266, 40, [some (.inr (.inr 86)), some (.inr (.inl x1)), none], [], (am_sh, am_mm U4))) (σ2 := ((d + 1), 266, 36, [some (.inr (.inr 86)), some (.inr (.inl x1)), none], [], (am_sh, am_mm U4))) 3 (fun _ => rfl) (fun hc => ?_) (fun hc => ?_)
      · have ha1a2a1 := ha1a2a.1 hc
        subst ha1a2a1
        exact ev_end 1 (fun _ => rfl)
      · have ha1a2a2 := ha1a2a.2 (Decidable.not_not.mp hc)
        refine ev_seg (σ1 := ((d + 1), 266, 37, [some (.inr (.inr 86)), some (.inr (.inl x1)), none], [.inr (.inr 86)], (am_sh, am_mm U4))) 1 (fun _ => rfl) ?_
        obtain ⟨U5, ha1a2a2c, ha1a2a2a⟩ := ha1a2a2
        refine ev_cal (σc := (M_ahead_s0 d U4)) (fun _ => rfl) ha1a2a2c ?_
        show Ev (am_kz N X) ((d + 1), 266, 40, [some (.inr (.inr 86)), some (.inr (.inl x1)), none], [], (am_sh, am_mm U5)) R
        subst ha1a2a2a
        exact ev_end 1 (fun _ => rfl)
  · have ha2 := ha.2 (Int.not_le.mp hc)
    subst ha2
    exact ev_end 1 (fun _ => rfl)
set_option maxRecDepth 8000 in
theorem Ar_fill_II_47_r0 {N : Nat} {X : Nat → Int} {d : Nat} {x1 : Int} {U : am_U} {R : Option am_V × am_M} (h : EvK N X (Ar_fill_II_47_s5 d x1 0 128 U) R) : EvK N X (Ar_fill_II_47_s0 d x1 U) R := by
  show Ev (am_kz N X) (d, 211, 0, [some (.inr (.inr 47)), some (.inl x1), none, none], [], (am_sh, am_mm U)) R
  refine ev_seg (σ1 := (d, 211, 5, [some (.inr (.inr 47)), some (.inl x1), some (.inl 0), some (.inl 128)], [], (am_sh, am_mm U))) 5 (fun _ => rfl) ?_
  exact h
set_option maxRecDepth 8000 in
theorem Ar_fill_II_47_r5 {N : Nat} {X : Nat → Int} {d : Nat} {x1 x2 x3 : Int} {U : am_U} {R : Option am_V × am_M} (h : ((x3 ≤ x2) → R = rV U) ∧ ((x2 < x3) → (0 ≤ x2 ∧ x2 < 128) ∧ EvK N X (Ar_fill_II_47_s5 d x1 (w32 (x2 + 1)) x3 (am_upd U 47 x2.toNat x1)) R)) : EvK N X (Ar_fill_II_47_s5 d x1 x2 x3 U) R := by
  show Ev (am_kz N X) (d, 211, 5, [some (.inr (.inr 47)), some (.inl x1), some (.inl x2), some (.inl x3)], [], (am_sh, am_mm U)) R
  refine ev_br (P := x3 ≤ x2) (σ1 := (d, 211, 20, [some (.inr (.inr 47)), some (.inl x1), some (.inl x2), some (.inl x3)], [], (am_sh, am_mm U))) (σ2 := (d, 211, 10, [some (.inr (.inr 47)), some (.inl x1), some (.inl x2), some (.inl x3)], [], (am_sh, am_mm U))) 3 (fun _ => rfl) (fun hc => ?_) (fun hc => ?_)
  · have h1 := h.1 hc
    subst h1
    exact ev_end 1 (fun _ => rfl)
  · have h2 := h.2 (Int.not_le.mp hc)
    refine ev_seg (σ1 := (d, 211, 13, [some (.inr (.inr 47)), some (.inl x1), some (.inl x2), some (.inl x3)], [.inl x1, .inl x2, .inr (.inr 47)], (am_sh, am_mm U))) 3 (fun _ => rfl) ?_
    refine eu_iast 47 (n := 128) rfl (by decide) rfl (fun _ => rfl) h2.1 ?_
    show Ev (am_kz N X) (d, 211, 14, [some (.inr (.inr 47)), some (.inl x1), some (.inl x2), some (.inl x3)], [], (am_sh, am_mm (am_upd U 47 x2.toNat x1))) R
    have h2a := h2.2
    refine ev_seg (σ1 := (d, 211, 5, [some (.inr (.inr 47)), some (.inl x1), some (.inl (w32 (x2 + 1))), some (.inl x3)], [], (am_sh, am_mm (am_upd U 47 x2.toNat x1)))) 2 (fun _ => rfl) ?_
    exact h2a
set_option maxRecDepth 8000 in
theorem Jg_breaks_r0 {N : Nat} {X : Nat → Int} {d : Nat} {x1 x2 x3 : Int} {U : am_U} {R : Option am_V × am_M} (h : (0 ≤ x1 ∧ x1 < 8) ∧ (((U 12 x1.toNat) ≠ 8) → (((U 12 x1.toNat) ≠ 10) → ∃ (r1 : Int) (U1 : am_U), EvK N X (Jg_besides_s0 d x2 U) (rI r1 U1) ∧ (((am_and r1 x3) ≠ 0) → EvK N X (Jg_breaks_s106 (d + 1) x1 x2 x3 (U 12 x1.toNat) (am_and r1 x3) 0 0 U1) R) ∧ (((am_and r1 x3) = 0) → R = rI 0 U1)) ∧ (((U 12 x1.toNat) = 10) → ∃ (r2 : Int) (U2 : am_U), EvK N X (Jg_within_s0 d x2 U) (rI r2 U2) ∧ (((am_and r2 x3) ≠ 0) → EvK N X (Jg_breaks_s106 (d + 1) x1 x2 x3 (U 12 x1.toNat) (am_and r2 x3) 0 0 U2) R) ∧ (((am_and r2 x3) = 0) → R = rI 0 U2))) ∧ (((U 12 x1.toNat) = 8) → (0 ≤ x2 ∧ x2 < 16) ∧ (((U 18 x2.toNat) = (-1)) → R = rI 0 U) ∧ (((U 18 x2.toNat) ≠ (-1)) → (((am_and (am_shr x3 16) 1) ≠ 0) → ∃ (r3 : Int) (U3 : am_U), EvK N X (Jg_isTrue_s0 d x1 x2 0 U) (rI r3 U3) ∧ ((r3 = 0) → R = rI 65536 U3) ∧ ((r3 ≠ 0) → R = rI 0 U3)) ∧ (((am_and (am_shr x3 16) 1) = 0) → R = rI 0 U)))) : EvK N X (Jg_breaks_s0 (d + 1) x1 x2 x3 U) R := by
  show Ev (am_kz N X) ((d + 1), 272, 0, [some (.inr (.inr 45)), some (.inl x1), some (.inl x2), some (.inl x3), none, none, none, none], [], (am_sh, am_mm U)) R
  refine ev_seg (σ1 := ((d + 1), 272, 8, [some (.inr (.inr 45)), some (.inl x1), some (.inl x2), some (.inl x3), none, none, none, none], [.inl x1, .inr (.inr 12)], (am_sh, am_mm U))) 4 (fun _ => rfl) ?_
  refine eu_iald 12 (n := 8) rfl (by decide) rfl (fun _ => rfl) h.1 ?_
  show Ev (am_kz N X) ((d + 1), 272, 9, [some (.inr (.inr 45)), some (.inl x1), some (.inl x2), some (.inl x3), none, none, none, none], [.inl (U 12 x1.toNat)], (am_sh, am_mm U)) R
  have ha := h.2
  refine ev_br (P := ¬ (U 12 x1.toNat) = 8) (σ1 := ((d + 1), 272, 69, [some (.inr (.inr 45)), some (.inl x1), some (.inl x2), some (.inl x3), some (.inl (U 12 x1.toNat)), none, none, none], [], (am_sh, am_mm U))) (σ2 := ((d + 1), 272, 18, [some (.inr (.inr 45)), some (.inl x1), some (.inl x2), some (.inl x3), some (.inl (U 12 x1.toNat)), none, none, none], [], (am_sh, am_mm U))) 4 (fun _ => rfl) (fun hc => ?_) (fun hc => ?_)
  · have ha1 := ha.1 hc
    refine ev_br (P := ¬ (U 12 x1.toNat) = 10) (σ1 := ((d + 1), 272, 84, [some (.inr (.inr 45)), some (.inl x1), some (.inl x2), some (.inl x3), some (.inl (U 12 x1.toNat)), none, none, none], [], (am_sh, am_mm U))) (σ2 := ((d + 1), 272, 76, [some (.inr (.inr 45)), some (.inl x1), some (.inl x2), some (.inl x3), some (.inl (U 12 x1.toNat)), none, none, none], [], (am_sh, am_mm U))) 3 (fun _ => rfl) (fun hc => ?_) (fun hc => ?_)
    · have ha11 := ha1.1 hc
      refine ev_seg (σ1 := ((d + 1), 272, 86, [some (.inr (.inr 45)), some (.inl x1), some (.inl x2), some (.inl x3), some (.inl (U 12 x1.toNat)), none, none, none], [.inl x2, .inr (.inr 45)], (am_sh, am_mm U))) 2 (fun _ => rfl) ?_
      obtain ⟨r1, U1, ha11c, ha11a⟩ := ha11
      refine ev_cal (σc := (Jg_besides_s0 d x2 U)) (fun _ => rfl) ha11c ?_
      show Ev (am_kz N X) ((d + 1), 272, 89, [some (.inr (.inr 45)), some (.inl x1), some (.inl x2), some (.inl x3), some (.inl (U 12 x1.toNat)), none, none, none], [.inl r1], (am_sh, am_mm U1)) R
      refine ev_br (P := ¬ (am_and r1 x3) = 0) (σ1 := ((d + 1), 272, 100, [some (.inr (.inr 45)), some (.inl x1), some (.inl x2), some (.inl x3), some (.inl (U 12 x1.toNat)), some (.inl (am_and r1 x3)), none, none], [], (am_sh, am_mm U1))) (σ2 := ((d + 1), 272, 98, [some (.inr (.inr 45)), some (.inl x1), some (.inl x2), some (.inl x3), some (.inl (U 12 x1.toNat)), some (.inl (am_and r1 x3)), none, none], [], (am_sh, am_mm U1))) 5 (fun _ => rfl) (fun hc => ?_) (fun hc => ?_)
      · have ha11a1 := ha11a.1 hc
        refine ev_seg (σ1 := ((d + 1), 272, 106, [some (.inr (.inr 45)), some (.inl x1), some (.inl x2), some (.inl x3), some (.inl (U 12 x1.toNat)), some (.inl (am_and r1 x3)), some (.inl 0), some (.inl 0)], [], (am_sh, am_mm U1))) 4 (fun _ => rfl) ?_
        exact ha11a1
      · have ha11a2 := ha11a.2 (Decidable.not_not.mp hc)
        subst ha11a2
        exact ev_end 2 (fun _ => rfl)
    · have ha12 := ha1.2 (Decidable.not_not.mp hc)
      refine ev_seg (σ1 := ((d + 1), 272, 78, [some (.inr (.inr 45)), some (.inl x1), some (.inl x2), some (.inl x3), some (.inl (U 12 x1.toNat)), none, none, none], [.inl x2, .inr (.inr 45)], (am_sh, am_mm U))) 2 (fun _ => rfl) ?_
      obtain ⟨r2, U2, ha12c, ha12a⟩ := ha12
      refine ev_cal (σc := (Jg_within_s0 d x2 U)) (fun _ => rfl) ha12c ?_
      show Ev (am_kz N X) ((d + 1), 272, 81, [some (.inr (.inr 45)), some (.inl x1), some (.inl x2), some (.inl x3), some (.inl (U 12 x1.toNat)), none, none, none], [.inl r2], (am_sh, am_mm U2)) R
      refine ev_br (P := ¬ (am_and r2 x3) = 0) (σ1 := ((d + 1), 272, 100, [some (.inr (.inr 45)), some (.inl x1), some (.inl x2), some (.inl x3), some (.inl (U 12 x1.toNat)), some (.inl (am_and r2 x3)), none, none], [], (am_sh, am_mm U2))) (σ2 := ((d + 1), 272, 98, [some (.inr (.inr 45)), some (.inl x1), some (.inl x2), some (.inl x3), some (.inl (U 12 x1.toNat)), some (.inl (am_and r2 x3)), none, none], [], (am_sh, am_mm U2))) 6 (fun _ => rfl) (fun hc => ?_) (fun hc => ?_)
      · have ha12a1 := ha12a.1 hc
        refine ev_seg (σ1 := ((d + 1), 272, 106, [some (.inr (.inr 45)), some (.inl x1), some (.inl x2), some (.inl x3), some (.inl (U 12 x1.toNat)), some (.inl (am_and r2 x3)), some (.inl 0), some (.inl 0)], [], (am_sh, am_mm U2))) 4 (fun _ => rfl) ?_
        exact ha12a1
      · have ha12a2 := ha12a.2 (Decidable.not_not.mp hc)
        subst ha12a2
        exact ev_end 2 (fun _ => rfl)
  · have ha2 := ha.2 (Decidable.not_not.mp hc)
    refine ev_seg (σ1 := ((d + 1), 272, 26, [some (.inr (.inr 45)), some (.inl x1), some (.inl x2), some (.inl x3), some (.inl (U 12 x1.toNat)), none, none, none], [.inl x2, .inr (.inr 18)], (am_sh, am_mm U))) 4 (fun _ => rfl) ?_
    refine eu_iald 18 (n := 16) rfl (by decide) rfl (fun _ => rfl) ha2.1 ?_
    show Ev (am_kz N X) ((d + 1), 272, 27, [some (.inr (.inr 45)), some (.inl x1), some (.inl x2), some (.inl x3), some (.inl (U 12 x1.toNat)), none, none, none], [.inl (U 18 x2.toNat)], (am_sh, am_mm U)) R
    have ha2a := ha2.2
    refine ev_br (P := (U 18 x2.toNat) = (-1)) (σ1 := ((d + 1), 272, 40, [some (.inr (.inr 45)), some (.inl x1), some (.inl x2), some (.inl x3), some (.inl (U 12 x1.toNat)), none, none, none], [], (am_sh, am_mm U))) (σ2 := ((d + 1), 272, 31, [some (.inr (.inr 45)), some (.inl x1), some (.inl x2), some (.inl x3), some (.inl (U 12 x1.toNat)), none, none, none], [], (am_sh, am_mm U))) 2 (fun _ => rfl) (fun hc => ?_) (fun hc => ?_)
    · have ha2a1 := ha2a.1 hc
      subst ha2a1
      exact ev_end 8 (fun _ => rfl)
    · have ha2a2 := ha2a.2 hc
      refine ev_br (P := ¬ (am_and (am_shr x3 16) 1) = 0) (σ1 := ((d + 1), 272, 44, [some (.inr (.inr 45)), some (.inl x1), some (.inl x2), some (.inl x3), some (.inl (U 12 x1.toNat)), none, none, none], [], (am_sh, am_mm U))) (σ2 := ((d + 1), 272, 40, [some (.inr (.inr 45)), some (.inl x1), some (.inl x2), some (.inl x3), some (.inl (U 12 x1.toNat)), none, none, none], [], (am_sh, am_mm U))) 6 (fun _ => rfl) (fun hc => ?_) (fun hc => ?_)
      · have ha2a21 := ha2a2.1 hc
        refine ev_seg (σ1 := ((d + 1), 272, 56, [some (.inr (.inr 45)), some (.inl x1), some (.inl x2), some (.inl x3), some (.inl (U 12 x1.toNat)), some (.inl 0), none, none], [.inl 0, .inl x2, .inl x1, .inr (.inr 45)], (am_sh, am_mm U))) 8 (fun _ => rfl) ?_
        obtain ⟨r3, U3, ha2a21c, ha2a21a⟩ := ha2a21
        refine ev_cal (σc := (Jg_isTrue_s0 d x1 x2 0 U)) (fun _ => rfl) ha2a21c ?_
        show Ev (am_kz N X) ((d + 1), 272, 59, [some (.inr (.inr 45)), some (.inl x1), some (.inl x2), some (.inl x3), some (.inl (U 12 x1.toNat)), some (.inl 0), none, none], [.inl r3], (am_sh, am_mm U3)) R
        refine ev_br (P := r3 = 0) (σ1 := ((d + 1), 272, 66, [some (.inr (.inr 45)), some (.inl x1), some (.inl x2), some (.inl x3), some (.inl (U 12 x1.toNat)), some (.inl 0), none, none], [], (am_sh, am_mm U3))) (σ2 := ((d + 1), 272, 62, [some (.inr (.inr 45)), some (.inl x1), some (.inl x2), some (.inl x3), some (.inl (U 12 x1.toNat)), some (.inl 0), none, none], [], (am_sh, am_mm U3))) 1 (fun _ => rfl) (fun hc => ?_) (fun hc => ?_)
        · have ha2a21a1 := ha2a21a.1 hc
          subst ha2a21a1
          exact ev_end 2 (fun _ => rfl)
        · have ha2a21a2 := ha2a21a.2 hc
          subst ha2a21a2
          exact ev_end 3 (fun _ => rfl)
      · have ha2a22 := ha2a2.2 (Decidable.not_not.mp hc)
        subst ha2a22
        exact ev_end 8 (fun _ => rfl)
set_option maxRecDepth 8000 in
theorem Jg_breaks_r106 {N : Nat} {X : Nat → Int} {d : Nat} {x1 x2 x3 x4 x5 x6 x7 : Int} {U : am_U} {R : Option am_V × am_M} (h : (((U 16 0) ≤ x7) → R = rI x6 U) ∧ ((x7 < (U 16 0)) → (((am_and (am_shr x5 x7) 1) ≠ 1) → EvK N X (Jg_breaks_s106 (d + 1) x1 x2 x3 x4 x5 x6 (w32 (x7 + 1)) U) R) ∧ (((am_and (am_shr x5 x7) 1) = 1) → (0 ≤ x7 ∧ x7 < 16) ∧ ∃ (r1 : Int) (U1 : am_U), EvK N X (Jg_isTrue_s0 d x1 x2 (U 17 x7.toNat) U) (rI r1 U1) ∧ ((r1 ≠ 0) → EvK N X (Jg_breaks_s106 (d + 1) x1 x2 x3 x4 x5 x6 (w32 (x7 + 1)) U1) R) ∧ ((r1 = 0) → EvK N X (Jg_breaks_s106 (d + 1) x1 x2 x3 x4 x5 (am_or x6 (am_shl 1 x7)) (w32 (x7 + 1)) U1) R)))) : EvK N X (Jg_breaks_s106 (d + 1) x1 x2 x3 x4 x5 x6 x7 U) R := by
  show Ev (am_kz N X) ((d + 1), 272, 106, [some (.inr (.inr 45)), some (.inl x1), some (.inl x2), some (.inl x3), some (.inl x4), some (.inl x5), some (.inl x6), some (.inl x7)], [], (am_sh, am_mm U)) R
  refine ev_br (P := (U 16 0) ≤ x7) (σ1 := ((d + 1), 272, 163, [some (.inr (.inr 45)), some (.inl x1), some (.inl x2), some (.inl x3), some (.inl x4), some (.inl x5), some (.inl x6), some (.inl x7)], [], (am_sh, am_mm U))) (σ2 := ((d + 1), 272, 118, [some (.inr (.inr 45)), some (.inl x1), some (.inl x2), some (.inl x3), some (.inl x4), some (.inl x5), some (.inl x6), some (.inl x7)], [], (am_sh, am_mm U))) 5 (fun _ => rfl) (fun hc => ?_) (fun hc => ?_)
  · have h1 := h.1 hc
    subst h1
    exact ev_end 2 (fun _ => rfl)
  · have h2 := h.2 (Int.not_le.mp hc)
    refine ev_br (P := ¬ (am_and (am_shr x5 x7) 1) = 1) (σ1 := ((d + 1), 272, 157, [some (.inr (.inr 45)), some (.inl x1), some (.inl x2), some (.inl x3), some (.inl x4), some (.inl x5), some (.inl x6), some (.inl x7)], [], (am_sh, am_mm U))) (σ2 := ((d + 1), 272, 129, [some (.inr (.inr 45)), some (.inl x1), some (.inl x2), some (.inl x3), some (.inl x4), some (.inl x5), some (.inl x6), some (.inl x7)], [], (am_sh, am_mm U))) 7 (fun _ => rfl) (fun hc => ?_) (fun hc => ?_)
    · have h21 := h2.1 hc
      refine ev_seg (σ1 := ((d + 1), 272, 106, [some (.inr (.inr 45)), some (.inl x1), some (.inl x2), some (.inl x3), some (.inl x4), some (.inl x5), some (.inl x6), some (.inl (w32 (x7 + 1)))], [], (am_sh, am_mm U))) 2 (fun _ => rfl) ?_
      exact h21
    · have h22 := h2.2 (Decidable.not_not.mp hc)
      refine ev_seg (σ1 := ((d + 1), 272, 141, [some (.inr (.inr 45)), some (.inl x1), some (.inl x2), some (.inl x3), some (.inl x4), some (.inl x5), some (.inl x6), some (.inl x7)], [.inl x7, .inr (.inr 17), .inl x2, .inl x1, .inr (.inr 45)], (am_sh, am_mm U))) 7 (fun _ => rfl) ?_
      refine eu_iald 17 (n := 16) rfl (by decide) rfl (fun _ => rfl) h22.1 ?_
      show Ev (am_kz N X) ((d + 1), 272, 142, [some (.inr (.inr 45)), some (.inl x1), some (.inl x2), some (.inl x3), some (.inl x4), some (.inl x5), some (.inl x6), some (.inl x7)], [.inl (U 17 x7.toNat), .inl x2, .inl x1, .inr (.inr 45)], (am_sh, am_mm U)) R
      have h22a := h22.2
      obtain ⟨r1, U1, h22ac, h22aa⟩ := h22a
      refine ev_cal (σc := (Jg_isTrue_s0 d x1 x2 (U 17 x7.toNat) U)) (fun _ => rfl) h22ac ?_
      show Ev (am_kz N X) ((d + 1), 272, 145, [some (.inr (.inr 45)), some (.inl x1), some (.inl x2), some (.inl x3), some (.inl x4), some (.inl x5), some (.inl x6), some (.inl x7)], [.inl r1], (am_sh, am_mm U1)) R
      refine ev_br (P := ¬ r1 = 0) (σ1 := ((d + 1), 272, 157, [some (.inr (.inr 45)), some (.inl x1), some (.inl x2), some (.inl x3), some (.inl x4), some (.inl x5), some (.inl x6), some (.inl x7)], [], (am_sh, am_mm U1))) (σ2 := ((d + 1), 272, 148, [some (.inr (.inr 45)), some (.inl x1), some (.inl x2), some (.inl x3), some (.inl x4), some (.inl x5), some (.inl x6), some (.inl x7)], [], (am_sh, am_mm U1))) 1 (fun _ => rfl) (fun hc => ?_) (fun hc => ?_)
      · have h22aa1 := h22aa.1 hc
        refine ev_seg (σ1 := ((d + 1), 272, 106, [some (.inr (.inr 45)), some (.inl x1), some (.inl x2), some (.inl x3), some (.inl x4), some (.inl x5), some (.inl x6), some (.inl (w32 (x7 + 1)))], [], (am_sh, am_mm U1))) 2 (fun _ => rfl) ?_
        exact h22aa1
      · have h22aa2 := h22aa.2 (Decidable.not_not.mp hc)
        refine ev_seg (σ1 := ((d + 1), 272, 106, [some (.inr (.inr 45)), some (.inl x1), some (.inl x2), some (.inl x3), some (.inl x4), some (.inl x5), some (.inl (am_or x6 (am_shl 1 x7))), some (.inl (w32 (x7 + 1)))], [], (am_sh, am_mm U1))) 8 (fun _ => rfl) ?_
        exact h22aa2
set_option maxRecDepth 8000 in
theorem M_powered_r0 {N : Nat} {X : Nat → Int} {d : Nat} {x0 x2 x4 : Int} {U : am_U} {R : Option am_V × am_M} (h : x4 ≠ 0 ∧ EvK N X (M_powered_s12 d x0 x2 x4 1 (Int.tmod x0 x4) x2 U) R) : EvK N X (M_powered_s0 d x0 x2 x4 U) R := by
  show Ev (am_kz N X) (d, 273, 0, [some (.inr (.inl x0)), none, some (.inr (.inl x2)), none, some (.inr (.inl x4)), none, none, none, none, none, none, none], [], (am_sh, am_mm U)) R
  refine ev_seg (σ1 := (d, 273, 6, [some (.inr (.inl x0)), none, some (.inr (.inl x2)), none, some (.inr (.inl x4)), none, some (.inr (.inl 1)), none, none, none, none, none], [.inr (.inl x4), .inr (.inl x0)], (am_sh, am_mm U))) 4 (fun _ => rfl) ?_
  refine ev_lrem rfl h.1 ?_
  show Ev (am_kz N X) (d, 273, 7, [some (.inr (.inl x0)), none, some (.inr (.inl x2)), none, some (.inr (.inl x4)), none, some (.inr (.inl 1)), none, none, none, none, none], [.inr (.inl (Int.tmod x0 x4))], (am_sh, am_mm U)) R
  have ha := h.2
  refine ev_seg (σ1 := (d, 273, 12, [some (.inr (.inl x0)), none, some (.inr (.inl x2)), none, some (.inr (.inl x4)), none, some (.inr (.inl 1)), none, some (.inr (.inl (Int.tmod x0 x4))), none, some (.inr (.inl x2)), none], [], (am_sh, am_mm U))) 3 (fun _ => rfl) ?_
  exact ha
set_option maxRecDepth 8000 in
theorem M_powered_r12 {N : Nat} {X : Nat → Int} {d : Nat} {x0 x2 x4 x6 x8 x10 : Int} {U : am_U} {R : Option am_V × am_M} (h : ((x10 ≤ 0) → R = rJ x6 U) ∧ ((0 < x10) → (((am_land x10 1) ≠ 1) → x4 ≠ 0 ∧ EvK N X (M_powered_s12 d x0 x2 x4 x6 (Int.tmod (w64 (x8 * x8)) x4) (am_lshr x10 1) U) R) ∧ (((am_land x10 1) = 1) → x4 ≠ 0 ∧ x4 ≠ 0 ∧ EvK N X (M_powered_s12 d x0 x2 x4 (Int.tmod (w64 (x6 * x8)) x4) (Int.tmod (w64 (x8 * x8)) x4) (am_lshr x10 1) U) R))) : EvK N X (M_powered_s12 d x0 x2 x4 x6 x8 x10 U) R := by
  show Ev (am_kz N X) (d, 273, 12, [some (.inr (.inl x0)), none, some (.inr (.inl x2)), none, some (.inr (.inl x4)), none, some (.inr (.inl x6)), none, some (.inr (.inl x8)), none, some (.inr (.inl x10)), none], [], (am_sh, am_mm U)) R
  refine ev_br (P := (am_lcmp x10 0) ≤ 0) (σ1 := (d, 273, 57, [some (.inr (.inl x0)), none, some (.inr (.inl x2)), none, some (.inr (.inl x4)), none, some (.inr (.inl x6)), none, some (.inr (.inl x8)), none, some (.inr (.inl x10)), none], [], (am_sh, am_mm U))) (σ2 := (d, 273, 19, [some (.inr (.inl x0)), none, some (.inr (.inl x2)), none, some (.inr (.inl x4)), none, some (.inr (.inl x6)), none, some (.inr (.inl x8)), none, some (.inr (.inl x10)), none], [], (am_sh, am_mm U))) 4 (fun _ => rfl) (fun hc => ?_) (fun hc => ?_)
  · have h1 := h.1 ((am_lc_le x10 0).mp hc)
    subst h1
    exact ev_end 2 (fun _ => rfl)
  · have h2 := h.2 ((am_lcn_le x10 0).mp hc)
    refine ev_br (P := ¬ (am_lcmp (am_land x10 1) 1) = 0) (σ1 := (d, 273, 38, [some (.inr (.inl x0)), none, some (.inr (.inl x2)), none, some (.inr (.inl x4)), none, some (.inr (.inl x6)), none, some (.inr (.inl x8)), none, some (.inr (.inl x10)), none], [], (am_sh, am_mm U))) (σ2 := (d, 273, 28, [some (.inr (.inl x0)), none, some (.inr (.inl x2)), none, some (.inr (.inl x4)), none, some (.inr (.inl x6)), none, some (.inr (.inl x8)), none, some (.inr (.inl x10)), none], [], (am_sh, am_mm U))) 6 (fun _ => rfl) (fun hc => ?_) (fun hc => ?_)
    · have h21 := h2.1 ((am_lc_ne (am_land x10 1) 1).mp hc)
      refine ev_seg (σ1 := (d, 273, 45, [some (.inr (.inl x0)), none, some (.inr (.inl x2)), none, some (.inr (.inl x4)), none, some (.inr (.inl x6)), none, some (.inr (.inl x8)), none, some (.inr (.inl x10)), none], [.inr (.inl x4), .inr (.inl (w64 (x8 * x8)))], (am_sh, am_mm U))) 4 (fun _ => rfl) ?_
      refine ev_lrem rfl h21.1 ?_
      show Ev (am_kz N X) (d, 273, 46, [some (.inr (.inl x0)), none, some (.inr (.inl x2)), none, some (.inr (.inl x4)), none, some (.inr (.inl x6)), none, some (.inr (.inl x8)), none, some (.inr (.inl x10)), none], [.inr (.inl (Int.tmod (w64 (x8 * x8)) x4))], (am_sh, am_mm U)) R
      have h21a := h21.2
      refine ev_seg (σ1 := (d, 273, 12, [some (.inr (.inl x0)), none, some (.inr (.inl x2)), none, some (.inr (.inl x4)), none, some (.inr (.inl x6)), none, some (.inr (.inl (Int.tmod (w64 (x8 * x8)) x4))), none, some (.inr (.inl (am_lshr x10 1))), none], [], (am_sh, am_mm U))) 6 (fun _ => rfl) ?_
      exact h21a
    · have h22 := h2.2 ((am_lcn_ne (am_land x10 1) 1).mp hc)
      refine ev_seg (σ1 := (d, 273, 35, [some (.inr (.inl x0)), none, some (.inr (.inl x2)), none, some (.inr (.inl x4)), none, some (.inr (.inl x6)), none, some (.inr (.inl x8)), none, some (.inr (.inl x10)), none], [.inr (.inl x4), .inr (.inl (w64 (x6 * x8)))], (am_sh, am_mm U))) 4 (fun _ => rfl) ?_
      refine ev_lrem rfl h22.1 ?_
      show Ev (am_kz N X) (d, 273, 36, [some (.inr (.inl x0)), none, some (.inr (.inl x2)), none, some (.inr (.inl x4)), none, some (.inr (.inl x6)), none, some (.inr (.inl x8)), none, some (.inr (.inl x10)), none], [.inr (.inl (Int.tmod (w64 (x6 * x8)) x4))], (am_sh, am_mm U)) R
      have h22a := h22.2
      refine ev_seg (σ1 := (d, 273, 45, [some (.inr (.inl x0)), none, some (.inr (.inl x2)), none, some (.inr (.inl x4)), none, some (.inr (.inl (Int.tmod (w64 (x6 * x8)) x4))), none, some (.inr (.inl x8)), none, some (.inr (.inl x10)), none], [.inr (.inl x4), .inr (.inl (w64 (x8 * x8)))], (am_sh, am_mm U))) 5 (fun _ => rfl) ?_
      refine ev_lrem rfl h22a.1 ?_
      show Ev (am_kz N X) (d, 273, 46, [some (.inr (.inl x0)), none, some (.inr (.inl x2)), none, some (.inr (.inl x4)), none, some (.inr (.inl (Int.tmod (w64 (x6 * x8)) x4))), none, some (.inr (.inl x8)), none, some (.inr (.inl x10)), none], [.inr (.inl (Int.tmod (w64 (x8 * x8)) x4))], (am_sh, am_mm U)) R
      have h22aa := h22a.2
      refine ev_seg (σ1 := (d, 273, 12, [some (.inr (.inl x0)), none, some (.inr (.inl x2)), none, some (.inr (.inl x4)), none, some (.inr (.inl (Int.tmod (w64 (x6 * x8)) x4))), none, some (.inr (.inl (Int.tmod (w64 (x8 * x8)) x4))), none, some (.inr (.inl (am_lshr x10 1))), none], [], (am_sh, am_mm U))) 6 (fun _ => rfl) ?_
      exact h22aa
set_option maxRecDepth 8000 in
theorem Pl_isTorn_r0 {N : Nat} {X : Nat → Int} {d : Nat} {x1 : Int} {U : am_U} {R : Option am_V × am_M} (h : (0 ≤ x1 ∧ x1 < 12) ∧ ∃ (r1 : Int) (U1 : am_U), EvK N X (In_bitCount_s0 d (am_and (U 19 x1.toNat) (U 48 7)) U) (rI r1 U1) ∧ (((w32 ((w32 (4 * x1)) + r1)) < 48) → (0 ≤ (w32 ((w32 (4 * x1)) + r1)) ∧ (w32 ((w32 (4 * x1)) + r1)) < 48) ∧ (((U1 51 ((w32 ((w32 (4 * x1)) + r1)).toNat)) = 0) → EvK N X (Pl_isTorn_s85 (d + 1) x1 (w32 ((w32 (4 * x1)) + r1)) (am_and (U1 19 x1.toNat) (am_xor (U1 48 7) (-1))) 0 (am_upd U1 51 ((w32 ((w32 (4 * x1)) + r1)).toNat) 1)) R) ∧ (((U1 51 ((w32 ((w32 (4 * x1)) + r1)).toNat)) ≠ 0) → (((U1 51 ((w32 ((w32 (4 * x1)) + r1)).toNat)) ≠ 2) → R = rI 0 U1) ∧ (((U1 51 ((w32 ((w32 (4 * x1)) + r1)).toNat)) = 2) → R = rI 1 U1))) ∧ ((48 ≤ (w32 ((w32 (4 * x1)) + r1))) → R = rI 0 U1)) : EvK N X (Pl_isTorn_s0 (d + 1) x1 U) R := by
  show Ev (am_kz N X) ((d + 1), 274, 0, [some (.inr (.inr 48)), some (.inl x1), none, none, none, none], [], (am_sh, am_mm U)) R
  refine ev_seg (σ1 := ((d + 1), 274, 11, [some (.inr (.inr 48)), some (.inl x1), none, none, none, none], [.inl x1, .inr (.inr 19), .inl (w32 (4 * x1))], (am_sh, am_mm U))) 7 (fun _ => rfl) ?_
  refine eu_iald 19 (n := 12) rfl (by decide) rfl (fun _ => rfl) h.1 ?_
  show Ev (am_kz N X) ((d + 1), 274, 12, [some (.inr (.inr 48)), some (.inl x1), none, none, none, none], [.inl (U 19 x1.toNat), .inl (w32 (4 * x1))], (am_sh, am_mm U)) R
  have ha := h.2
  refine ev_seg (σ1 := ((d + 1), 274, 17, [some (.inr (.inr 48)), some (.inl x1), none, none, none, none], [.inl (am_and (U 19 x1.toNat) (U 48 7)), .inl (w32 (4 * x1))], (am_sh, am_mm U))) 3 (fun _ => rfl) ?_
  obtain ⟨r1, U1, hac, haa⟩ := ha
  refine ev_cal (σc := (In_bitCount_s0 d (am_and (U 19 x1.toNat) (U 48 7)) U)) (fun _ => rfl) hac ?_
  show Ev (am_kz N X) ((d + 1), 274, 20, [some (.inr (.inr 48)), some (.inl x1), none, none, none, none], [.inl r1, .inl (w32 (4 * x1))], (am_sh, am_mm U1)) R
  refine ev_br (P := (w32 ((w32 (4 * x1)) + r1)) < 48) (σ1 := ((d + 1), 274, 33, [some (.inr (.inr 48)), some (.inl x1), some (.inl (w32 ((w32 (4 * x1)) + r1))), none, none, none], [], (am_sh, am_mm U1))) (σ2 := ((d + 1), 274, 31, [some (.inr (.inr 48)), some (.inl x1), some (.inl (w32 ((w32 (4 * x1)) + r1))), none, none, none], [], (am_sh, am_mm U1))) 7 (fun _ => rfl) (fun hc => ?_) (fun hc => ?_)
  · have haa1 := haa.1 hc
    refine ev_seg (σ1 := ((d + 1), 274, 38, [some (.inr (.inr 48)), some (.inl x1), some (.inl (w32 ((w32 (4 * x1)) + r1))), none, none, none], [.inl (w32 ((w32 (4 * x1)) + r1)), .inr (.inr 51)], (am_sh, am_mm U1))) 3 (fun _ => rfl) ?_
    refine eu_iald 51 (n := 48) rfl (by decide) rfl (fun _ => rfl) haa1.1 ?_
    show Ev (am_kz N X) ((d + 1), 274, 39, [some (.inr (.inr 48)), some (.inl x1), some (.inl (w32 ((w32 (4 * x1)) + r1))), none, none, none], [.inl (U1 51 ((w32 ((w32 (4 * x1)) + r1)).toNat))], (am_sh, am_mm U1)) R
    have haa1a := haa1.2
    refine ev_br (P := (U1 51 ((w32 ((w32 (4 * x1)) + r1)).toNat)) = 0) (σ1 := ((d + 1), 274, 58, [some (.inr (.inr 48)), some (.inl x1), some (.inl (w32 ((w32 (4 * x1)) + r1))), none, none, none], [], (am_sh, am_mm U1))) (σ2 := ((d + 1), 274, 42, [some (.inr (.inr 48)), some (.inl x1), some (.inl (w32 ((w32 (4 * x1)) + r1))), none, none, none], [], (am_sh, am_mm U1))) 1 (fun _ => rfl) (fun hc => ?_) (fun hc => ?_)
    · have haa1a1 := haa1a.1 hc
      refine ev_seg (σ1 := ((d + 1), 274, 64, [some (.inr (.inr 48)), some (.inl x1), some (.inl (w32 ((w32 (4 * x1)) + r1))), none, none, none], [.inl 1, .inl (w32 ((w32 (4 * x1)) + r1)), .inr (.inr 51)], (am_sh, am_mm U1))) 4 (fun _ => rfl) ?_
      refine eu_iast 51 (n := 48) rfl (by decide) rfl (fun _ => rfl) haa1.1 ?_
      show Ev (am_kz N X) ((d + 1), 274, 65, [some (.inr (.inr 48)), some (.inl x1), some (.inl (w32 ((w32 (4 * x1)) + r1))), none, none, none], [], (am_sh, am_mm (am_upd U1 51 ((w32 ((w32 (4 * x1)) + r1)).toNat) 1))) R
      refine ev_seg (σ1 := ((d + 1), 274, 73, [some (.inr (.inr 48)), some (.inl x1), some (.inl (w32 ((w32 (4 * x1)) + r1))), none, none, none], [.inl x1, .inr (.inr 19)], (am_sh, am_mm (am_upd U1 51 ((w32 ((w32 (4 * x1)) + r1)).toNat) 1)))) 4 (fun _ => rfl) ?_
      refine eu_iald 19 (n := 12) rfl (by decide) rfl (fun _ => rfl) h.1 ?_
      show Ev (am_kz N X) ((d + 1), 274, 74, [some (.inr (.inr 48)), some (.inl x1), some (.inl (w32 ((w32 (4 * x1)) + r1))), none, none, none], [.inl (U1 19 x1.toNat)], (am_sh, am_mm (am_upd U1 51 ((w32 ((w32 (4 * x1)) + r1)).toNat) 1))) R
      refine ev_seg (σ1 := ((d + 1), 274, 85, [some (.inr (.inr 48)), some (.inl x1), some (.inl (w32 ((w32 (4 * x1)) + r1))), some (.inl (am_and (U1 19 x1.toNat) (am_xor (U1 48 7) (-1)))), some (.inl 0), none], [], (am_sh, am_mm (am_upd U1 51 ((w32 ((w32 (4 * x1)) + r1)).toNat) 1)))) 8 (fun _ => rfl) ?_
      exact haa1a1
    · have haa1a2 := haa1a.2 hc
      refine ev_seg (σ1 := ((d + 1), 274, 47, [some (.inr (.inr 48)), some (.inl x1), some (.inl (w32 ((w32 (4 * x1)) + r1))), none, none, none], [.inl (w32 ((w32 (4 * x1)) + r1)), .inr (.inr 51)], (am_sh, am_mm U1))) 3 (fun _ => rfl) ?_
      refine eu_iald 51 (n := 48) rfl (by decide) rfl (fun _ => rfl) haa1.1 ?_
      show Ev (am_kz N X) ((d + 1), 274, 48, [some (.inr (.inr 48)), some (.inl x1), some (.inl (w32 ((w32 (4 * x1)) + r1))), none, none, none], [.inl (U1 51 ((w32 ((w32 (4 * x1)) + r1)).toNat))], (am_sh, am_mm U1)) R
      refine ev_br (P := ¬ (U1 51 ((w32 ((w32 (4 * x1)) + r1)).toNat)) = 2) (σ1 := ((d + 1), 274, 56, [some (.inr (.inr 48)), some (.inl x1), some (.inl (w32 ((w32 (4 * x1)) + r1))), none, none, none], [], (am_sh, am_mm U1))) (σ2 := ((d + 1), 274, 52, [some (.inr (.inr 48)), some (.inl x1), some (.inl (w32 ((w32 (4 * x1)) + r1))), none, none, none], [], (am_sh, am_mm U1))) 2 (fun _ => rfl) (fun hc => ?_) (fun hc => ?_)
      · have haa1a21 := haa1a2.1 hc
        subst haa1a21
        exact ev_end 2 (fun _ => rfl)
      · have haa1a22 := haa1a2.2 (Decidable.not_not.mp hc)
        subst haa1a22
        exact ev_end 3 (fun _ => rfl)
  · have haa2 := haa.2 (Int.not_lt.mp hc)
    subst haa2
    exact ev_end 2 (fun _ => rfl)
set_option maxRecDepth 8000 in
theorem Pl_isTorn_r85 {N : Nat} {X : Nat → Int} {d : Nat} {x1 x2 x3 x4 : Int} {U : am_U} {R : Option am_V × am_M} (h : (((U 16 0) ≤ x4) → (0 ≤ x2 ∧ x2 < 48) ∧ (((U 51 x2.toNat) ≠ 2) → R = rI 0 U) ∧ (((U 51 x2.toNat) = 2) → R = rI 1 U)) ∧ ((x4 < (U 16 0)) → EvK N X (Pl_isTorn_s100 (d + 1) x1 x2 x3 x4 0 U) R)) : EvK N X (Pl_isTorn_s85 (d + 1) x1 x2 x3 x4 U) R := by
  show Ev (am_kz N X) ((d + 1), 274, 85, [some (.inr (.inr 48)), some (.inl x1), some (.inl x2), some (.inl x3), some (.inl x4), none], [], (am_sh, am_mm U)) R
  refine ev_br (P := (U 16 0) ≤ x4) (σ1 := ((d + 1), 274, 161, [some (.inr (.inr 48)), some (.inl x1), some (.inl x2), some (.inl x3), some (.inl x4), none], [], (am_sh, am_mm U))) (σ2 := ((d + 1), 274, 97, [some (.inr (.inr 48)), some (.inl x1), some (.inl x2), some (.inl x3), some (.inl x4), none], [], (am_sh, am_mm U))) 5 (fun _ => rfl) (fun hc => ?_) (fun hc => ?_)
  · have h1 := h.1 hc
    refine ev_seg (σ1 := ((d + 1), 274, 166, [some (.inr (.inr 48)), some (.inl x1), some (.inl x2), some (.inl x3), some (.inl x4), none], [.inl x2, .inr (.inr 51)], (am_sh, am_mm U))) 3 (fun _ => rfl) ?_
    refine eu_iald 51 (n := 48) rfl (by decide) rfl (fun _ => rfl) h1.1 ?_
    show Ev (am_kz N X) ((d + 1), 274, 167, [some (.inr (.inr 48)), some (.inl x1), some (.inl x2), some (.inl x3), some (.inl x4), none], [.inl (U 51 x2.toNat)], (am_sh, am_mm U)) R
    have h1a := h1.2
    refine ev_br (P := ¬ (U 51 x2.toNat) = 2) (σ1 := ((d + 1), 274, 175, [some (.inr (.inr 48)), some (.inl x1), some (.inl x2), some (.inl x3), some (.inl x4), none], [], (am_sh, am_mm U))) (σ2 := ((d + 1), 274, 171, [some (.inr (.inr 48)), some (.inl x1), some (.inl x2), some (.inl x3), some (.inl x4), none], [], (am_sh, am_mm U))) 2 (fun _ => rfl) (fun hc => ?_) (fun hc => ?_)
    · have h1a1 := h1a.1 hc
      subst h1a1
      exact ev_end 2 (fun _ => rfl)
    · have h1a2 := h1a.2 (Decidable.not_not.mp hc)
      subst h1a2
      exact ev_end 3 (fun _ => rfl)
  · have h2 := h.2 (Int.not_le.mp hc)
    refine ev_seg (σ1 := ((d + 1), 274, 100, [some (.inr (.inr 48)), some (.inl x1), some (.inl x2), some (.inl x3), some (.inl x4), some (.inl 0)], [], (am_sh, am_mm U))) 2 (fun _ => rfl) ?_
    exact h2
set_option maxRecDepth 8000 in
theorem Pl_isTorn_r100 {N : Nat} {X : Nat → Int} {d : Nat} {x1 x2 x3 x4 x5 : Int} {U : am_U} {R : Option am_V × am_M} (h : (((U 3 4) ≤ x5) → EvK N X (Pl_isTorn_s85 (d + 1) x1 x2 x3 (w32 (x4 + 1)) U) R) ∧ ((x5 < (U 3 4)) → (((am_and (am_shr x3 x4) 1) ≠ 1) → EvK N X (Pl_isTorn_s85 (d + 1) x1 x2 x3 (w32 (x4 + 1)) U) R) ∧ (((am_and (am_shr x3 x4) 1) = 1) → ∃ (r1 : Int) (U1 : am_U), EvK N X (Jg_breaks_s0 d x5 x4 (am_xor (U 48 7) (-1)) U) (rI r1 U1) ∧ ((r1 = 0) → EvK N X (Pl_isTorn_s100 (d + 1) x1 x2 x3 x4 (w32 (x5 + 1)) U1) R) ∧ ((r1 ≠ 0) → (0 ≤ x2 ∧ x2 < 48) ∧ EvK N X (Pl_isTorn_s100 (d + 1) x1 x2 x3 x4 (w32 (x5 + 1)) (am_upd U1 51 x2.toNat 2)) R)))) : EvK N X (Pl_isTorn_s100 (d + 1) x1 x2 x3 x4 x5 U) R := by
  show Ev (am_kz N X) ((d + 1), 274, 100, [some (.inr (.inr 48)), some (.inl x1), some (.inl x2), some (.inl x3), some (.inl x4), some (.inl x5)], [], (am_sh, am_mm U)) R
  refine ev_br (P := (U 3 4) ≤ x5) (σ1 := ((d + 1), 274, 155, [some (.inr (.inr 48)), some (.inl x1), some (.inl x2), some (.inl x3), some (.inl x4), some (.inl x5)], [], (am_sh, am_mm U))) (σ2 := ((d + 1), 274, 112, [some (.inr (.inr 48)), some (.inl x1), some (.inl x2), some (.inl x3), some (.inl x4), some (.inl x5)], [], (am_sh, am_mm U))) 5 (fun _ => rfl) (fun hc => ?_) (fun hc => ?_)
  · have h1 := h.1 hc
    refine ev_seg (σ1 := ((d + 1), 274, 85, [some (.inr (.inr 48)), some (.inl x1), some (.inl x2), some (.inl x3), some (.inl (w32 (x4 + 1))), some (.inl x5)], [], (am_sh, am_mm U))) 2 (fun _ => rfl) ?_
    exact ev_le (L := [some (.inr (.inr 48)), some (.inl x1), some (.inl x2), some (.inl x3), some (.inl (w32 (x4 + 1))), none]) ⟨rfl, ⟨rfl, ⟨rfl, ⟨rfl, ⟨rfl, trivial⟩⟩⟩⟩⟩ h1
  · have h2 := h.2 (Int.not_le.mp hc)
    refine ev_br (P := ¬ (am_and (am_shr x3 x4) 1) = 1) (σ1 := ((d + 1), 274, 155, [some (.inr (.inr 48)), some (.inl x1), some (.inl x2), some (.inl x3), some (.inl x4), some (.inl x5)], [], (am_sh, am_mm U))) (σ2 := ((d + 1), 274, 122, [some (.inr (.inr 48)), some (.inl x1), some (.inl x2), some (.inl x3), some (.inl x4), some (.inl x5)], [], (am_sh, am_mm U))) 7 (fun _ => rfl) (fun hc => ?_) (fun hc => ?_)
    · have h21 := h2.1 hc
      refine ev_seg (σ1 := ((d + 1), 274, 85, [some (.inr (.inr 48)), some (.inl x1), some (.inl x2), some (.inl x3), some (.inl (w32 (x4 + 1))), some (.inl x5)], [], (am_sh, am_mm U))) 2 (fun _ => rfl) ?_
      exact ev_le (L := [some (.inr (.inr 48)), some (.inl x1), some (.inl x2), some (.inl x3), some (.inl (w32 (x4 + 1))), none]) ⟨rfl, ⟨rfl, ⟨rfl, ⟨rfl, ⟨rfl, trivial⟩⟩⟩⟩⟩ h21
    · have h22 := h2.2 (Decidable.not_not.mp hc)
      refine ev_seg (σ1 := ((d + 1), 274, 136, [some (.inr (.inr 48)), some (.inl x1), some (.inl x2), some (.inl x3), some (.inl x4), some (.inl x5)], [.inl (am_xor (U 48 7) (-1)), .inl x4, .inl x5, .inr (.inr 45)], (am_sh, am_mm U))) 8 (fun _ => rfl) ?_
      obtain ⟨r1, U1, h22c, h22a⟩ := h22
      refine ev_cal (σc := (Jg_breaks_s0 d x5 x4 (am_xor (U 48 7) (-1)) U)) (fun _ => rfl) h22c ?_
      show Ev (am_kz N X) ((d + 1), 274, 139, [some (.inr (.inr 48)), some (.inl x1), some (.inl x2), some (.inl x3), some (.inl x4), some (.inl x5)], [.inl r1], (am_sh, am_mm U1)) R
      refine ev_br (P := r1 = 0) (σ1 := ((d + 1), 274, 149, [some (.inr (.inr 48)), some (.inl x1), some (.inl x2), some (.inl x3), some (.inl x4), some (.inl x5)], [], (am_sh, am_mm U1))) (σ2 := ((d + 1), 274, 142, [some (.inr (.inr 48)), some (.inl x1), some (.inl x2), some (.inl x3), some (.inl x4), some (.inl x5)], [], (am_sh, am_mm U1))) 1 (fun _ => rfl) (fun hc => ?_) (fun hc => ?_)
      · have h22a1 := h22a.1 hc
        refine ev_seg (σ1 := ((d + 1), 274, 100, [some (.inr (.inr 48)), some (.inl x1), some (.inl x2), some (.inl x3), some (.inl x4), some (.inl (w32 (x5 + 1)))], [], (am_sh, am_mm U1))) 2 (fun _ => rfl) ?_
        exact h22a1
      · have h22a2 := h22a.2 hc
        refine ev_seg (σ1 := ((d + 1), 274, 148, [some (.inr (.inr 48)), some (.inl x1), some (.inl x2), some (.inl x3), some (.inl x4), some (.inl x5)], [.inl 2, .inl x2, .inr (.inr 51)], (am_sh, am_mm U1))) 4 (fun _ => rfl) ?_
        refine eu_iast 51 (n := 48) rfl (by decide) rfl (fun _ => rfl) h22a2.1 ?_
        show Ev (am_kz N X) ((d + 1), 274, 149, [some (.inr (.inr 48)), some (.inl x1), some (.inl x2), some (.inl x3), some (.inl x4), some (.inl x5)], [], (am_sh, am_mm (am_upd U1 51 x2.toNat 2))) R
        have h22a2a := h22a2.2
        refine ev_seg (σ1 := ((d + 1), 274, 100, [some (.inr (.inr 48)), some (.inl x1), some (.inl x2), some (.inl x3), some (.inl x4), some (.inl (w32 (x5 + 1)))], [], (am_sh, am_mm (am_upd U1 51 x2.toNat 2)))) 2 (fun _ => rfl) ?_
        exact h22a2a
set_option maxRecDepth 8000 in
theorem M_isBrokenBy_r0 {N : Nat} {X : Nat → Int} {d : Nat} {x1 x2 : Int} {U : am_U} {R : Option am_V × am_M} (h : (0 ≤ (w32 ((w32 (8 * (U 86 13))) + x1)) ∧ (w32 ((w32 (8 * (U 86 13))) + x1)) < 16) ∧ ∃ (r1 : Int) (U1 : am_U), EvK N X (M_homeOf_s0 d 1 x2 U) (rI r1 U1) ∧ ((r1 ≠ (-1)) → (((U 101 ((w32 ((w32 (8 * (U 86 13))) + x1)).toNat)) ≠ 0) → EvK N X (M_isBrokenBy_s54 (d + 1) x1 x2 (U 101 ((w32 ((w32 (8 * (U 86 13))) + x1)).toNat)) r1 0 U1) R) ∧ (((U 101 ((w32 ((w32 (8 * (U 86 13))) + x1)).toNat)) = 0) → ∃ (r2 : Int) (U2 : am_U), EvK N X (M_holdsTry_s0 d x1 x2 (-1) U1) (rI r2 U2) ∧ ((r2 ≠ 0) → R = rI 0 U2) ∧ ((r2 = 0) → R = rI 1 U2))) ∧ ((r1 = (-1)) → R = rI 0 U1)) : EvK N X (M_isBrokenBy_s0 (d + 1) x1 x2 U) R := by
  show Ev (am_kz N X) ((d + 1), 275, 0, [some (.inr (.inr 86)), some (.inl x1), some (.inl x2), none, none, none, none, none], [], (am_sh, am_mm U)) R
  refine ev_seg (σ1 := ((d + 1), 275, 13, [some (.inr (.inr 86)), some (.inl x1), some (.inl x2), none, none, none, none, none], [.inl (w32 ((w32 (8 * (U 86 13))) + x1)), .inr (.inr 101)], (am_sh, am_mm U))) 8 (fun _ => rfl) ?_
  refine eu_iald 101 (n := 16) rfl (by decide) rfl (fun _ => rfl) h.1 ?_
  show Ev (am_kz N X) ((d + 1), 275, 14, [some (.inr (.inr 86)), some (.inl x1), some (.inl x2), none, none, none, none, none], [.inl (U 101 ((w32 ((w32 (8 * (U 86 13))) + x1)).toNat))], (am_sh, am_mm U)) R
  have ha := h.2
  refine ev_seg (σ1 := ((d + 1), 275, 18, [some (.inr (.inr 86)), some (.inl x1), some (.inl x2), some (.inl (U 101 ((w32 ((w32 (8 * (U 86 13))) + x1)).toNat))), none, none, none, none], [.inl x2, .inl 1, .inr (.inr 86)], (am_sh, am_mm U))) 4 (fun _ => rfl) ?_
  obtain ⟨r1, U1, hac, haa⟩ := ha
  refine ev_cal (σc := (M_homeOf_s0 d 1 x2 U)) (fun _ => rfl) hac ?_
  show Ev (am_kz N X) ((d + 1), 275, 21, [some (.inr (.inr 86)), some (.inl x1), some (.inl x2), some (.inl (U 101 ((w32 ((w32 (8 * (U 86 13))) + x1)).toNat))), none, none, none, none], [.inl r1], (am_sh, am_mm U1)) R
  refine ev_br (P := ¬ r1 = (-1)) (σ1 := ((d + 1), 275, 31, [some (.inr (.inr 86)), some (.inl x1), some (.inl x2), some (.inl (U 101 ((w32 ((w32 (8 * (U 86 13))) + x1)).toNat))), some (.inl r1), none, none, none], [], (am_sh, am_mm U1))) (σ2 := ((d + 1), 275, 29, [some (.inr (.inr 86)), some (.inl x1), some (.inl x2), some (.inl (U 101 ((w32 ((w32 (8 * (U 86 13))) + x1)).toNat))), some (.inl r1), none, none, none], [], (am_sh, am_mm U1))) 4 (fun _ => rfl) (fun hc => ?_) (fun hc => ?_)
  · have haa1 := haa.1 hc
    refine ev_br (P := ¬ (U 101 ((w32 ((w32 (8 * (U 86 13))) + x1)).toNat)) = 0) (σ1 := ((d + 1), 275, 51, [some (.inr (.inr 86)), some (.inl x1), some (.inl x2), some (.inl (U 101 ((w32 ((w32 (8 * (U 86 13))) + x1)).toNat))), some (.inl r1), none, none, none], [], (am_sh, am_mm U1))) (σ2 := ((d + 1), 275, 35, [some (.inr (.inr 86)), some (.inl x1), some (.inl x2), some (.inl (U 101 ((w32 ((w32 (8 * (U 86 13))) + x1)).toNat))), some (.inl r1), none, none, none], [], (am_sh, am_mm U1))) 2 (fun _ => rfl) (fun hc => ?_) (fun hc => ?_)
    · have haa11 := haa1.1 hc
      refine ev_seg (σ1 := ((d + 1), 275, 54, [some (.inr (.inr 86)), some (.inl x1), some (.inl x2), some (.inl (U 101 ((w32 ((w32 (8 * (U 86 13))) + x1)).toNat))), some (.inl r1), some (.inl 0), none, none], [], (am_sh, am_mm U1))) 2 (fun _ => rfl) ?_
      exact haa11
    · have haa12 := haa1.2 (Decidable.not_not.mp hc)
      refine ev_seg (σ1 := ((d + 1), 275, 39, [some (.inr (.inr 86)), some (.inl x1), some (.inl x2), some (.inl (U 101 ((w32 ((w32 (8 * (U 86 13))) + x1)).toNat))), some (.inl r1), none, none, none], [.inl (-1), .inl x2, .inl x1, .inr (.inr 86)], (am_sh, am_mm U1))) 4 (fun _ => rfl) ?_
      obtain ⟨r2, U2, haa12c, haa12a⟩ := haa12
      refine ev_cal (σc := (M_holdsTry_s0 d x1 x2 (-1) U1)) (fun _ => rfl) haa12c ?_
      show Ev (am_kz N X) ((d + 1), 275, 42, [some (.inr (.inr 86)), some (.inl x1), some (.inl x2), some (.inl (U 101 ((w32 ((w32 (8 * (U 86 13))) + x1)).toNat))), some (.inl r1), none, none, none], [.inl r2], (am_sh, am_mm U2)) R
      refine ev_br (P := ¬ r2 = 0) (σ1 := ((d + 1), 275, 49, [some (.inr (.inr 86)), some (.inl x1), some (.inl x2), some (.inl (U 101 ((w32 ((w32 (8 * (U 86 13))) + x1)).toNat))), some (.inl r1), none, none, none], [], (am_sh, am_mm U2))) (σ2 := ((d + 1), 275, 45, [some (.inr (.inr 86)), some (.inl x1), some (.inl x2), some (.inl (U 101 ((w32 ((w32 (8 * (U 86 13))) + x1)).toNat))), some (.inl r1), none, none, none], [], (am_sh, am_mm U2))) 1 (fun _ => rfl) (fun hc => ?_) (fun hc => ?_)
      · have haa12a1 := haa12a.1 hc
        subst haa12a1
        exact ev_end 2 (fun _ => rfl)
      · have haa12a2 := haa12a.2 (Decidable.not_not.mp hc)
        subst haa12a2
        exact ev_end 3 (fun _ => rfl)
  · have haa2 := haa.2 (Decidable.not_not.mp hc)
    subst haa2
    exact ev_end 2 (fun _ => rfl)
set_option maxRecDepth 8000 in
theorem M_isBrokenBy_r54 {N : Nat} {X : Nat → Int} {d : Nat} {x1 x2 x3 x4 x5 : Int} {U : am_U} {R : Option am_V × am_M} (h : (((U 122 1) ≤ x5) → R = rI 0 U) ∧ ((x5 < (U 122 1)) → ∃ (r1 : Int) (U1 : am_U), EvK N X (M_homeOf_s0 d 1 x5 U) (rI r1 U1) ∧ ((x5 = x2) → EvK N X (M_isBrokenBy_s54 (d + 1) x1 x2 x3 x4 (w32 (x5 + 1)) U1) R) ∧ ((x5 ≠ x2) → ((r1 = (-1)) → EvK N X (M_isBrokenBy_s54 (d + 1) x1 x2 x3 x4 (w32 (x5 + 1)) U1) R) ∧ ((r1 ≠ (-1)) → ((x3 ≠ 2) → (0 ≤ (w32 ((w32 (12 * x4)) + r1)) ∧ (w32 ((w32 (12 * x4)) + r1)) < 144) ∧ (((U1 129 ((w32 ((w32 (12 * x4)) + r1)).toNat)) = 0) → EvK N X (M_isBrokenBy_s54 (d + 1) x1 x2 x3 x4 (w32 (x5 + 1)) U1) R) ∧ (((U1 129 ((w32 ((w32 (12 * x4)) + r1)).toNat)) ≠ 0) → ∃ (r2 : Int) (U2 : am_U), EvK N X (M_holdsTry_s0 d x1 x2 x5 U1) (rI r2 U2) ∧ ((r2 ≠ 0) → EvK N X (M_isBrokenBy_s54 (d + 1) x1 x2 x3 x4 (w32 (x5 + 1)) U2) R) ∧ ((r2 = 0) → R = rI 1 U2))) ∧ ((x3 = 2) → ((r1 ≠ x4) → EvK N X (M_isBrokenBy_s54 (d + 1) x1 x2 x3 x4 (w32 (x5 + 1)) U1) R) ∧ ((r1 = x4) → ∃ (r3 : Int) (U3 : am_U), EvK N X (M_holdsTry_s0 d x1 x2 x5 U1) (rI r3 U3) ∧ ((r3 ≠ 0) → EvK N X (M_isBrokenBy_s54 (d + 1) x1 x2 x3 x4 (w32 (x5 + 1)) U3) R) ∧ ((r3 = 0) → R = rI 1 U3))))))) : EvK N X (M_isBrokenBy_s54 (d + 1) x1 x2 x3 x4 x5 U) R := by
  show Ev (am_kz N X) ((d + 1), 275, 54, [some (.inr (.inr 86)), some (.inl x1), some (.inl x2), some (.inl x3), some (.inl x4), some (.inl x5), none, none], [], (am_sh, am_mm U)) R
  refine ev_seg (σ1 := ((d + 1), 275, 61, [some (.inr (.inr 86)), some (.inl x1), some (.inl x2), some (.inl x3), some (.inl x4), some (.inl x5), none, none], [.inl 1, .inr (.inr 122), .inl x5], (am_sh, am_mm U))) 4 (fun _ => rfl) ?_
  refine eu_iald 122 (n := 22) rfl (by decide) rfl (fun _ => rfl) (by decide) ?_
  show Ev (am_kz N X) ((d + 1), 275, 62, [some (.inr (.inr 86)), some (.inl x1), some (.inl x2), some (.inl x3), some (.inl x4), some (.inl x5), none, none], [.inl (U 122 1), .inl x5], (am_sh, am_mm U)) R
  refine ev_br (P := (U 122 1) ≤ x5) (σ1 := ((d + 1), 275, 148, [some (.inr (.inr 86)), some (.inl x1), some (.inl x2), some (.inl x3), some (.inl x4), some (.inl x5), none, none], [], (am_sh, am_mm U))) (σ2 := ((d + 1), 275, 65, [some (.inr (.inr 86)), some (.inl x1), some (.inl x2), some (.inl x3), some (.inl x4), some (.inl x5), none, none], [], (am_sh, am_mm U))) 1 (fun _ => rfl) (fun hc => ?_) (fun hc => ?_)
  · have h1 := h.1 hc
    subst h1
    exact ev_end 2 (fun _ => rfl)
  · have h2 := h.2 (Int.not_le.mp hc)
    refine ev_seg (σ1 := ((d + 1), 275, 69, [some (.inr (.inr 86)), some (.inl x1), some (.inl x2), some (.inl x3), some (.inl x4), some (.inl x5), none, none], [.inl x5, .inl 1, .inr (.inr 86)], (am_sh, am_mm U))) 3 (fun _ => rfl) ?_
    obtain ⟨r1, U1, h2c, h2a⟩ := h2
    refine ev_cal (σc := (M_homeOf_s0 d 1 x5 U)) (fun _ => rfl) h2c ?_
    show Ev (am_kz N X) ((d + 1), 275, 72, [some (.inr (.inr 86)), some (.inl x1), some (.inl x2), some (.inl x3), some (.inl x4), some (.inl x5), none, none], [.inl r1], (am_sh, am_mm U1)) R
    refine ev_br (P := x5 = x2) (σ1 := ((d + 1), 275, 121, [some (.inr (.inr 86)), some (.inl x1), some (.inl x2), some (.inl x3), some (.inl x4), some (.inl x5), some (.inl r1), none], [], (am_sh, am_mm U1))) (σ2 := ((d + 1), 275, 80, [some (.inr (.inr 86)), some (.inl x1), some (.inl x2), some (.inl x3), some (.inl x4), some (.inl x5), some (.inl r1), none], [], (am_sh, am_mm U1))) 4 (fun _ => rfl) (fun hc => ?_) (fun hc => ?_)
    · have h2a1 := h2a.1 hc
      refine ev_seg (σ1 := ((d + 1), 275, 54, [some (.inr (.inr 86)), some (.inl x1), some (.inl x2), some (.inl x3), some (.inl x4), some (.inl (w32 (x5 + 1))), some (.inl r1), some (.inl 0)], [], (am_sh, am_mm U1))) 6 (fun _ => rfl) ?_
      exact ev_le (L := [some (.inr (.inr 86)), some (.inl x1), some (.inl x2), some (.inl x3), some (.inl x4), some (.inl (w32 (x5 + 1))), none, none]) ⟨rfl, ⟨rfl, ⟨rfl, ⟨rfl, ⟨rfl, ⟨rfl, trivial⟩⟩⟩⟩⟩⟩ h2a1
    · have h2a2 := h2a.2 hc
      refine ev_br (P := r1 = (-1)) (σ1 := ((d + 1), 275, 121, [some (.inr (.inr 86)), some (.inl x1), some (.inl x2), some (.inl x3), some (.inl x4), some (.inl x5), some (.inl r1), none], [], (am_sh, am_mm U1))) (σ2 := ((d + 1), 275, 86, [some (.inr (.inr 86)), some (.inl x1), some (.inl x2), some (.inl x3), some (.inl x4), some (.inl x5), some (.inl r1), none], [], (am_sh, am_mm U1))) 3 (fun _ => rfl) (fun hc => ?_) (fun hc => ?_)
      · have h2a21 := h2a2.1 hc
        refine ev_seg (σ1 := ((d + 1), 275, 54, [some (.inr (.inr 86)), some (.inl x1), some (.inl x2), some (.inl x3), some (.inl x4), some (.inl (w32 (x5 + 1))), some (.inl r1), some (.inl 0)], [], (am_sh, am_mm U1))) 6 (fun _ => rfl) ?_
        exact ev_le (L := [some (.inr (.inr 86)), some (.inl x1), some (.inl x2), some (.inl x3), some (.inl x4), some (.inl (w32 (x5 + 1))), none, none]) ⟨rfl, ⟨rfl, ⟨rfl, ⟨rfl, ⟨rfl, ⟨rfl, trivial⟩⟩⟩⟩⟩⟩ h2a21
      · have h2a22 := h2a2.2 hc
        refine ev_br (P := ¬ x3 = 2) (σ1 := ((d + 1), 275, 101, [some (.inr (.inr 86)), some (.inl x1), some (.inl x2), some (.inl x3), some (.inl x4), some (.inl x5), some (.inl r1), none], [], (am_sh, am_mm U1))) (σ2 := ((d + 1), 275, 91, [some (.inr (.inr 86)), some (.inl x1), some (.inl x2), some (.inl x3), some (.inl x4), some (.inl x5), some (.inl r1), none], [], (am_sh, am_mm U1))) 3 (fun _ => rfl) (fun hc => ?_) (fun hc => ?_)
        · have h2a221 := h2a22.1 hc
          refine ev_seg (σ1 := ((d + 1), 275, 113, [some (.inr (.inr 86)), some (.inl x1), some (.inl x2), some (.inl x3), some (.inl x4), some (.inl x5), some (.inl r1), none], [.inl (w32 ((w32 (12 * x4)) + r1)), .inr (.inr 129)], (am_sh, am_mm U1))) 7 (fun _ => rfl) ?_
          refine eu_zald 129 (n := 144) rfl (by decide) rfl (fun _ => rfl) h2a221.1 ?_
          show Ev (am_kz N X) ((d + 1), 275, 114, [some (.inr (.inr 86)), some (.inl x1), some (.inl x2), some (.inl x3), some (.inl x4), some (.inl x5), some (.inl r1), none], [.inl (U1 129 ((w32 ((w32 (12 * x4)) + r1)).toNat))], (am_sh, am_mm U1)) R
          have h2a221a := h2a221.2
          refine ev_br (P := (U1 129 ((w32 ((w32 (12 * x4)) + r1)).toNat)) = 0) (σ1 := ((d + 1), 275, 121, [some (.inr (.inr 86)), some (.inl x1), some (.inl x2), some (.inl x3), some (.inl x4), some (.inl x5), some (.inl r1), none], [], (am_sh, am_mm U1))) (σ2 := ((d + 1), 275, 117, [some (.inr (.inr 86)), some (.inl x1), some (.inl x2), some (.inl x3), some (.inl x4), some (.inl x5), some (.inl r1), none], [], (am_sh, am_mm U1))) 1 (fun _ => rfl) (fun hc => ?_) (fun hc => ?_)
          · have h2a221a1 := h2a221a.1 hc
            refine ev_seg (σ1 := ((d + 1), 275, 54, [some (.inr (.inr 86)), some (.inl x1), some (.inl x2), some (.inl x3), some (.inl x4), some (.inl (w32 (x5 + 1))), some (.inl r1), some (.inl 0)], [], (am_sh, am_mm U1))) 6 (fun _ => rfl) ?_
            exact ev_le (L := [some (.inr (.inr 86)), some (.inl x1), some (.inl x2), some (.inl x3), some (.inl x4), some (.inl (w32 (x5 + 1))), none, none]) ⟨rfl, ⟨rfl, ⟨rfl, ⟨rfl, ⟨rfl, ⟨rfl, trivial⟩⟩⟩⟩⟩⟩ h2a221a1
          · have h2a221a2 := h2a221a.2 hc
            refine ev_seg (σ1 := ((d + 1), 275, 134, [some (.inr (.inr 86)), some (.inl x1), some (.inl x2), some (.inl x3), some (.inl x4), some (.inl x5), some (.inl r1), some (.inl 1)], [.inl x5, .inl x2, .inl x1, .inr (.inr 86)], (am_sh, am_mm U1))) 9 (fun _ => rfl) ?_
            obtain ⟨r2, U2, h2a221a2c, h2a221a2a⟩ := h2a221a2
            refine ev_cal (σc := (M_holdsTry_s0 d x1 x2 x5 U1)) (fun _ => rfl) h2a221a2c ?_
            show Ev (am_kz N X) ((d + 1), 275, 137, [some (.inr (.inr 86)), some (.inl x1), some (.inl x2), some (.inl x3), some (.inl x4), some (.inl x5), some (.inl r1), some (.inl 1)], [.inl r2], (am_sh, am_mm U2)) R
            refine ev_br (P := ¬ r2 = 0) (σ1 := ((d + 1), 275, 142, [some (.inr (.inr 86)), some (.inl x1), some (.inl x2), some (.inl x3), some (.inl x4), some (.inl x5), some (.inl r1), some (.inl 1)], [], (am_sh, am_mm U2))) (σ2 := ((d + 1), 275, 140, [some (.inr (.inr 86)), some (.inl x1), some (.inl x2), some (.inl x3), some (.inl x4), some (.inl x5), some (.inl r1), some (.inl 1)], [], (am_sh, am_mm U2))) 1 (fun _ => rfl) (fun hc => ?_) (fun hc => ?_)
            · have h2a221a2a1 := h2a221a2a.1 hc
              refine ev_seg (σ1 := ((d + 1), 275, 54, [some (.inr (.inr 86)), some (.inl x1), some (.inl x2), some (.inl x3), some (.inl x4), some (.inl (w32 (x5 + 1))), some (.inl r1), some (.inl 1)], [], (am_sh, am_mm U2))) 2 (fun _ => rfl) ?_
              exact ev_le (L := [some (.inr (.inr 86)), some (.inl x1), some (.inl x2), some (.inl x3), some (.inl x4), some (.inl (w32 (x5 + 1))), none, none]) ⟨rfl, ⟨rfl, ⟨rfl, ⟨rfl, ⟨rfl, ⟨rfl, trivial⟩⟩⟩⟩⟩⟩ h2a221a2a1
            · have h2a221a2a2 := h2a221a2a.2 (Decidable.not_not.mp hc)
              subst h2a221a2a2
              exact ev_end 2 (fun _ => rfl)
        · have h2a222 := h2a22.2 (Decidable.not_not.mp hc)
          refine ev_br (P := ¬ r1 = x4) (σ1 := ((d + 1), 275, 121, [some (.inr (.inr 86)), some (.inl x1), some (.inl x2), some (.inl x3), some (.inl x4), some (.inl x5), some (.inl r1), none], [], (am_sh, am_mm U1))) (σ2 := ((d + 1), 275, 98, [some (.inr (.inr 86)), some (.inl x1), some (.inl x2), some (.inl x3), some (.inl x4), some (.inl x5), some (.inl r1), none], [], (am_sh, am_mm U1))) 3 (fun _ => rfl) (fun hc => ?_) (fun hc => ?_)
          · have h2a2221 := h2a222.1 hc
            refine ev_seg (σ1 := ((d + 1), 275, 54, [some (.inr (.inr 86)), some (.inl x1), some (.inl x2), some (.inl x3), some (.inl x4), some (.inl (w32 (x5 + 1))), some (.inl r1), some (.inl 0)], [], (am_sh, am_mm U1))) 6 (fun _ => rfl) ?_
            exact ev_le (L := [some (.inr (.inr 86)), some (.inl x1), some (.inl x2), some (.inl x3), some (.inl x4), some (.inl (w32 (x5 + 1))), none, none]) ⟨rfl, ⟨rfl, ⟨rfl, ⟨rfl, ⟨rfl, ⟨rfl, trivial⟩⟩⟩⟩⟩⟩ h2a2221
          · have h2a2222 := h2a222.2 (Decidable.not_not.mp hc)
            refine ev_seg (σ1 := ((d + 1), 275, 134, [some (.inr (.inr 86)), some (.inl x1), some (.inl x2), some (.inl x3), some (.inl x4), some (.inl x5), some (.inl r1), some (.inl 1)], [.inl x5, .inl x2, .inl x1, .inr (.inr 86)], (am_sh, am_mm U1))) 10 (fun _ => rfl) ?_
            obtain ⟨r3, U3, h2a2222c, h2a2222a⟩ := h2a2222
            refine ev_cal (σc := (M_holdsTry_s0 d x1 x2 x5 U1)) (fun _ => rfl) h2a2222c ?_
            show Ev (am_kz N X) ((d + 1), 275, 137, [some (.inr (.inr 86)), some (.inl x1), some (.inl x2), some (.inl x3), some (.inl x4), some (.inl x5), some (.inl r1), some (.inl 1)], [.inl r3], (am_sh, am_mm U3)) R
            refine ev_br (P := ¬ r3 = 0) (σ1 := ((d + 1), 275, 142, [some (.inr (.inr 86)), some (.inl x1), some (.inl x2), some (.inl x3), some (.inl x4), some (.inl x5), some (.inl r1), some (.inl 1)], [], (am_sh, am_mm U3))) (σ2 := ((d + 1), 275, 140, [some (.inr (.inr 86)), some (.inl x1), some (.inl x2), some (.inl x3), some (.inl x4), some (.inl x5), some (.inl r1), some (.inl 1)], [], (am_sh, am_mm U3))) 1 (fun _ => rfl) (fun hc => ?_) (fun hc => ?_)
            · have h2a2222a1 := h2a2222a.1 hc
              refine ev_seg (σ1 := ((d + 1), 275, 54, [some (.inr (.inr 86)), some (.inl x1), some (.inl x2), some (.inl x3), some (.inl x4), some (.inl (w32 (x5 + 1))), some (.inl r1), some (.inl 1)], [], (am_sh, am_mm U3))) 2 (fun _ => rfl) ?_
              exact ev_le (L := [some (.inr (.inr 86)), some (.inl x1), some (.inl x2), some (.inl x3), some (.inl x4), some (.inl (w32 (x5 + 1))), none, none]) ⟨rfl, ⟨rfl, ⟨rfl, ⟨rfl, ⟨rfl, ⟨rfl, trivial⟩⟩⟩⟩⟩⟩ h2a2222a1
            · have h2a2222a2 := h2a2222a.2 (Decidable.not_not.mp hc)
              subst h2a2222a2
              exact ev_end 2 (fun _ => rfl)
set_option maxRecDepth 8000 in
theorem Nm_isSquare_r0 {N : Nat} {X : Nat → Int} {d : Nat} {x0 : Int} {U : am_U} {R : Option am_V × am_M} (h : ((0 ≤ x0) → EvK N X (Nm_isSquare_s13 d x0 0 46340 0 U) R) ∧ ((x0 < 0) → R = rI 0 U)) : EvK N X (Nm_isSquare_s0 d x0 U) R := by
  show Ev (am_kz N X) (d, 276, 0, [some (.inl x0), none, none, none, none], [], (am_sh, am_mm U)) R
  refine ev_br (P := 0 ≤ x0) (σ1 := (d, 276, 6, [some (.inl x0), none, none, none, none], [], (am_sh, am_mm U))) (σ2 := (d, 276, 4, [some (.inl x0), none, none, none, none], [], (am_sh, am_mm U))) 2 (fun _ => rfl) (fun hc => ?_) (fun hc => ?_)
  · have h1 := h.1 hc
    refine ev_seg (σ1 := (d, 276, 13, [some (.inl x0), some (.inl 0), some (.inl 46340), some (.inl 0), none], [], (am_sh, am_mm U))) 6 (fun _ => rfl) ?_
    exact h1
  · have h2 := h.2 (Int.not_le.mp hc)
    subst h2
    exact ev_end 2 (fun _ => rfl)
set_option maxRecDepth 8000 in
theorem Nm_isSquare_r13 {N : Nat} {X : Nat → Int} {d : Nat} {x0 x1 x2 x3 : Int} {U : am_U} {R : Option am_V × am_M} (h : ((32 ≤ x3) → (((w32 (x1 * x1)) ≠ x0) → R = rI 0 U) ∧ (((w32 (x1 * x1)) = x0) → R = rI 1 U)) ∧ ((x3 < 32) → ((x2 ≤ x1) → (((w32 (x1 * x1)) ≠ x0) → R = rI 0 U) ∧ (((w32 (x1 * x1)) = x0) → R = rI 1 U)) ∧ ((x1 < x2) → ((x0 < (w32 ((w32 (Int.tdiv (w32 ((w32 (x1 + x2)) + 1)) 2)) * (w32 (Int.tdiv (w32 ((w32 (x1 + x2)) + 1)) 2))))) → EvK N X (Nm_isSquare_s13 d x0 x1 (w32 ((w32 (Int.tdiv (w32 ((w32 (x1 + x2)) + 1)) 2)) - 1)) (w32 (x3 + 1)) U) R) ∧ (((w32 ((w32 (Int.tdiv (w32 ((w32 (x1 + x2)) + 1)) 2)) * (w32 (Int.tdiv (w32 ((w32 (x1 + x2)) + 1)) 2)))) ≤ x0) → EvK N X (Nm_isSquare_s13 d x0 (w32 (Int.tdiv (w32 ((w32 (x1 + x2)) + 1)) 2)) x2 (w32 (x3 + 1)) U) R)))) : EvK N X (Nm_isSquare_s13 d x0 x1 x2 x3 U) R := by
  show Ev (am_kz N X) (d, 276, 13, [some (.inl x0), some (.inl x1), some (.inl x2), some (.inl x3), none], [], (am_sh, am_mm U)) R
  refine ev_br (P := 32 ≤ x3) (σ1 := (d, 276, 59, [some (.inl x0), some (.inl x1), some (.inl x2), some (.inl x3), none], [], (am_sh, am_mm U))) (σ2 := (d, 276, 19, [some (.inl x0), some (.inl x1), some (.inl x2), some (.inl x3), none], [], (am_sh, am_mm U))) 3 (fun _ => rfl) (fun hc => ?_) (fun hc => ?_)
  · have h1 := h.1 hc
    refine ev_br (P := ¬ (w32 (x1 * x1)) = x0) (σ1 := (d, 276, 70, [some (.inl x0), some (.inl x1), some (.inl x2), some (.inl x3), none], [], (am_sh, am_mm U))) (σ2 := (d, 276, 66, [some (.inl x0), some (.inl x1), some (.inl x2), some (.inl x3), none], [], (am_sh, am_mm U))) 5 (fun _ => rfl) (fun hc => ?_) (fun hc => ?_)
    · have h11 := h1.1 hc
      subst h11
      exact ev_end 2 (fun _ => rfl)
    · have h12 := h1.2 (Decidable.not_not.mp hc)
      subst h12
      exact ev_end 3 (fun _ => rfl)
  · have h2 := h.2 (Int.not_le.mp hc)
    refine ev_br (P := x2 ≤ x1) (σ1 := (d, 276, 59, [some (.inl x0), some (.inl x1), some (.inl x2), some (.inl x3), none], [], (am_sh, am_mm U))) (σ2 := (d, 276, 24, [some (.inl x0), some (.inl x1), some (.inl x2), some (.inl x3), none], [], (am_sh, am_mm U))) 3 (fun _ => rfl) (fun hc => ?_) (fun hc => ?_)
    · have h21 := h2.1 hc
      refine ev_br (P := ¬ (w32 (x1 * x1)) = x0) (σ1 := (d, 276, 70, [some (.inl x0), some (.inl x1), some (.inl x2), some (.inl x3), none], [], (am_sh, am_mm U))) (σ2 := (d, 276, 66, [some (.inl x0), some (.inl x1), some (.inl x2), some (.inl x3), none], [], (am_sh, am_mm U))) 5 (fun _ => rfl) (fun hc => ?_) (fun hc => ?_)
      · have h211 := h21.1 hc
        subst h211
        exact ev_end 2 (fun _ => rfl)
      · have h212 := h21.2 (Decidable.not_not.mp hc)
        subst h212
        exact ev_end 3 (fun _ => rfl)
    · have h22 := h2.2 (Int.not_le.mp hc)
      refine ev_seg (σ1 := (d, 276, 30, [some (.inl x0), some (.inl x1), some (.inl x2), some (.inl x3), none], [.inl 2, .inl (w32 ((w32 (x1 + x2)) + 1))], (am_sh, am_mm U))) 6 (fun _ => rfl) ?_
      refine ev_idiv rfl (by decide) ?_
      show Ev (am_kz N X) (d, 276, 31, [some (.inl x0), some (.inl x1), some (.inl x2), some (.inl x3), none], [.inl (w32 (Int.tdiv (w32 ((w32 (x1 + x2)) + 1)) 2))], (am_sh, am_mm U)) R
      refine ev_br (P := x0 < (w32 ((w32 (Int.tdiv (w32 ((w32 (x1 + x2)) + 1)) 2)) * (w32 (Int.tdiv (w32 ((w32 (x1 + x2)) + 1)) 2))))) (σ1 := (d, 276, 48, [some (.inl x0), some (.inl x1), some (.inl x2), some (.inl x3), some (.inl (w32 (Int.tdiv (w32 ((w32 (x1 + x2)) + 1)) 2)))], [], (am_sh, am_mm U))) (σ2 := (d, 276, 42, [some (.inl x0), some (.inl x1), some (.inl x2), some (.inl x3), some (.inl (w32 (Int.tdiv (w32 ((w32 (x1 + x2)) + 1)) 2)))], [], (am_sh, am_mm U))) 6 (fun _ => rfl) (fun hc => ?_) (fun hc => ?_)
      · have h221 := h22.1 hc
        refine ev_seg (σ1 := (d, 276, 13, [some (.inl x0), some (.inl x1), some (.inl (w32 ((w32 (Int.tdiv (w32 ((w32 (x1 + x2)) + 1)) 2)) - 1))), some (.inl (w32 (x3 + 1))), some (.inl (w32 (Int.tdiv (w32 ((w32 (x1 + x2)) + 1)) 2)))], [], (am_sh, am_mm U))) 6 (fun _ => rfl) ?_
        exact ev_le (L := [some (.inl x0), some (.inl x1), some (.inl (w32 ((w32 (Int.tdiv (w32 ((w32 (x1 + x2)) + 1)) 2)) - 1))), some (.inl (w32 (x3 + 1))), none]) ⟨rfl, ⟨rfl, ⟨rfl, ⟨rfl, trivial⟩⟩⟩⟩ h221
      · have h222 := h22.2 (Int.not_lt.mp hc)
        refine ev_seg (σ1 := (d, 276, 13, [some (.inl x0), some (.inl (w32 (Int.tdiv (w32 ((w32 (x1 + x2)) + 1)) 2))), some (.inl x2), some (.inl (w32 (x3 + 1))), some (.inl (w32 (Int.tdiv (w32 ((w32 (x1 + x2)) + 1)) 2)))], [], (am_sh, am_mm U))) 5 (fun _ => rfl) ?_
        exact ev_le (L := [some (.inl x0), some (.inl (w32 (Int.tdiv (w32 ((w32 (x1 + x2)) + 1)) 2))), some (.inl x2), some (.inl (w32 (x3 + 1))), none]) ⟨rfl, ⟨rfl, ⟨rfl, ⟨rfl, trivial⟩⟩⟩⟩ h222
set_option maxRecDepth 8000 in
theorem M_two_r0 {N : Nat} {X : Nat → Int} {d : Nat} {x0 x1 x3 : Int} {U : am_U} {R : Option am_V × am_M} (h : (x0 = 10 → ∃ (r1 : Int) (U1 : am_U), EvK N X (M_held_s0 d (w64 (x1 + x3)) U) (rJ r1 U1) ∧ R = rJ r1 U1) ∧ (x0 = 11 → ∃ (r2 : Int) (U2 : am_U), EvK N X (M_held_s0 d (w64 (x1 - x3)) U) (rJ r2 U2) ∧ R = rJ r2 U2) ∧ (x0 = 12 → ∃ (r3 : Int) (U3 : am_U), EvK N X (M_held_s0 d (w64 (x1 * x3)) U) (rJ r3 U3) ∧ R = rJ r3 U3) ∧ (x0 = 13 → ∃ (r4 : Int) (U4 : am_U), EvK N X (M_floor_s0 d x1 x3 U) (rJ r4 U4) ∧ ∃ (r5 : Int) (U5 : am_U), EvK N X (M_held_s0 d r4 U4) (rJ r5 U5) ∧ R = rJ r5 U5) ∧ (x0 = 14 → ((x3 ≠ 0) → ∃ (r6 : Int) (U6 : am_U), EvK N X (M_floor_s0 d x1 x3 U) (rJ r6 U6) ∧ ∃ (r7 : Int) (U7 : am_U), EvK N X (M_held_s0 d (w64 (x1 - (w64 (x3 * r6)))) U6) (rJ r7 U7) ∧ R = rJ r7 U7) ∧ ((x3 = 0) → R = rJ 0 U)) ∧ (x0 = 15 → ((x3 ≤ x1) → R = rJ x3 U) ∧ ((x1 < x3) → R = rJ x1 U)) ∧ (x0 = 16 → ((x1 ≤ x3) → R = rJ x3 U) ∧ ((x3 < x1) → R = rJ x1 U)) ∧ (x0 = 17 → ((x3 ≤ x1) → R = rJ 0 U) ∧ ((x1 < x3) → R = rJ 1 U)) ∧ (x0 = 18 → ((x1 ≤ x3) → R = rJ 0 U) ∧ ((x3 < x1) → R = rJ 1 U)) ∧ (x0 = 19 → ((x1 ≠ x3) → R = rJ 0 U) ∧ ((x1 = x3) → R = rJ 1 U)) ∧ (x0 = 20 → R = rJ (am_land x1 x3) U) ∧ (x0 = 21 → R = rJ (am_lor x1 x3) U) ∧ (x0 = 22 → R = rJ (am_lor x1 x3) U) ∧ (x0 = 23 → ∃ (r8 : Int) (U8 : am_U), EvK N X (M_gcd_s0 d x1 x3 U) (rJ r8 U8) ∧ R = rJ r8 U8) ∧ (¬ x0 = 10 ∧ ¬ x0 = 11 ∧ ¬ x0 = 12 ∧ ¬ x0 = 13 ∧ ¬ x0 = 14 ∧ ¬ x0 = 15 ∧ ¬ x0 = 16 ∧ ¬ x0 = 17 ∧ ¬ x0 = 18 ∧ ¬ x0 = 19 ∧ ¬ x0 = 20 ∧ ¬ x0 = 21 ∧ ¬ x0 = 22 ∧ ¬ x0 = 23 → R = rJ (am_lor x1 x3) U)) : EvK N X (M_two_s0 (d + 1) x0 x1 x3 U) R := by
  show Ev (am_kz N X) ((d + 1), 279, 0, [some (.inl x0), some (.inr (.inl x1)), none, some (.inr (.inl x3)), none], [], (am_sh, am_mm U)) R
  refine ev_seg (σ1 := ((d + 1), 279, 1, [some (.inl x0), some (.inr (.inl x1)), none, some (.inr (.inl x3)), none], [.inl x0], (am_sh, am_mm U))) 1 (fun _ => rfl) ?_
  by_cases hc : x0 = 10
  · have hk0 := h.1 hc
    refine ev_sw (off := 71) rfl (by rw [hc]; rfl) (pt := 72) rfl ?_
    refine ev_seg (σ1 := ((d + 1), 279, 75, [some (.inl x0), some (.inr (.inl x1)), none, some (.inr (.inl x3)), none], [.inr (.inl (w64 (x1 + x3)))], (am_sh, am_mm U))) 3 (fun _ => rfl) ?_
    obtain ⟨r1, U1, hk0c, hk0a⟩ := hk0
    refine ev_cal (σc := (M_held_s0 d (w64 (x1 + x3)) U)) (fun _ => rfl) hk0c ?_
    show Ev (am_kz N X) ((d + 1), 279, 78, [some (.inl x0), some (.inr (.inl x1)), none, some (.inr (.inl x3)), none], [.inr (.inl r1)], (am_sh, am_mm U1)) R
    subst hk0a
    exact ev_end 1 (fun _ => rfl)
  have nh0 := hc
  clear hc
  by_cases hc : x0 = 11
  · have hk1 := h.2.1 hc
    refine ev_sw (off := 78) rfl (by rw [hc]; rfl) (pt := 79) rfl ?_
    refine ev_seg (σ1 := ((d + 1), 279, 82, [some (.inl x0), some (.inr (.inl x1)), none, some (.inr (.inl x3)), none], [.inr (.inl (w64 (x1 - x3)))], (am_sh, am_mm U))) 3 (fun _ => rfl) ?_
    obtain ⟨r2, U2, hk1c, hk1a⟩ := hk1
    refine ev_cal (σc := (M_held_s0 d (w64 (x1 - x3)) U)) (fun _ => rfl) hk1c ?_
    show Ev (am_kz N X) ((d + 1), 279, 85, [some (.inl x0), some (.inr (.inl x1)), none, some (.inr (.inl x3)), none], [.inr (.inl r2)], (am_sh, am_mm U2)) R
    subst hk1a
    exact ev_end 1 (fun _ => rfl)
  have nh1 := hc
  clear hc
  by_cases hc : x0 = 12
  · have hk2 := h.2.2.1 hc
    refine ev_sw (off := 85) rfl (by rw [hc]; rfl) (pt := 86) rfl ?_
    refine ev_seg (σ1 := ((d + 1), 279, 89, [some (.inl x0), some (.inr (.inl x1)), none, some (.inr (.inl x3)), none], [.inr (.inl (w64 (x1 * x3)))], (am_sh, am_mm U))) 3 (fun _ => rfl) ?_
    obtain ⟨r3, U3, hk2c, hk2a⟩ := hk2
    refine ev_cal (σc := (M_held_s0 d (w64 (x1 * x3)) U)) (fun _ => rfl) hk2c ?_
    show Ev (am_kz N X) ((d + 1), 279, 92, [some (.inl x0), some (.inr (.inl x1)), none, some (.inr (.inl x3)), none], [.inr (.inl r3)], (am_sh, am_mm U3)) R
    subst hk2a
    exact ev_end 1 (fun _ => rfl)
  have nh2 := hc
  clear hc
  by_cases hc : x0 = 13
  · have hk3 := h.2.2.2.1 hc
    refine ev_sw (off := 92) rfl (by rw [hc]; rfl) (pt := 93) rfl ?_
    refine ev_seg (σ1 := ((d + 1), 279, 95, [some (.inl x0), some (.inr (.inl x1)), none, some (.inr (.inl x3)), none], [.inr (.inl x3), .inr (.inl x1)], (am_sh, am_mm U))) 2 (fun _ => rfl) ?_
    obtain ⟨r4, U4, hk3c, hk3a⟩ := hk3
    refine ev_cal (σc := (M_floor_s0 d x1 x3 U)) (fun _ => rfl) hk3c ?_
    show Ev (am_kz N X) ((d + 1), 279, 98, [some (.inl x0), some (.inr (.inl x1)), none, some (.inr (.inl x3)), none], [.inr (.inl r4)], (am_sh, am_mm U4)) R
    obtain ⟨r5, U5, hk3ac, hk3aa⟩ := hk3a
    refine ev_cal (σc := (M_held_s0 d r4 U4)) (fun _ => rfl) hk3ac ?_
    show Ev (am_kz N X) ((d + 1), 279, 101, [some (.inl x0), some (.inr (.inl x1)), none, some (.inr (.inl x3)), none], [.inr (.inl r5)], (am_sh, am_mm U5)) R
    subst hk3aa
    exact ev_end 1 (fun _ => rfl)
  have nh3 := hc
  clear hc
  by_cases hc : x0 = 14
  · have hk4 := h.2.2.2.2.1 hc
    refine ev_sw (off := 101) rfl (by rw [hc]; rfl) (pt := 102) rfl ?_
    refine ev_br (P := ¬ (am_lcmp x3 0) = 0) (σ1 := ((d + 1), 279, 112, [some (.inl x0), some (.inr (.inl x1)), none, some (.inr (.inl x3)), none], [], (am_sh, am_mm U))) (σ2 := ((d + 1), 279, 108, [some (.inl x0), some (.inr (.inl x1)), none, some (.inr (.inl x3)), none], [], (am_sh, am_mm U))) 4 (fun _ => rfl) (fun hc => ?_) (fun hc => ?_)
    · have hk41 := hk4.1 ((am_lc_ne x3 0).mp hc)
      refine ev_seg (σ1 := ((d + 1), 279, 116, [some (.inl x0), some (.inr (.inl x1)), none, some (.inr (.inl x3)), none], [.inr (.inl x3), .inr (.inl x1), .inr (.inl x3), .inr (.inl x1)], (am_sh, am_mm U))) 4 (fun _ => rfl) ?_
      obtain ⟨r6, U6, hk41c, hk41a⟩ := hk41
      refine ev_cal (σc := (M_floor_s0 d x1 x3 U)) (fun _ => rfl) hk41c ?_
      show Ev (am_kz N X) ((d + 1), 279, 119, [some (.inl x0), some (.inr (.inl x1)), none, some (.inr (.inl x3)), none], [.inr (.inl r6), .inr (.inl x3), .inr (.inl x1)], (am_sh, am_mm U6)) R
      refine ev_seg (σ1 := ((d + 1), 279, 121, [some (.inl x0), some (.inr (.inl x1)), none, some (.inr (.inl x3)), none], [.inr (.inl (w64 (x1 - (w64 (x3 * r6)))))], (am_sh, am_mm U6))) 2 (fun _ => rfl) ?_
      obtain ⟨r7, U7, hk41ac, hk41aa⟩ := hk41a
      refine ev_cal (σc := (M_held_s0 d (w64 (x1 - (w64 (x3 * r6)))) U6)) (fun _ => rfl) hk41ac ?_
      show Ev (am_kz N X) ((d + 1), 279, 124, [some (.inl x0), some (.inr (.inl x1)), none, some (.inr (.inl x3)), none], [.inr (.inl r7)], (am_sh, am_mm U7)) R
      subst hk41aa
      exact ev_end 1 (fun _ => rfl)
    · have hk42 := hk4.2 ((am_lcn_ne x3 0).mp hc)
      subst hk42
      exact ev_end 3 (fun _ => rfl)
  have nh4 := hc
  clear hc
  by_cases hc : x0 = 15
  · have hk5 := h.2.2.2.2.2.1 hc
    refine ev_sw (off := 124) rfl (by rw [hc]; rfl) (pt := 125) rfl ?_
    refine ev_br (P := 0 ≤ (am_lcmp x1 x3)) (σ1 := ((d + 1), 279, 135, [some (.inl x0), some (.inr (.inl x1)), none, some (.inr (.inl x3)), none], [], (am_sh, am_mm U))) (σ2 := ((d + 1), 279, 131, [some (.inl x0), some (.inr (.inl x1)), none, some (.inr (.inl x3)), none], [], (am_sh, am_mm U))) 4 (fun _ => rfl) (fun hc => ?_) (fun hc => ?_)
    · have hk51 := hk5.1 ((am_lc_ge x1 x3).mp hc)
      subst hk51
      exact ev_end 2 (fun _ => rfl)
    · have hk52 := hk5.2 ((am_lcn_ge x1 x3).mp hc)
      subst hk52
      exact ev_end 3 (fun _ => rfl)
  have nh5 := hc
  clear hc
  by_cases hc : x0 = 16
  · have hk6 := h.2.2.2.2.2.2.1 hc
    refine ev_sw (off := 136) rfl (by rw [hc]; rfl) (pt := 137) rfl ?_
    refine ev_br (P := (am_lcmp x1 x3) ≤ 0) (σ1 := ((d + 1), 279, 147, [some (.inl x0), some (.inr (.inl x1)), none, some (.inr (.inl x3)), none], [], (am_sh, am_mm U))) (σ2 := ((d + 1), 279, 143, [some (.inl x0), some (.inr (.inl x1)), none, some (.inr (.inl x3)), none], [], (am_sh, am_mm U))) 4 (fun _ => rfl) (fun hc => ?_) (fun hc => ?_)
    · have hk61 := hk6.1 ((am_lc_le x1 x3).mp hc)
      subst hk61
      exact ev_end 2 (fun _ => rfl)
    · have hk62 := hk6.2 ((am_lcn_le x1 x3).mp hc)
      subst hk62
      exact ev_end 3 (fun _ => rfl)
  have nh6 := hc
  clear hc
  by_cases hc : x0 = 17
  · have hk7 := h.2.2.2.2.2.2.2.1 hc
    refine ev_sw (off := 154) rfl (by rw [hc]; rfl) (pt := 155) rfl ?_
    refine ev_br (P := 0 ≤ (am_lcmp x1 x3)) (σ1 := ((d + 1), 279, 165, [some (.inl x0), some (.inr (.inl x1)), none, some (.inr (.inl x3)), none], [], (am_sh, am_mm U))) (σ2 := ((d + 1), 279, 161, [some (.inl x0), some (.inr (.inl x1)), none, some (.inr (.inl x3)), none], [], (am_sh, am_mm U))) 4 (fun _ => rfl) (fun hc => ?_) (fun hc => ?_)
    · have hk71 := hk7.1 ((am_lc_ge x1 x3).mp hc)
      subst hk71
      exact ev_end 2 (fun _ => rfl)
    · have hk72 := hk7.2 ((am_lcn_ge x1 x3).mp hc)
      subst hk72
      exact ev_end 3 (fun _ => rfl)
  have nh7 := hc
  clear hc
  by_cases hc : x0 = 18
  · have hk8 := h.2.2.2.2.2.2.2.2.1 hc
    refine ev_sw (off := 166) rfl (by rw [hc]; rfl) (pt := 167) rfl ?_
    refine ev_br (P := (am_lcmp x1 x3) ≤ 0) (σ1 := ((d + 1), 279, 177, [some (.inl x0), some (.inr (.inl x1)), none, some (.inr (.inl x3)), none], [], (am_sh, am_mm U))) (σ2 := ((d + 1), 279, 173, [some (.inl x0), some (.inr (.inl x1)), none, some (.inr (.inl x3)), none], [], (am_sh, am_mm U))) 4 (fun _ => rfl) (fun hc => ?_) (fun hc => ?_)
    · have hk81 := hk8.1 ((am_lc_le x1 x3).mp hc)
      subst hk81
      exact ev_end 2 (fun _ => rfl)
    · have hk82 := hk8.2 ((am_lcn_le x1 x3).mp hc)
      subst hk82
      exact ev_end 3 (fun _ => rfl)
  have nh8 := hc
  clear hc
  by_cases hc : x0 = 19
  · have hk9 := h.2.2.2.2.2.2.2.2.2.1 hc
    refine ev_sw (off := 178) rfl (by rw [hc]; rfl) (pt := 179) rfl ?_
    refine ev_br (P := ¬ (am_lcmp x1 x3) = 0) (σ1 := ((d + 1), 279, 189, [some (.inl x0), some (.inr (.inl x1)), none, some (.inr (.inl x3)), none], [], (am_sh, am_mm U))) (σ2 := ((d + 1), 279, 185, [some (.inl x0), some (.inr (.inl x1)), none, some (.inr (.inl x3)), none], [], (am_sh, am_mm U))) 4 (fun _ => rfl) (fun hc => ?_) (fun hc => ?_)
    · have hk91 := hk9.1 ((am_lc_ne x1 x3).mp hc)
      subst hk91
      exact ev_end 2 (fun _ => rfl)
    · have hk92 := hk9.2 ((am_lcn_ne x1 x3).mp hc)
      subst hk92
      exact ev_end 3 (fun _ => rfl)
  have nh9 := hc
  clear hc
  by_cases hc : x0 = 20
  · have hk10 := h.2.2.2.2.2.2.2.2.2.2.1 hc
    refine ev_sw (off := 190) rfl (by rw [hc]; rfl) (pt := 191) rfl ?_
    subst hk10
    exact ev_end 4 (fun _ => rfl)
  have nh10 := hc
  clear hc
  by_cases hc : x0 = 21
  · have hk11 := h.2.2.2.2.2.2.2.2.2.2.2.1 hc
    refine ev_sw (off := 194) rfl (by rw [hc]; rfl) (pt := 195) rfl ?_
    subst hk11
    exact ev_end 4 (fun _ => rfl)
  have nh11 := hc
  clear hc
  by_cases hc : x0 = 22
  · have hk12 := h.2.2.2.2.2.2.2.2.2.2.2.2.1 hc
    refine ev_sw (off := 194) rfl (by rw [hc]; rfl) (pt := 195) rfl ?_
    subst hk12
    exact ev_end 4 (fun _ => rfl)
  have nh12 := hc
  clear hc
  by_cases hc : x0 = 23
  · have hk13 := h.2.2.2.2.2.2.2.2.2.2.2.2.2.1 hc
    refine ev_sw (off := 148) rfl (by rw [hc]; rfl) (pt := 149) rfl ?_
    refine ev_seg (σ1 := ((d + 1), 279, 151, [some (.inl x0), some (.inr (.inl x1)), none, some (.inr (.inl x3)), none], [.inr (.inl x3), .inr (.inl x1)], (am_sh, am_mm U))) 2 (fun _ => rfl) ?_
    obtain ⟨r8, U8, hk13c, hk13a⟩ := hk13
    refine ev_cal (σc := (M_gcd_s0 d x1 x3 U)) (fun _ => rfl) hk13c ?_
    show Ev (am_kz N X) ((d + 1), 279, 154, [some (.inl x0), some (.inr (.inl x1)), none, some (.inr (.inl x3)), none], [.inr (.inl r8)], (am_sh, am_mm U8)) R
    subst hk13a
    exact ev_end 1 (fun _ => rfl)
  have nh13 := hc
  clear hc
  have hkd := h.2.2.2.2.2.2.2.2.2.2.2.2.2.2 ⟨nh0, nh1, nh2, nh3, nh4, nh5, nh6, nh7, nh8, nh9, nh10, nh11, nh12, nh13⟩
  refine ev_sw (off := 194) rfl (if_pos (by omega)) (pt := 195) rfl ?_
  subst hkd
  exact ev_end 4 (fun _ => rfl)
set_option maxRecDepth 8000 in
theorem M_isSquare_r0 {N : Nat} {X : Nat → Int} {d : Nat} {x0 : Int} {U : am_U} {R : Option am_V × am_M} (h : ((0 ≤ x0) → EvK N X (M_isSquare_s15 d x0 0 40000 U) R) ∧ ((x0 < 0) → R = rI 0 U)) : EvK N X (M_isSquare_s0 d x0 U) R := by
  show Ev (am_kz N X) (d, 278, 0, [some (.inr (.inl x0)), none, none, none, none, none, none, none], [], (am_sh, am_mm U)) R
  refine ev_br (P := 0 ≤ (am_lcmp x0 0)) (σ1 := (d, 278, 8, [some (.inr (.inl x0)), none, none, none, none, none, none, none], [], (am_sh, am_mm U))) (σ2 := (d, 278, 6, [some (.inr (.inl x0)), none, none, none, none, none, none, none], [], (am_sh, am_mm U))) 4 (fun _ => rfl) (fun hc => ?_) (fun hc => ?_)
  · have h1 := h.1 ((am_lc_ge x0 0).mp hc)
    refine ev_seg (σ1 := (d, 278, 15, [some (.inr (.inl x0)), none, some (.inr (.inl 0)), none, some (.inr (.inl 40000)), none, none, none], [], (am_sh, am_mm U))) 4 (fun _ => rfl) ?_
    exact h1
  · have h2 := h.2 ((am_lcn_ge x0 0).mp hc)
    subst h2
    exact ev_end 2 (fun _ => rfl)
set_option maxRecDepth 8000 in
theorem M_isSquare_r15 {N : Nat} {X : Nat → Int} {d : Nat} {x0 x2 x4 : Int} {U : am_U} {R : Option am_V × am_M} (h : ((x4 ≤ x2) → (((w64 (x2 * x2)) ≠ x0) → R = rI 0 U) ∧ (((w64 (x2 * x2)) = x0) → R = rI 1 U)) ∧ ((x2 < x4) → ((x0 ≤ (w64 ((w64 (Int.tdiv (w64 (x2 + x4)) 2)) * (w64 (Int.tdiv (w64 (x2 + x4)) 2))))) → EvK N X (M_isSquare_s15 d x0 x2 (w64 (Int.tdiv (w64 (x2 + x4)) 2)) U) R) ∧ (((w64 ((w64 (Int.tdiv (w64 (x2 + x4)) 2)) * (w64 (Int.tdiv (w64 (x2 + x4)) 2)))) < x0) → EvK N X (M_isSquare_s15 d x0 (w64 ((w64 (Int.tdiv (w64 (x2 + x4)) 2)) + 1)) x4 U) R))) : EvK N X (M_isSquare_s15 d x0 x2 x4 U) R := by
  show Ev (am_kz N X) (d, 278, 15, [some (.inr (.inl x0)), none, some (.inr (.inl x2)), none, some (.inr (.inl x4)), none, none, none], [], (am_sh, am_mm U)) R
  refine ev_br (P := 0 ≤ (am_lcmp x2 x4)) (σ1 := (d, 278, 57, [some (.inr (.inl x0)), none, some (.inr (.inl x2)), none, some (.inr (.inl x4)), none, none, none], [], (am_sh, am_mm U))) (σ2 := (d, 278, 22, [some (.inr (.inl x0)), none, some (.inr (.inl x2)), none, some (.inr (.inl x4)), none, none, none], [], (am_sh, am_mm U))) 4 (fun _ => rfl) (fun hc => ?_) (fun hc => ?_)
  · have h1 := h.1 ((am_lc_ge x2 x4).mp hc)
    refine ev_br (P := ¬ (am_lcmp (w64 (x2 * x2)) x0) = 0) (σ1 := (d, 278, 69, [some (.inr (.inl x0)), none, some (.inr (.inl x2)), none, some (.inr (.inl x4)), none, none, none], [], (am_sh, am_mm U))) (σ2 := (d, 278, 65, [some (.inr (.inl x0)), none, some (.inr (.inl x2)), none, some (.inr (.inl x4)), none, none, none], [], (am_sh, am_mm U))) 6 (fun _ => rfl) (fun hc => ?_) (fun hc => ?_)
    · have h11 := h1.1 ((am_lc_ne (w64 (x2 * x2)) x0).mp hc)
      subst h11
      exact ev_end 2 (fun _ => rfl)
    · have h12 := h1.2 ((am_lcn_ne (w64 (x2 * x2)) x0).mp hc)
      subst h12
      exact ev_end 3 (fun _ => rfl)
  · have h2 := h.2 ((am_lcn_ge x2 x4).mp hc)
    refine ev_seg (σ1 := (d, 278, 29, [some (.inr (.inl x0)), none, some (.inr (.inl x2)), none, some (.inr (.inl x4)), none, none, none], [.inr (.inl 2), .inr (.inl (w64 (x2 + x4)))], (am_sh, am_mm U))) 4 (fun _ => rfl) ?_
    refine ev_ldiv rfl (by decide) ?_
    show Ev (am_kz N X) (d, 278, 30, [some (.inr (.inl x0)), none, some (.inr (.inl x2)), none, some (.inr (.inl x4)), none, none, none], [.inr (.inl (w64 (Int.tdiv (w64 (x2 + x4)) 2)))], (am_sh, am_mm U)) R
    refine ev_br (P := 0 ≤ (am_lcmp (w64 ((w64 (Int.tdiv (w64 (x2 + x4)) 2)) * (w64 (Int.tdiv (w64 (x2 + x4)) 2)))) x0)) (σ1 := (d, 278, 50, [some (.inr (.inl x0)), none, some (.inr (.inl x2)), none, some (.inr (.inl x4)), none, some (.inr (.inl (w64 (Int.tdiv (w64 (x2 + x4)) 2)))), none], [], (am_sh, am_mm U))) (σ2 := (d, 278, 42, [some (.inr (.inl x0)), none, some (.inr (.inl x2)), none, some (.inr (.inl x4)), none, some (.inr (.inl (w64 (Int.tdiv (w64 (x2 + x4)) 2)))), none], [], (am_sh, am_mm U))) 7 (fun _ => rfl) (fun hc => ?_) (fun hc => ?_)
    · have h21 := h2.1 ((am_lc_ge (w64 ((w64 (Int.tdiv (w64 (x2 + x4)) 2)) * (w64 (Int.tdiv (w64 (x2 + x4)) 2)))) x0).mp hc)
      refine ev_seg (σ1 := (d, 278, 15, [some (.inr (.inl x0)), none, some (.inr (.inl x2)), none, some (.inr (.inl (w64 (Int.tdiv (w64 (x2 + x4)) 2)))), none, some (.inr (.inl (w64 (Int.tdiv (w64 (x2 + x4)) 2)))), none], [], (am_sh, am_mm U))) 3 (fun _ => rfl) ?_
      exact ev_le (L := [some (.inr (.inl x0)), none, some (.inr (.inl x2)), none, some (.inr (.inl (w64 (Int.tdiv (w64 (x2 + x4)) 2)))), none, none, none]) ⟨rfl, ⟨rfl, ⟨rfl, trivial⟩⟩⟩ h21
    · have h22 := h2.2 ((am_lcn_ge (w64 ((w64 (Int.tdiv (w64 (x2 + x4)) 2)) * (w64 (Int.tdiv (w64 (x2 + x4)) 2)))) x0).mp hc)
      refine ev_seg (σ1 := (d, 278, 15, [some (.inr (.inl x0)), none, some (.inr (.inl (w64 ((w64 (Int.tdiv (w64 (x2 + x4)) 2)) + 1)))), none, some (.inr (.inl x4)), none, some (.inr (.inl (w64 (Int.tdiv (w64 (x2 + x4)) 2)))), none], [], (am_sh, am_mm U))) 6 (fun _ => rfl) ?_
      exact ev_le (L := [some (.inr (.inl x0)), none, some (.inr (.inl (w64 ((w64 (Int.tdiv (w64 (x2 + x4)) 2)) + 1)))), none, some (.inr (.inl x4)), none, none, none]) ⟨rfl, ⟨rfl, ⟨rfl, trivial⟩⟩⟩ h22
set_option maxRecDepth 8000 in
theorem M_part_r0 {N : Nat} {X : Nat → Int} {d : Nat} {x1 x2 : Int} {U : am_U} {R : Option am_V × am_M} (h : ∃ (r1 : Int) (U1 : am_U), EvK N X (M_homeOf_s0 d (U 86 61) (U 86 62) U) (rI r1 U1) ∧ (x1 = 0 → R = rJ x2 U1) ∧ (x1 = 1 → ∃ (r2 : Int) (U2 : am_U), EvK N X (M_numberOf_s0 d (U1 86 61) (U1 86 62) U1) (rI r2 U2) ∧ R = rJ r2 U2) ∧ (x1 = 2 → R = rJ (U1 86 63) U1) ∧ (x1 = 3 → ((r1 ≠ (-1)) → ∃ (r3 : Int) (U3 : am_U), EvK N X (M_roomsOf_s0 d r1 U1) (rI r3 U3) ∧ R = rJ r3 U3) ∧ ((r1 = (-1)) → R = rJ 0 U1)) ∧ (x1 = 4 → ((r1 ≠ (-1)) → ∃ (r4 : Int) (U4 : am_U), EvK N X (M_living_s0 d (U1 86 61) r1 U1) (rI r4 U4) ∧ R = rJ r4 U4) ∧ ((r1 = (-1)) → R = rJ 0 U1)) ∧ (x1 = 5 → R = rJ r1 U1) ∧ (x1 = 6 → ((r1 ≠ (-1)) → ∃ (r5 : Int) (U5 : am_U), EvK N X (M_streetOf_s0 d r1 U1) (rI r5 U5) ∧ R = rJ r5 U5) ∧ ((r1 = (-1)) → R = rJ (-1) U1)) ∧ (¬ x1 = 0 ∧ ¬ x1 = 1 ∧ ¬ x1 = 2 ∧ ¬ x1 = 3 ∧ ¬ x1 = 4 ∧ ¬ x1 = 5 ∧ ¬ x1 = 6 → R = rJ 1 U1)) : EvK N X (M_part_s0 (d + 1) x1 x2 U) R := by
  show Ev (am_kz N X) ((d + 1), 277, 0, [some (.inr (.inr 86)), some (.inl x1), some (.inl x2), none], [], (am_sh, am_mm U)) R
  refine ev_seg (σ1 := ((d + 1), 277, 9, [some (.inr (.inr 86)), some (.inl x1), some (.inl x2), none], [.inl (U 86 62), .inl (U 86 61), .inr (.inr 86)], (am_sh, am_mm U))) 5 (fun _ => rfl) ?_
  obtain ⟨r1, U1, hc, ha⟩ := h
  refine ev_cal (σc := (M_homeOf_s0 d (U 86 61) (U 86 62) U)) (fun _ => rfl) hc ?_
  show Ev (am_kz N X) ((d + 1), 277, 12, [some (.inr (.inr 86)), some (.inl x1), some (.inl x2), none], [.inl r1], (am_sh, am_mm U1)) R
  refine ev_seg (σ1 := ((d + 1), 277, 14, [some (.inr (.inr 86)), some (.inl x1), some (.inl x2), some (.inl r1)], [.inl x1], (am_sh, am_mm U1))) 2 (fun _ => rfl) ?_
  by_cases hc : x1 = 0
  · have hak0 := ha.1 hc
    refine ev_sw (off := 42) rfl (by rw [hc]; rfl) (pt := 56) rfl ?_
    subst hak0
    exact ev_end 3 (fun _ => rfl)
  have nha0 := hc
  clear hc
  by_cases hc : x1 = 1
  · have hak1 := ha.2.1 hc
    refine ev_sw (off := 45) rfl (by rw [hc]; rfl) (pt := 59) rfl ?_
    refine ev_seg (σ1 := ((d + 1), 277, 68, [some (.inr (.inr 86)), some (.inl x1), some (.inl x2), some (.inl r1)], [.inl (U1 86 62), .inl (U1 86 61), .inr (.inr 86)], (am_sh, am_mm U1))) 5 (fun _ => rfl) ?_
    obtain ⟨r2, U2, hak1c, hak1a⟩ := hak1
    refine ev_cal (σc := (M_numberOf_s0 d (U1 86 61) (U1 86 62) U1)) (fun _ => rfl) hak1c ?_
    show Ev (am_kz N X) ((d + 1), 277, 71, [some (.inr (.inr 86)), some (.inl x1), some (.inl x2), some (.inl r1)], [.inl r2], (am_sh, am_mm U2)) R
    subst hak1a
    exact ev_end 2 (fun _ => rfl)
  have nha1 := hc
  clear hc
  by_cases hc : x1 = 2
  · have hak2 := ha.2.2.1 hc
    refine ev_sw (off := 59) rfl (by rw [hc]; rfl) (pt := 73) rfl ?_
    subst hak2
    exact ev_end 3 (fun _ => rfl)
  have nha2 := hc
  clear hc
  by_cases hc : x1 = 3
  · have hak3 := ha.2.2.2.1 hc
    refine ev_sw (off := 64) rfl (by rw [hc]; rfl) (pt := 78) rfl ?_
    refine ev_br (P := ¬ r1 = (-1)) (σ1 := ((d + 1), 277, 87, [some (.inr (.inr 86)), some (.inl x1), some (.inl x2), some (.inl r1)], [], (am_sh, am_mm U1))) (σ2 := ((d + 1), 277, 83, [some (.inr (.inr 86)), some (.inl x1), some (.inl x2), some (.inl r1)], [], (am_sh, am_mm U1))) 3 (fun _ => rfl) (fun hc => ?_) (fun hc => ?_)
    · have hak31 := hak3.1 hc
      refine ev_seg (σ1 := ((d + 1), 277, 89, [some (.inr (.inr 86)), some (.inl x1), some (.inl x2), some (.inl r1)], [.inl r1, .inr (.inr 86)], (am_sh, am_mm U1))) 2 (fun _ => rfl) ?_
      obtain ⟨r3, U3, hak31c, hak31a⟩ := hak31
      refine ev_cal (σc := (M_roomsOf_s0 d r1 U1)) (fun _ => rfl) hak31c ?_
      show Ev (am_kz N X) ((d + 1), 277, 92, [some (.inr (.inr 86)), some (.inl x1), some (.inl x2), some (.inl r1)], [.inl r3], (am_sh, am_mm U3)) R
      subst hak31a
      exact ev_end 2 (fun _ => rfl)
    · have hak32 := hak3.2 (Decidable.not_not.mp hc)
      subst hak32
      exact ev_end 3 (fun _ => rfl)
  have nha3 := hc
  clear hc
  by_cases hc : x1 = 4
  · have hak4 := ha.2.2.2.2.1 hc
    refine ev_sw (off := 80) rfl (by rw [hc]; rfl) (pt := 94) rfl ?_
    refine ev_br (P := ¬ r1 = (-1)) (σ1 := ((d + 1), 277, 103, [some (.inr (.inr 86)), some (.inl x1), some (.inl x2), some (.inl r1)], [], (am_sh, am_mm U1))) (σ2 := ((d + 1), 277, 99, [some (.inr (.inr 86)), some (.inl x1), some (.inl x2), some (.inl r1)], [], (am_sh, am_mm U1))) 3 (fun _ => rfl) (fun hc => ?_) (fun hc => ?_)
    · have hak41 := hak4.1 hc
      refine ev_seg (σ1 := ((d + 1), 277, 109, [some (.inr (.inr 86)), some (.inl x1), some (.inl x2), some (.inl r1)], [.inl r1, .inl (U1 86 61), .inr (.inr 86)], (am_sh, am_mm U1))) 4 (fun _ => rfl) ?_
      obtain ⟨r4, U4, hak41c, hak41a⟩ := hak41
      refine ev_cal (σc := (M_living_s0 d (U1 86 61) r1 U1)) (fun _ => rfl) hak41c ?_
      show Ev (am_kz N X) ((d + 1), 277, 112, [some (.inr (.inr 86)), some (.inl x1), some (.inl x2), some (.inl r1)], [.inl r4], (am_sh, am_mm U4)) R
      subst hak41a
      exact ev_end 2 (fun _ => rfl)
    · have hak42 := hak4.2 (Decidable.not_not.mp hc)
      subst hak42
      exact ev_end 3 (fun _ => rfl)
  have nha4 := hc
  clear hc
  by_cases hc : x1 = 5
  · have hak5 := ha.2.2.2.2.2.1 hc
    refine ev_sw (off := 100) rfl (by rw [hc]; rfl) (pt := 114) rfl ?_
    subst hak5
    exact ev_end 3 (fun _ => rfl)
  have nha5 := hc
  clear hc
  by_cases hc : x1 = 6
  · have hak6 := ha.2.2.2.2.2.2.1 hc
    refine ev_sw (off := 103) rfl (by rw [hc]; rfl) (pt := 117) rfl ?_
    refine ev_br (P := ¬ r1 = (-1)) (σ1 := ((d + 1), 277, 128, [some (.inr (.inr 86)), some (.inl x1), some (.inl x2), some (.inl r1)], [], (am_sh, am_mm U1))) (σ2 := ((d + 1), 277, 122, [some (.inr (.inr 86)), some (.inl x1), some (.inl x2), some (.inl r1)], [], (am_sh, am_mm U1))) 3 (fun _ => rfl) (fun hc => ?_) (fun hc => ?_)
    · have hak61 := hak6.1 hc
      refine ev_seg (σ1 := ((d + 1), 277, 130, [some (.inr (.inr 86)), some (.inl x1), some (.inl x2), some (.inl r1)], [.inl r1, .inr (.inr 86)], (am_sh, am_mm U1))) 2 (fun _ => rfl) ?_
      obtain ⟨r5, U5, hak61c, hak61a⟩ := hak61
      refine ev_cal (σc := (M_streetOf_s0 d r1 U1)) (fun _ => rfl) hak61c ?_
      show Ev (am_kz N X) ((d + 1), 277, 133, [some (.inr (.inr 86)), some (.inl x1), some (.inl x2), some (.inl r1)], [.inl r5], (am_sh, am_mm U5)) R
      subst hak61a
      exact ev_end 2 (fun _ => rfl)
    · have hak62 := hak6.2 (Decidable.not_not.mp hc)
      subst hak62
      exact ev_end 3 (fun _ => rfl)
  have nha6 := hc
  clear hc
  have hakd := ha.2.2.2.2.2.2.2 ⟨nha0, nha1, nha2, nha3, nha4, nha5, nha6⟩
  refine ev_sw (off := 121) rfl (if_pos (by omega)) (pt := 135) rfl ?_
  subst hakd
  exact ev_end 2 (fun _ => rfl)
set_option maxRecDepth 8000 in
theorem Fk_find_16_r0 {N : Nat} {X : Nat → Int} {d : Nat} {x1 : Int} {U : am_U} {R : Option am_V × am_M} (h : EvK N X (Fk_find_16_s2 d x1 0 U) R) : EvK N X (Fk_find_16_s0 d x1 U) R := by
  show Ev (am_kz N X) (d, 280, 0, [some (.inr (.inr 16)), some (.inl x1), none], [], (am_sh, am_mm U)) R
  refine ev_seg (σ1 := (d, 280, 2, [some (.inr (.inr 16)), some (.inl x1), some (.inl 0)], [], (am_sh, am_mm U))) 2 (fun _ => rfl) ?_
  exact h
set_option maxRecDepth 8000 in
theorem Fk_find_16_r2 {N : Nat} {X : Nat → Int} {d : Nat} {x1 x2 : Int} {U : am_U} {R : Option am_V × am_M} (h : (((U 16 0) ≤ x2) → R = rI (-1) U) ∧ ((x2 < (U 16 0)) → (0 ≤ x2 ∧ x2 < 16) ∧ (((U 17 x2.toNat) ≠ x1) → EvK N X (Fk_find_16_s2 d x1 (w32 (x2 + 1)) U) R) ∧ (((U 17 x2.toNat) = x1) → R = rI x2 U))) : EvK N X (Fk_find_16_s2 d x1 x2 U) R := by
  show Ev (am_kz N X) (d, 280, 2, [some (.inr (.inr 16)), some (.inl x1), some (.inl x2)], [], (am_sh, am_mm U)) R
  refine ev_br (P := (U 16 0) ≤ x2) (σ1 := (d, 280, 28, [some (.inr (.inr 16)), some (.inl x1), some (.inl x2)], [], (am_sh, am_mm U))) (σ2 := (d, 280, 10, [some (.inr (.inr 16)), some (.inl x1), some (.inl x2)], [], (am_sh, am_mm U))) 4 (fun _ => rfl) (fun hc => ?_) (fun hc => ?_)
  · have h1 := h.1 hc
    subst h1
    exact ev_end 2 (fun _ => rfl)
  · have h2 := h.2 (Int.not_le.mp hc)
    refine ev_seg (σ1 := (d, 280, 15, [some (.inr (.inr 16)), some (.inl x1), some (.inl x2)], [.inl x2, .inr (.inr 17)], (am_sh, am_mm U))) 3 (fun _ => rfl) ?_
    refine eu_iald 17 (n := 16) rfl (by decide) rfl (fun _ => rfl) h2.1 ?_
    show Ev (am_kz N X) (d, 280, 16, [some (.inr (.inr 16)), some (.inl x1), some (.inl x2)], [.inl (U 17 x2.toNat)], (am_sh, am_mm U)) R
    have h2a := h2.2
    refine ev_br (P := ¬ (U 17 x2.toNat) = x1) (σ1 := (d, 280, 22, [some (.inr (.inr 16)), some (.inl x1), some (.inl x2)], [], (am_sh, am_mm U))) (σ2 := (d, 280, 20, [some (.inr (.inr 16)), some (.inl x1), some (.inl x2)], [], (am_sh, am_mm U))) 2 (fun _ => rfl) (fun hc => ?_) (fun hc => ?_)
    · have h2a1 := h2a.1 hc
      refine ev_seg (σ1 := (d, 280, 2, [some (.inr (.inr 16)), some (.inl x1), some (.inl (w32 (x2 + 1)))], [], (am_sh, am_mm U))) 2 (fun _ => rfl) ?_
      exact h2a1
    · have h2a2 := h2a.2 (Decidable.not_not.mp hc)
      subst h2a2
      exact ev_end 2 (fun _ => rfl)
set_option maxRecDepth 8000 in
theorem Cp_findAllowed_r0 {N : Nat} {X : Nat → Int} {d : Nat} {U : am_U} {R : Option am_V × am_M} (h : ∃ U1 : am_U, EvK N X (Ar_fill_II_53_s0 d 0 U) (rV U1) ∧ EvK N X (Cp_findAllowed_s10 (d + 1) 0 U1) R) : EvK N X (Cp_findAllowed_s0 (d + 1) U) R := by
  show Ev (am_kz N X) ((d + 1), 281, 0, [some (.inr (.inr 52)), none, none], [], (am_sh, am_mm U)) R
  refine ev_seg (σ1 := ((d + 1), 281, 5, [some (.inr (.inr 52)), none, none], [.inl 0, .inr (.inr 53)], (am_sh, am_mm U))) 3 (fun _ => rfl) ?_
  obtain ⟨U1, hc, ha⟩ := h
  refine ev_cal (σc := (Ar_fill_II_53_s0 d 0 U)) (fun _ => rfl) hc ?_
  show Ev (am_kz N X) ((d + 1), 281, 8, [some (.inr (.inr 52)), none, none], [], (am_sh, am_mm U1)) R
  refine ev_seg (σ1 := ((d + 1), 281, 10, [some (.inr (.inr 52)), some (.inl 0), none], [], (am_sh, am_mm U1))) 2 (fun _ => rfl) ?_
  exact ha
set_option maxRecDepth 8000 in
theorem Cp_findAllowed_r10 {N : Nat} {X : Nat → Int} {d : Nat} {x1 : Int} {U : am_U} {R : Option am_V × am_M} (h : (((U 16 0) ≤ x1) → R = rV U) ∧ ((x1 < (U 16 0)) → EvK N X (Cp_findAllowed_s25 (d + 1) x1 (w32 (x1 + 1)) U) R)) : EvK N X (Cp_findAllowed_s10 (d + 1) x1 U) R := by
  show Ev (am_kz N X) ((d + 1), 281, 10, [some (.inr (.inr 52)), some (.inl x1), none], [], (am_sh, am_mm U)) R
  refine ev_br (P := (U 16 0) ≤ x1) (σ1 := ((d + 1), 281, 116, [some (.inr (.inr 52)), some (.inl x1), none], [], (am_sh, am_mm U))) (σ2 := ((d + 1), 281, 21, [some (.inr (.inr 52)), some (.inl x1), none], [], (am_sh, am_mm U))) 5 (fun _ => rfl) (fun hc => ?_) (fun hc => ?_)
  · have h1 := h.1 hc
    subst h1
    exact ev_end 1 (fun _ => rfl)
  · have h2 := h.2 (Int.not_le.mp hc)
    refine ev_seg (σ1 := ((d + 1), 281, 25, [some (.inr (.inr 52)), some (.inl x1), some (.inl (w32 (x1 + 1)))], [], (am_sh, am_mm U))) 4 (fun _ => rfl) ?_
    exact h2
set_option maxRecDepth 8000 in
theorem Cp_findAllowed_r25 {N : Nat} {X : Nat → Int} {d : Nat} {x1 x2 : Int} {U : am_U} {R : Option am_V × am_M} (h : (((U 16 0) ≤ x2) → EvK N X (Cp_findAllowed_s10 (d + 1) (w32 (x1 + 1)) U) R) ∧ ((x2 < (U 16 0)) → (0 ≤ x2 ∧ x2 < 16) ∧ ∃ (r1 : Int) (U1 : am_U), EvK N X (Jg_isTrue_s0 d 8 x1 (U 17 x2.toNat) U) (rI r1 U1) ∧ ((r1 = 0) → EvK N X (Cp_findAllowed_s25 (d + 1) x1 (w32 (x2 + 1)) U1) R) ∧ ((r1 ≠ 0) → (0 ≤ x1 ∧ x1 < 16) ∧ ∃ (r2 : Int) (U2 : am_U), EvK N X (Jg_isTrue_s0 d 8 x2 (U1 17 x1.toNat) U1) (rI r2 U2) ∧ ((r2 = 0) → EvK N X (Cp_findAllowed_s25 (d + 1) x1 (w32 (x2 + 1)) U2) R) ∧ ((r2 ≠ 0) → EvK N X (Cp_findAllowed_s25 (d + 1) x1 (w32 (x2 + 1)) (am_upd (am_upd U2 53 x1.toNat (am_or (U2 53 x1.toNat) (am_shl 1 x2))) 53 x2.toNat (am_or ((am_upd U2 53 x1.toNat (am_or (U2 53 x1.toNat) (am_shl 1 x2))) 53 x2.toNat) (am_shl 1 x1)))) R)))) : EvK N X (Cp_findAllowed_s25 (d + 1) x1 x2 U) R := by
  show Ev (am_kz N X) ((d + 1), 281, 25, [some (.inr (.inr 52)), some (.inl x1), some (.inl x2)], [], (am_sh, am_mm U)) R
  refine ev_br (P := (U 16 0) ≤ x2) (σ1 := ((d + 1), 281, 110, [some (.inr (.inr 52)), some (.inl x1), some (.inl x2)], [], (am_sh, am_mm U))) (σ2 := ((d + 1), 281, 36, [some (.inr (.inr 52)), some (.inl x1), some (.inl x2)], [], (am_sh, am_mm U))) 5 (fun _ => rfl) (fun hc => ?_) (fun hc => ?_)
  · have h1 := h.1 hc
    refine ev_seg (σ1 := ((d + 1), 281, 10, [some (.inr (.inr 52)), some (.inl (w32 (x1 + 1))), some (.inl x2)], [], (am_sh, am_mm U))) 2 (fun _ => rfl) ?_
    exact ev_le (L := [some (.inr (.inr 52)), some (.inl (w32 (x1 + 1))), none]) ⟨rfl, ⟨rfl, trivial⟩⟩ h1
  · have h2 := h.2 (Int.not_le.mp hc)
    refine ev_seg (σ1 := ((d + 1), 281, 51, [some (.inr (.inr 52)), some (.inl x1), some (.inl x2)], [.inl x2, .inr (.inr 17), .inl x1, .inl 8, .inr (.inr 45)], (am_sh, am_mm U))) 8 (fun _ => rfl) ?_
    refine eu_iald 17 (n := 16) rfl (by decide) rfl (fun _ => rfl) h2.1 ?_
    show Ev (am_kz N X) ((d + 1), 281, 52, [some (.inr (.inr 52)), some (.inl x1), some (.inl x2)], [.inl (U 17 x2.toNat), .inl x1, .inl 8, .inr (.inr 45)], (am_sh, am_mm U)) R
    have h2a := h2.2
    obtain ⟨r1, U1, h2ac, h2aa⟩ := h2a
    refine ev_cal (σc := (Jg_isTrue_s0 d 8 x1 (U 17 x2.toNat) U)) (fun _ => rfl) h2ac ?_
    show Ev (am_kz N X) ((d + 1), 281, 55, [some (.inr (.inr 52)), some (.inl x1), some (.inl x2)], [.inl r1], (am_sh, am_mm U1)) R
    refine ev_br (P := r1 = 0) (σ1 := ((d + 1), 281, 104, [some (.inr (.inr 52)), some (.inl x1), some (.inl x2)], [], (am_sh, am_mm U1))) (σ2 := ((d + 1), 281, 58, [some (.inr (.inr 52)), some (.inl x1), some (.inl x2)], [], (am_sh, am_mm U1))) 1 (fun _ => rfl) (fun hc => ?_) (fun hc => ?_)
    · have h2aa1 := h2aa.1 hc
      refine ev_seg (σ1 := ((d + 1), 281, 25, [some (.inr (.inr 52)), some (.inl x1), some (.inl (w32 (x2 + 1)))], [], (am_sh, am_mm U1))) 2 (fun _ => rfl) ?_
      exact h2aa1
    · have h2aa2 := h2aa.2 hc
      refine ev_seg (σ1 := ((d + 1), 281, 73, [some (.inr (.inr 52)), some (.inl x1), some (.inl x2)], [.inl x1, .inr (.inr 17), .inl x2, .inl 8, .inr (.inr 45)], (am_sh, am_mm U1))) 8 (fun _ => rfl) ?_
      refine eu_iald 17 (n := 16) rfl (by decide) rfl (fun _ => rfl) h2aa2.1 ?_
      show Ev (am_kz N X) ((d + 1), 281, 74, [some (.inr (.inr 52)), some (.inl x1), some (.inl x2)], [.inl (U1 17 x1.toNat), .inl x2, .inl 8, .inr (.inr 45)], (am_sh, am_mm U1)) R
      have h2aa2a := h2aa2.2
      obtain ⟨r2, U2, h2aa2ac, h2aa2aa⟩ := h2aa2a
      refine ev_cal (σc := (Jg_isTrue_s0 d 8 x2 (U1 17 x1.toNat) U1)) (fun _ => rfl) h2aa2ac ?_
      show Ev (am_kz N X) ((d + 1), 281, 77, [some (.inr (.inr 52)), some (.inl x1), some (.inl x2)], [.inl r2], (am_sh, am_mm U2)) R
      refine ev_br (P := r2 = 0) (σ1 := ((d + 1), 281, 104, [some (.inr (.inr 52)), some (.inl x1), some (.inl x2)], [], (am_sh, am_mm U2))) (σ2 := ((d + 1), 281, 80, [some (.inr (.inr 52)), some (.inl x1), some (.inl x2)], [], (am_sh, am_mm U2))) 1 (fun _ => rfl) (fun hc => ?_) (fun hc => ?_)
      · have h2aa2aa1 := h2aa2aa.1 hc
        refine ev_seg (σ1 := ((d + 1), 281, 25, [some (.inr (.inr 52)), some (.inl x1), some (.inl (w32 (x2 + 1)))], [], (am_sh, am_mm U2))) 2 (fun _ => rfl) ?_
        exact h2aa2aa1
      · have h2aa2aa2 := h2aa2aa.2 hc
        refine ev_seg (σ1 := ((d + 1), 281, 86, [some (.inr (.inr 52)), some (.inl x1), some (.inl x2)], [.inl x1, .inr (.inr 53), .inl x1, .inr (.inr 53)], (am_sh, am_mm U2))) 4 (fun _ => rfl) ?_
        refine eu_iald 53 (n := 16) rfl (by decide) rfl (fun _ => rfl) h2aa2.1 ?_
        show Ev (am_kz N X) ((d + 1), 281, 87, [some (.inr (.inr 52)), some (.inl x1), some (.inl x2)], [.inl (U2 53 x1.toNat), .inl x1, .inr (.inr 53)], (am_sh, am_mm U2)) R
        refine ev_seg (σ1 := ((d + 1), 281, 91, [some (.inr (.inr 52)), some (.inl x1), some (.inl x2)], [.inl (am_or (U2 53 x1.toNat) (am_shl 1 x2)), .inl x1, .inr (.inr 53)], (am_sh, am_mm U2))) 4 (fun _ => rfl) ?_
        refine eu_iast 53 (n := 16) rfl (by decide) rfl (fun _ => rfl) h2aa2.1 ?_
        show Ev (am_kz N X) ((d + 1), 281, 92, [some (.inr (.inr 52)), some (.inl x1), some (.inl x2)], [], (am_sh, am_mm (am_upd U2 53 x1.toNat (am_or (U2 53 x1.toNat) (am_shl 1 x2))))) R
        refine ev_seg (σ1 := ((d + 1), 281, 98, [some (.inr (.inr 52)), some (.inl x1), some (.inl x2)], [.inl x2, .inr (.inr 53), .inl x2, .inr (.inr 53)], (am_sh, am_mm (am_upd U2 53 x1.toNat (am_or (U2 53 x1.toNat) (am_shl 1 x2)))))) 4 (fun _ => rfl) ?_
        refine eu_iald 53 (n := 16) rfl (by decide) rfl (fun _ => rfl) h2.1 ?_
        show Ev (am_kz N X) ((d + 1), 281, 99, [some (.inr (.inr 52)), some (.inl x1), some (.inl x2)], [.inl ((am_upd U2 53 x1.toNat (am_or (U2 53 x1.toNat) (am_shl 1 x2))) 53 x2.toNat), .inl x2, .inr (.inr 53)], (am_sh, am_mm (am_upd U2 53 x1.toNat (am_or (U2 53 x1.toNat) (am_shl 1 x2))))) R
        refine ev_seg (σ1 := ((d + 1), 281, 103, [some (.inr (.inr 52)), some (.inl x1), some (.inl x2)], [.inl (am_or ((am_upd U2 53 x1.toNat (am_or (U2 53 x1.toNat) (am_shl 1 x2))) 53 x2.toNat) (am_shl 1 x1)), .inl x2, .inr (.inr 53)], (am_sh, am_mm (am_upd U2 53 x1.toNat (am_or (U2 53 x1.toNat) (am_shl 1 x2)))))) 4 (fun _ => rfl) ?_
        refine eu_iast 53 (n := 16) rfl (by decide) rfl (fun _ => rfl) h2.1 ?_
        show Ev (am_kz N X) ((d + 1), 281, 104, [some (.inr (.inr 52)), some (.inl x1), some (.inl x2)], [], (am_sh, am_mm (am_upd (am_upd U2 53 x1.toNat (am_or (U2 53 x1.toNat) (am_shl 1 x2))) 53 x2.toNat (am_or ((am_upd U2 53 x1.toNat (am_or (U2 53 x1.toNat) (am_shl 1 x2))) 53 x2.toNat) (am_shl 1 x1))))) R
        refine ev_seg (σ1 := ((d + 1), 281, 25, [some (.inr (.inr 52)), some (.inl x1), some (.inl (w32 (x2 + 1)))], [], (am_sh, am_mm (am_upd (am_upd U2 53 x1.toNat (am_or (U2 53 x1.toNat) (am_shl 1 x2))) 53 x2.toNat (am_or ((am_upd U2 53 x1.toNat (am_or (U2 53 x1.toNat) (am_shl 1 x2))) 53 x2.toNat) (am_shl 1 x1)))))) 2 (fun _ => rfl) ?_
        exact h2aa2aa2
set_option maxRecDepth 8000 in
theorem Cp_fillTable_r0 {N : Nat} {X : Nat → Int} {d : Nat} {U : am_U} {R : Option am_V × am_M} (h : EvK N X (Cp_fillTable_s22 (d + 1) (w32 ((U 16 0) - (U 52 6))) 1 (am_upd U 44 0 0)) R) : EvK N X (Cp_fillTable_s0 (d + 1) U) R := by
  show Ev (am_kz N X) ((d + 1), 282, 0, [some (.inr (.inr 52)), none, none, none, none, none, none, none], [], (am_sh, am_mm U)) R
  refine ev_seg (σ1 := ((d + 1), 282, 19, [some (.inr (.inr 52)), some (.inl (w32 ((U 16 0) - (U 52 6)))), none, none, none, none, none, none], [.inl 0, .inl 0, .inr (.inr 44)], (am_sh, am_mm U))) 11 (fun _ => rfl) ?_
  refine eu_iast 44 (n := 4096) rfl (by decide) rfl (fun _ => rfl) (by decide) ?_
  show Ev (am_kz N X) ((d + 1), 282, 20, [some (.inr (.inr 52)), some (.inl (w32 ((U 16 0) - (U 52 6)))), none, none, none, none, none, none], [], (am_sh, am_mm (am_upd U 44 0 0))) R
  refine ev_seg (σ1 := ((d + 1), 282, 22, [some (.inr (.inr 52)), some (.inl (w32 ((U 16 0) - (U 52 6)))), some (.inl 1), none, none, none, none, none], [], (am_sh, am_mm (am_upd U 44 0 0)))) 2 (fun _ => rfl) ?_
  exact h
set_option maxRecDepth 8000 in
theorem Cp_fillTable_r22 {N : Nat} {X : Nat → Int} {d : Nat} {x1 x2 : Int} {U : am_U} {R : Option am_V × am_M} (h : (((am_shl 1 x1) ≤ x2) → R = rV U) ∧ ((x2 < (am_shl 1 x1)) → ((4096 ≤ x2) → R = rV U) ∧ ((x2 < 4096) → ∃ (r1 : Int) (U1 : am_U), EvK N X (In_numberOfTrailingZeros_s0 d x2 U) (rI r1 U1) ∧ (0 ≤ (w32 ((U1 52 6) + r1)) ∧ (w32 ((U1 52 6) + r1)) < 16) ∧ (0 ≤ (am_and x2 (w32 (x2 - 1))) ∧ (am_and x2 (w32 (x2 - 1))) < 4096) ∧ EvK N X (Cp_fillTable_s85 (d + 1) x1 x2 r1 (am_and x2 (w32 (x2 - 1))) (am_and (am_and x2 (w32 (x2 - 1))) (am_shr (U1 53 ((w32 ((U1 52 6) + r1)).toNat)) (U1 52 6))) (U1 44 ((am_and x2 (w32 (x2 - 1))).toNat)) (w32 (r1 + 1)) U1) R))) : EvK N X (Cp_fillTable_s22 (d + 1) x1 x2 U) R := by
  show Ev (am_kz N X) ((d + 1), 282, 22, [some (.inr (.inr 52)), some (.inl x1), some (.inl x2), none, none, none, none, none], [], (am_sh, am_mm U)) R
  refine ev_br (P := (am_shl 1 x1) ≤ x2) (σ1 := ((d + 1), 282, 145, [some (.inr (.inr 52)), some (.inl x1), some (.inl x2), none, none, none, none, none], [], (am_sh, am_mm U))) (σ2 := ((d + 1), 282, 29, [some (.inr (.inr 52)), some (.inl x1), some (.inl x2), none, none, none, none, none], [], (am_sh, am_mm U))) 5 (fun _ => rfl) (fun hc => ?_) (fun hc => ?_)
  · have h1 := h.1 hc
    subst h1
    exact ev_end 1 (fun _ => rfl)
  · have h2 := h.2 (Int.not_le.mp hc)
    refine ev_br (P := 4096 ≤ x2) (σ1 := ((d + 1), 282, 145, [some (.inr (.inr 52)), some (.inl x1), some (.inl x2), none, none, none, none, none], [], (am_sh, am_mm U))) (σ2 := ((d + 1), 282, 38, [some (.inr (.inr 52)), some (.inl x1), some (.inl x2), none, none, none, none, none], [], (am_sh, am_mm U))) 5 (fun _ => rfl) (fun hc => ?_) (fun hc => ?_)
    · have h21 := h2.1 hc
      subst h21
      exact ev_end 1 (fun _ => rfl)
    · have h22 := h2.2 (Int.not_le.mp hc)
      refine ev_seg (σ1 := ((d + 1), 282, 39, [some (.inr (.inr 52)), some (.inl x1), some (.inl x2), none, none, none, none, none], [.inl x2], (am_sh, am_mm U))) 1 (fun _ => rfl) ?_
      obtain ⟨r1, U1, h22c, h22a⟩ := h22
      refine ev_cal (σc := (In_numberOfTrailingZeros_s0 d x2 U)) (fun _ => rfl) h22c ?_
      show Ev (am_kz N X) ((d + 1), 282, 42, [some (.inr (.inr 52)), some (.inl x1), some (.inl x2), none, none, none, none, none], [.inl r1], (am_sh, am_mm U1)) R
      refine ev_seg (σ1 := ((d + 1), 282, 62, [some (.inr (.inr 52)), some (.inl x1), some (.inl x2), some (.inl r1), some (.inl (am_and x2 (w32 (x2 - 1)))), none, none, none], [.inl (w32 ((U1 52 6) + r1)), .inr (.inr 53), .inl (am_and x2 (w32 (x2 - 1)))], (am_sh, am_mm U1))) 14 (fun _ => rfl) ?_
      refine eu_iald 53 (n := 16) rfl (by decide) rfl (fun _ => rfl) h22a.1 ?_
      show Ev (am_kz N X) ((d + 1), 282, 63, [some (.inr (.inr 52)), some (.inl x1), some (.inl x2), some (.inl r1), some (.inl (am_and x2 (w32 (x2 - 1)))), none, none, none], [.inl (U1 53 ((w32 ((U1 52 6) + r1)).toNat)), .inl (am_and x2 (w32 (x2 - 1)))], (am_sh, am_mm U1)) R
      have h22aa := h22a.2
      refine ev_seg (σ1 := ((d + 1), 282, 77, [some (.inr (.inr 52)), some (.inl x1), some (.inl x2), some (.inl r1), some (.inl (am_and x2 (w32 (x2 - 1)))), some (.inl (am_and (am_and x2 (w32 (x2 - 1))) (am_shr (U1 53 ((w32 ((U1 52 6) + r1)).toNat)) (U1 52 6)))), none, none], [.inl (am_and x2 (w32 (x2 - 1))), .inr (.inr 44)], (am_sh, am_mm U1))) 8 (fun _ => rfl) ?_
      refine eu_iald 44 (n := 4096) rfl (by decide) rfl (fun _ => rfl) h22aa.1 ?_
      show Ev (am_kz N X) ((d + 1), 282, 78, [some (.inr (.inr 52)), some (.inl x1), some (.inl x2), some (.inl r1), some (.inl (am_and x2 (w32 (x2 - 1)))), some (.inl (am_and (am_and x2 (w32 (x2 - 1))) (am_shr (U1 53 ((w32 ((U1 52 6) + r1)).toNat)) (U1 52 6)))), none, none], [.inl (U1 44 ((am_and x2 (w32 (x2 - 1))).toNat))], (am_sh, am_mm U1)) R
      have h22aaa := h22aa.2
      refine ev_seg (σ1 := ((d + 1), 282, 85, [some (.inr (.inr 52)), some (.inl x1), some (.inl x2), some (.inl r1), some (.inl (am_and x2 (w32 (x2 - 1)))), some (.inl (am_and (am_and x2 (w32 (x2 - 1))) (am_shr (U1 53 ((w32 ((U1 52 6) + r1)).toNat)) (U1 52 6)))), some (.inl (U1 44 ((am_and x2 (w32 (x2 - 1))).toNat))), some (.inl (w32 (r1 + 1)))], [], (am_sh, am_mm U1))) 5 (fun _ => rfl) ?_
      exact h22aaa
set_option maxRecDepth 8000 in
theorem Cp_fillTable_r85 {N : Nat} {X : Nat → Int} {d : Nat} {x1 x2 x3 x4 x5 x6 x7 : Int} {U : am_U} {R : Option am_V × am_M} (h : ((x1 ≤ x7) → (0 ≤ x2 ∧ x2 < 4096) ∧ EvK N X (Cp_fillTable_s22 (d + 1) x1 (w32 (x2 + 1)) (am_upd U 44 x2.toNat x6)) R) ∧ ((x7 < x1) → (((am_and (am_shr x5 x7) 1) ≠ 1) → EvK N X (Cp_fillTable_s85 (d + 1) x1 x2 x3 x4 x5 x6 (w32 (x7 + 1)) U) R) ∧ (((am_and (am_shr x5 x7) 1) = 1) → (0 ≤ (am_and x4 (am_xor (am_shl 1 x7) (-1))) ∧ (am_and x4 (am_xor (am_shl 1 x7) (-1))) < 4096) ∧ EvK N X (Cp_fillTable_s85 (d + 1) x1 x2 x3 x4 x5 (if x6 < (w32 (1 + (U 44 ((am_and x4 (am_xor (am_shl 1 x7) (-1))).toNat)))) then (w32 (1 + (U 44 ((am_and x4 (am_xor (am_shl 1 x7) (-1))).toNat)))) else x6) (w32 (x7 + 1)) U) R))) : EvK N X (Cp_fillTable_s85 (d + 1) x1 x2 x3 x4 x5 x6 x7 U) R := by
  show Ev (am_kz N X) ((d + 1), 282, 85, [some (.inr (.inr 52)), some (.inl x1), some (.inl x2), some (.inl x3), some (.inl x4), some (.inl x5), some (.inl x6), some (.inl x7)], [], (am_sh, am_mm U)) R
  refine ev_br (P := x1 ≤ x7) (σ1 := ((d + 1), 282, 131, [some (.inr (.inr 52)), some (.inl x1), some (.inl x2), some (.inl x3), some (.inl x4), some (.inl x5), some (.inl x6), some (.inl x7)], [], (am_sh, am_mm U))) (σ2 := ((d + 1), 282, 91, [some (.inr (.inr 52)), some (.inl x1), some (.inl x2), some (.inl x3), some (.inl x4), some (.inl x5), some (.inl x6), some (.inl x7)], [], (am_sh, am_mm U))) 3 (fun _ => rfl) (fun hc => ?_) (fun hc => ?_)
  · have h1 := h.1 hc
    refine ev_seg (σ1 := ((d + 1), 282, 138, [some (.inr (.inr 52)), some (.inl x1), some (.inl x2), some (.inl x3), some (.inl x4), some (.inl x5), some (.inl x6), some (.inl x7)], [.inl x6, .inl x2, .inr (.inr 44)], (am_sh, am_mm U))) 4 (fun _ => rfl) ?_
    refine eu_iast 44 (n := 4096) rfl (by decide) rfl (fun _ => rfl) h1.1 ?_
    show Ev (am_kz N X) ((d + 1), 282, 139, [some (.inr (.inr 52)), some (.inl x1), some (.inl x2), some (.inl x3), some (.inl x4), some (.inl x5), some (.inl x6), some (.inl x7)], [], (am_sh, am_mm (am_upd U 44 x2.toNat x6))) R
    have h1a := h1.2
    refine ev_seg (σ1 := ((d + 1), 282, 22, [some (.inr (.inr 52)), some (.inl x1), some (.inl (w32 (x2 + 1))), some (.inl x3), some (.inl x4), some (.inl x5), some (.inl x6), some (.inl x7)], [], (am_sh, am_mm (am_upd U 44 x2.toNat x6)))) 2 (fun _ => rfl) ?_
    exact ev_le (L := [some (.inr (.inr 52)), some (.inl x1), some (.inl (w32 (x2 + 1))), none, none, none, none, none]) ⟨rfl, ⟨rfl, ⟨rfl, trivial⟩⟩⟩ h1a
  · have h2 := h.2 (Int.not_le.mp hc)
    refine ev_br (P := ¬ (am_and (am_shr x5 x7) 1) = 1) (σ1 := ((d + 1), 282, 125, [some (.inr (.inr 52)), some (.inl x1), some (.inl x2), some (.inl x3), some (.inl x4), some (.inl x5), some (.inl x6), some (.inl x7)], [], (am_sh, am_mm U))) (σ2 := ((d + 1), 282, 102, [some (.inr (.inr 52)), some (.inl x1), some (.inl x2), some (.inl x3), some (.inl x4), some (.inl x5), some (.inl x6), some (.inl x7)], [], (am_sh, am_mm U))) 7 (fun _ => rfl) (fun hc => ?_) (fun hc => ?_)
    · have h21 := h2.1 hc
      refine ev_seg (σ1 := ((d + 1), 282, 85, [some (.inr (.inr 52)), some (.inl x1), some (.inl x2), some (.inl x3), some (.inl x4), some (.inl x5), some (.inl x6), some (.inl (w32 (x7 + 1)))], [], (am_sh, am_mm U))) 2 (fun _ => rfl) ?_
      exact h21
    · have h22 := h2.2 (Decidable.not_not.mp hc)
      refine ev_seg (σ1 := ((d + 1), 282, 118, [some (.inr (.inr 52)), some (.inl x1), some (.inl x2), some (.inl x3), some (.inl x4), some (.inl x5), some (.inl x6), some (.inl x7)], [.inl (am_and x4 (am_xor (am_shl 1 x7) (-1))), .inr (.inr 44), .inl 1, .inl x6], (am_sh, am_mm U))) 11 (fun _ => rfl) ?_
      refine eu_iald 44 (n := 4096) rfl (by decide) rfl (fun _ => rfl) h22.1 ?_
      show Ev (am_kz N X) ((d + 1), 282, 119, [some (.inr (.inr 52)), some (.inl x1), some (.inl x2), some (.inl x3), some (.inl x4), some (.inl x5), some (.inl x6), some (.inl x7)], [.inl (U 44 ((am_and x4 (am_xor (am_shl 1 x7) (-1))).toNat)), .inl 1, .inl x6], (am_sh, am_mm U)) R
      have h22a := h22.2
      refine ev_seg (σ1 := ((d + 1), 282, 85, [some (.inr (.inr 52)), some (.inl x1), some (.inl x2), some (.inl x3), some (.inl x4), some (.inl x5), some (.inl (if x6 < (w32 (1 + (U 44 ((am_and x4 (am_xor (am_shl 1 x7) (-1))).toNat)))) then (w32 (1 + (U 44 ((am_and x4 (am_xor (am_shl 1 x7) (-1))).toNat)))) else x6)), some (.inl (w32 (x7 + 1)))], [], (am_sh, am_mm U))) 5 (fun _ => rfl) ?_
      exact h22a
set_option maxRecDepth 8000 in
theorem Ar_fill_II_54_r0 {N : Nat} {X : Nat → Int} {d : Nat} {x1 : Int} {U : am_U} {R : Option am_V × am_M} (h : EvK N X (Ar_fill_II_54_s5 d x1 0 16 U) R) : EvK N X (Ar_fill_II_54_s0 d x1 U) R := by
  show Ev (am_kz N X) (d, 211, 0, [some (.inr (.inr 54)), some (.inl x1), none, none], [], (am_sh, am_mm U)) R
  refine ev_seg (σ1 := (d, 211, 5, [some (.inr (.inr 54)), some (.inl x1), some (.inl 0), some (.inl 16)], [], (am_sh, am_mm U))) 5 (fun _ => rfl) ?_
  exact h
set_option maxRecDepth 8000 in
theorem Ar_fill_II_54_r5 {N : Nat} {X : Nat → Int} {d : Nat} {x1 x2 x3 : Int} {U : am_U} {R : Option am_V × am_M} (h : ((x3 ≤ x2) → R = rV U) ∧ ((x2 < x3) → (0 ≤ x2 ∧ x2 < 16) ∧ EvK N X (Ar_fill_II_54_s5 d x1 (w32 (x2 + 1)) x3 (am_upd U 54 x2.toNat x1)) R)) : EvK N X (Ar_fill_II_54_s5 d x1 x2 x3 U) R := by
  show Ev (am_kz N X) (d, 211, 5, [some (.inr (.inr 54)), some (.inl x1), some (.inl x2), some (.inl x3)], [], (am_sh, am_mm U)) R
  refine ev_br (P := x3 ≤ x2) (σ1 := (d, 211, 20, [some (.inr (.inr 54)), some (.inl x1), some (.inl x2), some (.inl x3)], [], (am_sh, am_mm U))) (σ2 := (d, 211, 10, [some (.inr (.inr 54)), some (.inl x1), some (.inl x2), some (.inl x3)], [], (am_sh, am_mm U))) 3 (fun _ => rfl) (fun hc => ?_) (fun hc => ?_)
  · have h1 := h.1 hc
    subst h1
    exact ev_end 1 (fun _ => rfl)
  · have h2 := h.2 (Int.not_le.mp hc)
    refine ev_seg (σ1 := (d, 211, 13, [some (.inr (.inr 54)), some (.inl x1), some (.inl x2), some (.inl x3)], [.inl x1, .inl x2, .inr (.inr 54)], (am_sh, am_mm U))) 3 (fun _ => rfl) ?_
    refine eu_iast 54 (n := 16) rfl (by decide) rfl (fun _ => rfl) h2.1 ?_
    show Ev (am_kz N X) (d, 211, 14, [some (.inr (.inr 54)), some (.inl x1), some (.inl x2), some (.inl x3)], [], (am_sh, am_mm (am_upd U 54 x2.toNat x1))) R
    have h2a := h2.2
    refine ev_seg (σ1 := (d, 211, 5, [some (.inr (.inr 54)), some (.inl x1), some (.inl (w32 (x2 + 1))), some (.inl x3)], [], (am_sh, am_mm (am_upd U 54 x2.toNat x1)))) 2 (fun _ => rfl) ?_
    exact h2a
set_option maxRecDepth 8000 in
theorem Cp_pairHead_r0 {N : Nat} {X : Nat → Int} {d : Nat} {x1 x2 x3 : Int} {U : am_U} {R : Option am_V × am_M} (h : ∃ (r1 : Int) (U1 : am_U), EvK N X (In_bitCount_s0 d x2 U) (rI r1 U1) ∧ (((U1 52 7) < (w32 (x3 + (w32 (Int.tdiv r1 2))))) → ((x1 < (U1 52 6)) → (((am_and x2 (am_xor (am_shl 1 x1) (-1))) ≠ x2) → EvK N X (Cp_pairHead_s61 (d + 1) x1 x2 x3 (am_and x2 (am_xor (am_shl 1 x1) (-1))) (w32 (x1 + 1)) U1) R) ∧ (((am_and x2 (am_xor (am_shl 1 x1) (-1))) = x2) → ∃ U2 : am_U, EvK N X (Cp_pairHead_s0 d (w32 (x1 + 1)) x2 x3 U1) (rV U2) ∧ R = rV U2)) ∧ (((U1 52 6) ≤ x1) → ∃ U3 : am_U, EvK N X (Cp_keepIfMore_s0 d x2 x3 U1) (rV U3) ∧ R = rV U3)) ∧ (((w32 (x3 + (w32 (Int.tdiv r1 2)))) ≤ (U1 52 7)) → R = rV U1)) : EvK N X (Cp_pairHead_s0 (d + 1) x1 x2 x3 U) R := by
  show Ev (am_kz N X) ((d + 1), 283, 0, [some (.inr (.inr 52)), some (.inl x1), some (.inl x2), some (.inl x3), none, none], [], (am_sh, am_mm U)) R
  refine ev_seg (σ1 := ((d + 1), 283, 2, [some (.inr (.inr 52)), some (.inl x1), some (.inl x2), some (.inl x3), none, none], [.inl x2, .inl x3], (am_sh, am_mm U))) 2 (fun _ => rfl) ?_
  obtain ⟨r1, U1, hc, ha⟩ := h
  refine ev_cal (σc := (In_bitCount_s0 d x2 U)) (fun _ => rfl) hc ?_
  show Ev (am_kz N X) ((d + 1), 283, 5, [some (.inr (.inr 52)), some (.inl x1), some (.inl x2), some (.inl x3), none, none], [.inl r1, .inl x3], (am_sh, am_mm U1)) R
  refine ev_seg (σ1 := ((d + 1), 283, 6, [some (.inr (.inr 52)), some (.inl x1), some (.inl x2), some (.inl x3), none, none], [.inl 2, .inl r1, .inl x3], (am_sh, am_mm U1))) 1 (fun _ => rfl) ?_
  refine ev_idiv rfl (by decide) ?_
  show Ev (am_kz N X) ((d + 1), 283, 7, [some (.inr (.inr 52)), some (.inl x1), some (.inl x2), some (.inl x3), none, none], [.inl (w32 (Int.tdiv r1 2)), .inl x3], (am_sh, am_mm U1)) R
  refine ev_br (P := (U1 52 7) < (w32 (x3 + (w32 (Int.tdiv r1 2))))) (σ1 := ((d + 1), 283, 16, [some (.inr (.inr 52)), some (.inl x1), some (.inl x2), some (.inl x3), none, none], [], (am_sh, am_mm U1))) (σ2 := ((d + 1), 283, 15, [some (.inr (.inr 52)), some (.inl x1), some (.inl x2), some (.inl x3), none, none], [], (am_sh, am_mm U1))) 4 (fun _ => rfl) (fun hc => ?_) (fun hc => ?_)
  · have ha1 := ha.1 hc
    refine ev_br (P := x1 < (U1 52 6)) (σ1 := ((d + 1), 283, 31, [some (.inr (.inr 52)), some (.inl x1), some (.inl x2), some (.inl x3), none, none], [], (am_sh, am_mm U1))) (σ2 := ((d + 1), 283, 24, [some (.inr (.inr 52)), some (.inl x1), some (.inl x2), some (.inl x3), none, none], [], (am_sh, am_mm U1))) 4 (fun _ => rfl) (fun hc => ?_) (fun hc => ?_)
    · have ha11 := ha1.1 hc
      refine ev_br (P := ¬ (am_and x2 (am_xor (am_shl 1 x1) (-1))) = x2) (σ1 := ((d + 1), 283, 56, [some (.inr (.inr 52)), some (.inl x1), some (.inl x2), some (.inl x3), some (.inl (am_and x2 (am_xor (am_shl 1 x1) (-1)))), none], [], (am_sh, am_mm U1))) (σ2 := ((d + 1), 283, 46, [some (.inr (.inr 52)), some (.inl x1), some (.inl x2), some (.inl x3), some (.inl (am_and x2 (am_xor (am_shl 1 x1) (-1)))), none], [], (am_sh, am_mm U1))) 11 (fun _ => rfl) (fun hc => ?_) (fun hc => ?_)
      · have ha111 := ha11.1 hc
        refine ev_seg (σ1 := ((d + 1), 283, 61, [some (.inr (.inr 52)), some (.inl x1), some (.inl x2), some (.inl x3), some (.inl (am_and x2 (am_xor (am_shl 1 x1) (-1)))), some (.inl (w32 (x1 + 1)))], [], (am_sh, am_mm U1))) 4 (fun _ => rfl) ?_
        exact ha111
      · have ha112 := ha11.2 (Decidable.not_not.mp hc)
        refine ev_seg (σ1 := ((d + 1), 283, 52, [some (.inr (.inr 52)), some (.inl x1), some (.inl x2), some (.inl x3), some (.inl (am_and x2 (am_xor (am_shl 1 x1) (-1)))), none], [.inl x3, .inl x2, .inl (w32 (x1 + 1)), .inr (.inr 52)], (am_sh, am_mm U1))) 6 (fun _ => rfl) ?_
        obtain ⟨U2, ha112c, ha112a⟩ := ha112
        refine ev_cal (σc := (Cp_pairHead_s0 d (w32 (x1 + 1)) x2 x3 U1)) (fun _ => rfl) ha112c ?_
        show Ev (am_kz N X) ((d + 1), 283, 55, [some (.inr (.inr 52)), some (.inl x1), some (.inl x2), some (.inl x3), some (.inl (am_and x2 (am_xor (am_shl 1 x1) (-1)))), none], [], (am_sh, am_mm U2)) R
        subst ha112a
        exact ev_end 1 (fun _ => rfl)
    · have ha12 := ha1.2 (Int.not_lt.mp hc)
      refine ev_seg (σ1 := ((d + 1), 283, 27, [some (.inr (.inr 52)), some (.inl x1), some (.inl x2), some (.inl x3), none, none], [.inl x3, .inl x2, .inr (.inr 52)], (am_sh, am_mm U1))) 3 (fun _ => rfl) ?_
      obtain ⟨U3, ha12c, ha12a⟩ := ha12
      refine ev_cal (σc := (Cp_keepIfMore_s0 d x2 x3 U1)) (fun _ => rfl) ha12c ?_
      show Ev (am_kz N X) ((d + 1), 283, 30, [some (.inr (.inr 52)), some (.inl x1), some (.inl x2), some (.inl x3), none, none], [], (am_sh, am_mm U3)) R
      subst ha12a
      exact ev_end 1 (fun _ => rfl)
  · have ha2 := ha.2 (Int.not_lt.mp hc)
    subst ha2
    exact ev_end 1 (fun _ => rfl)
set_option maxRecDepth 8000 in
theorem Cp_pairHead_r61 {N : Nat} {X : Nat → Int} {d : Nat} {x1 x2 x3 x4 x5 : Int} {U : am_U} {R : Option am_V × am_M} (h : (((U 16 0) ≤ x5) → ∃ U1 : am_U, EvK N X (Cp_pairHead_s0 d (w32 (x1 + 1)) x4 x3 U) (rV U1) ∧ R = rV U1) ∧ ((x5 < (U 16 0)) → (0 ≤ x1 ∧ x1 < 16) ∧ (((am_and (am_shr (am_and x4 (U 53 x1.toNat)) x5) 1) ≠ 1) → EvK N X (Cp_pairHead_s61 (d + 1) x1 x2 x3 x4 (w32 (x5 + 1)) U) R) ∧ (((am_and (am_shr (am_and x4 (U 53 x1.toNat)) x5) 1) = 1) → (0 ≤ x5 ∧ x5 < 16) ∧ ∃ U2 : am_U, EvK N X (Cp_pairHead_s0 d (w32 (x1 + 1)) (am_and x4 (am_xor (am_shl 1 x5) (-1))) (w32 (x3 + 1)) (am_upd (am_upd U 54 x1.toNat x5) 54 x5.toNat x1)) (rV U2) ∧ EvK N X (Cp_pairHead_s61 (d + 1) x1 x2 x3 x4 (w32 (x5 + 1)) (am_upd (am_upd U2 54 x1.toNat 20) 54 x5.toNat 20)) R))) : EvK N X (Cp_pairHead_s61 (d + 1) x1 x2 x3 x4 x5 U) R := by
  show Ev (am_kz N X) ((d + 1), 283, 61, [some (.inr (.inr 52)), some (.inl x1), some (.inl x2), some (.inl x3), some (.inl x4), some (.inl x5)], [], (am_sh, am_mm U)) R
  refine ev_br (P := (U 16 0) ≤ x5) (σ1 := ((d + 1), 283, 149, [some (.inr (.inr 52)), some (.inl x1), some (.inl x2), some (.inl x3), some (.inl x4), some (.inl x5)], [], (am_sh, am_mm U))) (σ2 := ((d + 1), 283, 73, [some (.inr (.inr 52)), some (.inl x1), some (.inl x2), some (.inl x3), some (.inl x4), some (.inl x5)], [], (am_sh, am_mm U))) 5 (fun _ => rfl) (fun hc => ?_) (fun hc => ?_)
  · have h1 := h.1 hc
    refine ev_seg (σ1 := ((d + 1), 283, 156, [some (.inr (.inr 52)), some (.inl x1), some (.inl x2), some (.inl x3), some (.inl x4), some (.inl x5)], [.inl x3, .inl x4, .inl (w32 (x1 + 1)), .inr (.inr 52)], (am_sh, am_mm U))) 6 (fun _ => rfl) ?_
    obtain ⟨U1, h1c, h1a⟩ := h1
    refine ev_cal (σc := (Cp_pairHead_s0 d (w32 (x1 + 1)) x4 x3 U)) (fun _ => rfl) h1c ?_
    show Ev (am_kz N X) ((d + 1), 283, 159, [some (.inr (.inr 52)), some (.inl x1), some (.inl x2), some (.inl x3), some (.inl x4), some (.inl x5)], [], (am_sh, am_mm U1)) R
    subst h1a
    exact ev_end 1 (fun _ => rfl)
  · have h2 := h.2 (Int.not_le.mp hc)
    refine ev_seg (σ1 := ((d + 1), 283, 80, [some (.inr (.inr 52)), some (.inl x1), some (.inl x2), some (.inl x3), some (.inl x4), some (.inl x5)], [.inl x1, .inr (.inr 53), .inl x4], (am_sh, am_mm U))) 4 (fun _ => rfl) ?_
    refine eu_iald 53 (n := 16) rfl (by decide) rfl (fun _ => rfl) h2.1 ?_
    show Ev (am_kz N X) ((d + 1), 283, 81, [some (.inr (.inr 52)), some (.inl x1), some (.inl x2), some (.inl x3), some (.inl x4), some (.inl x5)], [.inl (U 53 x1.toNat), .inl x4], (am_sh, am_mm U)) R
    have h2a := h2.2
    refine ev_br (P := ¬ (am_and (am_shr (am_and x4 (U 53 x1.toNat)) x5) 1) = 1) (σ1 := ((d + 1), 283, 143, [some (.inr (.inr 52)), some (.inl x1), some (.inl x2), some (.inl x3), some (.inl x4), some (.inl x5)], [], (am_sh, am_mm U))) (σ2 := ((d + 1), 283, 91, [some (.inr (.inr 52)), some (.inl x1), some (.inl x2), some (.inl x3), some (.inl x4), some (.inl x5)], [], (am_sh, am_mm U))) 7 (fun _ => rfl) (fun hc => ?_) (fun hc => ?_)
    · have h2a1 := h2a.1 hc
      refine ev_seg (σ1 := ((d + 1), 283, 61, [some (.inr (.inr 52)), some (.inl x1), some (.inl x2), some (.inl x3), some (.inl x4), some (.inl (w32 (x5 + 1)))], [], (am_sh, am_mm U))) 2 (fun _ => rfl) ?_
      exact h2a1
    · have h2a2 := h2a.2 (Decidable.not_not.mp hc)
      refine ev_seg (σ1 := ((d + 1), 283, 98, [some (.inr (.inr 52)), some (.inl x1), some (.inl x2), some (.inl x3), some (.inl x4), some (.inl x5)], [.inl x5, .inl x1, .inr (.inr 54)], (am_sh, am_mm U))) 4 (fun _ => rfl) ?_
      refine eu_iast 54 (n := 16) rfl (by decide) rfl (fun _ => rfl) h2.1 ?_
      show Ev (am_kz N X) ((d + 1), 283, 99, [some (.inr (.inr 52)), some (.inl x1), some (.inl x2), some (.inl x3), some (.inl x4), some (.inl x5)], [], (am_sh, am_mm (am_upd U 54 x1.toNat x5))) R
      refine ev_seg (σ1 := ((d + 1), 283, 106, [some (.inr (.inr 52)), some (.inl x1), some (.inl x2), some (.inl x3), some (.inl x4), some (.inl x5)], [.inl x1, .inl x5, .inr (.inr 54)], (am_sh, am_mm (am_upd U 54 x1.toNat x5)))) 4 (fun _ => rfl) ?_
      refine eu_iast 54 (n := 16) rfl (by decide) rfl (fun _ => rfl) h2a2.1 ?_
      show Ev (am_kz N X) ((d + 1), 283, 107, [some (.inr (.inr 52)), some (.inl x1), some (.inl x2), some (.inl x3), some (.inl x4), some (.inl x5)], [], (am_sh, am_mm (am_upd (am_upd U 54 x1.toNat x5) 54 x5.toNat x1))) R
      have h2a2a := h2a2.2
      refine ev_seg (σ1 := ((d + 1), 283, 123, [some (.inr (.inr 52)), some (.inl x1), some (.inl x2), some (.inl x3), some (.inl x4), some (.inl x5)], [.inl (w32 (x3 + 1)), .inl (am_and x4 (am_xor (am_shl 1 x5) (-1))), .inl (w32 (x1 + 1)), .inr (.inr 52)], (am_sh, am_mm (am_upd (am_upd U 54 x1.toNat x5) 54 x5.toNat x1)))) 14 (fun _ => rfl) ?_
      obtain ⟨U2, h2a2ac, h2a2aa⟩ := h2a2a
      refine ev_cal (σc := (Cp_pairHead_s0 d (w32 (x1 + 1)) (am_and x4 (am_xor (am_shl 1 x5) (-1))) (w32 (x3 + 1)) (am_upd (am_upd U 54 x1.toNat x5) 54 x5.toNat x1))) (fun _ => rfl) h2a2ac ?_
      show Ev (am_kz N X) ((d + 1), 283, 126, [some (.inr (.inr 52)), some (.inl x1), some (.inl x2), some (.inl x3), some (.inl x4), some (.inl x5)], [], (am_sh, am_mm U2)) R
      refine ev_seg (σ1 := ((d + 1), 283, 133, [some (.inr (.inr 52)), some (.inl x1), some (.inl x2), some (.inl x3), some (.inl x4), some (.inl x5)], [.inl 20, .inl x1, .inr (.inr 54)], (am_sh, am_mm U2))) 4 (fun _ => rfl) ?_
      refine eu_iast 54 (n := 16) rfl (by decide) rfl (fun _ => rfl) h2.1 ?_
      show Ev (am_kz N X) ((d + 1), 283, 134, [some (.inr (.inr 52)), some (.inl x1), some (.inl x2), some (.inl x3), some (.inl x4), some (.inl x5)], [], (am_sh, am_mm (am_upd U2 54 x1.toNat 20))) R
      refine ev_seg (σ1 := ((d + 1), 283, 142, [some (.inr (.inr 52)), some (.inl x1), some (.inl x2), some (.inl x3), some (.inl x4), some (.inl x5)], [.inl 20, .inl x5, .inr (.inr 54)], (am_sh, am_mm (am_upd U2 54 x1.toNat 20)))) 4 (fun _ => rfl) ?_
      refine eu_iast 54 (n := 16) rfl (by decide) rfl (fun _ => rfl) h2a2.1 ?_
      show Ev (am_kz N X) ((d + 1), 283, 143, [some (.inr (.inr 52)), some (.inl x1), some (.inl x2), some (.inl x3), some (.inl x4), some (.inl x5)], [], (am_sh, am_mm (am_upd (am_upd U2 54 x1.toNat 20) 54 x5.toNat 20))) R
      refine ev_seg (σ1 := ((d + 1), 283, 61, [some (.inr (.inr 52)), some (.inl x1), some (.inl x2), some (.inl x3), some (.inl x4), some (.inl (w32 (x5 + 1)))], [], (am_sh, am_mm (am_upd (am_upd U2 54 x1.toNat 20) 54 x5.toNat 20)))) 2 (fun _ => rfl) ?_
      exact h2a2aa
set_option maxRecDepth 8000 in
theorem Cp_pairTail_r0 {N : Nat} {X : Nat → Int} {d : Nat} {U : am_U} {R : Option am_V × am_M} (h : EvK N X (Cp_pairTail_s7 (d + 1) 0 (U 52 6) U) R) : EvK N X (Cp_pairTail_s0 (d + 1) U) R := by
  show Ev (am_kz N X) ((d + 1), 284, 0, [some (.inr (.inr 52)), none, none, none], [], (am_sh, am_mm U)) R
  refine ev_seg (σ1 := ((d + 1), 284, 7, [some (.inr (.inr 52)), some (.inl 0), some (.inl (U 52 6)), none], [], (am_sh, am_mm U))) 5 (fun _ => rfl) ?_
  exact h
set_option maxRecDepth 8000 in
theorem Cp_pairTail_r7 {N : Nat} {X : Nat → Int} {d : Nat} {x1 x2 : Int} {U : am_U} {R : Option am_V × am_M} (h : (((U 16 0) ≤ x2) → EvK N X (Cp_pairTail_s55 (d + 1) x1 (U 52 6) U) R) ∧ ((x2 < (U 16 0)) → (0 ≤ x2 ∧ x2 < 16) ∧ (((U 55 x2.toNat) ≠ 20) → EvK N X (Cp_pairTail_s7 (d + 1) (am_or x1 0) (w32 (x2 + 1)) U) R) ∧ (((U 55 x2.toNat) = 20) → EvK N X (Cp_pairTail_s7 (d + 1) (am_or x1 (am_shl 1 (w32 (x2 - (U 52 6))))) (w32 (x2 + 1)) U) R))) : EvK N X (Cp_pairTail_s7 (d + 1) x1 x2 U) R := by
  show Ev (am_kz N X) ((d + 1), 284, 7, [some (.inr (.inr 52)), some (.inl x1), some (.inl x2), none], [], (am_sh, am_mm U)) R
  refine ev_br (P := (U 16 0) ≤ x2) (σ1 := ((d + 1), 284, 50, [some (.inr (.inr 52)), some (.inl x1), some (.inl x2), none], [], (am_sh, am_mm U))) (σ2 := ((d + 1), 284, 18, [some (.inr (.inr 52)), some (.inl x1), some (.inl x2), none], [], (am_sh, am_mm U))) 5 (fun _ => rfl) (fun hc => ?_) (fun hc => ?_)
  · have h1 := h.1 hc
    refine ev_seg (σ1 := ((d + 1), 284, 55, [some (.inr (.inr 52)), some (.inl x1), some (.inl (U 52 6)), none], [], (am_sh, am_mm U))) 3 (fun _ => rfl) ?_
    exact h1
  · have h2 := h.2 (Int.not_le.mp hc)
    refine ev_seg (σ1 := ((d + 1), 284, 24, [some (.inr (.inr 52)), some (.inl x1), some (.inl x2), none], [.inl x2, .inr (.inr 55), .inl x1], (am_sh, am_mm U))) 4 (fun _ => rfl) ?_
    refine eu_iald 55 (n := 16) rfl (by decide) rfl (fun _ => rfl) h2.1 ?_
    show Ev (am_kz N X) ((d + 1), 284, 25, [some (.inr (.inr 52)), some (.inl x1), some (.inl x2), none], [.inl (U 55 x2.toNat), .inl x1], (am_sh, am_mm U)) R
    have h2a := h2.2
    refine ev_br (P := ¬ (U 55 x2.toNat) = 20) (σ1 := ((d + 1), 284, 41, [some (.inr (.inr 52)), some (.inl x1), some (.inl x2), none], [.inl x1], (am_sh, am_mm U))) (σ2 := ((d + 1), 284, 30, [some (.inr (.inr 52)), some (.inl x1), some (.inl x2), none], [.inl x1], (am_sh, am_mm U))) 2 (fun _ => rfl) (fun hc => ?_) (fun hc => ?_)
    · have h2a1 := h2a.1 hc
      refine ev_seg (σ1 := ((d + 1), 284, 7, [some (.inr (.inr 52)), some (.inl (am_or x1 0)), some (.inl (w32 (x2 + 1))), none], [], (am_sh, am_mm U))) 5 (fun _ => rfl) ?_
      exact h2a1
    · have h2a2 := h2a.2 (Decidable.not_not.mp hc)
      refine ev_seg (σ1 := ((d + 1), 284, 7, [some (.inr (.inr 52)), some (.inl (am_or x1 (am_shl 1 (w32 (x2 - (U 52 6)))))), some (.inl (w32 (x2 + 1))), none], [], (am_sh, am_mm U))) 11 (fun _ => rfl) ?_
      exact h2a2
set_option maxRecDepth 8000 in
theorem Cp_pairTail_r55 {N : Nat} {X : Nat → Int} {d : Nat} {x1 x2 : Int} {U : am_U} {R : Option am_V × am_M} (h : (((U 16 0) ≤ x2) → R = rV U) ∧ ((x2 < (U 16 0)) → (((am_and x1 (am_xor (am_shl 1 (w32 (x2 - (U 52 6)))) (-1))) = x1) → EvK N X (Cp_pairTail_s55 (d + 1) x1 (w32 (x2 + 1)) U) R) ∧ (((am_and x1 (am_xor (am_shl 1 (w32 (x2 - (U 52 6)))) (-1))) ≠ x1) → ∃ (r1 : Int) (U1 : am_U), EvK N X (Cp_pairOne_s0 d x2 x1 (am_and x1 (am_xor (am_shl 1 (w32 (x2 - (U 52 6)))) (-1))) U) (rI r1 U1) ∧ EvK N X (Cp_pairTail_s55 (d + 1) r1 (w32 (x2 + 1)) U1) R))) : EvK N X (Cp_pairTail_s55 (d + 1) x1 x2 U) R := by
  show Ev (am_kz N X) ((d + 1), 284, 55, [some (.inr (.inr 52)), some (.inl x1), some (.inl x2), none], [], (am_sh, am_mm U)) R
  refine ev_br (P := (U 16 0) ≤ x2) (σ1 := ((d + 1), 284, 98, [some (.inr (.inr 52)), some (.inl x1), some (.inl x2), none], [], (am_sh, am_mm U))) (σ2 := ((d + 1), 284, 66, [some (.inr (.inr 52)), some (.inl x1), some (.inl x2), none], [], (am_sh, am_mm U))) 5 (fun _ => rfl) (fun hc => ?_) (fun hc => ?_)
  · have h1 := h.1 hc
    subst h1
    exact ev_end 1 (fun _ => rfl)
  · have h2 := h.2 (Int.not_le.mp hc)
    refine ev_br (P := (am_and x1 (am_xor (am_shl 1 (w32 (x2 - (U 52 6)))) (-1))) = x1) (σ1 := ((d + 1), 284, 92, [some (.inr (.inr 52)), some (.inl x1), some (.inl x2), some (.inl (am_and x1 (am_xor (am_shl 1 (w32 (x2 - (U 52 6)))) (-1))))], [], (am_sh, am_mm U))) (σ2 := ((d + 1), 284, 84, [some (.inr (.inr 52)), some (.inl x1), some (.inl x2), some (.inl (am_and x1 (am_xor (am_shl 1 (w32 (x2 - (U 52 6)))) (-1))))], [], (am_sh, am_mm U))) 14 (fun _ => rfl) (fun hc => ?_) (fun hc => ?_)
    · have h21 := h2.1 hc
      refine ev_seg (σ1 := ((d + 1), 284, 55, [some (.inr (.inr 52)), some (.inl x1), some (.inl (w32 (x2 + 1))), some (.inl (am_and x1 (am_xor (am_shl 1 (w32 (x2 - (U 52 6)))) (-1))))], [], (am_sh, am_mm U))) 2 (fun _ => rfl) ?_
      exact ev_le (L := [some (.inr (.inr 52)), some (.inl x1), some (.inl (w32 (x2 + 1))), none]) ⟨rfl, ⟨rfl, ⟨rfl, trivial⟩⟩⟩ h21
    · have h22 := h2.2 hc
      refine ev_seg (σ1 := ((d + 1), 284, 88, [some (.inr (.inr 52)), some (.inl x1), some (.inl x2), some (.inl (am_and x1 (am_xor (am_shl 1 (w32 (x2 - (U 52 6)))) (-1))))], [.inl (am_and x1 (am_xor (am_shl 1 (w32 (x2 - (U 52 6)))) (-1))), .inl x1, .inl x2, .inr (.inr 52)], (am_sh, am_mm U))) 4 (fun _ => rfl) ?_
      obtain ⟨r1, U1, h22c, h22a⟩ := h22
      refine ev_cal (σc := (Cp_pairOne_s0 d x2 x1 (am_and x1 (am_xor (am_shl 1 (w32 (x2 - (U 52 6)))) (-1))) U)) (fun _ => rfl) h22c ?_
      show Ev (am_kz N X) ((d + 1), 284, 91, [some (.inr (.inr 52)), some (.inl x1), some (.inl x2), some (.inl (am_and x1 (am_xor (am_shl 1 (w32 (x2 - (U 52 6)))) (-1))))], [.inl r1], (am_sh, am_mm U1)) R
      refine ev_seg (σ1 := ((d + 1), 284, 55, [some (.inr (.inr 52)), some (.inl r1), some (.inl (w32 (x2 + 1))), some (.inl (am_and x1 (am_xor (am_shl 1 (w32 (x2 - (U 52 6)))) (-1))))], [], (am_sh, am_mm U1))) 3 (fun _ => rfl) ?_
      exact ev_le (L := [some (.inr (.inr 52)), some (.inl r1), some (.inl (w32 (x2 + 1))), none]) ⟨rfl, ⟨rfl, ⟨rfl, trivial⟩⟩⟩ h22a
set_option maxRecDepth 8000 in
theorem Rl_keepFirst_r0 {N : Nat} {X : Nat → Int} {d : Nat} {x1 x2 : Int} {U : am_U} {R : Option am_V × am_M} (h : (((U 78 5) ≠ 0) → R = rV U) ∧ (((U 78 5) = 0) → ((x2 = 0) → R = rV U) ∧ ((x2 ≠ 0) → ∃ (r1 : Int) (U1 : am_U), EvK N X (D_bitAt_s0 d x2 0 U) (rI r1 U1) ∧ (0 ≤ x1 ∧ x1 < 4) ∧ ((0 : Int) ≤ 0 ∧ (0 : Int) ≤ 0 ∧ (0 : Int) ≤ 4 ∧ (0 : Int) + 4 ≤ 4 ∧ (0 : Int) + 4 ≤ 4) ∧ R = rV (am_cpy (am_upd U1 80 x1.toNat r1) 80 81 0 0 4)))) : EvK N X (Rl_keepFirst_s0 (d + 1) x1 x2 U) R := by
  show Ev (am_kz N X) ((d + 1), 286, 0, [some (.inr (.inr 78)), some (.inl x1), some (.inl x2)], [], (am_sh, am_mm U)) R
  refine ev_br (P := ¬ (U 78 5) = 0) (σ1 := ((d + 1), 286, 36, [some (.inr (.inr 78)), some (.inl x1), some (.inl x2)], [], (am_sh, am_mm U))) (σ2 := ((d + 1), 286, 7, [some (.inr (.inr 78)), some (.inl x1), some (.inl x2)], [], (am_sh, am_mm U))) 3 (fun _ => rfl) (fun hc => ?_) (fun hc => ?_)
  · have h1 := h.1 hc
    subst h1
    exact ev_end 1 (fun _ => rfl)
  · have h2 := h.2 (Decidable.not_not.mp hc)
    refine ev_br (P := x2 = 0) (σ1 := ((d + 1), 286, 36, [some (.inr (.inr 78)), some (.inl x1), some (.inl x2)], [], (am_sh, am_mm U))) (σ2 := ((d + 1), 286, 11, [some (.inr (.inr 78)), some (.inl x1), some (.inl x2)], [], (am_sh, am_mm U))) 2 (fun _ => rfl) (fun hc => ?_) (fun hc => ?_)
    · have h21 := h2.1 hc
      subst h21
      exact ev_end 1 (fun _ => rfl)
    · have h22 := h2.2 hc
      refine ev_seg (σ1 := ((d + 1), 286, 18, [some (.inr (.inr 78)), some (.inl x1), some (.inl x2)], [.inl 0, .inl x2, .inl x1, .inr (.inr 80)], (am_sh, am_mm U))) 5 (fun _ => rfl) ?_
      obtain ⟨r1, U1, h22c, h22a⟩ := h22
      refine ev_cal (σc := (D_bitAt_s0 d x2 0 U)) (fun _ => rfl) h22c ?_
      show Ev (am_kz N X) ((d + 1), 286, 21, [some (.inr (.inr 78)), some (.inl x1), some (.inl x2)], [.inl r1, .inl x1, .inr (.inr 80)], (am_sh, am_mm U1)) R
      refine eu_iast 80 (n := 4) rfl (by decide) rfl (fun _ => rfl) h22a.1 ?_
      show Ev (am_kz N X) ((d + 1), 286, 22, [some (.inr (.inr 78)), some (.inl x1), some (.inl x2)], [], (am_sh, am_mm (am_upd U1 80 x1.toNat r1))) R
      have h22aa := h22a.2
      refine ev_seg (σ1 := ((d + 1), 286, 33, [some (.inr (.inr 78)), some (.inl x1), some (.inl x2)], [.inl 4, .inl 0, .inr (.inr 81), .inl 0, .inr (.inr 80)], (am_sh, am_mm (am_upd U1 80 x1.toNat r1)))) 7 (fun _ => rfl) ?_
      refine eu_copy 80 81 (n0 := 4) (n1 := 4) rfl (by decide) (by decide) (by decide) (by decide) rfl rfl (fun _ => rfl) (fun _ => rfl) h22aa.1 ?_
      show Ev (am_kz N X) ((d + 1), 286, 36, [some (.inr (.inr 78)), some (.inl x1), some (.inl x2)], [], (am_sh, am_mm (am_cpy (am_upd U1 80 x1.toNat r1) 80 81 0 0 4))) R
      have h22aaa := h22aa.2
      subst h22aaa
      exact ev_end 1 (fun _ => rfl)
set_option maxRecDepth 8000 in
theorem Rl_pairOf_r0 {N : Nat} {X : Nat → Int} {d : Nat} {x1 x2 : Int} {U : am_U} {R : Option am_V × am_M} (h : R = rI (w32 ((w32 ((w32 ((w32 (Int.tdiv (w32 (x1 * (w32 ((w32 ((w32 (2 * (U 78 3))) - x1)) - 1)))) 2)) + x2)) - x1)) - 1)) U) : EvK N X (Rl_pairOf_s0 d x1 x2 U) R := by
  show Ev (am_kz N X) (d, 285, 0, [some (.inr (.inr 78)), some (.inl x1), some (.inl x2)], [], (am_sh, am_mm U)) R
  refine ev_seg (σ1 := (d, 285, 13, [some (.inr (.inr 78)), some (.inl x1), some (.inl x2)], [.inl 2, .inl (w32 (x1 * (w32 ((w32 ((w32 (2 * (U 78 3))) - x1)) - 1))))], (am_sh, am_mm U))) 11 (fun _ => rfl) ?_
  refine ev_idiv rfl (by decide) ?_
  show Ev (am_kz N X) (d, 285, 14, [some (.inr (.inr 78)), some (.inl x1), some (.inl x2)], [.inl (w32 (Int.tdiv (w32 (x1 * (w32 ((w32 ((w32 (2 * (U 78 3))) - x1)) - 1)))) 2))], (am_sh, am_mm U)) R
  subst h
  exact ev_end 7 (fun _ => rfl)
set_option maxRecDepth 8000 in
theorem Fk_find_21_r0 {N : Nat} {X : Nat → Int} {d : Nat} {x1 : Int} {U : am_U} {R : Option am_V × am_M} (h : EvK N X (Fk_find_21_s2 d x1 0 U) R) : EvK N X (Fk_find_21_s0 d x1 U) R := by
  show Ev (am_kz N X) (d, 280, 0, [some (.inr (.inr 21)), some (.inl x1), none], [], (am_sh, am_mm U)) R
  refine ev_seg (σ1 := (d, 280, 2, [some (.inr (.inr 21)), some (.inl x1), some (.inl 0)], [], (am_sh, am_mm U))) 2 (fun _ => rfl) ?_
  exact h
set_option maxRecDepth 8000 in
theorem Fk_find_21_r2 {N : Nat} {X : Nat → Int} {d : Nat} {x1 x2 : Int} {U : am_U} {R : Option am_V × am_M} (h : (((U 21 0) ≤ x2) → R = rI (-1) U) ∧ ((x2 < (U 21 0)) → (0 ≤ x2 ∧ x2 < 16) ∧ (((U 22 x2.toNat) ≠ x1) → EvK N X (Fk_find_21_s2 d x1 (w32 (x2 + 1)) U) R) ∧ (((U 22 x2.toNat) = x1) → R = rI x2 U))) : EvK N X (Fk_find_21_s2 d x1 x2 U) R := by
  show Ev (am_kz N X) (d, 280, 2, [some (.inr (.inr 21)), some (.inl x1), some (.inl x2)], [], (am_sh, am_mm U)) R
  refine ev_br (P := (U 21 0) ≤ x2) (σ1 := (d, 280, 28, [some (.inr (.inr 21)), some (.inl x1), some (.inl x2)], [], (am_sh, am_mm U))) (σ2 := (d, 280, 10, [some (.inr (.inr 21)), some (.inl x1), some (.inl x2)], [], (am_sh, am_mm U))) 4 (fun _ => rfl) (fun hc => ?_) (fun hc => ?_)
  · have h1 := h.1 hc
    subst h1
    exact ev_end 2 (fun _ => rfl)
  · have h2 := h.2 (Int.not_le.mp hc)
    refine ev_seg (σ1 := (d, 280, 15, [some (.inr (.inr 21)), some (.inl x1), some (.inl x2)], [.inl x2, .inr (.inr 22)], (am_sh, am_mm U))) 3 (fun _ => rfl) ?_
    refine eu_iald 22 (n := 16) rfl (by decide) rfl (fun _ => rfl) h2.1 ?_
    show Ev (am_kz N X) (d, 280, 16, [some (.inr (.inr 21)), some (.inl x1), some (.inl x2)], [.inl (U 22 x2.toNat)], (am_sh, am_mm U)) R
    have h2a := h2.2
    refine ev_br (P := ¬ (U 22 x2.toNat) = x1) (σ1 := (d, 280, 22, [some (.inr (.inr 21)), some (.inl x1), some (.inl x2)], [], (am_sh, am_mm U))) (σ2 := (d, 280, 20, [some (.inr (.inr 21)), some (.inl x1), some (.inl x2)], [], (am_sh, am_mm U))) 2 (fun _ => rfl) (fun hc => ?_) (fun hc => ?_)
    · have h2a1 := h2a.1 hc
      refine ev_seg (σ1 := (d, 280, 2, [some (.inr (.inr 21)), some (.inl x1), some (.inl (w32 (x2 + 1)))], [], (am_sh, am_mm U))) 2 (fun _ => rfl) ?_
      exact h2a1
    · have h2a2 := h2a.2 (Decidable.not_not.mp hc)
      subst h2a2
      exact ev_end 2 (fun _ => rfl)
set_option maxRecDepth 8000 in
theorem Fk_add_21_r0 {N : Nat} {X : Nat → Int} {d : Nat} {x1 x2 : Int} {U : am_U} {R : Option am_V × am_M} (h : (((U 21 0) < 16) → (0 ≤ (U 21 0) ∧ (U 21 0) < 16) ∧ (((U 22 ((U 21 0).toNat)) = x1) → ∃ U1 : am_U, EvK N X (Fk_settle_21_s0 d (w32 ((w32 ((U 21 0) + 1)) - 1)) x2 (am_upd (am_upd U 23 ((U 21 0).toNat) (-1)) 21 0 (w32 ((U 21 0) + 1)))) (rV U1) ∧ R = rV U1) ∧ (((U 22 ((U 21 0).toNat)) ≠ x1) → ∃ U2 : am_U, EvK N X (Fk_settle_21_s0 d (w32 ((w32 ((U 21 0) + 1)) - 1)) x2 (am_upd (am_upd (am_upd (am_upd U 22 ((U 21 0).toNat) x1) 25 ((U 21 0).toNat) (-1)) 23 ((U 21 0).toNat) (-1)) 21 0 (w32 ((U 21 0) + 1)))) (rV U2) ∧ R = rV U2)) ∧ ((16 ≤ (U 21 0)) → R = rV U)) : EvK N X (Fk_add_21_s0 (d + 1) x1 x2 U) R := by
  show Ev (am_kz N X) ((d + 1), 180, 0, [some (.inr (.inr 21)), some (.inl x1), some (.inl x2)], [], (am_sh, am_mm U)) R
  refine ev_br (P := (U 21 0) < 16) (σ1 := ((d + 1), 180, 10, [some (.inr (.inr 21)), some (.inl x1), some (.inl x2)], [], (am_sh, am_mm U))) (σ2 := ((d + 1), 180, 9, [some (.inr (.inr 21)), some (.inl x1), some (.inl x2)], [], (am_sh, am_mm U))) 4 (fun _ => rfl) (fun hc => ?_) (fun hc => ?_)
  · have h1 := h.1 hc
    refine ev_seg (σ1 := ((d + 1), 180, 18, [some (.inr (.inr 21)), some (.inl x1), some (.inl x2)], [.inl (U 21 0), .inr (.inr 22)], (am_sh, am_mm U))) 4 (fun _ => rfl) ?_
    refine eu_iald 22 (n := 16) rfl (by decide) rfl (fun _ => rfl) h1.1 ?_
    show Ev (am_kz N X) ((d + 1), 180, 19, [some (.inr (.inr 21)), some (.inl x1), some (.inl x2)], [.inl (U 22 ((U 21 0).toNat))], (am_sh, am_mm U)) R
    have h1a := h1.2
    refine ev_br (P := (U 22 ((U 21 0).toNat)) = x1) (σ1 := ((d + 1), 180, 45, [some (.inr (.inr 21)), some (.inl x1), some (.inl x2)], [], (am_sh, am_mm U))) (σ2 := ((d + 1), 180, 23, [some (.inr (.inr 21)), some (.inl x1), some (.inl x2)], [], (am_sh, am_mm U))) 2 (fun _ => rfl) (fun hc => ?_) (fun hc => ?_)
    · have h1a1 := h1a.1 hc
      refine ev_seg (σ1 := ((d + 1), 180, 54, [some (.inr (.inr 21)), some (.inl x1), some (.inl x2)], [.inl (-1), .inl (U 21 0), .inr (.inr 23)], (am_sh, am_mm U))) 5 (fun _ => rfl) ?_
      refine eu_iast 23 (n := 16) rfl (by decide) rfl (fun _ => rfl) h1.1 ?_
      show Ev (am_kz N X) ((d + 1), 180, 55, [some (.inr (.inr 21)), some (.inl x1), some (.inl x2)], [], (am_sh, am_mm (am_upd U 23 ((U 21 0).toNat) (-1)))) R
      refine ev_seg (σ1 := ((d + 1), 180, 62, [some (.inr (.inr 21)), some (.inl x1), some (.inl x2)], [.inl (w32 ((U 21 0) + 1)), .inr (.inr 21)], (am_sh, am_mm (am_upd U 23 ((U 21 0).toNat) (-1))))) 5 (fun _ => rfl) ?_
      refine eu_puti 21 (n := 7) rfl (by decide) rfl rfl ?_
      show Ev (am_kz N X) ((d + 1), 180, 65, [some (.inr (.inr 21)), some (.inl x1), some (.inl x2)], [], (am_sh, am_mm (am_upd (am_upd U 23 ((U 21 0).toNat) (-1)) 21 0 (w32 ((U 21 0) + 1))))) R
      refine ev_seg (σ1 := ((d + 1), 180, 73, [some (.inr (.inr 21)), some (.inl x1), some (.inl x2)], [.inl x2, .inl (w32 ((w32 ((U 21 0) + 1)) - 1)), .inr (.inr 21)], (am_sh, am_mm (am_upd (am_upd U 23 ((U 21 0).toNat) (-1)) 21 0 (w32 ((U 21 0) + 1)))))) 6 (fun _ => rfl) ?_
      obtain ⟨U1, h1a1c, h1a1a⟩ := h1a1
      refine ev_cal (σc := (Fk_settle_21_s0 d (w32 ((w32 ((U 21 0) + 1)) - 1)) x2 (am_upd (am_upd U 23 ((U 21 0).toNat) (-1)) 21 0 (w32 ((U 21 0) + 1))))) (fun _ => rfl) h1a1c ?_
      show Ev (am_kz N X) ((d + 1), 180, 76, [some (.inr (.inr 21)), some (.inl x1), some (.inl x2)], [], (am_sh, am_mm U1)) R
      subst h1a1a
      exact ev_end 1 (fun _ => rfl)
    · have h1a2 := h1a.2 hc
      refine ev_seg (σ1 := ((d + 1), 180, 32, [some (.inr (.inr 21)), some (.inl x1), some (.inl x2)], [.inl x1, .inl (U 21 0), .inr (.inr 22)], (am_sh, am_mm U))) 5 (fun _ => rfl) ?_
      refine eu_iast 22 (n := 16) rfl (by decide) rfl (fun _ => rfl) h1.1 ?_
      show Ev (am_kz N X) ((d + 1), 180, 33, [some (.inr (.inr 21)), some (.inl x1), some (.inl x2)], [], (am_sh, am_mm (am_upd U 22 ((U 21 0).toNat) x1))) R
      refine ev_seg (σ1 := ((d + 1), 180, 44, [some (.inr (.inr 21)), some (.inl x1), some (.inl x2)], [.inr (.inl (-1)), .inl (U 21 0), .inr (.inr 25)], (am_sh, am_mm (am_upd U 22 ((U 21 0).toNat) x1)))) 5 (fun _ => rfl) ?_
      refine eu_last 25 (n := 16) rfl (by decide) rfl (fun _ => rfl) h1.1 ?_
      show Ev (am_kz N X) ((d + 1), 180, 45, [some (.inr (.inr 21)), some (.inl x1), some (.inl x2)], [], (am_sh, am_mm (am_upd (am_upd U 22 ((U 21 0).toNat) x1) 25 ((U 21 0).toNat) (-1)))) R
      refine ev_seg (σ1 := ((d + 1), 180, 54, [some (.inr (.inr 21)), some (.inl x1), some (.inl x2)], [.inl (-1), .inl (U 21 0), .inr (.inr 23)], (am_sh, am_mm (am_upd (am_upd U 22 ((U 21 0).toNat) x1) 25 ((U 21 0).toNat) (-1))))) 5 (fun _ => rfl) ?_
      refine eu_iast 23 (n := 16) rfl (by decide) rfl (fun _ => rfl) h1.1 ?_
      show Ev (am_kz N X) ((d + 1), 180, 55, [some (.inr (.inr 21)), some (.inl x1), some (.inl x2)], [], (am_sh, am_mm (am_upd (am_upd (am_upd U 22 ((U 21 0).toNat) x1) 25 ((U 21 0).toNat) (-1)) 23 ((U 21 0).toNat) (-1)))) R
      refine ev_seg (σ1 := ((d + 1), 180, 62, [some (.inr (.inr 21)), some (.inl x1), some (.inl x2)], [.inl (w32 ((U 21 0) + 1)), .inr (.inr 21)], (am_sh, am_mm (am_upd (am_upd (am_upd U 22 ((U 21 0).toNat) x1) 25 ((U 21 0).toNat) (-1)) 23 ((U 21 0).toNat) (-1))))) 5 (fun _ => rfl) ?_
      refine eu_puti 21 (n := 7) rfl (by decide) rfl rfl ?_
      show Ev (am_kz N X) ((d + 1), 180, 65, [some (.inr (.inr 21)), some (.inl x1), some (.inl x2)], [], (am_sh, am_mm (am_upd (am_upd (am_upd (am_upd U 22 ((U 21 0).toNat) x1) 25 ((U 21 0).toNat) (-1)) 23 ((U 21 0).toNat) (-1)) 21 0 (w32 ((U 21 0) + 1))))) R
      refine ev_seg (σ1 := ((d + 1), 180, 73, [some (.inr (.inr 21)), some (.inl x1), some (.inl x2)], [.inl x2, .inl (w32 ((w32 ((U 21 0) + 1)) - 1)), .inr (.inr 21)], (am_sh, am_mm (am_upd (am_upd (am_upd (am_upd U 22 ((U 21 0).toNat) x1) 25 ((U 21 0).toNat) (-1)) 23 ((U 21 0).toNat) (-1)) 21 0 (w32 ((U 21 0) + 1)))))) 6 (fun _ => rfl) ?_
      obtain ⟨U2, h1a2c, h1a2a⟩ := h1a2
      refine ev_cal (σc := (Fk_settle_21_s0 d (w32 ((w32 ((U 21 0) + 1)) - 1)) x2 (am_upd (am_upd (am_upd (am_upd U 22 ((U 21 0).toNat) x1) 25 ((U 21 0).toNat) (-1)) 23 ((U 21 0).toNat) (-1)) 21 0 (w32 ((U 21 0) + 1))))) (fun _ => rfl) h1a2c ?_
      show Ev (am_kz N X) ((d + 1), 180, 76, [some (.inr (.inr 21)), some (.inl x1), some (.inl x2)], [], (am_sh, am_mm U2)) R
      subst h1a2a
      exact ev_end 1 (fun _ => rfl)
  · have h2 := h.2 (Int.not_lt.mp hc)
    subst h2
    exact ev_end 1 (fun _ => rfl)
set_option maxRecDepth 8000 in
theorem Fk_living_21_r0 {N : Nat} {X : Nat → Int} {d : Nat} {x1 : Int} {U : am_U} {R : Option am_V × am_M} (h : (0 ≤ x1 ∧ x1 < 12) ∧ ∃ (r1 : Int) (U1 : am_U), EvK N X (In_bitCount_s0 d (U 24 x1.toNat) U) (rI r1 U1) ∧ R = rI r1 U1) : EvK N X (Fk_living_21_s0 (d + 1) x1 U) R := by
  show Ev (am_kz N X) ((d + 1), 106, 0, [some (.inr (.inr 21)), some (.inl x1)], [], (am_sh, am_mm U)) R
  refine ev_seg (σ1 := ((d + 1), 106, 5, [some (.inr (.inr 21)), some (.inl x1)], [.inl x1, .inr (.inr 24)], (am_sh, am_mm U))) 3 (fun _ => rfl) ?_
  refine eu_iald 24 (n := 12) rfl (by decide) rfl (fun _ => rfl) h.1 ?_
  show Ev (am_kz N X) ((d + 1), 106, 6, [some (.inr (.inr 21)), some (.inl x1)], [.inl (U 24 x1.toNat)], (am_sh, am_mm U)) R
  have ha := h.2
  obtain ⟨r1, U1, hac, haa⟩ := ha
  refine ev_cal (σc := (In_bitCount_s0 d (U 24 x1.toNat) U)) (fun _ => rfl) hac ?_
  show Ev (am_kz N X) ((d + 1), 106, 9, [some (.inr (.inr 21)), some (.inl x1)], [.inl r1], (am_sh, am_mm U1)) R
  subst haa
  exact ev_end 1 (fun _ => rfl)
set_option maxRecDepth 8000 in
theorem Tk_isLetter_r0 {N : Nat} {X : Nat → Int} {d : Nat} {x0 : Int} {U : am_U} {R : Option am_V × am_M} (h : ((x0 < 97) → R = rI 0 U) ∧ ((97 ≤ x0) → ((122 < x0) → R = rI 0 U) ∧ ((x0 ≤ 122) → R = rI 1 U))) : EvK N X (Tk_isLetter_s0 d x0 U) R := by
  show Ev (am_kz N X) (d, 287, 0, [some (.inl x0)], [], (am_sh, am_mm U)) R
  refine ev_br (P := x0 < 97) (σ1 := (d, 287, 16, [some (.inl x0)], [], (am_sh, am_mm U))) (σ2 := (d, 287, 6, [some (.inl x0)], [], (am_sh, am_mm U))) 3 (fun _ => rfl) (fun hc => ?_) (fun hc => ?_)
  · have h1 := h.1 hc
    subst h1
    exact ev_end 2 (fun _ => rfl)
  · have h2 := h.2 (Int.not_lt.mp hc)
    refine ev_br (P := 122 < x0) (σ1 := (d, 287, 16, [some (.inl x0)], [], (am_sh, am_mm U))) (σ2 := (d, 287, 12, [some (.inl x0)], [], (am_sh, am_mm U))) 3 (fun _ => rfl) (fun hc => ?_) (fun hc => ?_)
    · have h21 := h2.1 hc
      subst h21
      exact ev_end 2 (fun _ => rfl)
    · have h22 := h2.2 (Int.not_lt.mp hc)
      subst h22
      exact ev_end 3 (fun _ => rfl)
set_option maxRecDepth 8000 in
theorem Tk_cutRun_r0 {N : Nat} {X : Nat → Int} {d : Nat} {x2 x3 x4 : Int} {U : am_U} {R : Option am_V × am_M} (h : ((x3 ≠ (U 27 3)) → ((x4 = 0) → EvK N X (Tk_cutRun_s36 (d + 1) x2 x3 x4 9 0 x3 U) R) ∧ ((x4 ≠ 0) → EvK N X (Tk_cutRun_s36 (d + 1) x2 x3 x4 6 0 x3 U) R)) ∧ ((x3 = (U 27 3)) → ∃ (r1 : Int) (U1 : am_U), EvK N X (Tk_putBad_s0 d x3 x3 x2 U) (rI r1 U1) ∧ R = rI r1 U1)) : EvK N X (Tk_cutRun_s0 (d + 1) x2 x3 x4 U) R := by
  show Ev (am_kz N X) ((d + 1), 289, 0, [some (.inr (.inr 27)), some (.inr (.inr 2)), some (.inl x2), some (.inl x3), some (.inl x4), none, none, none], [], (am_sh, am_mm U)) R
  refine ev_br (P := ¬ x3 = (U 27 3)) (σ1 := ((d + 1), 289, 16, [some (.inr (.inr 27)), some (.inr (.inr 2)), some (.inl x2), some (.inl x3), some (.inl x4), none, none, none], [], (am_sh, am_mm U))) (σ2 := ((d + 1), 289, 8, [some (.inr (.inr 27)), some (.inr (.inr 2)), some (.inl x2), some (.inl x3), some (.inl x4), none, none, none], [], (am_sh, am_mm U))) 4 (fun _ => rfl) (fun hc => ?_) (fun hc => ?_)
  · have h1 := h.1 hc
    refine ev_br (P := x4 = 0) (σ1 := ((d + 1), 289, 26, [some (.inr (.inr 27)), some (.inr (.inr 2)), some (.inl x2), some (.inl x3), some (.inl x4), none, none, none], [], (am_sh, am_mm U))) (σ2 := ((d + 1), 289, 21, [some (.inr (.inr 27)), some (.inr (.inr 2)), some (.inl x2), some (.inl x3), some (.inl x4), none, none, none], [], (am_sh, am_mm U))) 2 (fun _ => rfl) (fun hc => ?_) (fun hc => ?_)
    · have h11 := h1.1 hc
      refine ev_seg (σ1 := ((d + 1), 289, 36, [some (.inr (.inr 27)), some (.inr (.inr 2)), some (.inl x2), some (.inl x3), some (.inl x4), some (.inl 9), some (.inl 0), some (.inl x3)], [], (am_sh, am_mm U))) 6 (fun _ => rfl) ?_
      exact h11
    · have h12 := h1.2 hc
      refine ev_seg (σ1 := ((d + 1), 289, 36, [some (.inr (.inr 27)), some (.inr (.inr 2)), some (.inl x2), some (.inl x3), some (.inl x4), some (.inl 6), some (.inl 0), some (.inl x3)], [], (am_sh, am_mm U))) 7 (fun _ => rfl) ?_
      exact h12
  · have h2 := h.2 (Decidable.not_not.mp hc)
    refine ev_seg (σ1 := ((d + 1), 289, 12, [some (.inr (.inr 27)), some (.inr (.inr 2)), some (.inl x2), some (.inl x3), some (.inl x4), none, none, none], [.inl x2, .inl x3, .inl x3, .inr (.inr 27)], (am_sh, am_mm U))) 4 (fun _ => rfl) ?_
    obtain ⟨r1, U1, h2c, h2a⟩ := h2
    refine ev_cal (σc := (Tk_putBad_s0 d x3 x3 x2 U)) (fun _ => rfl) h2c ?_
    show Ev (am_kz N X) ((d + 1), 289, 15, [some (.inr (.inr 27)), some (.inr (.inr 2)), some (.inl x2), some (.inl x3), some (.inl x4), none, none, none], [.inl r1], (am_sh, am_mm U1)) R
    subst h2a
    exact ev_end 1 (fun _ => rfl)
set_option maxRecDepth 8000 in
theorem Tk_cutRun_r36 {N : Nat} {X : Nat → Int} {d : Nat} {x2 x3 x4 x5 x6 x7 : Int} {U : am_U} {R : Option am_V × am_M} (h : ((x2 ≤ x7) → ((x4 = 0) → ∃ U1 : am_U, EvK N X (Tk_put_s0 d 3 x6 x3 U) (rV U1) ∧ R = rI x7 (am_upd U1 27 3 x7)) ∧ ((x4 ≠ 0) → ∃ U2 : am_U, EvK N X (Tk_putWord_s0 d x3 x7 x6 U) (rV U2) ∧ R = rI x7 (am_upd U2 27 3 x7))) ∧ ((x7 < x2) → ((x5 < (w32 (x7 - x3))) → ((x4 = 0) → ∃ U3 : am_U, EvK N X (Tk_put_s0 d 3 x6 x3 U) (rV U3) ∧ R = rI x7 (am_upd U3 27 3 x7)) ∧ ((x4 ≠ 0) → ∃ U4 : am_U, EvK N X (Tk_putWord_s0 d x3 x7 x6 U) (rV U4) ∧ R = rI x7 (am_upd U4 27 3 x7))) ∧ (((w32 (x7 - x3)) ≤ x5) → ((x4 = 0) → (0 ≤ x7 ∧ x7 < 1600) ∧ ∃ (r5 : Int) (U5 : am_U), EvK N X (Tk_isDigit_s0 d (U 2 x7.toNat) U) (rI r5 U5) ∧ ((r5 = 0) → ∃ U6 : am_U, EvK N X (Tk_put_s0 d 3 x6 x3 U5) (rV U6) ∧ R = rI x7 (am_upd U6 27 3 x7)) ∧ ((r5 ≠ 0) → (((w32 (x7 - x3)) ≠ x5) → EvK N X (Tk_cutRun_s36 (d + 1) x2 x3 x4 x5 (w32 ((w32 ((w32 (10 * x6)) + (U5 2 x7.toNat))) - 48)) (w32 (x7 + 1)) U5) R) ∧ (((w32 (x7 - x3)) = x5) → ∃ (r7 : Int) (U7 : am_U), EvK N X (Tk_putBad_s0 d x3 x7 x2 U5) (rI r7 U7) ∧ R = rI r7 U7))) ∧ ((x4 ≠ 0) → (0 ≤ x7 ∧ x7 < 1600) ∧ ∃ (r8 : Int) (U8 : am_U), EvK N X (Tk_isLetter_s0 d (U 2 x7.toNat) U) (rI r8 U8) ∧ ((r8 = 0) → ∃ U9 : am_U, EvK N X (Tk_putWord_s0 d x3 x7 x6 U8) (rV U9) ∧ R = rI x7 (am_upd U9 27 3 x7)) ∧ ((r8 ≠ 0) → (((w32 (x7 - x3)) ≠ x5) → EvK N X (Tk_cutRun_s36 (d + 1) x2 x3 x4 x5 (am_or x6 (am_shl (w32 ((U8 2 x7.toNat) - 96)) (w32 (25 - (w32 (5 * (w32 (x7 - x3)))))))) (w32 (x7 + 1)) U8) R) ∧ (((w32 (x7 - x3)) = x5) → ∃ (r10 : Int) (U10 : am_U), EvK N X (Tk_putBad_s0 d x3 x7 x2 U8) (rI r10 U10) ∧ R = rI r10 U10)))))) : EvK N X (Tk_cutRun_s36 (d + 1) x2 x3 x4 x5 x6 x7 U) R := by
  show Ev (am_kz N X) ((d + 1), 289, 36, [some (.inr (.inr 27)), some (.inr (.inr 2)), some (.inl x2), some (.inl x3), some (.inl x4), some (.inl x5), some (.inl x6), some (.inl x7)], [], (am_sh, am_mm U)) R
  refine ev_br (P := x2 ≤ x7) (σ1 := ((d + 1), 289, 146, [some (.inr (.inr 27)), some (.inr (.inr 2)), some (.inl x2), some (.inl x3), some (.inl x4), some (.inl x5), some (.inl x6), some (.inl x7)], [], (am_sh, am_mm U))) (σ2 := ((d + 1), 289, 42, [some (.inr (.inr 27)), some (.inr (.inr 2)), some (.inl x2), some (.inl x3), some (.inl x4), some (.inl x5), some (.inl x6), some (.inl x7)], [], (am_sh, am_mm U))) 3 (fun _ => rfl) (fun hc => ?_) (fun hc => ?_)
  · have h1 := h.1 hc
    refine ev_br (P := x4 = 0) (σ1 := ((d + 1), 289, 164, [some (.inr (.inr 27)), some (.inr (.inr 2)), some (.inl x2), some (.inl x3), some (.inl x4), some (.inl x5), some (.inl x6), some (.inl x7)], [], (am_sh, am_mm U))) (σ2 := ((d + 1), 289, 151, [some (.inr (.inr 27)), some (.inr (.inr 2)), some (.inl x2), some (.inl x3), some (.inl x4), some (.inl x5), some (.inl x6), some (.inl x7)], [], (am_sh, am_mm U))) 2 (fun _ => rfl) (fun hc => ?_) (fun hc => ?_)
    · have h11 := h1.1 hc
      refine ev_seg (σ1 := ((d + 1), 289, 169, [some (.inr (.inr 27)), some (.inr (.inr 2)), some (.inl x2), some (.inl x3), some (.inl x4), some (.inl x5), some (.inl x6), some (.inl x7)], [.inl x3, .inl x6, .inl 3, .inr (.inr 27)], (am_sh, am_mm U))) 4 (fun _ => rfl) ?_
      obtain ⟨U1, h11c, h11a⟩ := h11
      refine ev_cal (σc := (Tk_put_s0 d 3 x6 x3 U)) (fun _ => rfl) h11c ?_
      show Ev (am_kz N X) ((d + 1), 289, 172, [some (.inr (.inr 27)), some (.inr (.inr 2)), some (.inl x2), some (.inl x3), some (.inl x4), some (.inl x5), some (.inl x6), some (.inl x7)], [], (am_sh, am_mm U1)) R
      refine ev_seg (σ1 := ((d + 1), 289, 175, [some (.inr (.inr 27)), some (.inr (.inr 2)), some (.inl x2), some (.inl x3), some (.inl x4), some (.inl x5), some (.inl x6), some (.inl x7)], [.inl x7, .inr (.inr 27)], (am_sh, am_mm U1))) 2 (fun _ => rfl) ?_
      refine eu_puti 27 (n := 4) rfl (by decide) rfl rfl ?_
      show Ev (am_kz N X) ((d + 1), 289, 178, [some (.inr (.inr 27)), some (.inr (.inr 2)), some (.inl x2), some (.inl x3), some (.inl x4), some (.inl x5), some (.inl x6), some (.inl x7)], [], (am_sh, am_mm (am_upd U1 27 3 x7))) R
      subst h11a
      exact ev_end 2 (fun _ => rfl)
    · have h12 := h1.2 hc
      refine ev_seg (σ1 := ((d + 1), 289, 158, [some (.inr (.inr 27)), some (.inr (.inr 2)), some (.inl x2), some (.inl x3), some (.inl x4), some (.inl x5), some (.inl x6), some (.inl x7)], [.inl x6, .inl x7, .inl x3, .inr (.inr 2), .inr (.inr 27)], (am_sh, am_mm U))) 5 (fun _ => rfl) ?_
      obtain ⟨U2, h12c, h12a⟩ := h12
      refine ev_cal (σc := (Tk_putWord_s0 d x3 x7 x6 U)) (fun _ => rfl) h12c ?_
      show Ev (am_kz N X) ((d + 1), 289, 161, [some (.inr (.inr 27)), some (.inr (.inr 2)), some (.inl x2), some (.inl x3), some (.inl x4), some (.inl x5), some (.inl x6), some (.inl x7)], [], (am_sh, am_mm U2)) R
      refine ev_seg (σ1 := ((d + 1), 289, 175, [some (.inr (.inr 27)), some (.inr (.inr 2)), some (.inl x2), some (.inl x3), some (.inl x4), some (.inl x5), some (.inl x6), some (.inl x7)], [.inl x7, .inr (.inr 27)], (am_sh, am_mm U2))) 3 (fun _ => rfl) ?_
      refine eu_puti 27 (n := 4) rfl (by decide) rfl rfl ?_
      show Ev (am_kz N X) ((d + 1), 289, 178, [some (.inr (.inr 27)), some (.inr (.inr 2)), some (.inl x2), some (.inl x3), some (.inl x4), some (.inl x5), some (.inl x6), some (.inl x7)], [], (am_sh, am_mm (am_upd U2 27 3 x7))) R
      subst h12a
      exact ev_end 2 (fun _ => rfl)
  · have h2 := h.2 (Int.not_le.mp hc)
    refine ev_br (P := x5 < (w32 (x7 - x3))) (σ1 := ((d + 1), 289, 146, [some (.inr (.inr 27)), some (.inr (.inr 2)), some (.inl x2), some (.inl x3), some (.inl x4), some (.inl x5), some (.inl x6), some (.inl x7)], [], (am_sh, am_mm U))) (σ2 := ((d + 1), 289, 51, [some (.inr (.inr 27)), some (.inr (.inr 2)), some (.inl x2), some (.inl x3), some (.inl x4), some (.inl x5), some (.inl x6), some (.inl x7)], [], (am_sh, am_mm U))) 5 (fun _ => rfl) (fun hc => ?_) (fun hc => ?_)
    · have h21 := h2.1 hc
      refine ev_br (P := x4 = 0) (σ1 := ((d + 1), 289, 164, [some (.inr (.inr 27)), some (.inr (.inr 2)), some (.inl x2), some (.inl x3), some (.inl x4), some (.inl x5), some (.inl x6), some (.inl x7)], [], (am_sh, am_mm U))) (σ2 := ((d + 1), 289, 151, [some (.inr (.inr 27)), some (.inr (.inr 2)), some (.inl x2), some (.inl x3), some (.inl x4), some (.inl x5), some (.inl x6), some (.inl x7)], [], (am_sh, am_mm U))) 2 (fun _ => rfl) (fun hc => ?_) (fun hc => ?_)
      · have h211 := h21.1 hc
        refine ev_seg (σ1 := ((d + 1), 289, 169, [some (.inr (.inr 27)), some (.inr (.inr 2)), some (.inl x2), some (.inl x3), some (.inl x4), some (.inl x5), some (.inl x6), some (.inl x7)], [.inl x3, .inl x6, .inl 3, .inr (.inr 27)], (am_sh, am_mm U))) 4 (fun _ => rfl) ?_
        obtain ⟨U3, h211c, h211a⟩ := h211
        refine ev_cal (σc := (Tk_put_s0 d 3 x6 x3 U)) (fun _ => rfl) h211c ?_
        show Ev (am_kz N X) ((d + 1), 289, 172, [some (.inr (.inr 27)), some (.inr (.inr 2)), some (.inl x2), some (.inl x3), some (.inl x4), some (.inl x5), some (.inl x6), some (.inl x7)], [], (am_sh, am_mm U3)) R
        refine ev_seg (σ1 := ((d + 1), 289, 175, [some (.inr (.inr 27)), some (.inr (.inr 2)), some (.inl x2), some (.inl x3), some (.inl x4), some (.inl x5), some (.inl x6), some (.inl x7)], [.inl x7, .inr (.inr 27)], (am_sh, am_mm U3))) 2 (fun _ => rfl) ?_
        refine eu_puti 27 (n := 4) rfl (by decide) rfl rfl ?_
        show Ev (am_kz N X) ((d + 1), 289, 178, [some (.inr (.inr 27)), some (.inr (.inr 2)), some (.inl x2), some (.inl x3), some (.inl x4), some (.inl x5), some (.inl x6), some (.inl x7)], [], (am_sh, am_mm (am_upd U3 27 3 x7))) R
        subst h211a
        exact ev_end 2 (fun _ => rfl)
      · have h212 := h21.2 hc
        refine ev_seg (σ1 := ((d + 1), 289, 158, [some (.inr (.inr 27)), some (.inr (.inr 2)), some (.inl x2), some (.inl x3), some (.inl x4), some (.inl x5), some (.inl x6), some (.inl x7)], [.inl x6, .inl x7, .inl x3, .inr (.inr 2), .inr (.inr 27)], (am_sh, am_mm U))) 5 (fun _ => rfl) ?_
        obtain ⟨U4, h212c, h212a⟩ := h212
        refine ev_cal (σc := (Tk_putWord_s0 d x3 x7 x6 U)) (fun _ => rfl) h212c ?_
        show Ev (am_kz N X) ((d + 1), 289, 161, [some (.inr (.inr 27)), some (.inr (.inr 2)), some (.inl x2), some (.inl x3), some (.inl x4), some (.inl x5), some (.inl x6), some (.inl x7)], [], (am_sh, am_mm U4)) R
        refine ev_seg (σ1 := ((d + 1), 289, 175, [some (.inr (.inr 27)), some (.inr (.inr 2)), some (.inl x2), some (.inl x3), some (.inl x4), some (.inl x5), some (.inl x6), some (.inl x7)], [.inl x7, .inr (.inr 27)], (am_sh, am_mm U4))) 3 (fun _ => rfl) ?_
        refine eu_puti 27 (n := 4) rfl (by decide) rfl rfl ?_
        show Ev (am_kz N X) ((d + 1), 289, 178, [some (.inr (.inr 27)), some (.inr (.inr 2)), some (.inl x2), some (.inl x3), some (.inl x4), some (.inl x5), some (.inl x6), some (.inl x7)], [], (am_sh, am_mm (am_upd U4 27 3 x7))) R
        subst h212a
        exact ev_end 2 (fun _ => rfl)
    · have h22 := h2.2 (Int.not_lt.mp hc)
      refine ev_br (P := x4 = 0) (σ1 := ((d + 1), 289, 69, [some (.inr (.inr 27)), some (.inr (.inr 2)), some (.inl x2), some (.inl x3), some (.inl x4), some (.inl x5), some (.inl x6), some (.inl x7)], [], (am_sh, am_mm U))) (σ2 := ((d + 1), 289, 56, [some (.inr (.inr 27)), some (.inr (.inr 2)), some (.inl x2), some (.inl x3), some (.inl x4), some (.inl x5), some (.inl x6), some (.inl x7)], [], (am_sh, am_mm U))) 2 (fun _ => rfl) (fun hc => ?_) (fun hc => ?_)
      · have h221 := h22.1 hc
        have h22q := hc
        refine ev_seg (σ1 := ((d + 1), 289, 72, [some (.inr (.inr 27)), some (.inr (.inr 2)), some (.inl x2), some (.inl x3), some (.inl x4), some (.inl x5), some (.inl x6), some (.inl x7)], [.inl x7, .inr (.inr 2)], (am_sh, am_mm U))) 2 (fun _ => rfl) ?_
        refine eu_iald 2 (n := 1600) rfl (by decide) rfl (fun _ => rfl) h221.1 ?_
        show Ev (am_kz N X) ((d + 1), 289, 73, [some (.inr (.inr 27)), some (.inr (.inr 2)), some (.inl x2), some (.inl x3), some (.inl x4), some (.inl x5), some (.inl x6), some (.inl x7)], [.inl (U 2 x7.toNat)], (am_sh, am_mm U)) R
        have h221a := h221.2
        obtain ⟨r5, U5, h221ac, h221aa⟩ := h221a
        refine ev_cal (σc := (Tk_isDigit_s0 d (U 2 x7.toNat) U)) (fun _ => rfl) h221ac ?_
        show Ev (am_kz N X) ((d + 1), 289, 76, [some (.inr (.inr 27)), some (.inr (.inr 2)), some (.inl x2), some (.inl x3), some (.inl x4), some (.inl x5), some (.inl x6), some (.inl x7)], [.inl r5], (am_sh, am_mm U5)) R
        refine ev_br (P := r5 = 0) (σ1 := ((d + 1), 289, 146, [some (.inr (.inr 27)), some (.inr (.inr 2)), some (.inl x2), some (.inl x3), some (.inl x4), some (.inl x5), some (.inl x6), some (.inl x7)], [], (am_sh, am_mm U5))) (σ2 := ((d + 1), 289, 79, [some (.inr (.inr 27)), some (.inr (.inr 2)), some (.inl x2), some (.inl x3), some (.inl x4), some (.inl x5), some (.inl x6), some (.inl x7)], [], (am_sh, am_mm U5))) 1 (fun _ => rfl) (fun hc => ?_) (fun hc => ?_)
        · have h221aa1 := h221aa.1 hc
          refine ev_br (P := x4 = 0) (σ1 := ((d + 1), 289, 164, [some (.inr (.inr 27)), some (.inr (.inr 2)), some (.inl x2), some (.inl x3), some (.inl x4), some (.inl x5), some (.inl x6), some (.inl x7)], [], (am_sh, am_mm U5))) (σ2 := ((d + 1), 289, 151, [some (.inr (.inr 27)), some (.inr (.inr 2)), some (.inl x2), some (.inl x3), some (.inl x4), some (.inl x5), some (.inl x6), some (.inl x7)], [], (am_sh, am_mm U5))) 2 (fun _ => rfl) (fun hc => ?_) (fun hc => absurd h22q (fun h0 => by have h1 := hc; omega))
          refine ev_seg (σ1 := ((d + 1), 289, 169, [some (.inr (.inr 27)), some (.inr (.inr 2)), some (.inl x2), some (.inl x3), some (.inl x4), some (.inl x5), some (.inl x6), some (.inl x7)], [.inl x3, .inl x6, .inl 3, .inr (.inr 27)], (am_sh, am_mm U5))) 4 (fun _ => rfl) ?_
          obtain ⟨U6, h221aa1c, h221aa1a⟩ := h221aa1
          refine ev_cal (σc := (Tk_put_s0 d 3 x6 x3 U5)) (fun _ => rfl) h221aa1c ?_
          show Ev (am_kz N X) ((d + 1), 289, 172, [some (.inr (.inr 27)), some (.inr (.inr 2)), some (.inl x2), some (.inl x3), some (.inl x4), some (.inl x5), some (.inl x6), some (.inl x7)], [], (am_sh, am_mm U6)) R
          refine ev_seg (σ1 := ((d + 1), 289, 175, [some (.inr (.inr 27)), some (.inr (.inr 2)), some (.inl x2), some (.inl x3), some (.inl x4), some (.inl x5), some (.inl x6), some (.inl x7)], [.inl x7, .inr (.inr 27)], (am_sh, am_mm U6))) 2 (fun _ => rfl) ?_
          refine eu_puti 27 (n := 4) rfl (by decide) rfl rfl ?_
          show Ev (am_kz N X) ((d + 1), 289, 178, [some (.inr (.inr 27)), some (.inr (.inr 2)), some (.inl x2), some (.inl x3), some (.inl x4), some (.inl x5), some (.inl x6), some (.inl x7)], [], (am_sh, am_mm (am_upd U6 27 3 x7))) R
          subst h221aa1a
          exact ev_end 2 (fun _ => rfl)
        · have h221aa2 := h221aa.2 hc
          refine ev_br (P := ¬ (w32 (x7 - x3)) = x5) (σ1 := ((d + 1), 289, 97, [some (.inr (.inr 27)), some (.inr (.inr 2)), some (.inl x2), some (.inl x3), some (.inl x4), some (.inl x5), some (.inl x6), some (.inl x7)], [], (am_sh, am_mm U5))) (σ2 := ((d + 1), 289, 88, [some (.inr (.inr 27)), some (.inr (.inr 2)), some (.inl x2), some (.inl x3), some (.inl x4), some (.inl x5), some (.inl x6), some (.inl x7)], [], (am_sh, am_mm U5))) 5 (fun _ => rfl) (fun hc => ?_) (fun hc => ?_)
          · have h221aa21 := h221aa2.1 hc
            refine ev_br (P := x4 = 0) (σ1 := ((d + 1), 289, 125, [some (.inr (.inr 27)), some (.inr (.inr 2)), some (.inl x2), some (.inl x3), some (.inl x4), some (.inl x5), some (.inl x6), some (.inl x7)], [], (am_sh, am_mm U5))) (σ2 := ((d + 1), 289, 102, [some (.inr (.inr 27)), some (.inr (.inr 2)), some (.inl x2), some (.inl x3), some (.inl x4), some (.inl x5), some (.inl x6), some (.inl x7)], [], (am_sh, am_mm U5))) 2 (fun _ => rfl) (fun hc => ?_) (fun hc => absurd h22q (fun h0 => by have h1 := hc; omega))
            refine ev_seg (σ1 := ((d + 1), 289, 133, [some (.inr (.inr 27)), some (.inr (.inr 2)), some (.inl x2), some (.inl x3), some (.inl x4), some (.inl x5), some (.inl x6), some (.inl x7)], [.inl x7, .inr (.inr 2), .inl (w32 (10 * x6))], (am_sh, am_mm U5))) 5 (fun _ => rfl) ?_
            refine eu_iald 2 (n := 1600) rfl (by decide) rfl (fun _ => rfl) h221.1 ?_
            show Ev (am_kz N X) ((d + 1), 289, 134, [some (.inr (.inr 27)), some (.inr (.inr 2)), some (.inl x2), some (.inl x3), some (.inl x4), some (.inl x5), some (.inl x6), some (.inl x7)], [.inl (U5 2 x7.toNat), .inl (w32 (10 * x6))], (am_sh, am_mm U5)) R
            refine ev_seg (σ1 := ((d + 1), 289, 36, [some (.inr (.inr 27)), some (.inr (.inr 2)), some (.inl x2), some (.inl x3), some (.inl x4), some (.inl x5), some (.inl (w32 ((w32 ((w32 (10 * x6)) + (U5 2 x7.toNat))) - 48))), some (.inl (w32 (x7 + 1)))], [], (am_sh, am_mm U5))) 6 (fun _ => rfl) ?_
            exact h221aa21
          · have h221aa22 := h221aa2.2 (Decidable.not_not.mp hc)
            refine ev_seg (σ1 := ((d + 1), 289, 93, [some (.inr (.inr 27)), some (.inr (.inr 2)), some (.inl x2), some (.inl x3), some (.inl x4), some (.inl x5), some (.inl x6), some (.inl x7)], [.inl x2, .inl x7, .inl x3, .inr (.inr 27)], (am_sh, am_mm U5))) 4 (fun _ => rfl) ?_
            obtain ⟨r7, U7, h221aa22c, h221aa22a⟩ := h221aa22
            refine ev_cal (σc := (Tk_putBad_s0 d x3 x7 x2 U5)) (fun _ => rfl) h221aa22c ?_
            show Ev (am_kz N X) ((d + 1), 289, 96, [some (.inr (.inr 27)), some (.inr (.inr 2)), some (.inl x2), some (.inl x3), some (.inl x4), some (.inl x5), some (.inl x6), some (.inl x7)], [.inl r7], (am_sh, am_mm U7)) R
            subst h221aa22a
            exact ev_end 1 (fun _ => rfl)
      · have h222 := h22.2 hc
        have h22q := hc
        refine ev_seg (σ1 := ((d + 1), 289, 59, [some (.inr (.inr 27)), some (.inr (.inr 2)), some (.inl x2), some (.inl x3), some (.inl x4), some (.inl x5), some (.inl x6), some (.inl x7)], [.inl x7, .inr (.inr 2)], (am_sh, am_mm U))) 2 (fun _ => rfl) ?_
        refine eu_iald 2 (n := 1600) rfl (by decide) rfl (fun _ => rfl) h222.1 ?_
        show Ev (am_kz N X) ((d + 1), 289, 60, [some (.inr (.inr 27)), some (.inr (.inr 2)), some (.inl x2), some (.inl x3), some (.inl x4), some (.inl x5), some (.inl x6), some (.inl x7)], [.inl (U 2 x7.toNat)], (am_sh, am_mm U)) R
        have h222a := h222.2
        obtain ⟨r8, U8, h222ac, h222aa⟩ := h222a
        refine ev_cal (σc := (Tk_isLetter_s0 d (U 2 x7.toNat) U)) (fun _ => rfl) h222ac ?_
        show Ev (am_kz N X) ((d + 1), 289, 63, [some (.inr (.inr 27)), some (.inr (.inr 2)), some (.inl x2), some (.inl x3), some (.inl x4), some (.inl x5), some (.inl x6), some (.inl x7)], [.inl r8], (am_sh, am_mm U8)) R
        refine ev_br (P := r8 = 0) (σ1 := ((d + 1), 289, 146, [some (.inr (.inr 27)), some (.inr (.inr 2)), some (.inl x2), some (.inl x3), some (.inl x4), some (.inl x5), some (.inl x6), some (.inl x7)], [], (am_sh, am_mm U8))) (σ2 := ((d + 1), 289, 66, [some (.inr (.inr 27)), some (.inr (.inr 2)), some (.inl x2), some (.inl x3), some (.inl x4), some (.inl x5), some (.inl x6), some (.inl x7)], [], (am_sh, am_mm U8))) 1 (fun _ => rfl) (fun hc => ?_) (fun hc => ?_)
        · have h222aa1 := h222aa.1 hc
          refine ev_br (P := x4 = 0) (σ1 := ((d + 1), 289, 164, [some (.inr (.inr 27)), some (.inr (.inr 2)), some (.inl x2), some (.inl x3), some (.inl x4), some (.inl x5), some (.inl x6), some (.inl x7)], [], (am_sh, am_mm U8))) (σ2 := ((d + 1), 289, 151, [some (.inr (.inr 27)), some (.inr (.inr 2)), some (.inl x2), some (.inl x3), some (.inl x4), some (.inl x5), some (.inl x6), some (.inl x7)], [], (am_sh, am_mm U8))) 2 (fun _ => rfl) (fun hc => absurd h22q (fun h0 => by have h1 := hc; omega)) (fun hc => ?_)
          refine ev_seg (σ1 := ((d + 1), 289, 158, [some (.inr (.inr 27)), some (.inr (.inr 2)), some (.inl x2), some (.inl x3), some (.inl x4), some (.inl x5), some (.inl x6), some (.inl x7)], [.inl x6, .inl x7, .inl x3, .inr (.inr 2), .inr (.inr 27)], (am_sh, am_mm U8))) 5 (fun _ => rfl) ?_
          obtain ⟨U9, h222aa1c, h222aa1a⟩ := h222aa1
          refine ev_cal (σc := (Tk_putWord_s0 d x3 x7 x6 U8)) (fun _ => rfl) h222aa1c ?_
          show Ev (am_kz N X) ((d + 1), 289, 161, [some (.inr (.inr 27)), some (.inr (.inr 2)), some (.inl x2), some (.inl x3), some (.inl x4), some (.inl x5), some (.inl x6), some (.inl x7)], [], (am_sh, am_mm U9)) R
          refine ev_seg (σ1 := ((d + 1), 289, 175, [some (.inr (.inr 27)), some (.inr (.inr 2)), some (.inl x2), some (.inl x3), some (.inl x4), some (.inl x5), some (.inl x6), some (.inl x7)], [.inl x7, .inr (.inr 27)], (am_sh, am_mm U9))) 3 (fun _ => rfl) ?_
          refine eu_puti 27 (n := 4) rfl (by decide) rfl rfl ?_
          show Ev (am_kz N X) ((d + 1), 289, 178, [some (.inr (.inr 27)), some (.inr (.inr 2)), some (.inl x2), some (.inl x3), some (.inl x4), some (.inl x5), some (.inl x6), some (.inl x7)], [], (am_sh, am_mm (am_upd U9 27 3 x7))) R
          subst h222aa1a
          exact ev_end 2 (fun _ => rfl)
        · have h222aa2 := h222aa.2 hc
          refine ev_br (P := ¬ (w32 (x7 - x3)) = x5) (σ1 := ((d + 1), 289, 97, [some (.inr (.inr 27)), some (.inr (.inr 2)), some (.inl x2), some (.inl x3), some (.inl x4), some (.inl x5), some (.inl x6), some (.inl x7)], [], (am_sh, am_mm U8))) (σ2 := ((d + 1), 289, 88, [some (.inr (.inr 27)), some (.inr (.inr 2)), some (.inl x2), some (.inl x3), some (.inl x4), some (.inl x5), some (.inl x6), some (.inl x7)], [], (am_sh, am_mm U8))) 6 (fun _ => rfl) (fun hc => ?_) (fun hc => ?_)
          · have h222aa21 := h222aa2.1 hc
            refine ev_br (P := x4 = 0) (σ1 := ((d + 1), 289, 125, [some (.inr (.inr 27)), some (.inr (.inr 2)), some (.inl x2), some (.inl x3), some (.inl x4), some (.inl x5), some (.inl x6), some (.inl x7)], [], (am_sh, am_mm U8))) (σ2 := ((d + 1), 289, 102, [some (.inr (.inr 27)), some (.inr (.inr 2)), some (.inl x2), some (.inl x3), some (.inl x4), some (.inl x5), some (.inl x6), some (.inl x7)], [], (am_sh, am_mm U8))) 2 (fun _ => rfl) (fun hc => absurd h22q (fun h0 => by have h1 := hc; omega)) (fun hc => ?_)
            refine ev_seg (σ1 := ((d + 1), 289, 107, [some (.inr (.inr 27)), some (.inr (.inr 2)), some (.inl x2), some (.inl x3), some (.inl x4), some (.inl x5), some (.inl x6), some (.inl x7)], [.inl x7, .inr (.inr 2), .inl x6], (am_sh, am_mm U8))) 3 (fun _ => rfl) ?_
            refine eu_iald 2 (n := 1600) rfl (by decide) rfl (fun _ => rfl) h222.1 ?_
            show Ev (am_kz N X) ((d + 1), 289, 108, [some (.inr (.inr 27)), some (.inr (.inr 2)), some (.inl x2), some (.inl x3), some (.inl x4), some (.inl x5), some (.inl x6), some (.inl x7)], [.inl (U8 2 x7.toNat), .inl x6], (am_sh, am_mm U8)) R
            refine ev_seg (σ1 := ((d + 1), 289, 36, [some (.inr (.inr 27)), some (.inr (.inr 2)), some (.inl x2), some (.inl x3), some (.inl x4), some (.inl x5), some (.inl (am_or x6 (am_shl (w32 ((U8 2 x7.toNat) - 96)) (w32 (25 - (w32 (5 * (w32 (x7 - x3))))))))), some (.inl (w32 (x7 + 1)))], [], (am_sh, am_mm U8))) 15 (fun _ => rfl) ?_
            exact h222aa21
          · have h222aa22 := h222aa2.2 (Decidable.not_not.mp hc)
            refine ev_seg (σ1 := ((d + 1), 289, 93, [some (.inr (.inr 27)), some (.inr (.inr 2)), some (.inl x2), some (.inl x3), some (.inl x4), some (.inl x5), some (.inl x6), some (.inl x7)], [.inl x2, .inl x7, .inl x3, .inr (.inr 27)], (am_sh, am_mm U8))) 4 (fun _ => rfl) ?_
            obtain ⟨r10, U10, h222aa22c, h222aa22a⟩ := h222aa22
            refine ev_cal (σc := (Tk_putBad_s0 d x3 x7 x2 U8)) (fun _ => rfl) h222aa22c ?_
            show Ev (am_kz N X) ((d + 1), 289, 96, [some (.inr (.inr 27)), some (.inr (.inr 2)), some (.inl x2), some (.inl x3), some (.inl x4), some (.inl x5), some (.inl x6), some (.inl x7)], [.inl r10], (am_sh, am_mm U10)) R
            subst h222aa22a
            exact ev_end 1 (fun _ => rfl)
