set_option maxRecDepth 8000 in
theorem M_rent_r0 {N : Nat} {X : Nat → Int} {d : Nat} {x1 x2 : Int} {U : am_U} {R : Option am_V × am_M} (h : ∃ (r1 : Int) (U1 : am_U), EvK N X (M_isHouse_s0 d x1 U) (rI r1 U1) ∧ ((r1 ≠ 0) → ∃ (r2 : Int) (U2 : am_U), EvK N X (M_living_s0 d 0 x1 U1) (rI r2 U2) ∧ ((r2 ≠ 0) → EvK N X (M_rent_s37 (d + 1) x1 x2 0 (am_upd (am_upd U2 133 0 1) 86 80 1)) R) ∧ ((r2 = 0) → EvK N X (M_rent_s37 (d + 1) x1 x2 0 (am_upd (am_upd U2 133 0 0) 86 80 1)) R)) ∧ ((r1 = 0) → R = rI (-1) U1)) : EvK N X (M_rent_s0 (d + 1) x1 x2 U) R := by
  show Ev (am_kz N X) ((d + 1), 56, 0, [some (.inr (.inr 86)), some (.inl x1), some (.inl x2), none], [], (am_sh, am_mm U)) R
  refine ev_seg (σ1 := ((d + 1), 56, 2, [some (.inr (.inr 86)), some (.inl x1), some (.inl x2), none], [.inl x1, .inr (.inr 86)], (am_sh, am_mm U))) 2 (fun _ => rfl) ?_
  obtain ⟨r1, U1, hc, ha⟩ := h
  refine ev_cal (σc := (M_isHouse_s0 d x1 U)) (fun _ => rfl) hc ?_
  show Ev (am_kz N X) ((d + 1), 56, 5, [some (.inr (.inr 86)), some (.inl x1), some (.inl x2), none], [.inl r1], (am_sh, am_mm U1)) R
  refine ev_br (P := ¬ r1 = 0) (σ1 := ((d + 1), 56, 10, [some (.inr (.inr 86)), some (.inl x1), some (.inl x2), none], [], (am_sh, am_mm U1))) (σ2 := ((d + 1), 56, 8, [some (.inr (.inr 86)), some (.inl x1), some (.inl x2), none], [], (am_sh, am_mm U1))) 1 (fun _ => rfl) (fun hc => ?_) (fun hc => ?_)
  · have ha1 := ha.1 hc
    refine ev_seg (σ1 := ((d + 1), 56, 18, [some (.inr (.inr 86)), some (.inl x1), some (.inl x2), none], [.inl x1, .inl 0, .inr (.inr 86), .inl 0, .inr (.inr 133)], (am_sh, am_mm U1))) 6 (fun _ => rfl) ?_
    obtain ⟨r2, U2, ha1c, ha1a⟩ := ha1
    refine ev_cal (σc := (M_living_s0 d 0 x1 U1)) (fun _ => rfl) ha1c ?_
    show Ev (am_kz N X) ((d + 1), 56, 21, [some (.inr (.inr 86)), some (.inl x1), some (.inl x2), none], [.inl r2, .inl 0, .inr (.inr 133)], (am_sh, am_mm U2)) R
    refine ev_br (P := ¬ r2 = 0) (σ1 := ((d + 1), 56, 28, [some (.inr (.inr 86)), some (.inl x1), some (.inl x2), none], [.inl 0, .inr (.inr 133)], (am_sh, am_mm U2))) (σ2 := ((d + 1), 56, 24, [some (.inr (.inr 86)), some (.inl x1), some (.inl x2), none], [.inl 0, .inr (.inr 133)], (am_sh, am_mm U2))) 1 (fun _ => rfl) (fun hc => ?_) (fun hc => ?_)
    · have ha1a1 := ha1a.1 hc
      refine ev_seg (σ1 := ((d + 1), 56, 29, [some (.inr (.inr 86)), some (.inl x1), some (.inl x2), none], [.inl 1, .inl 0, .inr (.inr 133)], (am_sh, am_mm U2))) 1 (fun _ => rfl) ?_
      refine eu_iast 133 (n := 80) rfl (by decide) rfl (fun _ => rfl) (by decide) ?_
      show Ev (am_kz N X) ((d + 1), 56, 30, [some (.inr (.inr 86)), some (.inl x1), some (.inl x2), none], [], (am_sh, am_mm (am_upd U2 133 0 1))) R
      refine ev_seg (σ1 := ((d + 1), 56, 32, [some (.inr (.inr 86)), some (.inl x1), some (.inl x2), none], [.inl 1, .inr (.inr 86)], (am_sh, am_mm (am_upd U2 133 0 1)))) 2 (fun _ => rfl) ?_
      refine eu_puti 86 (n := 90) rfl (by decide) rfl rfl ?_
      show Ev (am_kz N X) ((d + 1), 56, 35, [some (.inr (.inr 86)), some (.inl x1), some (.inl x2), none], [], (am_sh, am_mm (am_upd (am_upd U2 133 0 1) 86 80 1))) R
      refine ev_seg (σ1 := ((d + 1), 56, 37, [some (.inr (.inr 86)), some (.inl x1), some (.inl x2), some (.inl 0)], [], (am_sh, am_mm (am_upd (am_upd U2 133 0 1) 86 80 1)))) 2 (fun _ => rfl) ?_
      exact ha1a1
    · have ha1a2 := ha1a.2 (Decidable.not_not.mp hc)
      refine ev_seg (σ1 := ((d + 1), 56, 29, [some (.inr (.inr 86)), some (.inl x1), some (.inl x2), none], [.inl 0, .inl 0, .inr (.inr 133)], (am_sh, am_mm U2))) 2 (fun _ => rfl) ?_
      refine eu_iast 133 (n := 80) rfl (by decide) rfl (fun _ => rfl) (by decide) ?_
      show Ev (am_kz N X) ((d + 1), 56, 30, [some (.inr (.inr 86)), some (.inl x1), some (.inl x2), none], [], (am_sh, am_mm (am_upd U2 133 0 0))) R
      refine ev_seg (σ1 := ((d + 1), 56, 32, [some (.inr (.inr 86)), some (.inl x1), some (.inl x2), none], [.inl 1, .inr (.inr 86)], (am_sh, am_mm (am_upd U2 133 0 0)))) 2 (fun _ => rfl) ?_
      refine eu_puti 86 (n := 90) rfl (by decide) rfl rfl ?_
      show Ev (am_kz N X) ((d + 1), 56, 35, [some (.inr (.inr 86)), some (.inl x1), some (.inl x2), none], [], (am_sh, am_mm (am_upd (am_upd U2 133 0 0) 86 80 1))) R
      refine ev_seg (σ1 := ((d + 1), 56, 37, [some (.inr (.inr 86)), some (.inl x1), some (.inl x2), some (.inl 0)], [], (am_sh, am_mm (am_upd (am_upd U2 133 0 0) 86 80 1)))) 2 (fun _ => rfl) ?_
      exact ha1a2
  · have ha2 := ha.2 (Decidable.not_not.mp hc)
    subst ha2
    exact ev_end 2 (fun _ => rfl)
set_option maxRecDepth 8000 in
theorem M_rent_r37 {N : Nat} {X : Nat → Int} {d : Nat} {x1 x2 x3 : Int} {U : am_U} {R : Option am_V × am_M} (h : (((U 122 0) ≤ x3) → ((x2 ≠ (-1)) → ∃ (r1 : Int) (U1 : am_U), EvK N X (M_is_s0 d x2 0 (w32 ((U 86 80) - 1)) U) (rI r1 U1) ∧ ((r1 = 0) → R = rI (-1) U1) ∧ ((r1 ≠ 0) → (0 ≤ x2 ∧ x2 < 80) ∧ R = rI (U1 133 x2.toNat) U1)) ∧ ((x2 = (-1)) → R = rI (U 86 80) U)) ∧ ((x3 < (U 122 0)) → (0 ≤ x3 ∧ x3 < 352) ∧ (((U 124 x3.toNat) ≠ x1) → EvK N X (M_rent_s37 (d + 1) x1 x2 (w32 (x3 + 1)) U) R) ∧ (((U 124 x3.toNat) = x1) → ∃ (r2 : Int) (U2 : am_U), EvK N X (M_sizeOf_s0 d x3 U) (rJ r2 U2) ∧ ∃ U3 : am_U, EvK N X (M_timesBig_s0 d r2 U2) (rV U3) ∧ EvK N X (M_rent_s37 (d + 1) x1 x2 (w32 (x3 + 1)) U3) R))) : EvK N X (M_rent_s37 (d + 1) x1 x2 x3 U) R := by
  show Ev (am_kz N X) ((d + 1), 56, 37, [some (.inr (.inr 86)), some (.inl x1), some (.inl x2), some (.inl x3)], [], (am_sh, am_mm U)) R
  refine ev_seg (σ1 := ((d + 1), 56, 43, [some (.inr (.inr 86)), some (.inl x1), some (.inl x2), some (.inl x3)], [.inl 0, .inr (.inr 122), .inl x3], (am_sh, am_mm U))) 4 (fun _ => rfl) ?_
  refine eu_iald 122 (n := 22) rfl (by decide) rfl (fun _ => rfl) (by decide) ?_
  show Ev (am_kz N X) ((d + 1), 56, 44, [some (.inr (.inr 86)), some (.inl x1), some (.inl x2), some (.inl x3)], [.inl (U 122 0), .inl x3], (am_sh, am_mm U)) R
  refine ev_br (P := (U 122 0) ≤ x3) (σ1 := ((d + 1), 56, 72, [some (.inr (.inr 86)), some (.inl x1), some (.inl x2), some (.inl x3)], [], (am_sh, am_mm U))) (σ2 := ((d + 1), 56, 47, [some (.inr (.inr 86)), some (.inl x1), some (.inl x2), some (.inl x3)], [], (am_sh, am_mm U))) 1 (fun _ => rfl) (fun hc => ?_) (fun hc => ?_)
  · have h1 := h.1 hc
    refine ev_br (P := ¬ x2 = (-1)) (σ1 := ((d + 1), 56, 84, [some (.inr (.inr 86)), some (.inl x1), some (.inl x2), some (.inl x3)], [], (am_sh, am_mm U))) (σ2 := ((d + 1), 56, 77, [some (.inr (.inr 86)), some (.inl x1), some (.inl x2), some (.inl x3)], [], (am_sh, am_mm U))) 3 (fun _ => rfl) (fun hc => ?_) (fun hc => ?_)
    · have h11 := h1.1 hc
      refine ev_seg (σ1 := ((d + 1), 56, 92, [some (.inr (.inr 86)), some (.inl x1), some (.inl x2), some (.inl x3)], [.inl (w32 ((U 86 80) - 1)), .inl 0, .inl x2], (am_sh, am_mm U))) 6 (fun _ => rfl) ?_
      obtain ⟨r1, U1, h11c, h11a⟩ := h11
      refine ev_cal (σc := (M_is_s0 d x2 0 (w32 ((U 86 80) - 1)) U)) (fun _ => rfl) h11c ?_
      show Ev (am_kz N X) ((d + 1), 56, 95, [some (.inr (.inr 86)), some (.inl x1), some (.inl x2), some (.inl x3)], [.inl r1], (am_sh, am_mm U1)) R
      refine ev_br (P := r1 = 0) (σ1 := ((d + 1), 56, 107, [some (.inr (.inr 86)), some (.inl x1), some (.inl x2), some (.inl x3)], [], (am_sh, am_mm U1))) (σ2 := ((d + 1), 56, 98, [some (.inr (.inr 86)), some (.inl x1), some (.inl x2), some (.inl x3)], [], (am_sh, am_mm U1))) 1 (fun _ => rfl) (fun hc => ?_) (fun hc => ?_)
      · have h11a1 := h11a.1 hc
        subst h11a1
        exact ev_end 2 (fun _ => rfl)
      · have h11a2 := h11a.2 hc
        refine ev_seg (σ1 := ((d + 1), 56, 103, [some (.inr (.inr 86)), some (.inl x1), some (.inl x2), some (.inl x3)], [.inl x2, .inr (.inr 133)], (am_sh, am_mm U1))) 3 (fun _ => rfl) ?_
        refine eu_iald 133 (n := 80) rfl (by decide) rfl (fun _ => rfl) h11a2.1 ?_
        show Ev (am_kz N X) ((d + 1), 56, 104, [some (.inr (.inr 86)), some (.inl x1), some (.inl x2), some (.inl x3)], [.inl (U1 133 x2.toNat)], (am_sh, am_mm U1)) R
        have h11a2a := h11a2.2
        subst h11a2a
        exact ev_end 2 (fun _ => rfl)
    · have h12 := h1.2 (Decidable.not_not.mp hc)
      subst h12
      exact ev_end 4 (fun _ => rfl)
  · have h2 := h.2 (Int.not_le.mp hc)
    refine ev_seg (σ1 := ((d + 1), 56, 52, [some (.inr (.inr 86)), some (.inl x1), some (.inl x2), some (.inl x3)], [.inl x3, .inr (.inr 124)], (am_sh, am_mm U))) 3 (fun _ => rfl) ?_
    refine eu_iald 124 (n := 352) rfl (by decide) rfl (fun _ => rfl) h2.1 ?_
    show Ev (am_kz N X) ((d + 1), 56, 53, [some (.inr (.inr 86)), some (.inl x1), some (.inl x2), some (.inl x3)], [.inl (U 124 x3.toNat)], (am_sh, am_mm U)) R
    have h2a := h2.2
    refine ev_br (P := ¬ (U 124 x3.toNat) = x1) (σ1 := ((d + 1), 56, 66, [some (.inr (.inr 86)), some (.inl x1), some (.inl x2), some (.inl x3)], [], (am_sh, am_mm U))) (σ2 := ((d + 1), 56, 57, [some (.inr (.inr 86)), some (.inl x1), some (.inl x2), some (.inl x3)], [], (am_sh, am_mm U))) 2 (fun _ => rfl) (fun hc => ?_) (fun hc => ?_)
    · have h2a1 := h2a.1 hc
      refine ev_seg (σ1 := ((d + 1), 56, 37, [some (.inr (.inr 86)), some (.inl x1), some (.inl x2), some (.inl (w32 (x3 + 1)))], [], (am_sh, am_mm U))) 2 (fun _ => rfl) ?_
      exact h2a1
    · have h2a2 := h2a.2 (Decidable.not_not.mp hc)
      refine ev_seg (σ1 := ((d + 1), 56, 60, [some (.inr (.inr 86)), some (.inl x1), some (.inl x2), some (.inl x3)], [.inl x3, .inr (.inr 86), .inr (.inr 86)], (am_sh, am_mm U))) 3 (fun _ => rfl) ?_
      obtain ⟨r2, U2, h2a2c, h2a2a⟩ := h2a2
      refine ev_cal (σc := (M_sizeOf_s0 d x3 U)) (fun _ => rfl) h2a2c ?_
      show Ev (am_kz N X) ((d + 1), 56, 63, [some (.inr (.inr 86)), some (.inl x1), some (.inl x2), some (.inl x3)], [.inr (.inl r2), .inr (.inr 86)], (am_sh, am_mm U2)) R
      obtain ⟨U3, h2a2ac, h2a2aa⟩ := h2a2a
      refine ev_cal (σc := (M_timesBig_s0 d r2 U2)) (fun _ => rfl) h2a2ac ?_
      show Ev (am_kz N X) ((d + 1), 56, 66, [some (.inr (.inr 86)), some (.inl x1), some (.inl x2), some (.inl x3)], [], (am_sh, am_mm U3)) R
      refine ev_seg (σ1 := ((d + 1), 56, 37, [some (.inr (.inr 86)), some (.inl x1), some (.inl x2), some (.inl (w32 (x3 + 1)))], [], (am_sh, am_mm U3))) 2 (fun _ => rfl) ?_
      exact h2a2aa
set_option maxRecDepth 8000 in
theorem D_net_r0 {N : Nat} {X : Nat → Int} {d : Nat} {x1 : Int} {U : am_U} {R : Option am_V × am_M} (h : ∃ (r1 : Int) (U1 : am_U), EvK N X (D_isHouse_s0 d x1 U) (rI r1 U1) ∧ ((r1 = 0) → R = rI (-1000000000) U1) ∧ ((r1 ≠ 0) → (0 ≤ x1 ∧ x1 < 12) ∧ R = rI (U1 10 x1.toNat) U1)) : EvK N X (D_net_s0 (d + 1) x1 U) R := by
  show Ev (am_kz N X) ((d + 1), 57, 0, [some (.inr (.inr 1)), some (.inl x1)], [], (am_sh, am_mm U)) R
  refine ev_seg (σ1 := ((d + 1), 57, 2, [some (.inr (.inr 1)), some (.inl x1)], [.inl x1, .inr (.inr 1)], (am_sh, am_mm U))) 2 (fun _ => rfl) ?_
  obtain ⟨r1, U1, hc, ha⟩ := h
  refine ev_cal (σc := (D_isHouse_s0 d x1 U)) (fun _ => rfl) hc ?_
  show Ev (am_kz N X) ((d + 1), 57, 5, [some (.inr (.inr 1)), some (.inl x1)], [.inl r1], (am_sh, am_mm U1)) R
  refine ev_br (P := r1 = 0) (σ1 := ((d + 1), 57, 20, [some (.inr (.inr 1)), some (.inl x1)], [], (am_sh, am_mm U1))) (σ2 := ((d + 1), 57, 8, [some (.inr (.inr 1)), some (.inl x1)], [], (am_sh, am_mm U1))) 1 (fun _ => rfl) (fun hc => ?_) (fun hc => ?_)
  · have ha1 := ha.1 hc
    subst ha1
    exact ev_end 2 (fun _ => rfl)
  · have ha2 := ha.2 hc
    refine ev_seg (σ1 := ((d + 1), 57, 16, [some (.inr (.inr 1)), some (.inl x1)], [.inl x1, .inr (.inr 10)], (am_sh, am_mm U1))) 4 (fun _ => rfl) ?_
    refine eu_iald 10 (n := 12) rfl (by decide) rfl (fun _ => rfl) ha2.1 ?_
    show Ev (am_kz N X) ((d + 1), 57, 17, [some (.inr (.inr 1)), some (.inl x1)], [.inl (U1 10 x1.toNat)], (am_sh, am_mm U1)) R
    have ha2a := ha2.2
    subst ha2a
    exact ev_end 2 (fun _ => rfl)
set_option maxRecDepth 8000 in
theorem M_net_r0 {N : Nat} {X : Nat → Int} {d : Nat} {x1 : Int} {U : am_U} {R : Option am_V × am_M} (h : ∃ (r1 : Int) (U1 : am_U), EvK N X (M_isHouse_s0 d x1 U) (rI r1 U1) ∧ ((r1 = 0) → R = rI (-1000000000) U1) ∧ ((r1 ≠ 0) → ∃ (r2 : Int) (U2 : am_U), EvK N X (M_netOf_s0 d x1 U1) (rI r2 U2) ∧ R = rI r2 U2)) : EvK N X (M_net_s0 (d + 1) x1 U) R := by
  show Ev (am_kz N X) ((d + 1), 58, 0, [some (.inr (.inr 86)), some (.inl x1)], [], (am_sh, am_mm U)) R
  refine ev_seg (σ1 := ((d + 1), 58, 2, [some (.inr (.inr 86)), some (.inl x1)], [.inl x1, .inr (.inr 86)], (am_sh, am_mm U))) 2 (fun _ => rfl) ?_
  obtain ⟨r1, U1, hc, ha⟩ := h
  refine ev_cal (σc := (M_isHouse_s0 d x1 U)) (fun _ => rfl) hc ?_
  show Ev (am_kz N X) ((d + 1), 58, 5, [some (.inr (.inr 86)), some (.inl x1)], [.inl r1], (am_sh, am_mm U1)) R
  refine ev_br (P := r1 = 0) (σ1 := ((d + 1), 58, 16, [some (.inr (.inr 86)), some (.inl x1)], [], (am_sh, am_mm U1))) (σ2 := ((d + 1), 58, 8, [some (.inr (.inr 86)), some (.inl x1)], [], (am_sh, am_mm U1))) 1 (fun _ => rfl) (fun hc => ?_) (fun hc => ?_)
  · have ha1 := ha.1 hc
    subst ha1
    exact ev_end 2 (fun _ => rfl)
  · have ha2 := ha.2 hc
    refine ev_seg (σ1 := ((d + 1), 58, 10, [some (.inr (.inr 86)), some (.inl x1)], [.inl x1, .inr (.inr 86)], (am_sh, am_mm U1))) 2 (fun _ => rfl) ?_
    obtain ⟨r2, U2, ha2c, ha2a⟩ := ha2
    refine ev_cal (σc := (M_netOf_s0 d x1 U1)) (fun _ => rfl) ha2c ?_
    show Ev (am_kz N X) ((d + 1), 58, 13, [some (.inr (.inr 86)), some (.inl x1)], [.inl r2], (am_sh, am_mm U2)) R
    subst ha2a
    exact ev_end 2 (fun _ => rfl)
set_option maxRecDepth 8000 in
theorem D_struck_r0 {N : Nat} {X : Nat → Int} {d : Nat} {U : am_U} {R : Option am_V × am_M} (h : ∃ (r1 : Int) (U1 : am_U), EvK N X (Tw_fewestPayments_s0 d U) (rI r1 U1) ∧ R = rI r1 U1) : EvK N X (D_struck_s0 (d + 1) U) R := by
  show Ev (am_kz N X) ((d + 1), 59, 0, [some (.inr (.inr 1))], [], (am_sh, am_mm U)) R
  refine ev_seg (σ1 := ((d + 1), 59, 8, [some (.inr (.inr 1))], [.inr (.inr 44), .inr (.inr 3)], (am_sh, am_mm U))) 4 (fun _ => rfl) ?_
  obtain ⟨r1, U1, hc, ha⟩ := h
  refine ev_cal (σc := (Tw_fewestPayments_s0 d U)) (fun _ => rfl) hc ?_
  show Ev (am_kz N X) ((d + 1), 59, 11, [some (.inr (.inr 1))], [.inl r1], (am_sh, am_mm U1)) R
  subst ha
  exact ev_end 1 (fun _ => rfl)
set_option maxRecDepth 8000 in
theorem M_struck_r0 {N : Nat} {X : Nat → Int} {d : Nat} {U : am_U} {R : Option am_V × am_M} (h : (0 ≤ (U 86 13) ∧ (U 86 13) < 2) ∧ EvK N X (M_struck_s19 (d + 1) (U 90 ((U 86 13).toNat)) 1 (am_upd U 134 0 0)) R) : EvK N X (M_struck_s0 (d + 1) U) R := by
  show Ev (am_kz N X) ((d + 1), 60, 0, [some (.inr (.inr 86)), none, none, none, none, none, none], [], (am_sh, am_mm U)) R
  refine ev_seg (σ1 := ((d + 1), 60, 8, [some (.inr (.inr 86)), none, none, none, none, none, none], [.inl (U 86 13), .inr (.inr 90)], (am_sh, am_mm U))) 4 (fun _ => rfl) ?_
  refine eu_iald 90 (n := 2) rfl (by decide) rfl (fun _ => rfl) h.1 ?_
  show Ev (am_kz N X) ((d + 1), 60, 9, [some (.inr (.inr 86)), none, none, none, none, none, none], [.inl (U 90 ((U 86 13).toNat))], (am_sh, am_mm U)) R
  have ha := h.2
  refine ev_seg (σ1 := ((d + 1), 60, 16, [some (.inr (.inr 86)), some (.inl (U 90 ((U 86 13).toNat))), none, none, none, none, none], [.inl 0, .inl 0, .inr (.inr 134)], (am_sh, am_mm U))) 5 (fun _ => rfl) ?_
  refine eu_iast 134 (n := 4096) rfl (by decide) rfl (fun _ => rfl) (by decide) ?_
  show Ev (am_kz N X) ((d + 1), 60, 17, [some (.inr (.inr 86)), some (.inl (U 90 ((U 86 13).toNat))), none, none, none, none, none], [], (am_sh, am_mm (am_upd U 134 0 0))) R
  refine ev_seg (σ1 := ((d + 1), 60, 19, [some (.inr (.inr 86)), some (.inl (U 90 ((U 86 13).toNat))), some (.inl 1), none, none, none, none], [], (am_sh, am_mm (am_upd U 134 0 0)))) 2 (fun _ => rfl) ?_
  exact ha
set_option maxRecDepth 8000 in
theorem M_struck_r19 {N : Nat} {X : Nat → Int} {d : Nat} {x1 x2 : Int} {U : am_U} {R : Option am_V × am_M} (h : (((am_shl 1 x1) ≤ x2) → (0 ≤ (w32 ((am_shl 1 x1) - 1)) ∧ (w32 ((am_shl 1 x1) - 1)) < 4096) ∧ R = rI (w32 (x1 - (U 134 ((w32 ((am_shl 1 x1) - 1)).toNat)))) U) ∧ ((x2 < (am_shl 1 x1)) → EvK N X (M_struck_s34 (d + 1) x1 x2 0 0 0 U) R)) : EvK N X (M_struck_s19 (d + 1) x1 x2 U) R := by
  show Ev (am_kz N X) ((d + 1), 60, 19, [some (.inr (.inr 86)), some (.inl x1), some (.inl x2), none, none, none, none], [], (am_sh, am_mm U)) R
  refine ev_br (P := (am_shl 1 x1) ≤ x2) (σ1 := ((d + 1), 60, 122, [some (.inr (.inr 86)), some (.inl x1), some (.inl x2), none, none, none, none], [], (am_sh, am_mm U))) (σ2 := ((d + 1), 60, 26, [some (.inr (.inr 86)), some (.inl x1), some (.inl x2), none, none, none, none], [], (am_sh, am_mm U))) 5 (fun _ => rfl) (fun hc => ?_) (fun hc => ?_)
  · have h1 := h.1 hc
    refine ev_seg (σ1 := ((d + 1), 60, 132, [some (.inr (.inr 86)), some (.inl x1), some (.inl x2), none, none, none, none], [.inl (w32 ((am_shl 1 x1) - 1)), .inr (.inr 134), .inl x1], (am_sh, am_mm U))) 8 (fun _ => rfl) ?_
    refine eu_iald 134 (n := 4096) rfl (by decide) rfl (fun _ => rfl) h1.1 ?_
    show Ev (am_kz N X) ((d + 1), 60, 133, [some (.inr (.inr 86)), some (.inl x1), some (.inl x2), none, none, none, none], [.inl (U 134 ((w32 ((am_shl 1 x1) - 1)).toNat)), .inl x1], (am_sh, am_mm U)) R
    have h1a := h1.2
    subst h1a
    exact ev_end 2 (fun _ => rfl)
  · have h2 := h.2 (Int.not_le.mp hc)
    refine ev_seg (σ1 := ((d + 1), 60, 34, [some (.inr (.inr 86)), some (.inl x1), some (.inl x2), some (.inl 0), some (.inl 0), some (.inl 0), none], [], (am_sh, am_mm U))) 6 (fun _ => rfl) ?_
    exact h2
set_option maxRecDepth 8000 in
theorem M_struck_r34 {N : Nat} {X : Nat → Int} {d : Nat} {x1 x2 x3 x4 x5 : Int} {U : am_U} {R : Option am_V × am_M} (h : ((x1 ≤ x5) → ((x3 ≠ 0) → (0 ≤ x2 ∧ x2 < 4096) ∧ EvK N X (M_struck_s19 (d + 1) x1 (w32 (x2 + 1)) (am_upd U 134 x2.toNat (w32 (x4 + 0)))) R) ∧ ((x3 = 0) → (0 ≤ x2 ∧ x2 < 4096) ∧ EvK N X (M_struck_s19 (d + 1) x1 (w32 (x2 + 1)) (am_upd U 134 x2.toNat (w32 (x4 + 1)))) R)) ∧ ((x5 < x1) → (((am_and (am_shr x2 x5) 1) ≠ 0) → ∃ (r1 : Int) (U1 : am_U), EvK N X (M_netOf_s0 d x5 U) (rI r1 U1) ∧ (0 ≤ (am_and x2 (am_xor (am_shl 1 x5) (-1))) ∧ (am_and x2 (am_xor (am_shl 1 x5) (-1))) < 4096) ∧ (((U1 134 ((am_and x2 (am_xor (am_shl 1 x5) (-1))).toNat)) ≤ x4) → EvK N X (M_struck_s34 (d + 1) x1 x2 (w32 (x3 + r1)) x4 (w32 (x5 + 1)) U1) R) ∧ ((x4 < (U1 134 ((am_and x2 (am_xor (am_shl 1 x5) (-1))).toNat))) → EvK N X (M_struck_s34 (d + 1) x1 x2 (w32 (x3 + r1)) (U1 134 ((am_and x2 (am_xor (am_shl 1 x5) (-1))).toNat)) (w32 (x5 + 1)) U1) R)) ∧ (((am_and (am_shr x2 x5) 1) = 0) → EvK N X (M_struck_s34 (d + 1) x1 x2 x3 x4 (w32 (x5 + 1)) U) R))) : EvK N X (M_struck_s34 (d + 1) x1 x2 x3 x4 x5 U) R := by
  show Ev (am_kz N X) ((d + 1), 60, 34, [some (.inr (.inr 86)), some (.inl x1), some (.inl x2), some (.inl x3), some (.inl x4), some (.inl x5), none], [], (am_sh, am_mm U)) R
  refine ev_br (P := x1 ≤ x5) (σ1 := ((d + 1), 60, 98, [some (.inr (.inr 86)), some (.inl x1), some (.inl x2), some (.inl x3), some (.inl x4), some (.inl x5), none], [], (am_sh, am_mm U))) (σ2 := ((d + 1), 60, 40, [some (.inr (.inr 86)), some (.inl x1), some (.inl x2), some (.inl x3), some (.inl x4), some (.inl x5), none], [], (am_sh, am_mm U))) 3 (fun _ => rfl) (fun hc => ?_) (fun hc => ?_)
  · have h1 := h.1 hc
    refine ev_br (P := ¬ x3 = 0) (σ1 := ((d + 1), 60, 113, [some (.inr (.inr 86)), some (.inl x1), some (.inl x2), some (.inl x3), some (.inl x4), some (.inl x5), none], [.inl x4, .inl x2, .inr (.inr 134)], (am_sh, am_mm U))) (σ2 := ((d + 1), 60, 109, [some (.inr (.inr 86)), some (.inl x1), some (.inl x2), some (.inl x3), some (.inl x4), some (.inl x5), none], [.inl x4, .inl x2, .inr (.inr 134)], (am_sh, am_mm U))) 6 (fun _ => rfl) (fun hc => ?_) (fun hc => ?_)
    · have h11 := h1.1 hc
      refine ev_seg (σ1 := ((d + 1), 60, 115, [some (.inr (.inr 86)), some (.inl x1), some (.inl x2), some (.inl x3), some (.inl x4), some (.inl x5), none], [.inl (w32 (x4 + 0)), .inl x2, .inr (.inr 134)], (am_sh, am_mm U))) 2 (fun _ => rfl) ?_
      refine eu_iast 134 (n := 4096) rfl (by decide) rfl (fun _ => rfl) h11.1 ?_
      show Ev (am_kz N X) ((d + 1), 60, 116, [some (.inr (.inr 86)), some (.inl x1), some (.inl x2), some (.inl x3), some (.inl x4), some (.inl x5), none], [], (am_sh, am_mm (am_upd U 134 x2.toNat (w32 (x4 + 0))))) R
      have h11a := h11.2
      refine ev_seg (σ1 := ((d + 1), 60, 19, [some (.inr (.inr 86)), some (.inl x1), some (.inl (w32 (x2 + 1))), some (.inl x3), some (.inl x4), some (.inl x5), none], [], (am_sh, am_mm (am_upd U 134 x2.toNat (w32 (x4 + 0)))))) 2 (fun _ => rfl) ?_
      exact ev_le (L := [some (.inr (.inr 86)), some (.inl x1), some (.inl (w32 (x2 + 1))), none, none, none, none]) ⟨rfl, ⟨rfl, ⟨rfl, trivial⟩⟩⟩ h11a
    · have h12 := h1.2 (Decidable.not_not.mp hc)
      refine ev_seg (σ1 := ((d + 1), 60, 115, [some (.inr (.inr 86)), some (.inl x1), some (.inl x2), some (.inl x3), some (.inl x4), some (.inl x5), none], [.inl (w32 (x4 + 1)), .inl x2, .inr (.inr 134)], (am_sh, am_mm U))) 3 (fun _ => rfl) ?_
      refine eu_iast 134 (n := 4096) rfl (by decide) rfl (fun _ => rfl) h12.1 ?_
      show Ev (am_kz N X) ((d + 1), 60, 116, [some (.inr (.inr 86)), some (.inl x1), some (.inl x2), some (.inl x3), some (.inl x4), some (.inl x5), none], [], (am_sh, am_mm (am_upd U 134 x2.toNat (w32 (x4 + 1))))) R
      have h12a := h12.2
      refine ev_seg (σ1 := ((d + 1), 60, 19, [some (.inr (.inr 86)), some (.inl x1), some (.inl (w32 (x2 + 1))), some (.inl x3), some (.inl x4), some (.inl x5), none], [], (am_sh, am_mm (am_upd U 134 x2.toNat (w32 (x4 + 1)))))) 2 (fun _ => rfl) ?_
      exact ev_le (L := [some (.inr (.inr 86)), some (.inl x1), some (.inl (w32 (x2 + 1))), none, none, none, none]) ⟨rfl, ⟨rfl, ⟨rfl, trivial⟩⟩⟩ h12a
  · have h2 := h.2 (Int.not_le.mp hc)
    refine ev_br (P := ¬ (am_and (am_shr x2 x5) 1) = 0) (σ1 := ((d + 1), 60, 52, [some (.inr (.inr 86)), some (.inl x1), some (.inl x2), some (.inl x3), some (.inl x4), some (.inl x5), none], [], (am_sh, am_mm U))) (σ2 := ((d + 1), 60, 49, [some (.inr (.inr 86)), some (.inl x1), some (.inl x2), some (.inl x3), some (.inl x4), some (.inl x5), none], [], (am_sh, am_mm U))) 6 (fun _ => rfl) (fun hc => ?_) (fun hc => ?_)
    · have h21 := h2.1 hc
      refine ev_seg (σ1 := ((d + 1), 60, 56, [some (.inr (.inr 86)), some (.inl x1), some (.inl x2), some (.inl x3), some (.inl x4), some (.inl x5), none], [.inl x5, .inr (.inr 86), .inl x3], (am_sh, am_mm U))) 3 (fun _ => rfl) ?_
      obtain ⟨r1, U1, h21c, h21a⟩ := h21
      refine ev_cal (σc := (M_netOf_s0 d x5 U)) (fun _ => rfl) h21c ?_
      show Ev (am_kz N X) ((d + 1), 60, 59, [some (.inr (.inr 86)), some (.inl x1), some (.inl x2), some (.inl x3), some (.inl x4), some (.inl x5), none], [.inl r1, .inl x3], (am_sh, am_mm U1)) R
      refine ev_seg (σ1 := ((d + 1), 60, 73, [some (.inr (.inr 86)), some (.inl x1), some (.inl x2), some (.inl (w32 (x3 + r1))), some (.inl x4), some (.inl x5), none], [.inl (am_and x2 (am_xor (am_shl 1 x5) (-1))), .inr (.inr 134)], (am_sh, am_mm U1))) 11 (fun _ => rfl) ?_
      refine eu_iald 134 (n := 4096) rfl (by decide) rfl (fun _ => rfl) h21a.1 ?_
      show Ev (am_kz N X) ((d + 1), 60, 74, [some (.inr (.inr 86)), some (.inl x1), some (.inl x2), some (.inl (w32 (x3 + r1))), some (.inl x4), some (.inl x5), none], [.inl (U1 134 ((am_and x2 (am_xor (am_shl 1 x5) (-1))).toNat))], (am_sh, am_mm U1)) R
      have h21aa := h21a.2
      refine ev_br (P := (U1 134 ((am_and x2 (am_xor (am_shl 1 x5) (-1))).toNat)) ≤ x4) (σ1 := ((d + 1), 60, 88, [some (.inr (.inr 86)), some (.inl x1), some (.inl x2), some (.inl (w32 (x3 + r1))), some (.inl x4), some (.inl x5), some (.inl (U1 134 ((am_and x2 (am_xor (am_shl 1 x5) (-1))).toNat)))], [], (am_sh, am_mm U1))) (σ2 := ((d + 1), 60, 83, [some (.inr (.inr 86)), some (.inl x1), some (.inl x2), some (.inl (w32 (x3 + r1))), some (.inl x4), some (.inl x5), some (.inl (U1 134 ((am_and x2 (am_xor (am_shl 1 x5) (-1))).toNat)))], [], (am_sh, am_mm U1))) 4 (fun _ => rfl) (fun hc => ?_) (fun hc => ?_)
      · have h21aa1 := h21aa.1 hc
        refine ev_seg (σ1 := ((d + 1), 60, 34, [some (.inr (.inr 86)), some (.inl x1), some (.inl x2), some (.inl (w32 (x3 + r1))), some (.inl x4), some (.inl (w32 (x5 + 1))), some (.inl (U1 134 ((am_and x2 (am_xor (am_shl 1 x5) (-1))).toNat)))], [], (am_sh, am_mm U1))) 4 (fun _ => rfl) ?_
        exact ev_le (L := [some (.inr (.inr 86)), some (.inl x1), some (.inl x2), some (.inl (w32 (x3 + r1))), some (.inl x4), some (.inl (w32 (x5 + 1))), none]) ⟨rfl, ⟨rfl, ⟨rfl, ⟨rfl, ⟨rfl, ⟨rfl, trivial⟩⟩⟩⟩⟩⟩ h21aa1
      · have h21aa2 := h21aa.2 (Int.not_le.mp hc)
        refine ev_seg (σ1 := ((d + 1), 60, 34, [some (.inr (.inr 86)), some (.inl x1), some (.inl x2), some (.inl (w32 (x3 + r1))), some (.inl (U1 134 ((am_and x2 (am_xor (am_shl 1 x5) (-1))).toNat))), some (.inl (w32 (x5 + 1))), some (.inl (U1 134 ((am_and x2 (am_xor (am_shl 1 x5) (-1))).toNat)))], [], (am_sh, am_mm U1))) 5 (fun _ => rfl) ?_
        exact ev_le (L := [some (.inr (.inr 86)), some (.inl x1), some (.inl x2), some (.inl (w32 (x3 + r1))), some (.inl (U1 134 ((am_and x2 (am_xor (am_shl 1 x5) (-1))).toNat))), some (.inl (w32 (x5 + 1))), none]) ⟨rfl, ⟨rfl, ⟨rfl, ⟨rfl, ⟨rfl, ⟨rfl, trivial⟩⟩⟩⟩⟩⟩ h21aa2
    · have h22 := h2.2 (Decidable.not_not.mp hc)
      refine ev_seg (σ1 := ((d + 1), 60, 34, [some (.inr (.inr 86)), some (.inl x1), some (.inl x2), some (.inl x3), some (.inl x4), some (.inl (w32 (x5 + 1))), none], [], (am_sh, am_mm U))) 3 (fun _ => rfl) ?_
      exact h22
set_option maxRecDepth 8000 in
theorem D_tell_r0 {N : Nat} {X : Nat → Int} {d : Nat} {U : am_U} {R : Option am_V × am_M} (h : ∃ (r1 : Int) (U1 : am_U), EvK N X (Rl_isTold_s0 d (U 1 1) (am_upd U 1 1 0)) (rI r1 U1) ∧ ((r1 ≠ 0) → ∃ U2 : am_U, EvK N X (Rl_solve_s0 d U1) (rV U2) ∧ R = rI (U2 78 5) U2) ∧ ((r1 = 0) → ∃ (r3 : Int) (U3 : am_U), EvK N X (D_refuse_s0 d 5 U1) (rI r3 U3) ∧ R = rI (-1) U3)) : EvK N X (D_tell_s0 (d + 1) U) R := by
  show Ev (am_kz N X) ((d + 1), 61, 0, [some (.inr (.inr 1)), none], [], (am_sh, am_mm U)) R
  refine ev_seg (σ1 := ((d + 1), 61, 7, [some (.inr (.inr 1)), some (.inl (U 1 1))], [.inl 0, .inr (.inr 1)], (am_sh, am_mm U))) 5 (fun _ => rfl) ?_
  refine eu_puti 1 (n := 19) rfl (by decide) rfl rfl ?_
  show Ev (am_kz N X) ((d + 1), 61, 10, [some (.inr (.inr 1)), some (.inl (U 1 1))], [], (am_sh, am_mm (am_upd U 1 1 0))) R
  refine ev_seg (σ1 := ((d + 1), 61, 15, [some (.inr (.inr 1)), some (.inl (U 1 1))], [.inl (U 1 1), .inr (.inr 2)], (am_sh, am_mm (am_upd U 1 1 0)))) 3 (fun _ => rfl) ?_
  obtain ⟨r1, U1, hc, ha⟩ := h
  refine ev_cal (σc := (Rl_isTold_s0 d (U 1 1) (am_upd U 1 1 0))) (fun _ => rfl) hc ?_
  show Ev (am_kz N X) ((d + 1), 61, 18, [some (.inr (.inr 1)), some (.inl (U 1 1))], [.inl r1], (am_sh, am_mm U1)) R
  refine ev_br (P := ¬ r1 = 0) (σ1 := ((d + 1), 61, 29, [some (.inr (.inr 1)), some (.inl (U 1 1))], [], (am_sh, am_mm U1))) (σ2 := ((d + 1), 61, 21, [some (.inr (.inr 1)), some (.inl (U 1 1))], [], (am_sh, am_mm U1))) 1 (fun _ => rfl) (fun hc => ?_) (fun hc => ?_)
  · have ha1 := ha.1 hc
    refine ev_seg (σ1 := ((d + 1), 61, 37, [some (.inr (.inr 1)), some (.inl (U 1 1))], [.inr (.inr 2), .inr (.inr 78)], (am_sh, am_mm U1))) 4 (fun _ => rfl) ?_
    obtain ⟨U2, ha1c, ha1a⟩ := ha1
    refine ev_cal (σc := (Rl_solve_s0 d U1)) (fun _ => rfl) ha1c ?_
    show Ev (am_kz N X) ((d + 1), 61, 40, [some (.inr (.inr 1)), some (.inl (U 1 1))], [], (am_sh, am_mm U2)) R
    subst ha1a
    exact ev_end 4 (fun _ => rfl)
  · have ha2 := ha.2 (Decidable.not_not.mp hc)
    refine ev_seg (σ1 := ((d + 1), 61, 23, [some (.inr (.inr 1)), some (.inl (U 1 1))], [.inl 5, .inr (.inr 1)], (am_sh, am_mm U1))) 2 (fun _ => rfl) ?_
    obtain ⟨r3, U3, ha2c, ha2a⟩ := ha2
    refine ev_cal (σc := (D_refuse_s0 d 5 U1)) (fun _ => rfl) ha2c ?_
    show Ev (am_kz N X) ((d + 1), 61, 26, [some (.inr (.inr 1)), some (.inl (U 1 1))], [.inl r3], (am_sh, am_mm U3)) R
    subst ha2a
    exact ev_end 3 (fun _ => rfl)
set_option maxRecDepth 8000 in
theorem M_tell_r0 {N : Nat} {X : Nat → Int} {d : Nat} {U : am_U} {R : Option am_V × am_M} (h : (((U 86 1) ≤ 1) → EvK N X (M_tell_s75 (d + 1) (U 86 1) 0 2 (am_upd U 86 1 0)) R) ∧ ((1 < (U 86 1)) → ∃ (r1 : Int) (U1 : am_U), EvK N X (M_is_s0 d (U 87 0) 2 4 (am_upd U 86 1 0)) (rI r1 U1) ∧ ((r1 = 0) → EvK N X (M_tell_s75 (d + 1) (U 86 1) 0 2 U1) R) ∧ ((r1 ≠ 0) → ∃ (r2 : Int) (U2 : am_U), EvK N X (M_is_s0 d (U1 87 1) 1 24 U1) (rI r2 U2) ∧ ((r2 = 0) → EvK N X (M_tell_s75 (d + 1) (U 86 1) 0 2 U2) R) ∧ ((r2 ≠ 0) → (((U 86 1) ≠ (w32 (2 + (w32 (Int.tdiv (w32 ((U2 87 0) * (w32 ((U2 87 0) - 1)))) 2))))) → EvK N X (M_tell_s75 (d + 1) (U 86 1) 0 2 U2) R) ∧ (((U 86 1) = (w32 (2 + (w32 (Int.tdiv (w32 ((U2 87 0) * (w32 ((U2 87 0) - 1)))) 2))))) → EvK N X (M_tell_s75 (d + 1) (U 86 1) 1 2 U2) R))))) : EvK N X (M_tell_s0 (d + 1) U) R := by
  show Ev (am_kz N X) ((d + 1), 62, 0, [some (.inr (.inr 86)), none, none, none], [], (am_sh, am_mm U)) R
  refine ev_seg (σ1 := ((d + 1), 62, 7, [some (.inr (.inr 86)), some (.inl (U 86 1)), none, none], [.inl 0, .inr (.inr 86)], (am_sh, am_mm U))) 5 (fun _ => rfl) ?_
  refine eu_puti 86 (n := 90) rfl (by decide) rfl rfl ?_
  show Ev (am_kz N X) ((d + 1), 62, 10, [some (.inr (.inr 86)), some (.inl (U 86 1)), none, none], [], (am_sh, am_mm (am_upd U 86 1 0))) R
  refine ev_br (P := (U 86 1) ≤ 1) (σ1 := ((d + 1), 62, 71, [some (.inr (.inr 86)), some (.inl (U 86 1)), none, none], [], (am_sh, am_mm (am_upd U 86 1 0)))) (σ2 := ((d + 1), 62, 15, [some (.inr (.inr 86)), some (.inl (U 86 1)), none, none], [], (am_sh, am_mm (am_upd U 86 1 0)))) 3 (fun _ => rfl) (fun hc => ?_) (fun hc => ?_)
  · have h1 := h.1 hc
    refine ev_seg (σ1 := ((d + 1), 62, 75, [some (.inr (.inr 86)), some (.inl (U 86 1)), some (.inl 0), some (.inl 2)], [], (am_sh, am_mm (am_upd U 86 1 0)))) 4 (fun _ => rfl) ?_
    exact h1
  · have h2 := h.2 (Int.not_le.mp hc)
    refine ev_seg (σ1 := ((d + 1), 62, 20, [some (.inr (.inr 86)), some (.inl (U 86 1)), none, none], [.inl 0, .inr (.inr 87)], (am_sh, am_mm (am_upd U 86 1 0)))) 3 (fun _ => rfl) ?_
    refine eu_iald 87 (n := 1800) rfl (by decide) rfl (fun _ => rfl) (by decide) ?_
    show Ev (am_kz N X) ((d + 1), 62, 21, [some (.inr (.inr 86)), some (.inl (U 86 1)), none, none], [.inl (U 87 0)], (am_sh, am_mm (am_upd U 86 1 0))) R
    refine ev_seg (σ1 := ((d + 1), 62, 23, [some (.inr (.inr 86)), some (.inl (U 86 1)), none, none], [.inl 4, .inl 2, .inl (U 87 0)], (am_sh, am_mm (am_upd U 86 1 0)))) 2 (fun _ => rfl) ?_
    obtain ⟨r1, U1, h2c, h2a⟩ := h2
    refine ev_cal (σc := (M_is_s0 d (U 87 0) 2 4 (am_upd U 86 1 0))) (fun _ => rfl) h2c ?_
    show Ev (am_kz N X) ((d + 1), 62, 26, [some (.inr (.inr 86)), some (.inl (U 86 1)), none, none], [.inl r1], (am_sh, am_mm U1)) R
    refine ev_br (P := r1 = 0) (σ1 := ((d + 1), 62, 71, [some (.inr (.inr 86)), some (.inl (U 86 1)), none, none], [], (am_sh, am_mm U1))) (σ2 := ((d + 1), 62, 29, [some (.inr (.inr 86)), some (.inl (U 86 1)), none, none], [], (am_sh, am_mm U1))) 1 (fun _ => rfl) (fun hc => ?_) (fun hc => ?_)
    · have h2a1 := h2a.1 hc
      refine ev_seg (σ1 := ((d + 1), 62, 75, [some (.inr (.inr 86)), some (.inl (U 86 1)), some (.inl 0), some (.inl 2)], [], (am_sh, am_mm U1))) 4 (fun _ => rfl) ?_
      exact h2a1
    · have h2a2 := h2a.2 hc
      refine ev_seg (σ1 := ((d + 1), 62, 34, [some (.inr (.inr 86)), some (.inl (U 86 1)), none, none], [.inl 1, .inr (.inr 87)], (am_sh, am_mm U1))) 3 (fun _ => rfl) ?_
      refine eu_iald 87 (n := 1800) rfl (by decide) rfl (fun _ => rfl) (by decide) ?_
      show Ev (am_kz N X) ((d + 1), 62, 35, [some (.inr (.inr 86)), some (.inl (U 86 1)), none, none], [.inl (U1 87 1)], (am_sh, am_mm U1)) R
      refine ev_seg (σ1 := ((d + 1), 62, 38, [some (.inr (.inr 86)), some (.inl (U 86 1)), none, none], [.inl 24, .inl 1, .inl (U1 87 1)], (am_sh, am_mm U1))) 2 (fun _ => rfl) ?_
      obtain ⟨r2, U2, h2a2c, h2a2a⟩ := h2a2
      refine ev_cal (σc := (M_is_s0 d (U1 87 1) 1 24 U1)) (fun _ => rfl) h2a2c ?_
      show Ev (am_kz N X) ((d + 1), 62, 41, [some (.inr (.inr 86)), some (.inl (U 86 1)), none, none], [.inl r2], (am_sh, am_mm U2)) R
      refine ev_br (P := r2 = 0) (σ1 := ((d + 1), 62, 71, [some (.inr (.inr 86)), some (.inl (U 86 1)), none, none], [], (am_sh, am_mm U2))) (σ2 := ((d + 1), 62, 44, [some (.inr (.inr 86)), some (.inl (U 86 1)), none, none], [], (am_sh, am_mm U2))) 1 (fun _ => rfl) (fun hc => ?_) (fun hc => ?_)
      · have h2a2a1 := h2a2a.1 hc
        refine ev_seg (σ1 := ((d + 1), 62, 75, [some (.inr (.inr 86)), some (.inl (U 86 1)), some (.inl 0), some (.inl 2)], [], (am_sh, am_mm U2))) 4 (fun _ => rfl) ?_
        exact h2a2a1
      · have h2a2a2 := h2a2a.2 hc
        refine ev_seg (σ1 := ((d + 1), 62, 51, [some (.inr (.inr 86)), some (.inl (U 86 1)), none, none], [.inl 0, .inr (.inr 87), .inl 2, .inl (U 86 1)], (am_sh, am_mm U2))) 5 (fun _ => rfl) ?_
        refine eu_iald 87 (n := 1800) rfl (by decide) rfl (fun _ => rfl) (by decide) ?_
        show Ev (am_kz N X) ((d + 1), 62, 52, [some (.inr (.inr 86)), some (.inl (U 86 1)), none, none], [.inl (U2 87 0), .inl 2, .inl (U 86 1)], (am_sh, am_mm U2)) R
        refine ev_seg (σ1 := ((d + 1), 62, 57, [some (.inr (.inr 86)), some (.inl (U 86 1)), none, none], [.inl 0, .inr (.inr 87), .inl (U2 87 0), .inl 2, .inl (U 86 1)], (am_sh, am_mm U2))) 3 (fun _ => rfl) ?_
        refine eu_iald 87 (n := 1800) rfl (by decide) rfl (fun _ => rfl) (by decide) ?_
        show Ev (am_kz N X) ((d + 1), 62, 58, [some (.inr (.inr 86)), some (.inl (U 86 1)), none, none], [.inl (U2 87 0), .inl (U2 87 0), .inl 2, .inl (U 86 1)], (am_sh, am_mm U2)) R
        refine ev_seg (σ1 := ((d + 1), 62, 62, [some (.inr (.inr 86)), some (.inl (U 86 1)), none, none], [.inl 2, .inl (w32 ((U2 87 0) * (w32 ((U2 87 0) - 1)))), .inl 2, .inl (U 86 1)], (am_sh, am_mm U2))) 4 (fun _ => rfl) ?_
        refine ev_idiv rfl (by decide) ?_
        show Ev (am_kz N X) ((d + 1), 62, 63, [some (.inr (.inr 86)), some (.inl (U 86 1)), none, none], [.inl (w32 (Int.tdiv (w32 ((U2 87 0) * (w32 ((U2 87 0) - 1)))) 2)), .inl 2, .inl (U 86 1)], (am_sh, am_mm U2)) R
        refine ev_br (P := ¬ (U 86 1) = (w32 (2 + (w32 (Int.tdiv (w32 ((U2 87 0) * (w32 ((U2 87 0) - 1)))) 2))))) (σ1 := ((d + 1), 62, 71, [some (.inr (.inr 86)), some (.inl (U 86 1)), none, none], [], (am_sh, am_mm U2))) (σ2 := ((d + 1), 62, 67, [some (.inr (.inr 86)), some (.inl (U 86 1)), none, none], [], (am_sh, am_mm U2))) 2 (fun _ => rfl) (fun hc => ?_) (fun hc => ?_)
        · have h2a2a21 := h2a2a2.1 hc
          refine ev_seg (σ1 := ((d + 1), 62, 75, [some (.inr (.inr 86)), some (.inl (U 86 1)), some (.inl 0), some (.inl 2)], [], (am_sh, am_mm U2))) 4 (fun _ => rfl) ?_
          exact h2a2a21
        · have h2a2a22 := h2a2a2.2 (Decidable.not_not.mp hc)
          refine ev_seg (σ1 := ((d + 1), 62, 75, [some (.inr (.inr 86)), some (.inl (U 86 1)), some (.inl 1), some (.inl 2)], [], (am_sh, am_mm U2))) 5 (fun _ => rfl) ?_
          exact h2a2a22
set_option maxRecDepth 8000 in
theorem M_tell_r75 {N : Nat} {X : Nat → Int} {d : Nat} {x1 x2 x3 : Int} {U : am_U} {R : Option am_V × am_M} (h : ((x1 ≤ x3) → ((x2 ≠ 0) → EvK N X (M_tell_s138 (d + 1) x1 x2 2 (am_upd (am_upd U 86 82 (U 87 0)) 86 83 (U 87 1))) R) ∧ ((x2 = 0) → ∃ (r1 : Int) (U1 : am_U), EvK N X (M_refuses_s0 d 5 U) (rI r1 U1) ∧ R = rI r1 U1)) ∧ ((x3 < x1) → ((x2 = 0) → ∃ (r2 : Int) (U2 : am_U), EvK N X (M_refuses_s0 d 5 U) (rI r2 U2) ∧ R = rI r2 U2) ∧ ((x2 ≠ 0) → (0 ≤ x3 ∧ x3 < 1800) ∧ ((2 ≤ (U 87 x3.toNat)) → EvK N X (M_tell_s75 (d + 1) x1 0 (w32 (x3 + 1)) U) R) ∧ (((U 87 x3.toNat) < 2) → EvK N X (M_tell_s75 (d + 1) x1 1 (w32 (x3 + 1)) U) R)))) : EvK N X (M_tell_s75 (d + 1) x1 x2 x3 U) R := by
  show Ev (am_kz N X) ((d + 1), 62, 75, [some (.inr (.inr 86)), some (.inl x1), some (.inl x2), some (.inl x3)], [], (am_sh, am_mm U)) R
  refine ev_br (P := x1 ≤ x3) (σ1 := ((d + 1), 62, 106, [some (.inr (.inr 86)), some (.inl x1), some (.inl x2), some (.inl x3)], [], (am_sh, am_mm U))) (σ2 := ((d + 1), 62, 80, [some (.inr (.inr 86)), some (.inl x1), some (.inl x2), some (.inl x3)], [], (am_sh, am_mm U))) 3 (fun _ => rfl) (fun hc => ?_) (fun hc => ?_)
  · have h1 := h.1 hc
    refine ev_br (P := ¬ x2 = 0) (σ1 := ((d + 1), 62, 116, [some (.inr (.inr 86)), some (.inl x1), some (.inl x2), some (.inl x3)], [], (am_sh, am_mm U))) (σ2 := ((d + 1), 62, 110, [some (.inr (.inr 86)), some (.inl x1), some (.inl x2), some (.inl x3)], [], (am_sh, am_mm U))) 2 (fun _ => rfl) (fun hc => ?_) (fun hc => ?_)
    · have h11 := h1.1 hc
      refine ev_seg (σ1 := ((d + 1), 62, 122, [some (.inr (.inr 86)), some (.inl x1), some (.inl x2), some (.inl x3)], [.inl 0, .inr (.inr 87), .inr (.inr 86)], (am_sh, am_mm U))) 4 (fun _ => rfl) ?_
      refine eu_iald 87 (n := 1800) rfl (by decide) rfl (fun _ => rfl) (by decide) ?_
      show Ev (am_kz N X) ((d + 1), 62, 123, [some (.inr (.inr 86)), some (.inl x1), some (.inl x2), some (.inl x3)], [.inl (U 87 0), .inr (.inr 86)], (am_sh, am_mm U)) R
      refine eu_puti 86 (n := 90) rfl (by decide) rfl rfl ?_
      show Ev (am_kz N X) ((d + 1), 62, 126, [some (.inr (.inr 86)), some (.inl x1), some (.inl x2), some (.inl x3)], [], (am_sh, am_mm (am_upd U 86 82 (U 87 0)))) R
      refine ev_seg (σ1 := ((d + 1), 62, 132, [some (.inr (.inr 86)), some (.inl x1), some (.inl x2), some (.inl x3)], [.inl 1, .inr (.inr 87), .inr (.inr 86)], (am_sh, am_mm (am_upd U 86 82 (U 87 0))))) 4 (fun _ => rfl) ?_
      refine eu_iald 87 (n := 1800) rfl (by decide) rfl (fun _ => rfl) (by decide) ?_
      show Ev (am_kz N X) ((d + 1), 62, 133, [some (.inr (.inr 86)), some (.inl x1), some (.inl x2), some (.inl x3)], [.inl (U 87 1), .inr (.inr 86)], (am_sh, am_mm (am_upd U 86 82 (U 87 0)))) R
      refine eu_puti 86 (n := 90) rfl (by decide) rfl rfl ?_
      show Ev (am_kz N X) ((d + 1), 62, 136, [some (.inr (.inr 86)), some (.inl x1), some (.inl x2), some (.inl x3)], [], (am_sh, am_mm (am_upd (am_upd U 86 82 (U 87 0)) 86 83 (U 87 1)))) R
      refine ev_seg (σ1 := ((d + 1), 62, 138, [some (.inr (.inr 86)), some (.inl x1), some (.inl x2), some (.inl 2)], [], (am_sh, am_mm (am_upd (am_upd U 86 82 (U 87 0)) 86 83 (U 87 1))))) 2 (fun _ => rfl) ?_
      exact h11
    · have h12 := h1.2 (Decidable.not_not.mp hc)
      refine ev_seg (σ1 := ((d + 1), 62, 112, [some (.inr (.inr 86)), some (.inl x1), some (.inl x2), some (.inl x3)], [.inl 5, .inr (.inr 86)], (am_sh, am_mm U))) 2 (fun _ => rfl) ?_
      obtain ⟨r1, U1, h12c, h12a⟩ := h12
      refine ev_cal (σc := (M_refuses_s0 d 5 U)) (fun _ => rfl) h12c ?_
      show Ev (am_kz N X) ((d + 1), 62, 115, [some (.inr (.inr 86)), some (.inl x1), some (.inl x2), some (.inl x3)], [.inl r1], (am_sh, am_mm U1)) R
      subst h12a
      exact ev_end 1 (fun _ => rfl)
  · have h2 := h.2 (Int.not_le.mp hc)
    refine ev_br (P := x2 = 0) (σ1 := ((d + 1), 62, 106, [some (.inr (.inr 86)), some (.inl x1), some (.inl x2), some (.inl x3)], [], (am_sh, am_mm U))) (σ2 := ((d + 1), 62, 84, [some (.inr (.inr 86)), some (.inl x1), some (.inl x2), some (.inl x3)], [], (am_sh, am_mm U))) 2 (fun _ => rfl) (fun hc => ?_) (fun hc => ?_)
    · have h21 := h2.1 hc
      have h2q := hc
      refine ev_br (P := ¬ x2 = 0) (σ1 := ((d + 1), 62, 116, [some (.inr (.inr 86)), some (.inl x1), some (.inl x2), some (.inl x3)], [], (am_sh, am_mm U))) (σ2 := ((d + 1), 62, 110, [some (.inr (.inr 86)), some (.inl x1), some (.inl x2), some (.inl x3)], [], (am_sh, am_mm U))) 2 (fun _ => rfl) (fun hc => absurd h2q (fun h0 => by have h1 := hc; omega)) (fun hc => ?_)
      refine ev_seg (σ1 := ((d + 1), 62, 112, [some (.inr (.inr 86)), some (.inl x1), some (.inl x2), some (.inl x3)], [.inl 5, .inr (.inr 86)], (am_sh, am_mm U))) 2 (fun _ => rfl) ?_
      obtain ⟨r2, U2, h21c, h21a⟩ := h21
      refine ev_cal (σc := (M_refuses_s0 d 5 U)) (fun _ => rfl) h21c ?_
      show Ev (am_kz N X) ((d + 1), 62, 115, [some (.inr (.inr 86)), some (.inl x1), some (.inl x2), some (.inl x3)], [.inl r2], (am_sh, am_mm U2)) R
      subst h21a
      exact ev_end 1 (fun _ => rfl)
    · have h22 := h2.2 hc
      refine ev_seg (σ1 := ((d + 1), 62, 89, [some (.inr (.inr 86)), some (.inl x1), some (.inl x2), some (.inl x3)], [.inl x3, .inr (.inr 87)], (am_sh, am_mm U))) 3 (fun _ => rfl) ?_
      refine eu_iald 87 (n := 1800) rfl (by decide) rfl (fun _ => rfl) h22.1 ?_
      show Ev (am_kz N X) ((d + 1), 62, 90, [some (.inr (.inr 86)), some (.inl x1), some (.inl x2), some (.inl x3)], [.inl (U 87 x3.toNat)], (am_sh, am_mm U)) R
      have h22a := h22.2
      refine ev_br (P := 2 ≤ (U 87 x3.toNat)) (σ1 := ((d + 1), 62, 98, [some (.inr (.inr 86)), some (.inl x1), some (.inl x2), some (.inl x3)], [], (am_sh, am_mm U))) (σ2 := ((d + 1), 62, 94, [some (.inr (.inr 86)), some (.inl x1), some (.inl x2), some (.inl x3)], [], (am_sh, am_mm U))) 2 (fun _ => rfl) (fun hc => ?_) (fun hc => ?_)
      · have h22a1 := h22a.1 hc
        refine ev_seg (σ1 := ((d + 1), 62, 75, [some (.inr (.inr 86)), some (.inl x1), some (.inl 0), some (.inl (w32 (x3 + 1)))], [], (am_sh, am_mm U))) 4 (fun _ => rfl) ?_
        exact h22a1
      · have h22a2 := h22a.2 (Int.not_le.mp hc)
        refine ev_seg (σ1 := ((d + 1), 62, 75, [some (.inr (.inr 86)), some (.inl x1), some (.inl 1), some (.inl (w32 (x3 + 1)))], [], (am_sh, am_mm U))) 5 (fun _ => rfl) ?_
        exact h22a2
set_option maxRecDepth 8000 in
theorem M_tell_r138 {N : Nat} {X : Nat → Int} {d : Nat} {x1 x2 x3 : Int} {U : am_U} {R : Option am_V × am_M} (h : ((x1 ≤ x3) → ∃ U1 : am_U, EvK N X (M_finds_s0 d U) (rV U1) ∧ R = rI (U1 86 84) U1) ∧ ((x3 < x1) → (0 ≤ x3 ∧ x3 < 1800) ∧ (0 ≤ (w32 (x3 - 2)) ∧ (w32 (x3 - 2)) < 6) ∧ EvK N X (M_tell_s138 (d + 1) x1 x2 (w32 (x3 + 1)) (am_upd U 135 ((w32 (x3 - 2)).toNat) (U 87 x3.toNat))) R)) : EvK N X (M_tell_s138 (d + 1) x1 x2 x3 U) R := by
  show Ev (am_kz N X) ((d + 1), 62, 138, [some (.inr (.inr 86)), some (.inl x1), some (.inl x2), some (.inl x3)], [], (am_sh, am_mm U)) R
  refine ev_br (P := x1 ≤ x3) (σ1 := ((d + 1), 62, 163, [some (.inr (.inr 86)), some (.inl x1), some (.inl x2), some (.inl x3)], [], (am_sh, am_mm U))) (σ2 := ((d + 1), 62, 143, [some (.inr (.inr 86)), some (.inl x1), some (.inl x2), some (.inl x3)], [], (am_sh, am_mm U))) 3 (fun _ => rfl) (fun hc => ?_) (fun hc => ?_)
  · have h1 := h.1 hc
    refine ev_seg (σ1 := ((d + 1), 62, 164, [some (.inr (.inr 86)), some (.inl x1), some (.inl x2), some (.inl x3)], [.inr (.inr 86)], (am_sh, am_mm U))) 1 (fun _ => rfl) ?_
    obtain ⟨U1, h1c, h1a⟩ := h1
    refine ev_cal (σc := (M_finds_s0 d U)) (fun _ => rfl) h1c ?_
    show Ev (am_kz N X) ((d + 1), 62, 167, [some (.inr (.inr 86)), some (.inl x1), some (.inl x2), some (.inl x3)], [], (am_sh, am_mm U1)) R
    subst h1a
    exact ev_end 3 (fun _ => rfl)
  · have h2 := h.2 (Int.not_le.mp hc)
    refine ev_seg (σ1 := ((d + 1), 62, 155, [some (.inr (.inr 86)), some (.inl x1), some (.inl x2), some (.inl x3)], [.inl x3, .inr (.inr 87), .inl (w32 (x3 - 2)), .inr (.inr 135)], (am_sh, am_mm U))) 8 (fun _ => rfl) ?_
    refine eu_iald 87 (n := 1800) rfl (by decide) rfl (fun _ => rfl) h2.1 ?_
    show Ev (am_kz N X) ((d + 1), 62, 156, [some (.inr (.inr 86)), some (.inl x1), some (.inl x2), some (.inl x3)], [.inl (U 87 x3.toNat), .inl (w32 (x3 - 2)), .inr (.inr 135)], (am_sh, am_mm U)) R
    have h2a := h2.2
    refine eu_iast 135 (n := 6) rfl (by decide) rfl (fun _ => rfl) h2a.1 ?_
    show Ev (am_kz N X) ((d + 1), 62, 157, [some (.inr (.inr 86)), some (.inl x1), some (.inl x2), some (.inl x3)], [], (am_sh, am_mm (am_upd U 135 ((w32 (x3 - 2)).toNat) (U 87 x3.toNat)))) R
    have h2aa := h2a.2
    refine ev_seg (σ1 := ((d + 1), 62, 138, [some (.inr (.inr 86)), some (.inl x1), some (.inl x2), some (.inl (w32 (x3 + 1)))], [], (am_sh, am_mm (am_upd U 135 ((w32 (x3 - 2)).toNat) (U 87 x3.toNat))))) 2 (fun _ => rfl) ?_
    exact h2aa
set_option maxRecDepth 8000 in
theorem D_hidden_r0 {N : Nat} {X : Nat → Int} {d : Nat} {x1 : Int} {U : am_U} {R : Option am_V × am_M} (h : ∃ (r1 : Int) (U1 : am_U), EvK N X (Rl_tellOf_s0 d x1 U) (rI r1 U1) ∧ R = rI r1 U1) : EvK N X (D_hidden_s0 (d + 1) x1 U) R := by
  show Ev (am_kz N X) ((d + 1), 63, 0, [some (.inr (.inr 1)), some (.inl x1)], [], (am_sh, am_mm U)) R
  refine ev_seg (σ1 := ((d + 1), 63, 5, [some (.inr (.inr 1)), some (.inl x1)], [.inl x1, .inr (.inr 78)], (am_sh, am_mm U))) 3 (fun _ => rfl) ?_
  obtain ⟨r1, U1, hc, ha⟩ := h
  refine ev_cal (σc := (Rl_tellOf_s0 d x1 U)) (fun _ => rfl) hc ?_
  show Ev (am_kz N X) ((d + 1), 63, 8, [some (.inr (.inr 1)), some (.inl x1)], [.inl r1], (am_sh, am_mm U1)) R
  subst ha
  exact ev_end 1 (fun _ => rfl)
set_option maxRecDepth 8000 in
theorem M_hidden_r0 {N : Nat} {X : Nat → Int} {d : Nat} {x1 : Int} {U : am_U} {R : Option am_V × am_M} (h : ∃ (r1 : Int) (U1 : am_U), EvK N X (M_is_s0 d x1 0 (w32 ((U 86 82) - 1)) U) (rI r1 U1) ∧ ((r1 = 0) → R = rI (-1) U1) ∧ ((r1 ≠ 0) → (((U1 86 84) ≤ 0) → R = rI (-1) U1) ∧ ((0 < (U1 86 84)) → (0 ≤ x1 ∧ x1 < 4) ∧ R = rI (U1 137 x1.toNat) U1))) : EvK N X (M_hidden_s0 (d + 1) x1 U) R := by
  show Ev (am_kz N X) ((d + 1), 64, 0, [some (.inr (.inr 86)), some (.inl x1)], [], (am_sh, am_mm U)) R
  refine ev_seg (σ1 := ((d + 1), 64, 8, [some (.inr (.inr 86)), some (.inl x1)], [.inl (w32 ((U 86 82) - 1)), .inl 0, .inl x1], (am_sh, am_mm U))) 6 (fun _ => rfl) ?_
  obtain ⟨r1, U1, hc, ha⟩ := h
  refine ev_cal (σc := (M_is_s0 d x1 0 (w32 ((U 86 82) - 1)) U)) (fun _ => rfl) hc ?_
  show Ev (am_kz N X) ((d + 1), 64, 11, [some (.inr (.inr 86)), some (.inl x1)], [.inl r1], (am_sh, am_mm U1)) R
  refine ev_br (P := r1 = 0) (σ1 := ((d + 1), 64, 30, [some (.inr (.inr 86)), some (.inl x1)], [], (am_sh, am_mm U1))) (σ2 := ((d + 1), 64, 14, [some (.inr (.inr 86)), some (.inl x1)], [], (am_sh, am_mm U1))) 1 (fun _ => rfl) (fun hc => ?_) (fun hc => ?_)
  · have ha1 := ha.1 hc
    subst ha1
    exact ev_end 2 (fun _ => rfl)
  · have ha2 := ha.2 hc
    refine ev_br (P := (U1 86 84) ≤ 0) (σ1 := ((d + 1), 64, 30, [some (.inr (.inr 86)), some (.inl x1)], [], (am_sh, am_mm U1))) (σ2 := ((d + 1), 64, 21, [some (.inr (.inr 86)), some (.inl x1)], [], (am_sh, am_mm U1))) 3 (fun _ => rfl) (fun hc => ?_) (fun hc => ?_)
    · have ha21 := ha2.1 hc
      subst ha21
      exact ev_end 2 (fun _ => rfl)
    · have ha22 := ha2.2 (Int.not_le.mp hc)
      refine ev_seg (σ1 := ((d + 1), 64, 26, [some (.inr (.inr 86)), some (.inl x1)], [.inl x1, .inr (.inr 137)], (am_sh, am_mm U1))) 3 (fun _ => rfl) ?_
      refine eu_iald 137 (n := 4) rfl (by decide) rfl (fun _ => rfl) ha22.1 ?_
      show Ev (am_kz N X) ((d + 1), 64, 27, [some (.inr (.inr 86)), some (.inl x1)], [.inl (U1 137 x1.toNat)], (am_sh, am_mm U1)) R
      have ha22a := ha22.2
      subst ha22a
      exact ev_end 2 (fun _ => rfl)
set_option maxRecDepth 8000 in
theorem D_image_r0 {N : Nat} {X : Nat → Int} {d : Nat} {U : am_U} {R : Option am_V × am_M} (h : ∃ (r1 : Int) (U1 : am_U), EvK N X (Fk_writeTo_s0 d U) (rI r1 U1) ∧ R = rI r1 (am_upd U1 1 16 r1)) : EvK N X (D_image_s0 (d + 1) U) R := by
  show Ev (am_kz N X) ((d + 1), 65, 0, [some (.inr (.inr 1))], [], (am_sh, am_mm U)) R
  refine ev_seg (σ1 := ((d + 1), 65, 9, [some (.inr (.inr 1))], [.inr (.inr 84), .inr (.inr 16), .inr (.inr 1)], (am_sh, am_mm U))) 5 (fun _ => rfl) ?_
  obtain ⟨r1, U1, hc, ha⟩ := h
  refine ev_cal (σc := (Fk_writeTo_s0 d U)) (fun _ => rfl) hc ?_
  show Ev (am_kz N X) ((d + 1), 65, 12, [some (.inr (.inr 1))], [.inl r1, .inr (.inr 1)], (am_sh, am_mm U1)) R
  refine eu_puti 1 (n := 19) rfl (by decide) rfl rfl ?_
  show Ev (am_kz N X) ((d + 1), 65, 15, [some (.inr (.inr 1))], [], (am_sh, am_mm (am_upd U1 1 16 r1))) R
  subst ha
  exact ev_end 3 (fun _ => rfl)
set_option maxRecDepth 8000 in
theorem M_image_r0 {N : Nat} {X : Nat → Int} {d : Nat} {U : am_U} {R : Option am_V × am_M} (h : ∃ U1 : am_U, EvK N X (M_writes_s0 d (am_shr (U 120 0) 8) (am_upd U 86 89 0)) (rV U1) ∧ ∃ U2 : am_U, EvK N X (M_writes_s0 d (U1 120 0) U1) (rV U2) ∧ ∃ U3 : am_U, EvK N X (M_writes_s0 d (U2 121 0) U2) (rV U3) ∧ ∃ U4 : am_U, EvK N X (M_writes_s0 d (U3 122 0) U3) (rV U4) ∧ EvK N X (M_image_s50 (d + 1) 0 U4) R) : EvK N X (M_image_s0 (d + 1) U) R := by
  show Ev (am_kz N X) ((d + 1), 66, 0, [some (.inr (.inr 86)), none, none], [], (am_sh, am_mm U)) R
  refine ev_seg (σ1 := ((d + 1), 66, 2, [some (.inr (.inr 86)), none, none], [.inl 0, .inr (.inr 86)], (am_sh, am_mm U))) 2 (fun _ => rfl) ?_
  refine eu_puti 86 (n := 90) rfl (by decide) rfl rfl ?_
  show Ev (am_kz N X) ((d + 1), 66, 5, [some (.inr (.inr 86)), none, none], [], (am_sh, am_mm (am_upd U 86 89 0))) R
  refine ev_seg (σ1 := ((d + 1), 66, 11, [some (.inr (.inr 86)), none, none], [.inl 0, .inr (.inr 120), .inr (.inr 86)], (am_sh, am_mm (am_upd U 86 89 0)))) 4 (fun _ => rfl) ?_
  refine eu_iald 120 (n := 22) rfl (by decide) rfl (fun _ => rfl) (by decide) ?_
  show Ev (am_kz N X) ((d + 1), 66, 12, [some (.inr (.inr 86)), none, none], [.inl (U 120 0), .inr (.inr 86)], (am_sh, am_mm (am_upd U 86 89 0))) R
  refine ev_seg (σ1 := ((d + 1), 66, 15, [some (.inr (.inr 86)), none, none], [.inl (am_shr (U 120 0) 8), .inr (.inr 86)], (am_sh, am_mm (am_upd U 86 89 0)))) 2 (fun _ => rfl) ?_
  obtain ⟨U1, hc, ha⟩ := h
  refine ev_cal (σc := (M_writes_s0 d (am_shr (U 120 0) 8) (am_upd U 86 89 0))) (fun _ => rfl) hc ?_
  show Ev (am_kz N X) ((d + 1), 66, 18, [some (.inr (.inr 86)), none, none], [], (am_sh, am_mm U1)) R
  refine ev_seg (σ1 := ((d + 1), 66, 24, [some (.inr (.inr 86)), none, none], [.inl 0, .inr (.inr 120), .inr (.inr 86)], (am_sh, am_mm U1))) 4 (fun _ => rfl) ?_
  refine eu_iald 120 (n := 22) rfl (by decide) rfl (fun _ => rfl) (by decide) ?_
  show Ev (am_kz N X) ((d + 1), 66, 25, [some (.inr (.inr 86)), none, none], [.inl (U1 120 0), .inr (.inr 86)], (am_sh, am_mm U1)) R
  obtain ⟨U2, hac, haa⟩ := ha
  refine ev_cal (σc := (M_writes_s0 d (U1 120 0) U1)) (fun _ => rfl) hac ?_
  show Ev (am_kz N X) ((d + 1), 66, 28, [some (.inr (.inr 86)), none, none], [], (am_sh, am_mm U2)) R
  refine ev_seg (σ1 := ((d + 1), 66, 34, [some (.inr (.inr 86)), none, none], [.inl 0, .inr (.inr 121), .inr (.inr 86)], (am_sh, am_mm U2))) 4 (fun _ => rfl) ?_
  refine eu_iald 121 (n := 22) rfl (by decide) rfl (fun _ => rfl) (by decide) ?_
  show Ev (am_kz N X) ((d + 1), 66, 35, [some (.inr (.inr 86)), none, none], [.inl (U2 121 0), .inr (.inr 86)], (am_sh, am_mm U2)) R
  obtain ⟨U3, haac, haaa⟩ := haa
  refine ev_cal (σc := (M_writes_s0 d (U2 121 0) U2)) (fun _ => rfl) haac ?_
  show Ev (am_kz N X) ((d + 1), 66, 38, [some (.inr (.inr 86)), none, none], [], (am_sh, am_mm U3)) R
  refine ev_seg (σ1 := ((d + 1), 66, 44, [some (.inr (.inr 86)), none, none], [.inl 0, .inr (.inr 122), .inr (.inr 86)], (am_sh, am_mm U3))) 4 (fun _ => rfl) ?_
  refine eu_iald 122 (n := 22) rfl (by decide) rfl (fun _ => rfl) (by decide) ?_
  show Ev (am_kz N X) ((d + 1), 66, 45, [some (.inr (.inr 86)), none, none], [.inl (U3 122 0), .inr (.inr 86)], (am_sh, am_mm U3)) R
  obtain ⟨U4, haaac, haaaa⟩ := haaa
  refine ev_cal (σc := (M_writes_s0 d (U3 122 0) U3)) (fun _ => rfl) haaac ?_
  show Ev (am_kz N X) ((d + 1), 66, 48, [some (.inr (.inr 86)), none, none], [], (am_sh, am_mm U4)) R
  refine ev_seg (σ1 := ((d + 1), 66, 50, [some (.inr (.inr 86)), some (.inl 0), none], [], (am_sh, am_mm U4))) 2 (fun _ => rfl) ?_
  exact haaaa
set_option maxRecDepth 8000 in
theorem M_image_r50 {N : Nat} {X : Nat → Int} {d : Nat} {x1 : Int} {U : am_U} {R : Option am_V × am_M} (h : (((U 122 0) ≤ x1) → EvK N X (M_image_s108 (d + 1) 73 0 U) R) ∧ ((x1 < (U 122 0)) → EvK N X (M_image_s63 (d + 1) x1 24 U) R)) : EvK N X (M_image_s50 (d + 1) x1 U) R := by
  show Ev (am_kz N X) ((d + 1), 66, 50, [some (.inr (.inr 86)), some (.inl x1), none], [], (am_sh, am_mm U)) R
  refine ev_seg (σ1 := ((d + 1), 66, 56, [some (.inr (.inr 86)), some (.inl x1), none], [.inl 0, .inr (.inr 122), .inl x1], (am_sh, am_mm U))) 4 (fun _ => rfl) ?_
  refine eu_iald 122 (n := 22) rfl (by decide) rfl (fun _ => rfl) (by decide) ?_
  show Ev (am_kz N X) ((d + 1), 66, 57, [some (.inr (.inr 86)), some (.inl x1), none], [.inl (U 122 0), .inl x1], (am_sh, am_mm U)) R
  refine ev_br (P := (U 122 0) ≤ x1) (σ1 := ((d + 1), 66, 103, [some (.inr (.inr 86)), some (.inl x1), none], [], (am_sh, am_mm U))) (σ2 := ((d + 1), 66, 60, [some (.inr (.inr 86)), some (.inl x1), none], [], (am_sh, am_mm U))) 1 (fun _ => rfl) (fun hc => ?_) (fun hc => ?_)
  · have h1 := h.1 hc
    refine ev_seg (σ1 := ((d + 1), 66, 108, [some (.inr (.inr 86)), some (.inl 73), some (.inl 0)], [], (am_sh, am_mm U))) 4 (fun _ => rfl) ?_
    exact h1
  · have h2 := h.2 (Int.not_le.mp hc)
    refine ev_seg (σ1 := ((d + 1), 66, 63, [some (.inr (.inr 86)), some (.inl x1), some (.inl 24)], [], (am_sh, am_mm U))) 2 (fun _ => rfl) ?_
    exact h2
set_option maxRecDepth 8000 in
theorem M_image_r108 {N : Nat} {X : Nat → Int} {d : Nat} {x1 x2 : Int} {U : am_U} {R : Option am_V × am_M} (h : (((U 86 89) ≤ x2) → ∃ U1 : am_U, EvK N X (M_writes_s0 d x1 U) (rV U1) ∧ R = rI (U1 86 89) U1) ∧ ((x2 < (U 86 89)) → (0 ≤ x2 ∧ x2 < 90) ∧ EvK N X (M_image_s108 (d + 1) (Int.tmod (w32 ((w32 (5 * x1)) + (U 138 x2.toNat))) 251) (w32 (x2 + 1)) U) R)) : EvK N X (M_image_s108 (d + 1) x1 x2 U) R := by
  show Ev (am_kz N X) ((d + 1), 66, 108, [some (.inr (.inr 86)), some (.inl x1), some (.inl x2)], [], (am_sh, am_mm U)) R
  refine ev_br (P := (U 86 89) ≤ x2) (σ1 := ((d + 1), 66, 137, [some (.inr (.inr 86)), some (.inl x1), some (.inl x2)], [], (am_sh, am_mm U))) (σ2 := ((d + 1), 66, 116, [some (.inr (.inr 86)), some (.inl x1), some (.inl x2)], [], (am_sh, am_mm U))) 4 (fun _ => rfl) (fun hc => ?_) (fun hc => ?_)
  · have h1 := h.1 hc
    refine ev_seg (σ1 := ((d + 1), 66, 139, [some (.inr (.inr 86)), some (.inl x1), some (.inl x2)], [.inl x1, .inr (.inr 86)], (am_sh, am_mm U))) 2 (fun _ => rfl) ?_
    obtain ⟨U1, h1c, h1a⟩ := h1
    refine ev_cal (σc := (M_writes_s0 d x1 U)) (fun _ => rfl) h1c ?_
    show Ev (am_kz N X) ((d + 1), 66, 142, [some (.inr (.inr 86)), some (.inl x1), some (.inl x2)], [], (am_sh, am_mm U1)) R
    subst h1a
    exact ev_end 3 (fun _ => rfl)
  · have h2 := h.2 (Int.not_le.mp hc)
    refine ev_seg (σ1 := ((d + 1), 66, 124, [some (.inr (.inr 86)), some (.inl x1), some (.inl x2)], [.inl x2, .inr (.inr 138), .inl (w32 (5 * x1))], (am_sh, am_mm U))) 6 (fun _ => rfl) ?_
    refine eu_iald 138 (n := 90) rfl (by decide) rfl (fun _ => rfl) h2.1 ?_
    show Ev (am_kz N X) ((d + 1), 66, 125, [some (.inr (.inr 86)), some (.inl x1), some (.inl x2)], [.inl (U 138 x2.toNat), .inl (w32 (5 * x1))], (am_sh, am_mm U)) R
    have h2a := h2.2
    refine ev_seg (σ1 := ((d + 1), 66, 129, [some (.inr (.inr 86)), some (.inl x1), some (.inl x2)], [.inl 251, .inl (w32 ((w32 (5 * x1)) + (U 138 x2.toNat)))], (am_sh, am_mm U))) 2 (fun _ => rfl) ?_
    refine ev_irem rfl (by decide) ?_
    show Ev (am_kz N X) ((d + 1), 66, 130, [some (.inr (.inr 86)), some (.inl x1), some (.inl x2)], [.inl (Int.tmod (w32 ((w32 (5 * x1)) + (U 138 x2.toNat))) 251)], (am_sh, am_mm U)) R
    refine ev_seg (σ1 := ((d + 1), 66, 108, [some (.inr (.inr 86)), some (.inl (Int.tmod (w32 ((w32 (5 * x1)) + (U 138 x2.toNat))) 251)), some (.inl (w32 (x2 + 1)))], [], (am_sh, am_mm U))) 3 (fun _ => rfl) ?_
    exact h2a
set_option maxRecDepth 8000 in
theorem M_image_r63 {N : Nat} {X : Nat → Int} {d : Nat} {x1 x2 : Int} {U : am_U} {R : Option am_V × am_M} (h : ((x2 < 0) → (0 ≤ x1 ∧ x1 < 352) ∧ ∃ U1 : am_U, EvK N X (M_writes_s0 d (w32 ((U 124 x1.toNat) + 1)) U) (rV U1) ∧ EvK N X (M_image_s50 (d + 1) (w32 (x1 + 1)) U1) R) ∧ ((0 ≤ x2) → (0 ≤ x1 ∧ x1 < 352) ∧ ∃ U2 : am_U, EvK N X (M_writes_s0 d (am_shr (U 123 x1.toNat) x2) U) (rV U2) ∧ EvK N X (M_image_s63 (d + 1) x1 (w32 (x2 + (-8))) U2) R)) : EvK N X (M_image_s63 (d + 1) x1 x2 U) R := by
  show Ev (am_kz N X) ((d + 1), 66, 63, [some (.inr (.inr 86)), some (.inl x1), some (.inl x2)], [], (am_sh, am_mm U)) R
  refine ev_br (P := x2 < 0) (σ1 := ((d + 1), 66, 85, [some (.inr (.inr 86)), some (.inl x1), some (.inl x2)], [], (am_sh, am_mm U))) (σ2 := ((d + 1), 66, 67, [some (.inr (.inr 86)), some (.inl x1), some (.inl x2)], [], (am_sh, am_mm U))) 2 (fun _ => rfl) (fun hc => ?_) (fun hc => ?_)
  · have h1 := h.1 hc
    refine ev_seg (σ1 := ((d + 1), 66, 91, [some (.inr (.inr 86)), some (.inl x1), some (.inl x2)], [.inl x1, .inr (.inr 124), .inr (.inr 86)], (am_sh, am_mm U))) 4 (fun _ => rfl) ?_
    refine eu_iald 124 (n := 352) rfl (by decide) rfl (fun _ => rfl) h1.1 ?_
    show Ev (am_kz N X) ((d + 1), 66, 92, [some (.inr (.inr 86)), some (.inl x1), some (.inl x2)], [.inl (U 124 x1.toNat), .inr (.inr 86)], (am_sh, am_mm U)) R
    have h1a := h1.2
    refine ev_seg (σ1 := ((d + 1), 66, 94, [some (.inr (.inr 86)), some (.inl x1), some (.inl x2)], [.inl (w32 ((U 124 x1.toNat) + 1)), .inr (.inr 86)], (am_sh, am_mm U))) 2 (fun _ => rfl) ?_
    obtain ⟨U1, h1ac, h1aa⟩ := h1a
    refine ev_cal (σc := (M_writes_s0 d (w32 ((U 124 x1.toNat) + 1)) U)) (fun _ => rfl) h1ac ?_
    show Ev (am_kz N X) ((d + 1), 66, 97, [some (.inr (.inr 86)), some (.inl x1), some (.inl x2)], [], (am_sh, am_mm U1)) R
    refine ev_seg (σ1 := ((d + 1), 66, 50, [some (.inr (.inr 86)), some (.inl (w32 (x1 + 1))), some (.inl x2)], [], (am_sh, am_mm U1))) 2 (fun _ => rfl) ?_
    exact ev_le (L := [some (.inr (.inr 86)), some (.inl (w32 (x1 + 1))), none]) ⟨rfl, ⟨rfl, trivial⟩⟩ h1aa
  · have h2 := h.2 (Int.not_lt.mp hc)
    refine ev_seg (σ1 := ((d + 1), 66, 73, [some (.inr (.inr 86)), some (.inl x1), some (.inl x2)], [.inl x1, .inr (.inr 123), .inr (.inr 86)], (am_sh, am_mm U))) 4 (fun _ => rfl) ?_
    refine eu_iald 123 (n := 352) rfl (by decide) rfl (fun _ => rfl) h2.1 ?_
    show Ev (am_kz N X) ((d + 1), 66, 74, [some (.inr (.inr 86)), some (.inl x1), some (.inl x2)], [.inl (U 123 x1.toNat), .inr (.inr 86)], (am_sh, am_mm U)) R
    have h2a := h2.2
    refine ev_seg (σ1 := ((d + 1), 66, 76, [some (.inr (.inr 86)), some (.inl x1), some (.inl x2)], [.inl (am_shr (U 123 x1.toNat) x2), .inr (.inr 86)], (am_sh, am_mm U))) 2 (fun _ => rfl) ?_
    obtain ⟨U2, h2ac, h2aa⟩ := h2a
    refine ev_cal (σc := (M_writes_s0 d (am_shr (U 123 x1.toNat) x2) U)) (fun _ => rfl) h2ac ?_
    show Ev (am_kz N X) ((d + 1), 66, 79, [some (.inr (.inr 86)), some (.inl x1), some (.inl x2)], [], (am_sh, am_mm U2)) R
    refine ev_seg (σ1 := ((d + 1), 66, 63, [some (.inr (.inr 86)), some (.inl x1), some (.inl (w32 (x2 + (-8))))], [], (am_sh, am_mm U2))) 2 (fun _ => rfl) ?_
    exact h2aa
set_option maxRecDepth 8000 in
theorem D_octet_r0 {N : Nat} {X : Nat → Int} {d : Nat} {x1 : Int} {U : am_U} {R : Option am_V × am_M} (h : ((x1 < 0) → R = rI (-1) U) ∧ ((0 ≤ x1) → (((U 1 16) ≤ x1) → R = rI (-1) U) ∧ ((x1 < (U 1 16)) → (0 ≤ x1 ∧ x1 < 85) ∧ R = rI (U 84 x1.toNat) U))) : EvK N X (D_octet_s0 d x1 U) R := by
  show Ev (am_kz N X) (d, 67, 0, [some (.inr (.inr 1)), some (.inl x1)], [], (am_sh, am_mm U)) R
  refine ev_br (P := x1 < 0) (σ1 := (d, 67, 21, [some (.inr (.inr 1)), some (.inl x1)], [], (am_sh, am_mm U))) (σ2 := (d, 67, 4, [some (.inr (.inr 1)), some (.inl x1)], [], (am_sh, am_mm U))) 2 (fun _ => rfl) (fun hc => ?_) (fun hc => ?_)
  · have h1 := h.1 hc
    subst h1
    exact ev_end 2 (fun _ => rfl)
  · have h2 := h.2 (Int.not_lt.mp hc)
    refine ev_br (P := (U 1 16) ≤ x1) (σ1 := (d, 67, 21, [some (.inr (.inr 1)), some (.inl x1)], [], (am_sh, am_mm U))) (σ2 := (d, 67, 12, [some (.inr (.inr 1)), some (.inl x1)], [], (am_sh, am_mm U))) 4 (fun _ => rfl) (fun hc => ?_) (fun hc => ?_)
    · have h21 := h2.1 hc
      subst h21
      exact ev_end 2 (fun _ => rfl)
    · have h22 := h2.2 (Int.not_le.mp hc)
      refine ev_seg (σ1 := (d, 67, 17, [some (.inr (.inr 1)), some (.inl x1)], [.inl x1, .inr (.inr 84)], (am_sh, am_mm U))) 3 (fun _ => rfl) ?_
      refine eu_iald 84 (n := 85) rfl (by decide) rfl (fun _ => rfl) h22.1 ?_
      show Ev (am_kz N X) (d, 67, 18, [some (.inr (.inr 1)), some (.inl x1)], [.inl (U 84 x1.toNat)], (am_sh, am_mm U)) R
      have h22a := h22.2
      subst h22a
      exact ev_end 2 (fun _ => rfl)
set_option maxRecDepth 8000 in
theorem M_octet_r0 {N : Nat} {X : Nat → Int} {d : Nat} {x1 : Int} {U : am_U} {R : Option am_V × am_M} (h : ∃ (r1 : Int) (U1 : am_U), EvK N X (M_is_s0 d x1 0 (w32 ((U 86 89) - 1)) U) (rI r1 U1) ∧ ((r1 = 0) → R = rI (-1) U1) ∧ ((r1 ≠ 0) → (0 ≤ x1 ∧ x1 < 90) ∧ R = rI (U1 138 x1.toNat) U1)) : EvK N X (M_octet_s0 (d + 1) x1 U) R := by
  show Ev (am_kz N X) ((d + 1), 68, 0, [some (.inr (.inr 86)), some (.inl x1)], [], (am_sh, am_mm U)) R
  refine ev_seg (σ1 := ((d + 1), 68, 8, [some (.inr (.inr 86)), some (.inl x1)], [.inl (w32 ((U 86 89) - 1)), .inl 0, .inl x1], (am_sh, am_mm U))) 6 (fun _ => rfl) ?_
  obtain ⟨r1, U1, hc, ha⟩ := h
  refine ev_cal (σc := (M_is_s0 d x1 0 (w32 ((U 86 89) - 1)) U)) (fun _ => rfl) hc ?_
  show Ev (am_kz N X) ((d + 1), 68, 11, [some (.inr (.inr 86)), some (.inl x1)], [.inl r1], (am_sh, am_mm U1)) R
  refine ev_br (P := r1 = 0) (σ1 := ((d + 1), 68, 23, [some (.inr (.inr 86)), some (.inl x1)], [], (am_sh, am_mm U1))) (σ2 := ((d + 1), 68, 14, [some (.inr (.inr 86)), some (.inl x1)], [], (am_sh, am_mm U1))) 1 (fun _ => rfl) (fun hc => ?_) (fun hc => ?_)
  · have ha1 := ha.1 hc
    subst ha1
    exact ev_end 2 (fun _ => rfl)
  · have ha2 := ha.2 hc
    refine ev_seg (σ1 := ((d + 1), 68, 19, [some (.inr (.inr 86)), some (.inl x1)], [.inl x1, .inr (.inr 138)], (am_sh, am_mm U1))) 3 (fun _ => rfl) ?_
    refine eu_iald 138 (n := 90) rfl (by decide) rfl (fun _ => rfl) ha2.1 ?_
    show Ev (am_kz N X) ((d + 1), 68, 20, [some (.inr (.inr 86)), some (.inl x1)], [.inl (U1 138 x1.toNat)], (am_sh, am_mm U1)) R
    have ha2a := ha2.2
    subst ha2a
    exact ev_end 2 (fun _ => rfl)
set_option maxRecDepth 8000 in
theorem D_on_r0 {N : Nat} {X : Nat → Int} {d : Nat} {U : am_U} {R : Option am_V × am_M} (h : ∃ (r1 : Int) (U1 : am_U), EvK N X (Fk_readFrom_s0 d (U 1 1) (am_upd U 1 1 0)) (rI r1 U1) ∧ ((r1 ≠ 0) → ∃ U2 : am_U, EvK N X (Fk_copyFrom_s0 d U1) (rV U2) ∧ ∃ U3 : am_U, EvK N X (Hs_forget_s0 d U2) (rV U3) ∧ ∃ U4 : am_U, EvK N X (D_forgetAnswers_s0 d U3) (rV U4) ∧ R = rI 1 U4) ∧ ((r1 = 0) → ∃ (r5 : Int) (U5 : am_U), EvK N X (D_refuse_s0 d 5 U1) (rI r5 U5) ∧ (r5 = 0 ∨ r5 = 1) ∧ R = rI r5 U5)) : EvK N X (D_on_s0 (d + 1) U) R := by
  show Ev (am_kz N X) ((d + 1), 69, 0, [some (.inr (.inr 1)), none], [], (am_sh, am_mm U)) R
  refine ev_seg (σ1 := ((d + 1), 69, 7, [some (.inr (.inr 1)), some (.inl (U 1 1))], [.inl 0, .inr (.inr 1)], (am_sh, am_mm U))) 5 (fun _ => rfl) ?_
  refine eu_puti 1 (n := 19) rfl (by decide) rfl rfl ?_
  show Ev (am_kz N X) ((d + 1), 69, 10, [some (.inr (.inr 1)), some (.inl (U 1 1))], [], (am_sh, am_mm (am_upd U 1 1 0))) R
  refine ev_seg (σ1 := ((d + 1), 69, 23, [some (.inr (.inr 1)), some (.inl (U 1 1))], [.inr (.inr 3), .inl (U 1 1), .inr (.inr 2), .inr (.inr 21)], (am_sh, am_mm (am_upd U 1 1 0)))) 7 (fun _ => rfl) ?_
  obtain ⟨r1, U1, hc, ha⟩ := h
  refine ev_cal (σc := (Fk_readFrom_s0 d (U 1 1) (am_upd U 1 1 0))) (fun _ => rfl) hc ?_
  show Ev (am_kz N X) ((d + 1), 69, 26, [some (.inr (.inr 1)), some (.inl (U 1 1))], [.inl r1], (am_sh, am_mm U1)) R
  refine ev_br (P := ¬ r1 = 0) (σ1 := ((d + 1), 69, 35, [some (.inr (.inr 1)), some (.inl (U 1 1))], [], (am_sh, am_mm U1))) (σ2 := ((d + 1), 69, 29, [some (.inr (.inr 1)), some (.inl (U 1 1))], [], (am_sh, am_mm U1))) 1 (fun _ => rfl) (fun hc => ?_) (fun hc => ?_)
  · have ha1 := ha.1 hc
    refine ev_seg (σ1 := ((d + 1), 69, 43, [some (.inr (.inr 1)), some (.inl (U 1 1))], [.inr (.inr 21), .inr (.inr 16)], (am_sh, am_mm U1))) 4 (fun _ => rfl) ?_
    obtain ⟨U2, ha1c, ha1a⟩ := ha1
    refine ev_cal (σc := (Fk_copyFrom_s0 d U1)) (fun _ => rfl) ha1c ?_
    show Ev (am_kz N X) ((d + 1), 69, 46, [some (.inr (.inr 1)), some (.inl (U 1 1))], [], (am_sh, am_mm U2)) R
    refine ev_seg (σ1 := ((d + 1), 69, 50, [some (.inr (.inr 1)), some (.inl (U 1 1))], [.inr (.inr 56)], (am_sh, am_mm U2))) 2 (fun _ => rfl) ?_
    obtain ⟨U3, ha1ac, ha1aa⟩ := ha1a
    refine ev_cal (σc := (Hs_forget_s0 d U2)) (fun _ => rfl) ha1ac ?_
    show Ev (am_kz N X) ((d + 1), 69, 53, [some (.inr (.inr 1)), some (.inl (U 1 1))], [], (am_sh, am_mm U3)) R
    refine ev_seg (σ1 := ((d + 1), 69, 54, [some (.inr (.inr 1)), some (.inl (U 1 1))], [.inr (.inr 1)], (am_sh, am_mm U3))) 1 (fun _ => rfl) ?_
    obtain ⟨U4, ha1aac, ha1aaa⟩ := ha1aa
    refine ev_cal (σc := (D_forgetAnswers_s0 d U3)) (fun _ => rfl) ha1aac ?_
    show Ev (am_kz N X) ((d + 1), 69, 57, [some (.inr (.inr 1)), some (.inl (U 1 1))], [], (am_sh, am_mm U4)) R
    subst ha1aaa
    exact ev_end 2 (fun _ => rfl)
  · have ha2 := ha.2 (Decidable.not_not.mp hc)
    refine ev_seg (σ1 := ((d + 1), 69, 31, [some (.inr (.inr 1)), some (.inl (U 1 1))], [.inl 5, .inr (.inr 1)], (am_sh, am_mm U1))) 2 (fun _ => rfl) ?_
    obtain ⟨r5, U5, ha2c, ha2a⟩ := ha2
    refine ev_cal (σc := (D_refuse_s0 d 5 U1)) (fun _ => rfl) ha2c ?_
    show Ev (am_kz N X) ((d + 1), 69, 34, [some (.inr (.inr 1)), some (.inl (U 1 1))], [.inl r5], (am_sh, am_mm U5)) R
    rw [ha2a.2]
    exact ev_retz rfl rfl ha2a.1
set_option maxRecDepth 8000 in
theorem M_on_r0 {N : Nat} {X : Nat → Int} {d : Nat} {U : am_U} {R : Option am_V × am_M} (h : ∃ (r1 : Int) (U1 : am_U), EvK N X (M_comesOn_s0 d (U 86 1) (am_upd U 86 1 0)) (rI r1 U1) ∧ ((r1 ≠ 0) → ∃ U2 : am_U, EvK N X (M_copies_s0 d 0 1 (am_upd (am_upd U1 120 1 (am_or (am_shl (U1 87 0) 8) (U1 87 1))) 121 1 (U1 87 2))) (rV U2) ∧ R = rI 1 (am_upd U2 86 58 0)) ∧ ((r1 = 0) → ∃ (r3 : Int) (U3 : am_U), EvK N X (M_refuses_s0 d 5 U1) (rI r3 U3) ∧ ((r3 < 0) → R = rI 0 U3) ∧ ((0 ≤ r3) → R = rI 1 U3))) : EvK N X (M_on_s0 (d + 1) U) R := by
  show Ev (am_kz N X) ((d + 1), 70, 0, [some (.inr (.inr 86)), none], [], (am_sh, am_mm U)) R
  refine ev_seg (σ1 := ((d + 1), 70, 7, [some (.inr (.inr 86)), some (.inl (U 86 1))], [.inl 0, .inr (.inr 86)], (am_sh, am_mm U))) 5 (fun _ => rfl) ?_
  refine eu_puti 86 (n := 90) rfl (by decide) rfl rfl ?_
  show Ev (am_kz N X) ((d + 1), 70, 10, [some (.inr (.inr 86)), some (.inl (U 86 1))], [], (am_sh, am_mm (am_upd U 86 1 0))) R
  refine ev_seg (σ1 := ((d + 1), 70, 12, [some (.inr (.inr 86)), some (.inl (U 86 1))], [.inl (U 86 1), .inr (.inr 86)], (am_sh, am_mm (am_upd U 86 1 0)))) 2 (fun _ => rfl) ?_
  obtain ⟨r1, U1, hc, ha⟩ := h
  refine ev_cal (σc := (M_comesOn_s0 d (U 86 1) (am_upd U 86 1 0))) (fun _ => rfl) hc ?_
  show Ev (am_kz N X) ((d + 1), 70, 15, [some (.inr (.inr 86)), some (.inl (U 86 1))], [.inl r1], (am_sh, am_mm U1)) R
  refine ev_br (P := ¬ r1 = 0) (σ1 := ((d + 1), 70, 32, [some (.inr (.inr 86)), some (.inl (U 86 1))], [], (am_sh, am_mm U1))) (σ2 := ((d + 1), 70, 18, [some (.inr (.inr 86)), some (.inl (U 86 1))], [], (am_sh, am_mm U1))) 1 (fun _ => rfl) (fun hc => ?_) (fun hc => ?_)
  · have ha1 := ha.1 hc
    refine ev_seg (σ1 := ((d + 1), 70, 42, [some (.inr (.inr 86)), some (.inl (U 86 1))], [.inl 0, .inr (.inr 87), .inl 1, .inr (.inr 120)], (am_sh, am_mm U1))) 6 (fun _ => rfl) ?_
    refine eu_iald 87 (n := 1800) rfl (by decide) rfl (fun _ => rfl) (by decide) ?_
    show Ev (am_kz N X) ((d + 1), 70, 43, [some (.inr (.inr 86)), some (.inl (U 86 1))], [.inl (U1 87 0), .inl 1, .inr (.inr 120)], (am_sh, am_mm U1)) R
    refine ev_seg (σ1 := ((d + 1), 70, 51, [some (.inr (.inr 86)), some (.inl (U 86 1))], [.inl 1, .inr (.inr 87), .inl (am_shl (U1 87 0) 8), .inl 1, .inr (.inr 120)], (am_sh, am_mm U1))) 5 (fun _ => rfl) ?_
    refine eu_iald 87 (n := 1800) rfl (by decide) rfl (fun _ => rfl) (by decide) ?_
    show Ev (am_kz N X) ((d + 1), 70, 52, [some (.inr (.inr 86)), some (.inl (U 86 1))], [.inl (U1 87 1), .inl (am_shl (U1 87 0) 8), .inl 1, .inr (.inr 120)], (am_sh, am_mm U1)) R
    refine ev_seg (σ1 := ((d + 1), 70, 53, [some (.inr (.inr 86)), some (.inl (U 86 1))], [.inl (am_or (am_shl (U1 87 0) 8) (U1 87 1)), .inl 1, .inr (.inr 120)], (am_sh, am_mm U1))) 1 (fun _ => rfl) ?_
    refine eu_iast 120 (n := 22) rfl (by decide) rfl (fun _ => rfl) (by decide) ?_
    show Ev (am_kz N X) ((d + 1), 70, 54, [some (.inr (.inr 86)), some (.inl (U 86 1))], [], (am_sh, am_mm (am_upd U1 120 1 (am_or (am_shl (U1 87 0) 8) (U1 87 1))))) R
    refine ev_seg (σ1 := ((d + 1), 70, 64, [some (.inr (.inr 86)), some (.inl (U 86 1))], [.inl 2, .inr (.inr 87), .inl 1, .inr (.inr 121)], (am_sh, am_mm (am_upd U1 120 1 (am_or (am_shl (U1 87 0) 8) (U1 87 1)))))) 6 (fun _ => rfl) ?_
    refine eu_iald 87 (n := 1800) rfl (by decide) rfl (fun _ => rfl) (by decide) ?_
    show Ev (am_kz N X) ((d + 1), 70, 65, [some (.inr (.inr 86)), some (.inl (U 86 1))], [.inl (U1 87 2), .inl 1, .inr (.inr 121)], (am_sh, am_mm (am_upd U1 120 1 (am_or (am_shl (U1 87 0) 8) (U1 87 1))))) R
    refine eu_iast 121 (n := 22) rfl (by decide) rfl (fun _ => rfl) (by decide) ?_
    show Ev (am_kz N X) ((d + 1), 70, 66, [some (.inr (.inr 86)), some (.inl (U 86 1))], [], (am_sh, am_mm (am_upd (am_upd U1 120 1 (am_or (am_shl (U1 87 0) 8) (U1 87 1))) 121 1 (U1 87 2)))) R
    refine ev_seg (σ1 := ((d + 1), 70, 69, [some (.inr (.inr 86)), some (.inl (U 86 1))], [.inl 1, .inl 0, .inr (.inr 86)], (am_sh, am_mm (am_upd (am_upd U1 120 1 (am_or (am_shl (U1 87 0) 8) (U1 87 1))) 121 1 (U1 87 2))))) 3 (fun _ => rfl) ?_
    obtain ⟨U2, ha1c, ha1a⟩ := ha1
    refine ev_cal (σc := (M_copies_s0 d 0 1 (am_upd (am_upd U1 120 1 (am_or (am_shl (U1 87 0) 8) (U1 87 1))) 121 1 (U1 87 2)))) (fun _ => rfl) ha1c ?_
    show Ev (am_kz N X) ((d + 1), 70, 72, [some (.inr (.inr 86)), some (.inl (U 86 1))], [], (am_sh, am_mm U2)) R
    refine ev_seg (σ1 := ((d + 1), 70, 74, [some (.inr (.inr 86)), some (.inl (U 86 1))], [.inl 0, .inr (.inr 86)], (am_sh, am_mm U2))) 2 (fun _ => rfl) ?_
    refine eu_puti 86 (n := 90) rfl (by decide) rfl rfl ?_
    show Ev (am_kz N X) ((d + 1), 70, 77, [some (.inr (.inr 86)), some (.inl (U 86 1))], [], (am_sh, am_mm (am_upd U2 86 58 0))) R
    subst ha1a
    exact ev_end 2 (fun _ => rfl)
  · have ha2 := ha.2 (Decidable.not_not.mp hc)
    refine ev_seg (σ1 := ((d + 1), 70, 20, [some (.inr (.inr 86)), some (.inl (U 86 1))], [.inl 5, .inr (.inr 86)], (am_sh, am_mm U1))) 2 (fun _ => rfl) ?_
    obtain ⟨r3, U3, ha2c, ha2a⟩ := ha2
    refine ev_cal (σc := (M_refuses_s0 d 5 U1)) (fun _ => rfl) ha2c ?_
    show Ev (am_kz N X) ((d + 1), 70, 23, [some (.inr (.inr 86)), some (.inl (U 86 1))], [.inl r3], (am_sh, am_mm U3)) R
    refine ev_br (P := r3 < 0) (σ1 := ((d + 1), 70, 30, [some (.inr (.inr 86)), some (.inl (U 86 1))], [], (am_sh, am_mm U3))) (σ2 := ((d + 1), 70, 26, [some (.inr (.inr 86)), some (.inl (U 86 1))], [], (am_sh, am_mm U3))) 1 (fun _ => rfl) (fun hc => ?_) (fun hc => ?_)
    · have ha2a1 := ha2a.1 hc
      subst ha2a1
      exact ev_end 2 (fun _ => rfl)
    · have ha2a2 := ha2a.2 (Int.not_lt.mp hc)
      subst ha2a2
      exact ev_end 3 (fun _ => rfl)
set_option maxRecDepth 8000 in
theorem D_status_r0 {N : Nat} {X : Nat → Int} {d : Nat} {x1 : Int} {U : am_U} {R : Option am_V × am_M} (h : ((x1 < 0) → R = rI (-1) U) ∧ ((0 ≤ x1) → ((6 ≤ x1) → R = rI (-1) U) ∧ ((x1 < 6) → (0 ≤ x1 ∧ x1 < 6) ∧ R = rI (U 85 x1.toNat) U))) : EvK N X (D_status_s0 d x1 U) R := by
  show Ev (am_kz N X) (d, 71, 0, [some (.inr (.inr 1)), some (.inl x1)], [], (am_sh, am_mm U)) R
  refine ev_br (P := x1 < 0) (σ1 := (d, 71, 22, [some (.inr (.inr 1)), some (.inl x1)], [], (am_sh, am_mm U))) (σ2 := (d, 71, 4, [some (.inr (.inr 1)), some (.inl x1)], [], (am_sh, am_mm U))) 2 (fun _ => rfl) (fun hc => ?_) (fun hc => ?_)
  · have h1 := h.1 hc
    subst h1
    exact ev_end 2 (fun _ => rfl)
  · have h2 := h.2 (Int.not_lt.mp hc)
    refine ev_br (P := 6 ≤ x1) (σ1 := (d, 71, 22, [some (.inr (.inr 1)), some (.inl x1)], [], (am_sh, am_mm U))) (σ2 := (d, 71, 13, [some (.inr (.inr 1)), some (.inl x1)], [], (am_sh, am_mm U))) 5 (fun _ => rfl) (fun hc => ?_) (fun hc => ?_)
    · have h21 := h2.1 hc
      subst h21
      exact ev_end 2 (fun _ => rfl)
    · have h22 := h2.2 (Int.not_le.mp hc)
      refine ev_seg (σ1 := (d, 71, 18, [some (.inr (.inr 1)), some (.inl x1)], [.inl x1, .inr (.inr 85)], (am_sh, am_mm U))) 3 (fun _ => rfl) ?_
      refine eu_iald 85 (n := 6) rfl (by decide) rfl (fun _ => rfl) h22.1 ?_
      show Ev (am_kz N X) (d, 71, 19, [some (.inr (.inr 1)), some (.inl x1)], [.inl (U 85 x1.toNat)], (am_sh, am_mm U)) R
      have h22a := h22.2
      subst h22a
      exact ev_end 2 (fun _ => rfl)
set_option maxRecDepth 8000 in
theorem M_status_r0 {N : Nat} {X : Nat → Int} {d : Nat} {x1 : Int} {U : am_U} {R : Option am_V × am_M} (h : ∃ (r1 : Int) (U1 : am_U), EvK N X (M_is_s0 d x1 0 5 U) (rI r1 U1) ∧ ((r1 = 0) → R = rI (-1) U1) ∧ ((r1 ≠ 0) → (0 ≤ x1 ∧ x1 < 6) ∧ R = rI (U1 119 x1.toNat) U1)) : EvK N X (M_status_s0 (d + 1) x1 U) R := by
  show Ev (am_kz N X) ((d + 1), 72, 0, [some (.inr (.inr 86)), some (.inl x1)], [], (am_sh, am_mm U)) R
  refine ev_seg (σ1 := ((d + 1), 72, 3, [some (.inr (.inr 86)), some (.inl x1)], [.inl 5, .inl 0, .inl x1], (am_sh, am_mm U))) 3 (fun _ => rfl) ?_
  obtain ⟨r1, U1, hc, ha⟩ := h
  refine ev_cal (σc := (M_is_s0 d x1 0 5 U)) (fun _ => rfl) hc ?_
  show Ev (am_kz N X) ((d + 1), 72, 6, [some (.inr (.inr 86)), some (.inl x1)], [.inl r1], (am_sh, am_mm U1)) R
  refine ev_br (P := r1 = 0) (σ1 := ((d + 1), 72, 18, [some (.inr (.inr 86)), some (.inl x1)], [], (am_sh, am_mm U1))) (σ2 := ((d + 1), 72, 9, [some (.inr (.inr 86)), some (.inl x1)], [], (am_sh, am_mm U1))) 1 (fun _ => rfl) (fun hc => ?_) (fun hc => ?_)
  · have ha1 := ha.1 hc
    subst ha1
    exact ev_end 2 (fun _ => rfl)
  · have ha2 := ha.2 hc
    refine ev_seg (σ1 := ((d + 1), 72, 14, [some (.inr (.inr 86)), some (.inl x1)], [.inl x1, .inr (.inr 119)], (am_sh, am_mm U1))) 3 (fun _ => rfl) ?_
    refine eu_iald 119 (n := 6) rfl (by decide) rfl (fun _ => rfl) ha2.1 ?_
    show Ev (am_kz N X) ((d + 1), 72, 15, [some (.inr (.inr 86)), some (.inl x1)], [.inl (U1 119 x1.toNat)], (am_sh, am_mm U1)) R
    have ha2a := ha2.2
    subst ha2a
    exact ev_end 2 (fun _ => rfl)
set_option maxRecDepth 8000 in
theorem D_putFour_r0 {N : Nat} {X : Nat → Int} {d : Nat} {x1 : Int} {U : am_U} {R : Option am_V × am_M} (h : EvK N X (D_putFour_s3 d x1 24 U) R) : EvK N X (D_putFour_s0 d x1 U) R := by
  show Ev (am_kz N X) (d, 84, 0, [some (.inr (.inr 1)), some (.inl x1), none], [], (am_sh, am_mm U)) R
  refine ev_seg (σ1 := (d, 84, 3, [some (.inr (.inr 1)), some (.inl x1), some (.inl 24)], [], (am_sh, am_mm U))) 2 (fun _ => rfl) ?_
  exact h
set_option maxRecDepth 8000 in
theorem D_putFour_r3 {N : Nat} {X : Nat → Int} {d : Nat} {x1 x2 : Int} {U : am_U} {R : Option am_V × am_M} (h : ((x2 < 0) → R = rV U) ∧ ((0 ≤ x2) → ((1600 ≤ (U 1 1)) → EvK N X (D_putFour_s3 d x1 (w32 (x2 + (-8))) U) R) ∧ (((U 1 1) < 1600) → (0 ≤ (U 1 1) ∧ (U 1 1) < 1600) ∧ EvK N X (D_putFour_s3 d x1 (w32 (x2 + (-8))) (am_upd (am_upd U 2 ((U 1 1).toNat) (am_and (am_ushr x1 x2) 255)) 1 1 (w32 ((U 1 1) + 1)))) R))) : EvK N X (D_putFour_s3 d x1 x2 U) R := by
  show Ev (am_kz N X) (d, 84, 3, [some (.inr (.inr 1)), some (.inl x1), some (.inl x2)], [], (am_sh, am_mm U)) R
  refine ev_br (P := x2 < 0) (σ1 := (d, 84, 51, [some (.inr (.inr 1)), some (.inl x1), some (.inl x2)], [], (am_sh, am_mm U))) (σ2 := (d, 84, 7, [some (.inr (.inr 1)), some (.inl x1), some (.inl x2)], [], (am_sh, am_mm U))) 2 (fun _ => rfl) (fun hc => ?_) (fun hc => ?_)
  · have h1 := h.1 hc
    subst h1
    exact ev_end 1 (fun _ => rfl)
  · have h2 := h.2 (Int.not_lt.mp hc)
    refine ev_br (P := 1600 ≤ (U 1 1)) (σ1 := (d, 84, 45, [some (.inr (.inr 1)), some (.inl x1), some (.inl x2)], [], (am_sh, am_mm U))) (σ2 := (d, 84, 19, [some (.inr (.inr 1)), some (.inl x1), some (.inl x2)], [], (am_sh, am_mm U))) 6 (fun _ => rfl) (fun hc => ?_) (fun hc => ?_)
    · have h21 := h2.1 hc
      refine ev_seg (σ1 := (d, 84, 3, [some (.inr (.inr 1)), some (.inl x1), some (.inl (w32 (x2 + (-8))))], [], (am_sh, am_mm U))) 2 (fun _ => rfl) ?_
      exact h21
    · have h22 := h2.2 (Int.not_le.mp hc)
      refine ev_seg (σ1 := (d, 84, 34, [some (.inr (.inr 1)), some (.inl x1), some (.inl x2)], [.inl (am_and (am_ushr x1 x2) 255), .inl (U 1 1), .inr (.inr 2)], (am_sh, am_mm U))) 9 (fun _ => rfl) ?_
      refine eu_iast 2 (n := 1600) rfl (by decide) rfl (fun _ => rfl) h22.1 ?_
      show Ev (am_kz N X) (d, 84, 35, [some (.inr (.inr 1)), some (.inl x1), some (.inl x2)], [], (am_sh, am_mm (am_upd U 2 ((U 1 1).toNat) (am_and (am_ushr x1 x2) 255)))) R
      have h22a := h22.2
      refine ev_seg (σ1 := (d, 84, 42, [some (.inr (.inr 1)), some (.inl x1), some (.inl x2)], [.inl (w32 ((U 1 1) + 1)), .inr (.inr 1)], (am_sh, am_mm (am_upd U 2 ((U 1 1).toNat) (am_and (am_ushr x1 x2) 255))))) 5 (fun _ => rfl) ?_
      refine eu_puti 1 (n := 19) rfl (by decide) rfl rfl ?_
      show Ev (am_kz N X) (d, 84, 45, [some (.inr (.inr 1)), some (.inl x1), some (.inl x2)], [], (am_sh, am_mm (am_upd (am_upd U 2 ((U 1 1).toNat) (am_and (am_ushr x1 x2) 255)) 1 1 (w32 ((U 1 1) + 1))))) R
      refine ev_seg (σ1 := (d, 84, 3, [some (.inr (.inr 1)), some (.inl x1), some (.inl (w32 (x2 + (-8))))], [], (am_sh, am_mm (am_upd (am_upd U 2 ((U 1 1).toNat) (am_and (am_ushr x1 x2) 255)) 1 1 (w32 ((U 1 1) + 1)))))) 2 (fun _ => rfl) ?_
      exact h22a
set_option maxRecDepth 8000 in
theorem D_refuse_r0 {N : Nat} {X : Nat → Int} {d : Nat} {x1 : Int} {U : am_U} {R : Option am_V × am_M} (h : ((x1 < 0) → R = rI 0 U) ∧ ((0 ≤ x1) → ((6 ≤ x1) → R = rI 0 U) ∧ ((x1 < 6) → (0 ≤ x1 ∧ x1 < 6) ∧ R = rI 0 (am_upd U 85 x1.toNat (w32 ((U 85 x1.toNat) + 1)))))) : EvK N X (D_refuse_s0 d x1 U) R := by
  show Ev (am_kz N X) (d, 83, 0, [some (.inr (.inr 1)), some (.inl x1)], [], (am_sh, am_mm U)) R
  refine ev_br (P := x1 < 0) (σ1 := (d, 83, 23, [some (.inr (.inr 1)), some (.inl x1)], [], (am_sh, am_mm U))) (σ2 := (d, 83, 4, [some (.inr (.inr 1)), some (.inl x1)], [], (am_sh, am_mm U))) 2 (fun _ => rfl) (fun hc => ?_) (fun hc => ?_)
  · have h1 := h.1 hc
    subst h1
    exact ev_end 2 (fun _ => rfl)
  · have h2 := h.2 (Int.not_lt.mp hc)
    refine ev_br (P := 6 ≤ x1) (σ1 := (d, 83, 23, [some (.inr (.inr 1)), some (.inl x1)], [], (am_sh, am_mm U))) (σ2 := (d, 83, 13, [some (.inr (.inr 1)), some (.inl x1)], [], (am_sh, am_mm U))) 5 (fun _ => rfl) (fun hc => ?_) (fun hc => ?_)
    · have h21 := h2.1 hc
      subst h21
      exact ev_end 2 (fun _ => rfl)
    · have h22 := h2.2 (Int.not_le.mp hc)
      refine ev_seg (σ1 := (d, 83, 19, [some (.inr (.inr 1)), some (.inl x1)], [.inl x1, .inr (.inr 85), .inl x1, .inr (.inr 85)], (am_sh, am_mm U))) 4 (fun _ => rfl) ?_
      refine eu_iald 85 (n := 6) rfl (by decide) rfl (fun _ => rfl) h22.1 ?_
      show Ev (am_kz N X) (d, 83, 20, [some (.inr (.inr 1)), some (.inl x1)], [.inl (U 85 x1.toNat), .inl x1, .inr (.inr 85)], (am_sh, am_mm U)) R
      have h22a := h22.2
      refine ev_seg (σ1 := (d, 83, 22, [some (.inr (.inr 1)), some (.inl x1)], [.inl (w32 ((U 85 x1.toNat) + 1)), .inl x1, .inr (.inr 85)], (am_sh, am_mm U))) 2 (fun _ => rfl) ?_
      refine eu_iast 85 (n := 6) rfl (by decide) rfl (fun _ => rfl) h22.1 ?_
      show Ev (am_kz N X) (d, 83, 23, [some (.inr (.inr 1)), some (.inl x1)], [], (am_sh, am_mm (am_upd U 85 x1.toNat (w32 ((U 85 x1.toNat) + 1))))) R
      subst h22a
      exact ev_end 2 (fun _ => rfl)
set_option maxRecDepth 8000 in
theorem M_put_r0 {N : Nat} {X : Nat → Int} {d : Nat} {x1 : Int} {U : am_U} {R : Option am_V × am_M} (h : EvK N X (M_put_s3 d x1 24 U) R) : EvK N X (M_put_s0 d x1 U) R := by
  show Ev (am_kz N X) (d, 86, 0, [some (.inr (.inr 86)), some (.inl x1), none], [], (am_sh, am_mm U)) R
  refine ev_seg (σ1 := (d, 86, 3, [some (.inr (.inr 86)), some (.inl x1), some (.inl 24)], [], (am_sh, am_mm U))) 2 (fun _ => rfl) ?_
  exact h
set_option maxRecDepth 8000 in
theorem M_put_r3 {N : Nat} {X : Nat → Int} {d : Nat} {x1 x2 : Int} {U : am_U} {R : Option am_V × am_M} (h : ((x2 < 0) → R = rV U) ∧ ((0 ≤ x2) → (0 ≤ (U 86 1) ∧ (U 86 1) < 1800) ∧ EvK N X (M_put_s3 d x1 (w32 (x2 + (-8))) (am_upd (am_upd U 87 ((U 86 1).toNat) (am_and (am_shr x1 x2) 255)) 86 1 (w32 ((U 86 1) + 1)))) R)) : EvK N X (M_put_s3 d x1 x2 U) R := by
  show Ev (am_kz N X) (d, 86, 3, [some (.inr (.inr 86)), some (.inl x1), some (.inl x2)], [], (am_sh, am_mm U)) R
  refine ev_br (P := x2 < 0) (σ1 := (d, 86, 39, [some (.inr (.inr 86)), some (.inl x1), some (.inl x2)], [], (am_sh, am_mm U))) (σ2 := (d, 86, 7, [some (.inr (.inr 86)), some (.inl x1), some (.inl x2)], [], (am_sh, am_mm U))) 2 (fun _ => rfl) (fun hc => ?_) (fun hc => ?_)
  · have h1 := h.1 hc
    subst h1
    exact ev_end 1 (fun _ => rfl)
  · have h2 := h.2 (Int.not_lt.mp hc)
    refine ev_seg (σ1 := (d, 86, 22, [some (.inr (.inr 86)), some (.inl x1), some (.inl x2)], [.inl (am_and (am_shr x1 x2) 255), .inl (U 86 1), .inr (.inr 87)], (am_sh, am_mm U))) 9 (fun _ => rfl) ?_
    refine eu_iast 87 (n := 1800) rfl (by decide) rfl (fun _ => rfl) h2.1 ?_
    show Ev (am_kz N X) (d, 86, 23, [some (.inr (.inr 86)), some (.inl x1), some (.inl x2)], [], (am_sh, am_mm (am_upd U 87 ((U 86 1).toNat) (am_and (am_shr x1 x2) 255)))) R
    have h2a := h2.2
    refine ev_seg (σ1 := (d, 86, 30, [some (.inr (.inr 86)), some (.inl x1), some (.inl x2)], [.inl (w32 ((U 86 1) + 1)), .inr (.inr 86)], (am_sh, am_mm (am_upd U 87 ((U 86 1).toNat) (am_and (am_shr x1 x2) 255))))) 5 (fun _ => rfl) ?_
    refine eu_puti 86 (n := 90) rfl (by decide) rfl rfl ?_
    show Ev (am_kz N X) (d, 86, 33, [some (.inr (.inr 86)), some (.inl x1), some (.inl x2)], [], (am_sh, am_mm (am_upd (am_upd U 87 ((U 86 1).toNat) (am_and (am_shr x1 x2) 255)) 86 1 (w32 ((U 86 1) + 1))))) R
    refine ev_seg (σ1 := (d, 86, 3, [some (.inr (.inr 86)), some (.inl x1), some (.inl (w32 (x2 + (-8))))], [], (am_sh, am_mm (am_upd (am_upd U 87 ((U 86 1).toNat) (am_and (am_shr x1 x2) 255)) 86 1 (w32 ((U 86 1) + 1)))))) 2 (fun _ => rfl) ?_
    exact h2a
set_option maxRecDepth 8000 in
theorem M_refuses_r0 {N : Nat} {X : Nat → Int} {d : Nat} {x1 : Int} {U : am_U} {R : Option am_V × am_M} (h : (0 ≤ x1 ∧ x1 < 6) ∧ R = rI (-1) (am_upd U 119 x1.toNat (w32 ((U 119 x1.toNat) + 1)))) : EvK N X (M_refuses_s0 d x1 U) R := by
  show Ev (am_kz N X) (d, 85, 0, [some (.inr (.inr 86)), some (.inl x1)], [], (am_sh, am_mm U)) R
  refine ev_seg (σ1 := (d, 85, 6, [some (.inr (.inr 86)), some (.inl x1)], [.inl x1, .inr (.inr 119), .inl x1, .inr (.inr 119)], (am_sh, am_mm U))) 4 (fun _ => rfl) ?_
  refine eu_iald 119 (n := 6) rfl (by decide) rfl (fun _ => rfl) h.1 ?_
  show Ev (am_kz N X) (d, 85, 7, [some (.inr (.inr 86)), some (.inl x1)], [.inl (U 119 x1.toNat), .inl x1, .inr (.inr 119)], (am_sh, am_mm U)) R
  have ha := h.2
  refine ev_seg (σ1 := (d, 85, 9, [some (.inr (.inr 86)), some (.inl x1)], [.inl (w32 ((U 119 x1.toNat) + 1)), .inl x1, .inr (.inr 119)], (am_sh, am_mm U))) 2 (fun _ => rfl) ?_
  refine eu_iast 119 (n := 6) rfl (by decide) rfl (fun _ => rfl) h.1 ?_
  show Ev (am_kz N X) (d, 85, 10, [some (.inr (.inr 86)), some (.inl x1)], [], (am_sh, am_mm (am_upd U 119 x1.toNat (w32 ((U 119 x1.toNat) + 1))))) R
  subst ha
  exact ev_end 2 (fun _ => rfl)
set_option maxRecDepth 8000 in
theorem Rd_read_r0 {N : Nat} {X : Nat → Int} {d : Nat} {x2 : Int} {U : am_U} {R : Option am_V × am_M} (h : ∃ U1 : am_U, EvK N X (Tk_cut_s0 d x2 U) (rV U1) ∧ ∃ U2 : am_U, EvK N X (Tw_clear_s0 d U1) (rV U2) ∧ ∃ U3 : am_U, EvK N X (Fk_clear_21_s0 d U2) (rV U3) ∧ ∃ U4 : am_U, EvK N X (Rd_next_s0 d (am_upd (am_upd (am_upd (am_upd U3 26 3 0) 26 4 0) 26 5 (-1)) 26 6 (-1))) (rV U4) ∧ EvK N X (Rd_read_s49 (d + 1) x2 0 U4) R) : EvK N X (Rd_read_s0 (d + 1) x2 U) R := by
  show Ev (am_kz N X) ((d + 1), 87, 0, [some (.inr (.inr 26)), some (.inr (.inr 2)), some (.inl x2), none], [], (am_sh, am_mm U)) R
  refine ev_seg (σ1 := ((d + 1), 87, 6, [some (.inr (.inr 26)), some (.inr (.inr 2)), some (.inl x2), none], [.inl x2, .inr (.inr 2), .inr (.inr 27)], (am_sh, am_mm U))) 4 (fun _ => rfl) ?_
  obtain ⟨U1, hc, ha⟩ := h
  refine ev_cal (σc := (Tk_cut_s0 d x2 U)) (fun _ => rfl) hc ?_
  show Ev (am_kz N X) ((d + 1), 87, 9, [some (.inr (.inr 26)), some (.inr (.inr 2)), some (.inl x2), none], [], (am_sh, am_mm U1)) R
  refine ev_seg (σ1 := ((d + 1), 87, 13, [some (.inr (.inr 26)), some (.inr (.inr 2)), some (.inl x2), none], [.inr (.inr 31)], (am_sh, am_mm U1))) 2 (fun _ => rfl) ?_
  obtain ⟨U2, hac, haa⟩ := ha
  refine ev_cal (σc := (Tw_clear_s0 d U1)) (fun _ => rfl) hac ?_
  show Ev (am_kz N X) ((d + 1), 87, 16, [some (.inr (.inr 26)), some (.inr (.inr 2)), some (.inl x2), none], [], (am_sh, am_mm U2)) R
  refine ev_seg (σ1 := ((d + 1), 87, 20, [some (.inr (.inr 26)), some (.inr (.inr 2)), some (.inl x2), none], [.inr (.inr 21)], (am_sh, am_mm U2))) 2 (fun _ => rfl) ?_
  obtain ⟨U3, haac, haaa⟩ := haa
  refine ev_cal (σc := (Fk_clear_21_s0 d U2)) (fun _ => rfl) haac ?_
  show Ev (am_kz N X) ((d + 1), 87, 23, [some (.inr (.inr 26)), some (.inr (.inr 2)), some (.inl x2), none], [], (am_sh, am_mm U3)) R
  refine ev_seg (σ1 := ((d + 1), 87, 25, [some (.inr (.inr 26)), some (.inr (.inr 2)), some (.inl x2), none], [.inl 0, .inr (.inr 26)], (am_sh, am_mm U3))) 2 (fun _ => rfl) ?_
  refine eu_puti 26 (n := 12) rfl (by decide) rfl rfl ?_
  show Ev (am_kz N X) ((d + 1), 87, 28, [some (.inr (.inr 26)), some (.inr (.inr 2)), some (.inl x2), none], [], (am_sh, am_mm (am_upd U3 26 3 0))) R
  refine ev_seg (σ1 := ((d + 1), 87, 30, [some (.inr (.inr 26)), some (.inr (.inr 2)), some (.inl x2), none], [.inl 0, .inr (.inr 26)], (am_sh, am_mm (am_upd U3 26 3 0)))) 2 (fun _ => rfl) ?_
  refine eu_puti 26 (n := 12) rfl (by decide) rfl rfl ?_
  show Ev (am_kz N X) ((d + 1), 87, 33, [some (.inr (.inr 26)), some (.inr (.inr 2)), some (.inl x2), none], [], (am_sh, am_mm (am_upd (am_upd U3 26 3 0) 26 4 0))) R
  refine ev_seg (σ1 := ((d + 1), 87, 35, [some (.inr (.inr 26)), some (.inr (.inr 2)), some (.inl x2), none], [.inl (-1), .inr (.inr 26)], (am_sh, am_mm (am_upd (am_upd U3 26 3 0) 26 4 0)))) 2 (fun _ => rfl) ?_
  refine eu_puti 26 (n := 12) rfl (by decide) rfl rfl ?_
  show Ev (am_kz N X) ((d + 1), 87, 38, [some (.inr (.inr 26)), some (.inr (.inr 2)), some (.inl x2), none], [], (am_sh, am_mm (am_upd (am_upd (am_upd U3 26 3 0) 26 4 0) 26 5 (-1)))) R
  refine ev_seg (σ1 := ((d + 1), 87, 40, [some (.inr (.inr 26)), some (.inr (.inr 2)), some (.inl x2), none], [.inl (-1), .inr (.inr 26)], (am_sh, am_mm (am_upd (am_upd (am_upd U3 26 3 0) 26 4 0) 26 5 (-1))))) 2 (fun _ => rfl) ?_
  refine eu_puti 26 (n := 12) rfl (by decide) rfl rfl ?_
  show Ev (am_kz N X) ((d + 1), 87, 43, [some (.inr (.inr 26)), some (.inr (.inr 2)), some (.inl x2), none], [], (am_sh, am_mm (am_upd (am_upd (am_upd (am_upd U3 26 3 0) 26 4 0) 26 5 (-1)) 26 6 (-1)))) R
  refine ev_seg (σ1 := ((d + 1), 87, 44, [some (.inr (.inr 26)), some (.inr (.inr 2)), some (.inl x2), none], [.inr (.inr 26)], (am_sh, am_mm (am_upd (am_upd (am_upd (am_upd U3 26 3 0) 26 4 0) 26 5 (-1)) 26 6 (-1))))) 1 (fun _ => rfl) ?_
  obtain ⟨U4, haaac, haaaa⟩ := haaa
  refine ev_cal (σc := (Rd_next_s0 d (am_upd (am_upd (am_upd (am_upd U3 26 3 0) 26 4 0) 26 5 (-1)) 26 6 (-1)))) (fun _ => rfl) haaac ?_
  show Ev (am_kz N X) ((d + 1), 87, 47, [some (.inr (.inr 26)), some (.inr (.inr 2)), some (.inl x2), none], [], (am_sh, am_mm U4)) R
  refine ev_seg (σ1 := ((d + 1), 87, 49, [some (.inr (.inr 26)), some (.inr (.inr 2)), some (.inl x2), some (.inl 0)], [], (am_sh, am_mm U4))) 2 (fun _ => rfl) ?_
  exact haaaa
set_option maxRecDepth 8000 in
theorem Rd_read_r49 {N : Nat} {X : Nat → Int} {d : Nat} {x2 x3 : Int} {U : am_U} {R : Option am_V × am_M} (h : ((80 < x3) → R = rI 1 U) ∧ ((x3 ≤ 80) → (((U 26 7) = 0) → R = rI 1 U) ∧ (((U 26 7) ≠ 0) → ∃ (r1 : Int) (U1 : am_U), EvK N X (Rd_readStatement_s0 d U) (rI r1 U1) ∧ ((r1 ≠ 0) → EvK N X (Rd_read_s49 (d + 1) x2 (w32 (x3 + 1)) (am_upd U1 26 3 (w32 ((U1 26 3) + 1)))) R) ∧ ((r1 = 0) → R = rI 0 U1)))) : EvK N X (Rd_read_s49 (d + 1) x2 x3 U) R := by
  show Ev (am_kz N X) ((d + 1), 87, 49, [some (.inr (.inr 26)), some (.inr (.inr 2)), some (.inl x2), some (.inl x3)], [], (am_sh, am_mm U)) R
  refine ev_br (P := 80 < x3) (σ1 := ((d + 1), 87, 87, [some (.inr (.inr 26)), some (.inr (.inr 2)), some (.inl x2), some (.inl x3)], [], (am_sh, am_mm U))) (σ2 := ((d + 1), 87, 55, [some (.inr (.inr 26)), some (.inr (.inr 2)), some (.inl x2), some (.inl x3)], [], (am_sh, am_mm U))) 3 (fun _ => rfl) (fun hc => ?_) (fun hc => ?_)
  · have h1 := h.1 hc
    subst h1
    exact ev_end 2 (fun _ => rfl)
  · have h2 := h.2 (Int.not_lt.mp hc)
    refine ev_br (P := (U 26 7) = 0) (σ1 := ((d + 1), 87, 87, [some (.inr (.inr 26)), some (.inr (.inr 2)), some (.inl x2), some (.inl x3)], [], (am_sh, am_mm U))) (σ2 := ((d + 1), 87, 62, [some (.inr (.inr 26)), some (.inr (.inr 2)), some (.inl x2), some (.inl x3)], [], (am_sh, am_mm U))) 3 (fun _ => rfl) (fun hc => ?_) (fun hc => ?_)
    · have h21 := h2.1 hc
      subst h21
      exact ev_end 2 (fun _ => rfl)
    · have h22 := h2.2 hc
      refine ev_seg (σ1 := ((d + 1), 87, 63, [some (.inr (.inr 26)), some (.inr (.inr 2)), some (.inl x2), some (.inl x3)], [.inr (.inr 26)], (am_sh, am_mm U))) 1 (fun _ => rfl) ?_
      obtain ⟨r1, U1, h22c, h22a⟩ := h22
      refine ev_cal (σc := (Rd_readStatement_s0 d U)) (fun _ => rfl) h22c ?_
      show Ev (am_kz N X) ((d + 1), 87, 66, [some (.inr (.inr 26)), some (.inr (.inr 2)), some (.inl x2), some (.inl x3)], [.inl r1], (am_sh, am_mm U1)) R
      refine ev_br (P := ¬ r1 = 0) (σ1 := ((d + 1), 87, 71, [some (.inr (.inr 26)), some (.inr (.inr 2)), some (.inl x2), some (.inl x3)], [], (am_sh, am_mm U1))) (σ2 := ((d + 1), 87, 69, [some (.inr (.inr 26)), some (.inr (.inr 2)), some (.inl x2), some (.inl x3)], [], (am_sh, am_mm U1))) 1 (fun _ => rfl) (fun hc => ?_) (fun hc => ?_)
      · have h22a1 := h22a.1 hc
        refine ev_seg (σ1 := ((d + 1), 87, 78, [some (.inr (.inr 26)), some (.inr (.inr 2)), some (.inl x2), some (.inl x3)], [.inl (w32 ((U1 26 3) + 1)), .inr (.inr 26)], (am_sh, am_mm U1))) 5 (fun _ => rfl) ?_
        refine eu_puti 26 (n := 12) rfl (by decide) rfl rfl ?_
        show Ev (am_kz N X) ((d + 1), 87, 81, [some (.inr (.inr 26)), some (.inr (.inr 2)), some (.inl x2), some (.inl x3)], [], (am_sh, am_mm (am_upd U1 26 3 (w32 ((U1 26 3) + 1))))) R
        refine ev_seg (σ1 := ((d + 1), 87, 49, [some (.inr (.inr 26)), some (.inr (.inr 2)), some (.inl x2), some (.inl (w32 (x3 + 1)))], [], (am_sh, am_mm (am_upd U1 26 3 (w32 ((U1 26 3) + 1)))))) 2 (fun _ => rfl) ?_
        exact h22a1
      · have h22a2 := h22a.2 (Decidable.not_not.mp hc)
        subst h22a2
        exact ev_end 2 (fun _ => rfl)
set_option maxRecDepth 8000 in
theorem Tw_copyFrom_r0 {N : Nat} {X : Nat → Int} {d : Nat} {U : am_U} {R : Option am_V × am_M} (h : ∃ U1 : am_U, EvK N X (Tw_copyRow_32_4_s0 d 4 (am_upd (am_upd (am_upd (am_upd (am_upd (am_upd (am_upd U 3 0 (U 31 0)) 3 1 (U 31 1)) 3 2 (U 31 2)) 3 3 (U 31 3)) 3 4 (U 31 4)) 3 5 (U 31 5)) 3 18 (U 31 18))) (rV U1) ∧ ∃ U2 : am_U, EvK N X (Tw_copyRow_33_5_s0 d 12 U1) (rV U2) ∧ ∃ U3 : am_U, EvK N X (Tw_copyRow_34_6_s0 d 12 U2) (rV U3) ∧ ∃ U4 : am_U, EvK N X (Tw_copyRow_35_7_s0 d 12 U3) (rV U4) ∧ ∃ U5 : am_U, EvK N X (Tw_copyRow_36_8_s0 d 12 U4) (rV U5) ∧ ∃ U6 : am_U, EvK N X (Tw_copyRow_37_9_s0 d 12 U5) (rV U6) ∧ ∃ U7 : am_U, EvK N X (Tw_copyRow_38_10_s0 d 12 U6) (rV U7) ∧ ∃ U8 : am_U, EvK N X (Tw_copyRow_40_12_s0 d 8 U7) (rV U8) ∧ ∃ U9 : am_U, EvK N X (Tw_copyRow_41_13_s0 d 9 U8) (rV U9) ∧ ∃ U10 : am_U, EvK N X (Tw_copyRow_42_14_s0 d 9 U9) (rV U10) ∧ ∃ U11 : am_U, EvK N X (Tw_copyRow_43_15_s0 d (U10 3 18) U10) (rV U11) ∧ R = rV U11) : EvK N X (Tw_copyFrom_s0 (d + 1) U) R := by
  show Ev (am_kz N X) ((d + 1), 88, 0, [some (.inr (.inr 3)), some (.inr (.inr 31))], [], (am_sh, am_mm U)) R
  refine ev_seg (σ1 := ((d + 1), 88, 5, [some (.inr (.inr 3)), some (.inr (.inr 31))], [.inl (U 31 0), .inr (.inr 3)], (am_sh, am_mm U))) 3 (fun _ => rfl) ?_
  refine eu_puti 3 (n := 19) rfl (by decide) rfl rfl ?_
  show Ev (am_kz N X) ((d + 1), 88, 8, [some (.inr (.inr 3)), some (.inr (.inr 31))], [], (am_sh, am_mm (am_upd U 3 0 (U 31 0)))) R
  refine ev_seg (σ1 := ((d + 1), 88, 13, [some (.inr (.inr 3)), some (.inr (.inr 31))], [.inl (U 31 1), .inr (.inr 3)], (am_sh, am_mm (am_upd U 3 0 (U 31 0))))) 3 (fun _ => rfl) ?_
  refine eu_puti 3 (n := 19) rfl (by decide) rfl rfl ?_
  show Ev (am_kz N X) ((d + 1), 88, 16, [some (.inr (.inr 3)), some (.inr (.inr 31))], [], (am_sh, am_mm (am_upd (am_upd U 3 0 (U 31 0)) 3 1 (U 31 1)))) R
  refine ev_seg (σ1 := ((d + 1), 88, 21, [some (.inr (.inr 3)), some (.inr (.inr 31))], [.inl (U 31 2), .inr (.inr 3)], (am_sh, am_mm (am_upd (am_upd U 3 0 (U 31 0)) 3 1 (U 31 1))))) 3 (fun _ => rfl) ?_
  refine eu_puti 3 (n := 19) rfl (by decide) rfl rfl ?_
  show Ev (am_kz N X) ((d + 1), 88, 24, [some (.inr (.inr 3)), some (.inr (.inr 31))], [], (am_sh, am_mm (am_upd (am_upd (am_upd U 3 0 (U 31 0)) 3 1 (U 31 1)) 3 2 (U 31 2)))) R
  refine ev_seg (σ1 := ((d + 1), 88, 29, [some (.inr (.inr 3)), some (.inr (.inr 31))], [.inl (U 31 3), .inr (.inr 3)], (am_sh, am_mm (am_upd (am_upd (am_upd U 3 0 (U 31 0)) 3 1 (U 31 1)) 3 2 (U 31 2))))) 3 (fun _ => rfl) ?_
  refine eu_puti 3 (n := 19) rfl (by decide) rfl rfl ?_
  show Ev (am_kz N X) ((d + 1), 88, 32, [some (.inr (.inr 3)), some (.inr (.inr 31))], [], (am_sh, am_mm (am_upd (am_upd (am_upd (am_upd U 3 0 (U 31 0)) 3 1 (U 31 1)) 3 2 (U 31 2)) 3 3 (U 31 3)))) R
  refine ev_seg (σ1 := ((d + 1), 88, 37, [some (.inr (.inr 3)), some (.inr (.inr 31))], [.inl (U 31 4), .inr (.inr 3)], (am_sh, am_mm (am_upd (am_upd (am_upd (am_upd U 3 0 (U 31 0)) 3 1 (U 31 1)) 3 2 (U 31 2)) 3 3 (U 31 3))))) 3 (fun _ => rfl) ?_
  refine eu_puti 3 (n := 19) rfl (by decide) rfl rfl ?_
  show Ev (am_kz N X) ((d + 1), 88, 40, [some (.inr (.inr 3)), some (.inr (.inr 31))], [], (am_sh, am_mm (am_upd (am_upd (am_upd (am_upd (am_upd U 3 0 (U 31 0)) 3 1 (U 31 1)) 3 2 (U 31 2)) 3 3 (U 31 3)) 3 4 (U 31 4)))) R
  refine ev_seg (σ1 := ((d + 1), 88, 45, [some (.inr (.inr 3)), some (.inr (.inr 31))], [.inl (U 31 5), .inr (.inr 3)], (am_sh, am_mm (am_upd (am_upd (am_upd (am_upd (am_upd U 3 0 (U 31 0)) 3 1 (U 31 1)) 3 2 (U 31 2)) 3 3 (U 31 3)) 3 4 (U 31 4))))) 3 (fun _ => rfl) ?_
  refine eu_puti 3 (n := 19) rfl (by decide) rfl rfl ?_
  show Ev (am_kz N X) ((d + 1), 88, 48, [some (.inr (.inr 3)), some (.inr (.inr 31))], [], (am_sh, am_mm (am_upd (am_upd (am_upd (am_upd (am_upd (am_upd U 3 0 (U 31 0)) 3 1 (U 31 1)) 3 2 (U 31 2)) 3 3 (U 31 3)) 3 4 (U 31 4)) 3 5 (U 31 5)))) R
  refine ev_seg (σ1 := ((d + 1), 88, 53, [some (.inr (.inr 3)), some (.inr (.inr 31))], [.inl (U 31 18), .inr (.inr 3)], (am_sh, am_mm (am_upd (am_upd (am_upd (am_upd (am_upd (am_upd U 3 0 (U 31 0)) 3 1 (U 31 1)) 3 2 (U 31 2)) 3 3 (U 31 3)) 3 4 (U 31 4)) 3 5 (U 31 5))))) 3 (fun _ => rfl) ?_
  refine eu_puti 3 (n := 19) rfl (by decide) rfl rfl ?_
  show Ev (am_kz N X) ((d + 1), 88, 56, [some (.inr (.inr 3)), some (.inr (.inr 31))], [], (am_sh, am_mm (am_upd (am_upd (am_upd (am_upd (am_upd (am_upd (am_upd U 3 0 (U 31 0)) 3 1 (U 31 1)) 3 2 (U 31 2)) 3 3 (U 31 3)) 3 4 (U 31 4)) 3 5 (U 31 5)) 3 18 (U 31 18)))) R
  refine ev_seg (σ1 := ((d + 1), 88, 69, [some (.inr (.inr 3)), some (.inr (.inr 31))], [.inl 4, .inr (.inr 4), .inr (.inr 32)], (am_sh, am_mm (am_upd (am_upd (am_upd (am_upd (am_upd (am_upd (am_upd U 3 0 (U 31 0)) 3 1 (U 31 1)) 3 2 (U 31 2)) 3 3 (U 31 3)) 3 4 (U 31 4)) 3 5 (U 31 5)) 3 18 (U 31 18))))) 7 (fun _ => rfl) ?_
  obtain ⟨U1, hc, ha⟩ := h
  refine ev_cal (σc := (Tw_copyRow_32_4_s0 d 4 (am_upd (am_upd (am_upd (am_upd (am_upd (am_upd (am_upd U 3 0 (U 31 0)) 3 1 (U 31 1)) 3 2 (U 31 2)) 3 3 (U 31 3)) 3 4 (U 31 4)) 3 5 (U 31 5)) 3 18 (U 31 18)))) (fun _ => rfl) hc ?_
  show Ev (am_kz N X) ((d + 1), 88, 72, [some (.inr (.inr 3)), some (.inr (.inr 31))], [], (am_sh, am_mm U1)) R
  refine ev_seg (σ1 := ((d + 1), 88, 85, [some (.inr (.inr 3)), some (.inr (.inr 31))], [.inl 12, .inr (.inr 5), .inr (.inr 33)], (am_sh, am_mm U1))) 7 (fun _ => rfl) ?_
  obtain ⟨U2, hac, haa⟩ := ha
  refine ev_cal (σc := (Tw_copyRow_33_5_s0 d 12 U1)) (fun _ => rfl) hac ?_
  show Ev (am_kz N X) ((d + 1), 88, 88, [some (.inr (.inr 3)), some (.inr (.inr 31))], [], (am_sh, am_mm U2)) R
  refine ev_seg (σ1 := ((d + 1), 88, 101, [some (.inr (.inr 3)), some (.inr (.inr 31))], [.inl 12, .inr (.inr 6), .inr (.inr 34)], (am_sh, am_mm U2))) 7 (fun _ => rfl) ?_
  obtain ⟨U3, haac, haaa⟩ := haa
  refine ev_cal (σc := (Tw_copyRow_34_6_s0 d 12 U2)) (fun _ => rfl) haac ?_
  show Ev (am_kz N X) ((d + 1), 88, 104, [some (.inr (.inr 3)), some (.inr (.inr 31))], [], (am_sh, am_mm U3)) R
  refine ev_seg (σ1 := ((d + 1), 88, 117, [some (.inr (.inr 3)), some (.inr (.inr 31))], [.inl 12, .inr (.inr 7), .inr (.inr 35)], (am_sh, am_mm U3))) 7 (fun _ => rfl) ?_
  obtain ⟨U4, haaac, haaaa⟩ := haaa
  refine ev_cal (σc := (Tw_copyRow_35_7_s0 d 12 U3)) (fun _ => rfl) haaac ?_
  show Ev (am_kz N X) ((d + 1), 88, 120, [some (.inr (.inr 3)), some (.inr (.inr 31))], [], (am_sh, am_mm U4)) R
  refine ev_seg (σ1 := ((d + 1), 88, 133, [some (.inr (.inr 3)), some (.inr (.inr 31))], [.inl 12, .inr (.inr 8), .inr (.inr 36)], (am_sh, am_mm U4))) 7 (fun _ => rfl) ?_
  obtain ⟨U5, haaaac, haaaaa⟩ := haaaa
  refine ev_cal (σc := (Tw_copyRow_36_8_s0 d 12 U4)) (fun _ => rfl) haaaac ?_
  show Ev (am_kz N X) ((d + 1), 88, 136, [some (.inr (.inr 3)), some (.inr (.inr 31))], [], (am_sh, am_mm U5)) R
  refine ev_seg (σ1 := ((d + 1), 88, 149, [some (.inr (.inr 3)), some (.inr (.inr 31))], [.inl 12, .inr (.inr 9), .inr (.inr 37)], (am_sh, am_mm U5))) 7 (fun _ => rfl) ?_
  obtain ⟨U6, haaaaac, haaaaaa⟩ := haaaaa
  refine ev_cal (σc := (Tw_copyRow_37_9_s0 d 12 U5)) (fun _ => rfl) haaaaac ?_
  show Ev (am_kz N X) ((d + 1), 88, 152, [some (.inr (.inr 3)), some (.inr (.inr 31))], [], (am_sh, am_mm U6)) R
  refine ev_seg (σ1 := ((d + 1), 88, 165, [some (.inr (.inr 3)), some (.inr (.inr 31))], [.inl 12, .inr (.inr 10), .inr (.inr 38)], (am_sh, am_mm U6))) 7 (fun _ => rfl) ?_
  obtain ⟨U7, haaaaaac, haaaaaaa⟩ := haaaaaa
  refine ev_cal (σc := (Tw_copyRow_38_10_s0 d 12 U6)) (fun _ => rfl) haaaaaac ?_
  show Ev (am_kz N X) ((d + 1), 88, 168, [some (.inr (.inr 3)), some (.inr (.inr 31))], [], (am_sh, am_mm U7)) R
  refine ev_seg (σ1 := ((d + 1), 88, 181, [some (.inr (.inr 3)), some (.inr (.inr 31))], [.inl 8, .inr (.inr 12), .inr (.inr 40)], (am_sh, am_mm U7))) 7 (fun _ => rfl) ?_
  obtain ⟨U8, haaaaaaac, haaaaaaaa⟩ := haaaaaaa
  refine ev_cal (σc := (Tw_copyRow_40_12_s0 d 8 U7)) (fun _ => rfl) haaaaaaac ?_
  show Ev (am_kz N X) ((d + 1), 88, 184, [some (.inr (.inr 3)), some (.inr (.inr 31))], [], (am_sh, am_mm U8)) R
  refine ev_seg (σ1 := ((d + 1), 88, 197, [some (.inr (.inr 3)), some (.inr (.inr 31))], [.inl 9, .inr (.inr 13), .inr (.inr 41)], (am_sh, am_mm U8))) 7 (fun _ => rfl) ?_
  obtain ⟨U9, haaaaaaaac, haaaaaaaaa⟩ := haaaaaaaa
  refine ev_cal (σc := (Tw_copyRow_41_13_s0 d 9 U8)) (fun _ => rfl) haaaaaaaac ?_
  show Ev (am_kz N X) ((d + 1), 88, 200, [some (.inr (.inr 3)), some (.inr (.inr 31))], [], (am_sh, am_mm U9)) R
  refine ev_seg (σ1 := ((d + 1), 88, 213, [some (.inr (.inr 3)), some (.inr (.inr 31))], [.inl 9, .inr (.inr 14), .inr (.inr 42)], (am_sh, am_mm U9))) 7 (fun _ => rfl) ?_
  obtain ⟨U10, haaaaaaaaac, haaaaaaaaaa⟩ := haaaaaaaaa
  refine ev_cal (σc := (Tw_copyRow_42_14_s0 d 9 U9)) (fun _ => rfl) haaaaaaaaac ?_
  show Ev (am_kz N X) ((d + 1), 88, 216, [some (.inr (.inr 3)), some (.inr (.inr 31))], [], (am_sh, am_mm U10)) R
  refine ev_seg (σ1 := ((d + 1), 88, 228, [some (.inr (.inr 3)), some (.inr (.inr 31))], [.inl (U10 3 18), .inr (.inr 15), .inr (.inr 43)], (am_sh, am_mm U10))) 6 (fun _ => rfl) ?_
  obtain ⟨U11, haaaaaaaaaac, haaaaaaaaaaa⟩ := haaaaaaaaaa
  refine ev_cal (σc := (Tw_copyRow_43_15_s0 d (U10 3 18) U10)) (fun _ => rfl) haaaaaaaaaac ?_
  show Ev (am_kz N X) ((d + 1), 88, 231, [some (.inr (.inr 3)), some (.inr (.inr 31))], [], (am_sh, am_mm U11)) R
  subst haaaaaaaaaaa
  exact ev_end 1 (fun _ => rfl)
set_option maxRecDepth 8000 in
theorem Fk_copyFrom_r0 {N : Nat} {X : Nat → Int} {d : Nat} {U : am_U} {R : Option am_V × am_M} (h : ∃ U1 : am_U, EvK N X (Fk_clear_16_s0 d U) (rV U1) ∧ (U1 21 2 = 0 ∨ U1 21 2 = 1) ∧ EvK N X (Fk_copyFrom_s22 (d + 1) 0 (am_upd (am_upd U1 16 1 (U1 21 1)) 16 2 (U1 21 2))) R) : EvK N X (Fk_copyFrom_s0 (d + 1) U) R := by
  show Ev (am_kz N X) ((d + 1), 89, 0, [some (.inr (.inr 16)), some (.inr (.inr 21)), none], [], (am_sh, am_mm U)) R
  refine ev_seg (σ1 := ((d + 1), 89, 1, [some (.inr (.inr 16)), some (.inr (.inr 21)), none], [.inr (.inr 16)], (am_sh, am_mm U))) 1 (fun _ => rfl) ?_
  obtain ⟨U1, hc, ha⟩ := h
  refine ev_cal (σc := (Fk_clear_16_s0 d U)) (fun _ => rfl) hc ?_
  show Ev (am_kz N X) ((d + 1), 89, 4, [some (.inr (.inr 16)), some (.inr (.inr 21)), none], [], (am_sh, am_mm U1)) R
  refine ev_seg (σ1 := ((d + 1), 89, 9, [some (.inr (.inr 16)), some (.inr (.inr 21)), none], [.inl (U1 21 1), .inr (.inr 16)], (am_sh, am_mm U1))) 3 (fun _ => rfl) ?_
  refine eu_puti 16 (n := 7) rfl (by decide) rfl rfl ?_
  show Ev (am_kz N X) ((d + 1), 89, 12, [some (.inr (.inr 16)), some (.inr (.inr 21)), none], [], (am_sh, am_mm (am_upd U1 16 1 (U1 21 1)))) R
  refine ev_seg (σ1 := ((d + 1), 89, 17, [some (.inr (.inr 16)), some (.inr (.inr 21)), none], [.inl (U1 21 2), .inr (.inr 16)], (am_sh, am_mm (am_upd U1 16 1 (U1 21 1))))) 3 (fun _ => rfl) ?_
  refine eu_putz 16 (n := 7) rfl (by decide) rfl rfl ha.1 ?_
  show Ev (am_kz N X) ((d + 1), 89, 20, [some (.inr (.inr 16)), some (.inr (.inr 21)), none], [], (am_sh, am_mm (am_upd (am_upd U1 16 1 (U1 21 1)) 16 2 (U1 21 2)))) R
  have haa := ha.2
  refine ev_seg (σ1 := ((d + 1), 89, 22, [some (.inr (.inr 16)), some (.inr (.inr 21)), some (.inl 0)], [], (am_sh, am_mm (am_upd (am_upd U1 16 1 (U1 21 1)) 16 2 (U1 21 2))))) 2 (fun _ => rfl) ?_
  exact haa
set_option maxRecDepth 8000 in
theorem Fk_copyFrom_r22 {N : Nat} {X : Nat → Int} {d : Nat} {x2 : Int} {U : am_U} {R : Option am_V × am_M} (h : (((U 21 0) ≤ x2) → R = rV U) ∧ ((x2 < (U 21 0)) → (0 ≤ x2 ∧ x2 < 16) ∧ ∃ U1 : am_U, EvK N X (Fk_add_16_s0 d (U 22 x2.toNat) (U 23 x2.toNat) U) (rV U1) ∧ EvK N X (Fk_copyFrom_s22 (d + 1) (w32 (x2 + 1)) U1) R)) : EvK N X (Fk_copyFrom_s22 (d + 1) x2 U) R := by
  show Ev (am_kz N X) ((d + 1), 89, 22, [some (.inr (.inr 16)), some (.inr (.inr 21)), some (.inl x2)], [], (am_sh, am_mm U)) R
  refine ev_br (P := (U 21 0) ≤ x2) (σ1 := ((d + 1), 89, 52, [some (.inr (.inr 16)), some (.inr (.inr 21)), some (.inl x2)], [], (am_sh, am_mm U))) (σ2 := ((d + 1), 89, 30, [some (.inr (.inr 16)), some (.inr (.inr 21)), some (.inl x2)], [], (am_sh, am_mm U))) 4 (fun _ => rfl) (fun hc => ?_) (fun hc => ?_)
  · have h1 := h.1 hc
    subst h1
    exact ev_end 1 (fun _ => rfl)
  · have h2 := h.2 (Int.not_le.mp hc)
    refine ev_seg (σ1 := ((d + 1), 89, 36, [some (.inr (.inr 16)), some (.inr (.inr 21)), some (.inl x2)], [.inl x2, .inr (.inr 22), .inr (.inr 16)], (am_sh, am_mm U))) 4 (fun _ => rfl) ?_
    refine eu_iald 22 (n := 16) rfl (by decide) rfl (fun _ => rfl) h2.1 ?_
    show Ev (am_kz N X) ((d + 1), 89, 37, [some (.inr (.inr 16)), some (.inr (.inr 21)), some (.inl x2)], [.inl (U 22 x2.toNat), .inr (.inr 16)], (am_sh, am_mm U)) R
    have h2a := h2.2
    refine ev_seg (σ1 := ((d + 1), 89, 42, [some (.inr (.inr 16)), some (.inr (.inr 21)), some (.inl x2)], [.inl x2, .inr (.inr 23), .inl (U 22 x2.toNat), .inr (.inr 16)], (am_sh, am_mm U))) 3 (fun _ => rfl) ?_
    refine eu_iald 23 (n := 16) rfl (by decide) rfl (fun _ => rfl) h2.1 ?_
    show Ev (am_kz N X) ((d + 1), 89, 43, [some (.inr (.inr 16)), some (.inr (.inr 21)), some (.inl x2)], [.inl (U 23 x2.toNat), .inl (U 22 x2.toNat), .inr (.inr 16)], (am_sh, am_mm U)) R
    obtain ⟨U1, h2ac, h2aa⟩ := h2a
    refine ev_cal (σc := (Fk_add_16_s0 d (U 22 x2.toNat) (U 23 x2.toNat) U)) (fun _ => rfl) h2ac ?_
    show Ev (am_kz N X) ((d + 1), 89, 46, [some (.inr (.inr 16)), some (.inr (.inr 21)), some (.inl x2)], [], (am_sh, am_mm U1)) R
    refine ev_seg (σ1 := ((d + 1), 89, 22, [some (.inr (.inr 16)), some (.inr (.inr 21)), some (.inl (w32 (x2 + 1)))], [], (am_sh, am_mm U1))) 2 (fun _ => rfl) ?_
    exact h2aa
set_option maxRecDepth 8000 in
theorem Rl_forget_r0 {N : Nat} {X : Nat → Int} {d : Nat} {U : am_U} {R : Option am_V × am_M} (h : R = rV (am_upd U 78 5 0)) : EvK N X (Rl_forget_s0 d U) R := by
  show Ev (am_kz N X) (d, 90, 0, [some (.inr (.inr 78))], [], (am_sh, am_mm U)) R
  refine ev_seg (σ1 := (d, 90, 2, [some (.inr (.inr 78))], [.inl 0, .inr (.inr 78)], (am_sh, am_mm U))) 2 (fun _ => rfl) ?_
  refine eu_puti 78 (n := 6) rfl (by decide) rfl rfl ?_
  show Ev (am_kz N X) (d, 90, 5, [some (.inr (.inr 78))], [], (am_sh, am_mm (am_upd U 78 5 0))) R
  subst h
  exact ev_end 1 (fun _ => rfl)
set_option maxRecDepth 8000 in
theorem Hs_forget_r0 {N : Nat} {X : Nat → Int} {d : Nat} {U : am_U} {R : Option am_V × am_M} (h : R = rV (am_upd U 56 2 0)) : EvK N X (Hs_forget_s0 d U) R := by
  show Ev (am_kz N X) (d, 91, 0, [some (.inr (.inr 56))], [], (am_sh, am_mm U)) R
  refine ev_seg (σ1 := (d, 91, 2, [some (.inr (.inr 56))], [.inl 0, .inr (.inr 56)], (am_sh, am_mm U))) 2 (fun _ => rfl) ?_
  refine eu_puti 56 (n := 3) rfl (by decide) rfl rfl ?_
  show Ev (am_kz N X) (d, 91, 5, [some (.inr (.inr 56))], [], (am_sh, am_mm (am_upd U 56 2 0))) R
  subst h
  exact ev_end 1 (fun _ => rfl)
set_option maxRecDepth 8000 in
theorem D_forgetAnswers_r0 {N : Nat} {X : Nat → Int} {d : Nat} {U : am_U} {R : Option am_V × am_M} (h : ∃ U1 : am_U, EvK N X (Jg_forget_s0 d U) (rV U1) ∧ ∃ U2 : am_U, EvK N X (Pl_forget_s0 d U1) (rV U2) ∧ ∃ U3 : am_U, EvK N X (Cp_forget_s0 d U2) (rV U3) ∧ R = rV U3) : EvK N X (D_forgetAnswers_s0 (d + 1) U) R := by
  show Ev (am_kz N X) ((d + 1), 92, 0, [some (.inr (.inr 1))], [], (am_sh, am_mm U)) R
  refine ev_seg (σ1 := ((d + 1), 92, 4, [some (.inr (.inr 1))], [.inr (.inr 45)], (am_sh, am_mm U))) 2 (fun _ => rfl) ?_
  obtain ⟨U1, hc, ha⟩ := h
  refine ev_cal (σc := (Jg_forget_s0 d U)) (fun _ => rfl) hc ?_
  show Ev (am_kz N X) ((d + 1), 92, 7, [some (.inr (.inr 1))], [], (am_sh, am_mm U1)) R
  refine ev_seg (σ1 := ((d + 1), 92, 11, [some (.inr (.inr 1))], [.inr (.inr 48)], (am_sh, am_mm U1))) 2 (fun _ => rfl) ?_
  obtain ⟨U2, hac, haa⟩ := ha
  refine ev_cal (σc := (Pl_forget_s0 d U1)) (fun _ => rfl) hac ?_
  show Ev (am_kz N X) ((d + 1), 92, 14, [some (.inr (.inr 1))], [], (am_sh, am_mm U2)) R
  refine ev_seg (σ1 := ((d + 1), 92, 18, [some (.inr (.inr 1))], [.inr (.inr 52)], (am_sh, am_mm U2))) 2 (fun _ => rfl) ?_
  obtain ⟨U3, haac, haaa⟩ := haa
  refine ev_cal (σc := (Cp_forget_s0 d U2)) (fun _ => rfl) haac ?_
  show Ev (am_kz N X) ((d + 1), 92, 21, [some (.inr (.inr 1))], [], (am_sh, am_mm U3)) R
  subst haaa
  exact ev_end 1 (fun _ => rfl)
set_option maxRecDepth 8000 in
theorem M_ahead_r0 {N : Nat} {X : Nat → Int} {d : Nat} {U : am_U} {R : Option am_V × am_M} (h : EvK N X (M_ahead_s5 (d + 1) (U 86 5) U) R) : EvK N X (M_ahead_s0 (d + 1) U) R := by
  show Ev (am_kz N X) ((d + 1), 93, 0, [some (.inr (.inr 86)), none, none, none, none, none], [], (am_sh, am_mm U)) R
  refine ev_seg (σ1 := ((d + 1), 93, 5, [some (.inr (.inr 86)), some (.inl (U 86 5)), none, none, none, none], [], (am_sh, am_mm U))) 3 (fun _ => rfl) ?_
  exact h
set_option maxRecDepth 8000 in
theorem M_ahead_r5 {N : Nat} {X : Nat → Int} {d : Nat} {x1 : Int} {U : am_U} {R : Option am_V × am_M} (h : (((U 86 2) ≤ x1) → R = rV (am_upd (am_upd (am_upd (am_upd U 86 4 x1) 86 5 x1) 86 3 0) 86 12 (-1))) ∧ ((x1 < (U 86 2)) → (0 ≤ x1 ∧ x1 < 1800) ∧ (((U 87 x1.toNat) = 32) → EvK N X (M_ahead_s5 (d + 1) (w32 (x1 + 1)) U) R) ∧ (((U 87 x1.toNat) ≠ 32) → (((U 87 x1.toNat) ≠ 10) → ∃ (r1 : Int) (U1 : am_U), EvK N X (M_isLetter_s0 d (U 87 x1.toNat) (am_upd (am_upd (am_upd (am_upd U 86 4 x1) 86 5 x1) 86 3 0) 86 12 (-1))) (rI r1 U1) ∧ ∃ (r2 : Int) (U2 : am_U), EvK N X (M_isDigit_s0 d (U1 87 x1.toNat) U1) (rI r2 U2) ∧ ((r1 ≠ 0) → ((x1 ≤ 0) → EvK N X (M_ahead_s135 (d + 1) x1 r1 r2 U2) R) ∧ ((0 < x1) → (0 ≤ (w32 (x1 - 1)) ∧ (w32 (x1 - 1)) < 1800) ∧ ∃ (r3 : Int) (U3 : am_U), EvK N X (M_isLetter_s0 d (U2 87 ((w32 (x1 - 1)).toNat)) U2) (rI r3 U3) ∧ ((r3 ≠ 0) → EvK N X (M_ahead_s135 (d + 1) x1 r1 r2 (am_upd U3 86 12 x1)) R) ∧ ((r3 = 0) → ∃ (r4 : Int) (U4 : am_U), EvK N X (M_isDigit_s0 d (U3 87 ((w32 (x1 - 1)).toNat)) U3) (rI r4 U4) ∧ ((r4 = 0) → EvK N X (M_ahead_s135 (d + 1) x1 r1 r2 U4) R) ∧ ((r4 ≠ 0) → EvK N X (M_ahead_s135 (d + 1) x1 r1 r2 (am_upd U4 86 12 x1)) R)))) ∧ ((r1 = 0) → ((r2 = 0) → EvK N X (M_ahead_s135 (d + 1) x1 r1 r2 U2) R) ∧ ((r2 ≠ 0) → ((x1 ≤ 0) → EvK N X (M_ahead_s135 (d + 1) x1 r1 r2 U2) R) ∧ ((0 < x1) → (0 ≤ (w32 (x1 - 1)) ∧ (w32 (x1 - 1)) < 1800) ∧ ∃ (r5 : Int) (U5 : am_U), EvK N X (M_isLetter_s0 d (U2 87 ((w32 (x1 - 1)).toNat)) U2) (rI r5 U5) ∧ ((r5 ≠ 0) → EvK N X (M_ahead_s135 (d + 1) x1 r1 r2 (am_upd U5 86 12 x1)) R) ∧ ((r5 = 0) → ∃ (r6 : Int) (U6 : am_U), EvK N X (M_isDigit_s0 d (U5 87 ((w32 (x1 - 1)).toNat)) U5) (rI r6 U6) ∧ ((r6 = 0) → EvK N X (M_ahead_s135 (d + 1) x1 r1 r2 U6) R) ∧ ((r6 ≠ 0) → EvK N X (M_ahead_s135 (d + 1) x1 r1 r2 (am_upd U6 86 12 x1)) R)))))) ∧ (((U 87 x1.toNat) = 10) → EvK N X (M_ahead_s5 (d + 1) (w32 (x1 + 1)) U) R)))) : EvK N X (M_ahead_s5 (d + 1) x1 U) R := by
  show Ev (am_kz N X) ((d + 1), 93, 5, [some (.inr (.inr 86)), some (.inl x1), none, none, none, none], [], (am_sh, am_mm U)) R
  refine ev_br (P := (U 86 2) ≤ x1) (σ1 := ((d + 1), 93, 41, [some (.inr (.inr 86)), some (.inl x1), none, none, none, none], [], (am_sh, am_mm U))) (σ2 := ((d + 1), 93, 13, [some (.inr (.inr 86)), some (.inl x1), none, none, none, none], [], (am_sh, am_mm U))) 4 (fun _ => rfl) (fun hc => ?_) (fun hc => ?_)
  · have h1 := h.1 hc
    have hq := hc
    refine ev_seg (σ1 := ((d + 1), 93, 43, [some (.inr (.inr 86)), some (.inl x1), none, none, none, none], [.inl x1, .inr (.inr 86)], (am_sh, am_mm U))) 2 (fun _ => rfl) ?_
    refine eu_puti 86 (n := 90) rfl (by decide) rfl rfl ?_
    show Ev (am_kz N X) ((d + 1), 93, 46, [some (.inr (.inr 86)), some (.inl x1), none, none, none, none], [], (am_sh, am_mm (am_upd U 86 4 x1))) R
    refine ev_seg (σ1 := ((d + 1), 93, 48, [some (.inr (.inr 86)), some (.inl x1), none, none, none, none], [.inl x1, .inr (.inr 86)], (am_sh, am_mm (am_upd U 86 4 x1)))) 2 (fun _ => rfl) ?_
    refine eu_puti 86 (n := 90) rfl (by decide) rfl rfl ?_
    show Ev (am_kz N X) ((d + 1), 93, 51, [some (.inr (.inr 86)), some (.inl x1), none, none, none, none], [], (am_sh, am_mm (am_upd (am_upd U 86 4 x1) 86 5 x1))) R
    refine ev_seg (σ1 := ((d + 1), 93, 53, [some (.inr (.inr 86)), some (.inl x1), none, none, none, none], [.inl 0, .inr (.inr 86)], (am_sh, am_mm (am_upd (am_upd U 86 4 x1) 86 5 x1)))) 2 (fun _ => rfl) ?_
    refine eu_puti 86 (n := 90) rfl (by decide) rfl rfl ?_
    show Ev (am_kz N X) ((d + 1), 93, 56, [some (.inr (.inr 86)), some (.inl x1), none, none, none, none], [], (am_sh, am_mm (am_upd (am_upd (am_upd U 86 4 x1) 86 5 x1) 86 3 0))) R
    refine ev_seg (σ1 := ((d + 1), 93, 58, [some (.inr (.inr 86)), some (.inl x1), none, none, none, none], [.inl (-1), .inr (.inr 86)], (am_sh, am_mm (am_upd (am_upd (am_upd U 86 4 x1) 86 5 x1) 86 3 0)))) 2 (fun _ => rfl) ?_
    refine eu_puti 86 (n := 90) rfl (by decide) rfl rfl ?_
    show Ev (am_kz N X) ((d + 1), 93, 61, [some (.inr (.inr 86)), some (.inl x1), none, none, none, none], [], (am_sh, am_mm (am_upd (am_upd (am_upd (am_upd U 86 4 x1) 86 5 x1) 86 3 0) 86 12 (-1)))) R
    refine ev_br (P := x1 < (U 86 2)) (σ1 := ((d + 1), 93, 70, [some (.inr (.inr 86)), some (.inl x1), none, none, none, none], [], (am_sh, am_mm (am_upd (am_upd (am_upd (am_upd U 86 4 x1) 86 5 x1) 86 3 0) 86 12 (-1))))) (σ2 := ((d + 1), 93, 69, [some (.inr (.inr 86)), some (.inl x1), none, none, none, none], [], (am_sh, am_mm (am_upd (am_upd (am_upd (am_upd U 86 4 x1) 86 5 x1) 86 3 0) 86 12 (-1))))) 4 (fun _ => rfl) (fun hc => absurd hq (fun h0 => by have h1 := hc; omega)) (fun hc => ?_)
    subst h1
    exact ev_end 1 (fun _ => rfl)
  · have h2 := h.2 (Int.not_le.mp hc)
    have hq := (Int.not_le.mp hc)
    refine ev_seg (σ1 := ((d + 1), 93, 18, [some (.inr (.inr 86)), some (.inl x1), none, none, none, none], [.inl x1, .inr (.inr 87)], (am_sh, am_mm U))) 3 (fun _ => rfl) ?_
    refine eu_iald 87 (n := 1800) rfl (by decide) rfl (fun _ => rfl) h2.1 ?_
    show Ev (am_kz N X) ((d + 1), 93, 19, [some (.inr (.inr 86)), some (.inl x1), none, none, none, none], [.inl (U 87 x1.toNat)], (am_sh, am_mm U)) R
    have h2a := h2.2
    refine ev_br (P := (U 87 x1.toNat) = 32) (σ1 := ((d + 1), 93, 35, [some (.inr (.inr 86)), some (.inl x1), none, none, none, none], [], (am_sh, am_mm U))) (σ2 := ((d + 1), 93, 24, [some (.inr (.inr 86)), some (.inl x1), none, none, none, none], [], (am_sh, am_mm U))) 2 (fun _ => rfl) (fun hc => ?_) (fun hc => ?_)
    · have h2a1 := h2a.1 hc
      refine ev_seg (σ1 := ((d + 1), 93, 5, [some (.inr (.inr 86)), some (.inl (w32 (x1 + 1))), none, none, none, none], [], (am_sh, am_mm U))) 2 (fun _ => rfl) ?_
      exact h2a1
    · have h2a2 := h2a.2 hc
      refine ev_seg (σ1 := ((d + 1), 93, 29, [some (.inr (.inr 86)), some (.inl x1), none, none, none, none], [.inl x1, .inr (.inr 87)], (am_sh, am_mm U))) 3 (fun _ => rfl) ?_
      refine eu_iald 87 (n := 1800) rfl (by decide) rfl (fun _ => rfl) h2.1 ?_
      show Ev (am_kz N X) ((d + 1), 93, 30, [some (.inr (.inr 86)), some (.inl x1), none, none, none, none], [.inl (U 87 x1.toNat)], (am_sh, am_mm U)) R
      refine ev_br (P := ¬ (U 87 x1.toNat) = 10) (σ1 := ((d + 1), 93, 41, [some (.inr (.inr 86)), some (.inl x1), none, none, none, none], [], (am_sh, am_mm U))) (σ2 := ((d + 1), 93, 35, [some (.inr (.inr 86)), some (.inl x1), none, none, none, none], [], (am_sh, am_mm U))) 2 (fun _ => rfl) (fun hc => ?_) (fun hc => ?_)
      · have h2a21 := h2a2.1 hc
        refine ev_seg (σ1 := ((d + 1), 93, 43, [some (.inr (.inr 86)), some (.inl x1), none, none, none, none], [.inl x1, .inr (.inr 86)], (am_sh, am_mm U))) 2 (fun _ => rfl) ?_
        refine eu_puti 86 (n := 90) rfl (by decide) rfl rfl ?_
        show Ev (am_kz N X) ((d + 1), 93, 46, [some (.inr (.inr 86)), some (.inl x1), none, none, none, none], [], (am_sh, am_mm (am_upd U 86 4 x1))) R
        refine ev_seg (σ1 := ((d + 1), 93, 48, [some (.inr (.inr 86)), some (.inl x1), none, none, none, none], [.inl x1, .inr (.inr 86)], (am_sh, am_mm (am_upd U 86 4 x1)))) 2 (fun _ => rfl) ?_
        refine eu_puti 86 (n := 90) rfl (by decide) rfl rfl ?_
        show Ev (am_kz N X) ((d + 1), 93, 51, [some (.inr (.inr 86)), some (.inl x1), none, none, none, none], [], (am_sh, am_mm (am_upd (am_upd U 86 4 x1) 86 5 x1))) R
        refine ev_seg (σ1 := ((d + 1), 93, 53, [some (.inr (.inr 86)), some (.inl x1), none, none, none, none], [.inl 0, .inr (.inr 86)], (am_sh, am_mm (am_upd (am_upd U 86 4 x1) 86 5 x1)))) 2 (fun _ => rfl) ?_
        refine eu_puti 86 (n := 90) rfl (by decide) rfl rfl ?_
        show Ev (am_kz N X) ((d + 1), 93, 56, [some (.inr (.inr 86)), some (.inl x1), none, none, none, none], [], (am_sh, am_mm (am_upd (am_upd (am_upd U 86 4 x1) 86 5 x1) 86 3 0))) R
        refine ev_seg (σ1 := ((d + 1), 93, 58, [some (.inr (.inr 86)), some (.inl x1), none, none, none, none], [.inl (-1), .inr (.inr 86)], (am_sh, am_mm (am_upd (am_upd (am_upd U 86 4 x1) 86 5 x1) 86 3 0)))) 2 (fun _ => rfl) ?_
        refine eu_puti 86 (n := 90) rfl (by decide) rfl rfl ?_
        show Ev (am_kz N X) ((d + 1), 93, 61, [some (.inr (.inr 86)), some (.inl x1), none, none, none, none], [], (am_sh, am_mm (am_upd (am_upd (am_upd (am_upd U 86 4 x1) 86 5 x1) 86 3 0) 86 12 (-1)))) R
        refine ev_br (P := x1 < (U 86 2)) (σ1 := ((d + 1), 93, 70, [some (.inr (.inr 86)), some (.inl x1), none, none, none, none], [], (am_sh, am_mm (am_upd (am_upd (am_upd (am_upd U 86 4 x1) 86 5 x1) 86 3 0) 86 12 (-1))))) (σ2 := ((d + 1), 93, 69, [some (.inr (.inr 86)), some (.inl x1), none, none, none, none], [], (am_sh, am_mm (am_upd (am_upd (am_upd (am_upd U 86 4 x1) 86 5 x1) 86 3 0) 86 12 (-1))))) 4 (fun _ => rfl) (fun hc => ?_) (fun hc => absurd hq (fun h0 => by have h1 := (Int.not_lt.mp hc); omega))
        refine ev_seg (σ1 := ((d + 1), 93, 75, [some (.inr (.inr 86)), some (.inl x1), none, none, none, none], [.inl x1, .inr (.inr 87)], (am_sh, am_mm (am_upd (am_upd (am_upd (am_upd U 86 4 x1) 86 5 x1) 86 3 0) 86 12 (-1))))) 3 (fun _ => rfl) ?_
        refine eu_iald 87 (n := 1800) rfl (by decide) rfl (fun _ => rfl) h2.1 ?_
        show Ev (am_kz N X) ((d + 1), 93, 76, [some (.inr (.inr 86)), some (.inl x1), none, none, none, none], [.inl (U 87 x1.toNat)], (am_sh, am_mm (am_upd (am_upd (am_upd (am_upd U 86 4 x1) 86 5 x1) 86 3 0) 86 12 (-1)))) R
        obtain ⟨r1, U1, h2a21c, h2a21a⟩ := h2a21
        refine ev_cal (σc := (M_isLetter_s0 d (U 87 x1.toNat) (am_upd (am_upd (am_upd (am_upd U 86 4 x1) 86 5 x1) 86 3 0) 86 12 (-1)))) (fun _ => rfl) h2a21c ?_
        show Ev (am_kz N X) ((d + 1), 93, 79, [some (.inr (.inr 86)), some (.inl x1), none, none, none, none], [.inl r1], (am_sh, am_mm U1)) R
        refine ev_seg (σ1 := ((d + 1), 93, 85, [some (.inr (.inr 86)), some (.inl x1), some (.inl r1), none, none, none], [.inl x1, .inr (.inr 87)], (am_sh, am_mm U1))) 4 (fun _ => rfl) ?_
        refine eu_iald 87 (n := 1800) rfl (by decide) rfl (fun _ => rfl) h2.1 ?_
        show Ev (am_kz N X) ((d + 1), 93, 86, [some (.inr (.inr 86)), some (.inl x1), some (.inl r1), none, none, none], [.inl (U1 87 x1.toNat)], (am_sh, am_mm U1)) R
        obtain ⟨r2, U2, h2a21ac, h2a21aa⟩ := h2a21a
        refine ev_cal (σc := (M_isDigit_s0 d (U1 87 x1.toNat) U1)) (fun _ => rfl) h2a21ac ?_
        show Ev (am_kz N X) ((d + 1), 93, 89, [some (.inr (.inr 86)), some (.inl x1), some (.inl r1), none, none, none], [.inl r2], (am_sh, am_mm U2)) R
        refine ev_br (P := ¬ r1 = 0) (σ1 := ((d + 1), 93, 98, [some (.inr (.inr 86)), some (.inl x1), some (.inl r1), some (.inl r2), none, none], [], (am_sh, am_mm U2))) (σ2 := ((d + 1), 93, 94, [some (.inr (.inr 86)), some (.inl x1), some (.inl r1), some (.inl r2), none, none], [], (am_sh, am_mm U2))) 3 (fun _ => rfl) (fun hc => ?_) (fun hc => ?_)
        · have h2a21aa1 := h2a21aa.1 hc
          refine ev_br (P := x1 ≤ 0) (σ1 := ((d + 1), 93, 135, [some (.inr (.inr 86)), some (.inl x1), some (.inl r1), some (.inl r2), none, none], [], (am_sh, am_mm U2))) (σ2 := ((d + 1), 93, 102, [some (.inr (.inr 86)), some (.inl x1), some (.inl r1), some (.inl r2), none, none], [], (am_sh, am_mm U2))) 2 (fun _ => rfl) (fun hc => ?_) (fun hc => ?_)
          · have h2a21aa11 := h2a21aa1.1 hc
            exact h2a21aa11
          · have h2a21aa12 := h2a21aa1.2 (Int.not_le.mp hc)
            refine ev_seg (σ1 := ((d + 1), 93, 109, [some (.inr (.inr 86)), some (.inl x1), some (.inl r1), some (.inl r2), none, none], [.inl (w32 (x1 - 1)), .inr (.inr 87)], (am_sh, am_mm U2))) 5 (fun _ => rfl) ?_
            refine eu_iald 87 (n := 1800) rfl (by decide) rfl (fun _ => rfl) h2a21aa12.1 ?_
            show Ev (am_kz N X) ((d + 1), 93, 110, [some (.inr (.inr 86)), some (.inl x1), some (.inl r1), some (.inl r2), none, none], [.inl (U2 87 ((w32 (x1 - 1)).toNat))], (am_sh, am_mm U2)) R
            have h2a21aa12a := h2a21aa12.2
            obtain ⟨r3, U3, h2a21aa12ac, h2a21aa12aa⟩ := h2a21aa12a
            refine ev_cal (σc := (M_isLetter_s0 d (U2 87 ((w32 (x1 - 1)).toNat)) U2)) (fun _ => rfl) h2a21aa12ac ?_
            show Ev (am_kz N X) ((d + 1), 93, 113, [some (.inr (.inr 86)), some (.inl x1), some (.inl r1), some (.inl r2), none, none], [.inl r3], (am_sh, am_mm U3)) R
            refine ev_br (P := ¬ r3 = 0) (σ1 := ((d + 1), 93, 130, [some (.inr (.inr 86)), some (.inl x1), some (.inl r1), some (.inl r2), none, none], [], (am_sh, am_mm U3))) (σ2 := ((d + 1), 93, 116, [some (.inr (.inr 86)), some (.inl x1), some (.inl r1), some (.inl r2), none, none], [], (am_sh, am_mm U3))) 1 (fun _ => rfl) (fun hc => ?_) (fun hc => ?_)
            · have h2a21aa12aa1 := h2a21aa12aa.1 hc
              refine ev_seg (σ1 := ((d + 1), 93, 132, [some (.inr (.inr 86)), some (.inl x1), some (.inl r1), some (.inl r2), none, none], [.inl x1, .inr (.inr 86)], (am_sh, am_mm U3))) 2 (fun _ => rfl) ?_
              refine eu_puti 86 (n := 90) rfl (by decide) rfl rfl ?_
              show Ev (am_kz N X) ((d + 1), 93, 135, [some (.inr (.inr 86)), some (.inl x1), some (.inl r1), some (.inl r2), none, none], [], (am_sh, am_mm (am_upd U3 86 12 x1))) R
              exact h2a21aa12aa1
            · have h2a21aa12aa2 := h2a21aa12aa.2 (Decidable.not_not.mp hc)
              refine ev_seg (σ1 := ((d + 1), 93, 123, [some (.inr (.inr 86)), some (.inl x1), some (.inl r1), some (.inl r2), none, none], [.inl (w32 (x1 - 1)), .inr (.inr 87)], (am_sh, am_mm U3))) 5 (fun _ => rfl) ?_
              refine eu_iald 87 (n := 1800) rfl (by decide) rfl (fun _ => rfl) h2a21aa12.1 ?_
              show Ev (am_kz N X) ((d + 1), 93, 124, [some (.inr (.inr 86)), some (.inl x1), some (.inl r1), some (.inl r2), none, none], [.inl (U3 87 ((w32 (x1 - 1)).toNat))], (am_sh, am_mm U3)) R
              obtain ⟨r4, U4, h2a21aa12aa2c, h2a21aa12aa2a⟩ := h2a21aa12aa2
              refine ev_cal (σc := (M_isDigit_s0 d (U3 87 ((w32 (x1 - 1)).toNat)) U3)) (fun _ => rfl) h2a21aa12aa2c ?_
              show Ev (am_kz N X) ((d + 1), 93, 127, [some (.inr (.inr 86)), some (.inl x1), some (.inl r1), some (.inl r2), none, none], [.inl r4], (am_sh, am_mm U4)) R
              refine ev_br (P := r4 = 0) (σ1 := ((d + 1), 93, 135, [some (.inr (.inr 86)), some (.inl x1), some (.inl r1), some (.inl r2), none, none], [], (am_sh, am_mm U4))) (σ2 := ((d + 1), 93, 130, [some (.inr (.inr 86)), some (.inl x1), some (.inl r1), some (.inl r2), none, none], [], (am_sh, am_mm U4))) 1 (fun _ => rfl) (fun hc => ?_) (fun hc => ?_)
              · have h2a21aa12aa2a1 := h2a21aa12aa2a.1 hc
                exact h2a21aa12aa2a1
              · have h2a21aa12aa2a2 := h2a21aa12aa2a.2 hc
                refine ev_seg (σ1 := ((d + 1), 93, 132, [some (.inr (.inr 86)), some (.inl x1), some (.inl r1), some (.inl r2), none, none], [.inl x1, .inr (.inr 86)], (am_sh, am_mm U4))) 2 (fun _ => rfl) ?_
                refine eu_puti 86 (n := 90) rfl (by decide) rfl rfl ?_
                show Ev (am_kz N X) ((d + 1), 93, 135, [some (.inr (.inr 86)), some (.inl x1), some (.inl r1), some (.inl r2), none, none], [], (am_sh, am_mm (am_upd U4 86 12 x1))) R
                exact h2a21aa12aa2a2
        · have h2a21aa2 := h2a21aa.2 (Decidable.not_not.mp hc)
          refine ev_br (P := r2 = 0) (σ1 := ((d + 1), 93, 135, [some (.inr (.inr 86)), some (.inl x1), some (.inl r1), some (.inl r2), none, none], [], (am_sh, am_mm U2))) (σ2 := ((d + 1), 93, 98, [some (.inr (.inr 86)), some (.inl x1), some (.inl r1), some (.inl r2), none, none], [], (am_sh, am_mm U2))) 2 (fun _ => rfl) (fun hc => ?_) (fun hc => ?_)
          · have h2a21aa21 := h2a21aa2.1 hc
            exact h2a21aa21
          · have h2a21aa22 := h2a21aa2.2 hc
            refine ev_br (P := x1 ≤ 0) (σ1 := ((d + 1), 93, 135, [some (.inr (.inr 86)), some (.inl x1), some (.inl r1), some (.inl r2), none, none], [], (am_sh, am_mm U2))) (σ2 := ((d + 1), 93, 102, [some (.inr (.inr 86)), some (.inl x1), some (.inl r1), some (.inl r2), none, none], [], (am_sh, am_mm U2))) 2 (fun _ => rfl) (fun hc => ?_) (fun hc => ?_)
            · have h2a21aa221 := h2a21aa22.1 hc
              exact h2a21aa221
            · have h2a21aa222 := h2a21aa22.2 (Int.not_le.mp hc)
              refine ev_seg (σ1 := ((d + 1), 93, 109, [some (.inr (.inr 86)), some (.inl x1), some (.inl r1), some (.inl r2), none, none], [.inl (w32 (x1 - 1)), .inr (.inr 87)], (am_sh, am_mm U2))) 5 (fun _ => rfl) ?_
              refine eu_iald 87 (n := 1800) rfl (by decide) rfl (fun _ => rfl) h2a21aa222.1 ?_
              show Ev (am_kz N X) ((d + 1), 93, 110, [some (.inr (.inr 86)), some (.inl x1), some (.inl r1), some (.inl r2), none, none], [.inl (U2 87 ((w32 (x1 - 1)).toNat))], (am_sh, am_mm U2)) R
              have h2a21aa222a := h2a21aa222.2
              obtain ⟨r5, U5, h2a21aa222ac, h2a21aa222aa⟩ := h2a21aa222a
              refine ev_cal (σc := (M_isLetter_s0 d (U2 87 ((w32 (x1 - 1)).toNat)) U2)) (fun _ => rfl) h2a21aa222ac ?_
              show Ev (am_kz N X) ((d + 1), 93, 113, [some (.inr (.inr 86)), some (.inl x1), some (.inl r1), some (.inl r2), none, none], [.inl r5], (am_sh, am_mm U5)) R
              refine ev_br (P := ¬ r5 = 0) (σ1 := ((d + 1), 93, 130, [some (.inr (.inr 86)), some (.inl x1), some (.inl r1), some (.inl r2), none, none], [], (am_sh, am_mm U5))) (σ2 := ((d + 1), 93, 116, [some (.inr (.inr 86)), some (.inl x1), some (.inl r1), some (.inl r2), none, none], [], (am_sh, am_mm U5))) 1 (fun _ => rfl) (fun hc => ?_) (fun hc => ?_)
              · have h2a21aa222aa1 := h2a21aa222aa.1 hc
                refine ev_seg (σ1 := ((d + 1), 93, 132, [some (.inr (.inr 86)), some (.inl x1), some (.inl r1), some (.inl r2), none, none], [.inl x1, .inr (.inr 86)], (am_sh, am_mm U5))) 2 (fun _ => rfl) ?_
                refine eu_puti 86 (n := 90) rfl (by decide) rfl rfl ?_
                show Ev (am_kz N X) ((d + 1), 93, 135, [some (.inr (.inr 86)), some (.inl x1), some (.inl r1), some (.inl r2), none, none], [], (am_sh, am_mm (am_upd U5 86 12 x1))) R
                exact h2a21aa222aa1
              · have h2a21aa222aa2 := h2a21aa222aa.2 (Decidable.not_not.mp hc)
                refine ev_seg (σ1 := ((d + 1), 93, 123, [some (.inr (.inr 86)), some (.inl x1), some (.inl r1), some (.inl r2), none, none], [.inl (w32 (x1 - 1)), .inr (.inr 87)], (am_sh, am_mm U5))) 5 (fun _ => rfl) ?_
                refine eu_iald 87 (n := 1800) rfl (by decide) rfl (fun _ => rfl) h2a21aa222.1 ?_
                show Ev (am_kz N X) ((d + 1), 93, 124, [some (.inr (.inr 86)), some (.inl x1), some (.inl r1), some (.inl r2), none, none], [.inl (U5 87 ((w32 (x1 - 1)).toNat))], (am_sh, am_mm U5)) R
                obtain ⟨r6, U6, h2a21aa222aa2c, h2a21aa222aa2a⟩ := h2a21aa222aa2
                refine ev_cal (σc := (M_isDigit_s0 d (U5 87 ((w32 (x1 - 1)).toNat)) U5)) (fun _ => rfl) h2a21aa222aa2c ?_
                show Ev (am_kz N X) ((d + 1), 93, 127, [some (.inr (.inr 86)), some (.inl x1), some (.inl r1), some (.inl r2), none, none], [.inl r6], (am_sh, am_mm U6)) R
                refine ev_br (P := r6 = 0) (σ1 := ((d + 1), 93, 135, [some (.inr (.inr 86)), some (.inl x1), some (.inl r1), some (.inl r2), none, none], [], (am_sh, am_mm U6))) (σ2 := ((d + 1), 93, 130, [some (.inr (.inr 86)), some (.inl x1), some (.inl r1), some (.inl r2), none, none], [], (am_sh, am_mm U6))) 1 (fun _ => rfl) (fun hc => ?_) (fun hc => ?_)
                · have h2a21aa222aa2a1 := h2a21aa222aa2a.1 hc
                  exact h2a21aa222aa2a1
                · have h2a21aa222aa2a2 := h2a21aa222aa2a.2 hc
                  refine ev_seg (σ1 := ((d + 1), 93, 132, [some (.inr (.inr 86)), some (.inl x1), some (.inl r1), some (.inl r2), none, none], [.inl x1, .inr (.inr 86)], (am_sh, am_mm U6))) 2 (fun _ => rfl) ?_
                  refine eu_puti 86 (n := 90) rfl (by decide) rfl rfl ?_
                  show Ev (am_kz N X) ((d + 1), 93, 135, [some (.inr (.inr 86)), some (.inl x1), some (.inl r1), some (.inl r2), none, none], [], (am_sh, am_mm (am_upd U6 86 12 x1))) R
                  exact h2a21aa222aa2a2
      · have h2a22 := h2a2.2 (Decidable.not_not.mp hc)
        refine ev_seg (σ1 := ((d + 1), 93, 5, [some (.inr (.inr 86)), some (.inl (w32 (x1 + 1))), none, none, none, none], [], (am_sh, am_mm U))) 2 (fun _ => rfl) ?_
        exact h2a22
set_option maxRecDepth 8000 in
theorem M_ahead_r135 {N : Nat} {X : Nat → Int} {d : Nat} {x1 x2 x3 : Int} {U : am_U} {R : Option am_V × am_M} (h : ((x2 ≠ 0) → EvK N X (M_ahead_s205 (d + 1) x1 x2 x3 6 0 (am_upd (am_upd (am_upd (am_upd (am_upd U 86 6 0) 86 7 0) 86 3 3) 86 5 (w32 (x1 + 1))) 86 3 1)) R) ∧ ((x2 = 0) → ((x3 ≠ 0) → EvK N X (M_ahead_s205 (d + 1) x1 x2 x3 9 0 (am_upd (am_upd (am_upd (am_upd (am_upd U 86 6 0) 86 7 0) 86 3 3) 86 5 (w32 (x1 + 1))) 86 3 2)) R) ∧ ((x3 = 0) → (0 ≤ x1 ∧ x1 < 1800) ∧ R = rV (am_upd (am_upd (am_upd (am_upd (am_upd U 86 6 0) 86 7 0) 86 3 3) 86 5 (w32 (x1 + 1))) 86 6 (U 87 x1.toNat))))) : EvK N X (M_ahead_s135 (d + 1) x1 x2 x3 U) R := by
  show Ev (am_kz N X) ((d + 1), 93, 135, [some (.inr (.inr 86)), some (.inl x1), some (.inl x2), some (.inl x3), none, none], [], (am_sh, am_mm U)) R
  refine ev_seg (σ1 := ((d + 1), 93, 137, [some (.inr (.inr 86)), some (.inl x1), some (.inl x2), some (.inl x3), none, none], [.inl 0, .inr (.inr 86)], (am_sh, am_mm U))) 2 (fun _ => rfl) ?_
  refine eu_puti 86 (n := 90) rfl (by decide) rfl rfl ?_
  show Ev (am_kz N X) ((d + 1), 93, 140, [some (.inr (.inr 86)), some (.inl x1), some (.inl x2), some (.inl x3), none, none], [], (am_sh, am_mm (am_upd U 86 6 0))) R
  refine ev_seg (σ1 := ((d + 1), 93, 142, [some (.inr (.inr 86)), some (.inl x1), some (.inl x2), some (.inl x3), none, none], [.inr (.inl 0), .inr (.inr 86)], (am_sh, am_mm (am_upd U 86 6 0)))) 2 (fun _ => rfl) ?_
  refine eu_putj 86 (n := 90) rfl (by decide) rfl rfl ?_
  show Ev (am_kz N X) ((d + 1), 93, 145, [some (.inr (.inr 86)), some (.inl x1), some (.inl x2), some (.inl x3), none, none], [], (am_sh, am_mm (am_upd (am_upd U 86 6 0) 86 7 0))) R
  refine ev_seg (σ1 := ((d + 1), 93, 147, [some (.inr (.inr 86)), some (.inl x1), some (.inl x2), some (.inl x3), none, none], [.inl 3, .inr (.inr 86)], (am_sh, am_mm (am_upd (am_upd U 86 6 0) 86 7 0)))) 2 (fun _ => rfl) ?_
  refine eu_puti 86 (n := 90) rfl (by decide) rfl rfl ?_
  show Ev (am_kz N X) ((d + 1), 93, 150, [some (.inr (.inr 86)), some (.inl x1), some (.inl x2), some (.inl x3), none, none], [], (am_sh, am_mm (am_upd (am_upd (am_upd U 86 6 0) 86 7 0) 86 3 3))) R
  refine ev_seg (σ1 := ((d + 1), 93, 154, [some (.inr (.inr 86)), some (.inl x1), some (.inl x2), some (.inl x3), none, none], [.inl (w32 (x1 + 1)), .inr (.inr 86)], (am_sh, am_mm (am_upd (am_upd (am_upd U 86 6 0) 86 7 0) 86 3 3)))) 4 (fun _ => rfl) ?_
  refine eu_puti 86 (n := 90) rfl (by decide) rfl rfl ?_
  show Ev (am_kz N X) ((d + 1), 93, 157, [some (.inr (.inr 86)), some (.inl x1), some (.inl x2), some (.inl x3), none, none], [], (am_sh, am_mm (am_upd (am_upd (am_upd (am_upd U 86 6 0) 86 7 0) 86 3 3) 86 5 (w32 (x1 + 1))))) R
  refine ev_br (P := ¬ x2 = 0) (σ1 := ((d + 1), 93, 176, [some (.inr (.inr 86)), some (.inl x1), some (.inl x2), some (.inl x3), none, none], [], (am_sh, am_mm (am_upd (am_upd (am_upd (am_upd U 86 6 0) 86 7 0) 86 3 3) 86 5 (w32 (x1 + 1)))))) (σ2 := ((d + 1), 93, 161, [some (.inr (.inr 86)), some (.inl x1), some (.inl x2), some (.inl x3), none, none], [], (am_sh, am_mm (am_upd (am_upd (am_upd (am_upd U 86 6 0) 86 7 0) 86 3 3) 86 5 (w32 (x1 + 1)))))) 2 (fun _ => rfl) (fun hc => ?_) (fun hc => ?_)
  · have h1 := h.1 hc
    have hq := hc
    refine ev_br (P := x2 = 0) (σ1 := ((d + 1), 93, 185, [some (.inr (.inr 86)), some (.inl x1), some (.inl x2), some (.inl x3), none, none], [.inr (.inr 86)], (am_sh, am_mm (am_upd (am_upd (am_upd (am_upd U 86 6 0) 86 7 0) 86 3 3) 86 5 (w32 (x1 + 1)))))) (σ2 := ((d + 1), 93, 181, [some (.inr (.inr 86)), some (.inl x1), some (.inl x2), some (.inl x3), none, none], [.inr (.inr 86)], (am_sh, am_mm (am_upd (am_upd (am_upd (am_upd U 86 6 0) 86 7 0) 86 3 3) 86 5 (w32 (x1 + 1)))))) 3 (fun _ => rfl) (fun hc => absurd hq (fun h0 => by have h1 := hc; omega)) (fun hc => ?_)
    refine ev_seg (σ1 := ((d + 1), 93, 186, [some (.inr (.inr 86)), some (.inl x1), some (.inl x2), some (.inl x3), none, none], [.inl 1, .inr (.inr 86)], (am_sh, am_mm (am_upd (am_upd (am_upd (am_upd U 86 6 0) 86 7 0) 86 3 3) 86 5 (w32 (x1 + 1)))))) 2 (fun _ => rfl) ?_
    refine eu_puti 86 (n := 90) rfl (by decide) rfl rfl ?_
    show Ev (am_kz N X) ((d + 1), 93, 189, [some (.inr (.inr 86)), some (.inl x1), some (.inl x2), some (.inl x3), none, none], [], (am_sh, am_mm (am_upd (am_upd (am_upd (am_upd (am_upd U 86 6 0) 86 7 0) 86 3 3) 86 5 (w32 (x1 + 1))) 86 3 1))) R
    refine ev_br (P := x2 = 0) (σ1 := ((d + 1), 93, 198, [some (.inr (.inr 86)), some (.inl x1), some (.inl x2), some (.inl x3), none, none], [], (am_sh, am_mm (am_upd (am_upd (am_upd (am_upd (am_upd U 86 6 0) 86 7 0) 86 3 3) 86 5 (w32 (x1 + 1))) 86 3 1)))) (σ2 := ((d + 1), 93, 193, [some (.inr (.inr 86)), some (.inl x1), some (.inl x2), some (.inl x3), none, none], [], (am_sh, am_mm (am_upd (am_upd (am_upd (am_upd (am_upd U 86 6 0) 86 7 0) 86 3 3) 86 5 (w32 (x1 + 1))) 86 3 1)))) 2 (fun _ => rfl) (fun hc => absurd hq (fun h0 => by have h1 := hc; omega)) (fun hc => ?_)
    refine ev_seg (σ1 := ((d + 1), 93, 205, [some (.inr (.inr 86)), some (.inl x1), some (.inl x2), some (.inl x3), some (.inl 6), some (.inl 0)], [], (am_sh, am_mm (am_upd (am_upd (am_upd (am_upd (am_upd U 86 6 0) 86 7 0) 86 3 3) 86 5 (w32 (x1 + 1))) 86 3 1)))) 5 (fun _ => rfl) ?_
    exact h1
  · have h2 := h.2 (Decidable.not_not.mp hc)
    have hq := (Decidable.not_not.mp hc)
    refine ev_br (P := ¬ x3 = 0) (σ1 := ((d + 1), 93, 176, [some (.inr (.inr 86)), some (.inl x1), some (.inl x2), some (.inl x3), none, none], [], (am_sh, am_mm (am_upd (am_upd (am_upd (am_upd U 86 6 0) 86 7 0) 86 3 3) 86 5 (w32 (x1 + 1)))))) (σ2 := ((d + 1), 93, 165, [some (.inr (.inr 86)), some (.inl x1), some (.inl x2), some (.inl x3), none, none], [], (am_sh, am_mm (am_upd (am_upd (am_upd (am_upd U 86 6 0) 86 7 0) 86 3 3) 86 5 (w32 (x1 + 1)))))) 2 (fun _ => rfl) (fun hc => ?_) (fun hc => ?_)
    · have h21 := h2.1 hc
      refine ev_br (P := x2 = 0) (σ1 := ((d + 1), 93, 185, [some (.inr (.inr 86)), some (.inl x1), some (.inl x2), some (.inl x3), none, none], [.inr (.inr 86)], (am_sh, am_mm (am_upd (am_upd (am_upd (am_upd U 86 6 0) 86 7 0) 86 3 3) 86 5 (w32 (x1 + 1)))))) (σ2 := ((d + 1), 93, 181, [some (.inr (.inr 86)), some (.inl x1), some (.inl x2), some (.inl x3), none, none], [.inr (.inr 86)], (am_sh, am_mm (am_upd (am_upd (am_upd (am_upd U 86 6 0) 86 7 0) 86 3 3) 86 5 (w32 (x1 + 1)))))) 3 (fun _ => rfl) (fun hc => ?_) (fun hc => absurd hq (fun h0 => by have h1 := hc; omega))
      refine ev_seg (σ1 := ((d + 1), 93, 186, [some (.inr (.inr 86)), some (.inl x1), some (.inl x2), some (.inl x3), none, none], [.inl 2, .inr (.inr 86)], (am_sh, am_mm (am_upd (am_upd (am_upd (am_upd U 86 6 0) 86 7 0) 86 3 3) 86 5 (w32 (x1 + 1)))))) 1 (fun _ => rfl) ?_
      refine eu_puti 86 (n := 90) rfl (by decide) rfl rfl ?_
      show Ev (am_kz N X) ((d + 1), 93, 189, [some (.inr (.inr 86)), some (.inl x1), some (.inl x2), some (.inl x3), none, none], [], (am_sh, am_mm (am_upd (am_upd (am_upd (am_upd (am_upd U 86 6 0) 86 7 0) 86 3 3) 86 5 (w32 (x1 + 1))) 86 3 2))) R
      refine ev_br (P := x2 = 0) (σ1 := ((d + 1), 93, 198, [some (.inr (.inr 86)), some (.inl x1), some (.inl x2), some (.inl x3), none, none], [], (am_sh, am_mm (am_upd (am_upd (am_upd (am_upd (am_upd U 86 6 0) 86 7 0) 86 3 3) 86 5 (w32 (x1 + 1))) 86 3 2)))) (σ2 := ((d + 1), 93, 193, [some (.inr (.inr 86)), some (.inl x1), some (.inl x2), some (.inl x3), none, none], [], (am_sh, am_mm (am_upd (am_upd (am_upd (am_upd (am_upd U 86 6 0) 86 7 0) 86 3 3) 86 5 (w32 (x1 + 1))) 86 3 2)))) 2 (fun _ => rfl) (fun hc => ?_) (fun hc => absurd hq (fun h0 => by have h1 := hc; omega))
      refine ev_seg (σ1 := ((d + 1), 93, 205, [some (.inr (.inr 86)), some (.inl x1), some (.inl x2), some (.inl x3), some (.inl 9), some (.inl 0)], [], (am_sh, am_mm (am_upd (am_upd (am_upd (am_upd (am_upd U 86 6 0) 86 7 0) 86 3 3) 86 5 (w32 (x1 + 1))) 86 3 2)))) 4 (fun _ => rfl) ?_
      exact h21
    · have h22 := h2.2 (Decidable.not_not.mp hc)
      refine ev_seg (σ1 := ((d + 1), 93, 171, [some (.inr (.inr 86)), some (.inl x1), some (.inl x2), some (.inl x3), none, none], [.inl x1, .inr (.inr 87), .inr (.inr 86)], (am_sh, am_mm (am_upd (am_upd (am_upd (am_upd U 86 6 0) 86 7 0) 86 3 3) 86 5 (w32 (x1 + 1)))))) 4 (fun _ => rfl) ?_
      refine eu_iald 87 (n := 1800) rfl (by decide) rfl (fun _ => rfl) h22.1 ?_
      show Ev (am_kz N X) ((d + 1), 93, 172, [some (.inr (.inr 86)), some (.inl x1), some (.inl x2), some (.inl x3), none, none], [.inl (U 87 x1.toNat), .inr (.inr 86)], (am_sh, am_mm (am_upd (am_upd (am_upd (am_upd U 86 6 0) 86 7 0) 86 3 3) 86 5 (w32 (x1 + 1))))) R
      have h22a := h22.2
      refine eu_puti 86 (n := 90) rfl (by decide) rfl rfl ?_
      show Ev (am_kz N X) ((d + 1), 93, 175, [some (.inr (.inr 86)), some (.inl x1), some (.inl x2), some (.inl x3), none, none], [], (am_sh, am_mm (am_upd (am_upd (am_upd (am_upd (am_upd U 86 6 0) 86 7 0) 86 3 3) 86 5 (w32 (x1 + 1))) 86 6 (U 87 x1.toNat)))) R
      subst h22a
      exact ev_end 1 (fun _ => rfl)
set_option maxRecDepth 8000 in
theorem M_ahead_r205 {N : Nat} {X : Nat → Int} {d : Nat} {x1 x2 x3 x4 x5 : Int} {U : am_U} {R : Option am_V × am_M} (h : (((U 86 2) ≤ x1) → R = rV (am_upd U 86 5 x1)) ∧ ((x1 < (U 86 2)) → ((x2 = 0) → (0 ≤ x1 ∧ x1 < 1800) ∧ ∃ (r1 : Int) (U1 : am_U), EvK N X (M_isDigit_s0 d (U 87 x1.toNat) U) (rI r1 U1) ∧ ((r1 = 0) → R = rV (am_upd U1 86 5 x1)) ∧ ((r1 ≠ 0) → ((x5 ≠ x4) → EvK N X (M_ahead_s264 (d + 1) x1 x2 x3 x4 x5 U1) R) ∧ ((x5 = x4) → (((U1 86 12) ≠ (-1)) → EvK N X (M_ahead_s264 (d + 1) x1 x2 x3 x4 x5 U1) R) ∧ (((U1 86 12) = (-1)) → EvK N X (M_ahead_s264 (d + 1) x1 x2 x3 x4 x5 (am_upd U1 86 12 x1)) R)))) ∧ ((x2 ≠ 0) → (0 ≤ x1 ∧ x1 < 1800) ∧ ∃ (r2 : Int) (U2 : am_U), EvK N X (M_isLetter_s0 d (U 87 x1.toNat) U) (rI r2 U2) ∧ ((r2 = 0) → R = rV (am_upd U2 86 5 x1)) ∧ ((r2 ≠ 0) → ((x5 ≠ x4) → EvK N X (M_ahead_s264 (d + 1) x1 x2 x3 x4 x5 U2) R) ∧ ((x5 = x4) → (((U2 86 12) ≠ (-1)) → EvK N X (M_ahead_s264 (d + 1) x1 x2 x3 x4 x5 U2) R) ∧ (((U2 86 12) = (-1)) → EvK N X (M_ahead_s264 (d + 1) x1 x2 x3 x4 x5 (am_upd U2 86 12 x1)) R)))))) : EvK N X (M_ahead_s205 (d + 1) x1 x2 x3 x4 x5 U) R := by
  show Ev (am_kz N X) ((d + 1), 93, 205, [some (.inr (.inr 86)), some (.inl x1), some (.inl x2), some (.inl x3), some (.inl x4), some (.inl x5)], [], (am_sh, am_mm U)) R
  refine ev_br (P := (U 86 2) ≤ x1) (σ1 := ((d + 1), 93, 335, [some (.inr (.inr 86)), some (.inl x1), some (.inl x2), some (.inl x3), some (.inl x4), some (.inl x5)], [], (am_sh, am_mm U))) (σ2 := ((d + 1), 93, 213, [some (.inr (.inr 86)), some (.inl x1), some (.inl x2), some (.inl x3), some (.inl x4), some (.inl x5)], [], (am_sh, am_mm U))) 4 (fun _ => rfl) (fun hc => ?_) (fun hc => ?_)
  · have h1 := h.1 hc
    refine ev_seg (σ1 := ((d + 1), 93, 337, [some (.inr (.inr 86)), some (.inl x1), some (.inl x2), some (.inl x3), some (.inl x4), some (.inl x5)], [.inl x1, .inr (.inr 86)], (am_sh, am_mm U))) 2 (fun _ => rfl) ?_
    refine eu_puti 86 (n := 90) rfl (by decide) rfl rfl ?_
    show Ev (am_kz N X) ((d + 1), 93, 340, [some (.inr (.inr 86)), some (.inl x1), some (.inl x2), some (.inl x3), some (.inl x4), some (.inl x5)], [], (am_sh, am_mm (am_upd U 86 5 x1))) R
    subst h1
    exact ev_end 1 (fun _ => rfl)
  · have h2 := h.2 (Int.not_le.mp hc)
    refine ev_br (P := x2 = 0) (σ1 := ((d + 1), 93, 232, [some (.inr (.inr 86)), some (.inl x1), some (.inl x2), some (.inl x3), some (.inl x4), some (.inl x5)], [], (am_sh, am_mm U))) (σ2 := ((d + 1), 93, 217, [some (.inr (.inr 86)), some (.inl x1), some (.inl x2), some (.inl x3), some (.inl x4), some (.inl x5)], [], (am_sh, am_mm U))) 2 (fun _ => rfl) (fun hc => ?_) (fun hc => ?_)
    · have h21 := h2.1 hc
      refine ev_seg (σ1 := ((d + 1), 93, 237, [some (.inr (.inr 86)), some (.inl x1), some (.inl x2), some (.inl x3), some (.inl x4), some (.inl x5)], [.inl x1, .inr (.inr 87)], (am_sh, am_mm U))) 3 (fun _ => rfl) ?_
      refine eu_iald 87 (n := 1800) rfl (by decide) rfl (fun _ => rfl) h21.1 ?_
      show Ev (am_kz N X) ((d + 1), 93, 238, [some (.inr (.inr 86)), some (.inl x1), some (.inl x2), some (.inl x3), some (.inl x4), some (.inl x5)], [.inl (U 87 x1.toNat)], (am_sh, am_mm U)) R
      have h21a := h21.2
      obtain ⟨r1, U1, h21ac, h21aa⟩ := h21a
      refine ev_cal (σc := (M_isDigit_s0 d (U 87 x1.toNat) U)) (fun _ => rfl) h21ac ?_
      show Ev (am_kz N X) ((d + 1), 93, 241, [some (.inr (.inr 86)), some (.inl x1), some (.inl x2), some (.inl x3), some (.inl x4), some (.inl x5)], [.inl r1], (am_sh, am_mm U1)) R
      refine ev_br (P := r1 = 0) (σ1 := ((d + 1), 93, 335, [some (.inr (.inr 86)), some (.inl x1), some (.inl x2), some (.inl x3), some (.inl x4), some (.inl x5)], [], (am_sh, am_mm U1))) (σ2 := ((d + 1), 93, 244, [some (.inr (.inr 86)), some (.inl x1), some (.inl x2), some (.inl x3), some (.inl x4), some (.inl x5)], [], (am_sh, am_mm U1))) 1 (fun _ => rfl) (fun hc => ?_) (fun hc => ?_)
      · have h21aa1 := h21aa.1 hc
        refine ev_seg (σ1 := ((d + 1), 93, 337, [some (.inr (.inr 86)), some (.inl x1), some (.inl x2), some (.inl x3), some (.inl x4), some (.inl x5)], [.inl x1, .inr (.inr 86)], (am_sh, am_mm U1))) 2 (fun _ => rfl) ?_
        refine eu_puti 86 (n := 90) rfl (by decide) rfl rfl ?_
        show Ev (am_kz N X) ((d + 1), 93, 340, [some (.inr (.inr 86)), some (.inl x1), some (.inl x2), some (.inl x3), some (.inl x4), some (.inl x5)], [], (am_sh, am_mm (am_upd U1 86 5 x1))) R
        subst h21aa1
        exact ev_end 1 (fun _ => rfl)
      · have h21aa2 := h21aa.2 hc
        refine ev_br (P := ¬ x5 = x4) (σ1 := ((d + 1), 93, 264, [some (.inr (.inr 86)), some (.inl x1), some (.inl x2), some (.inl x3), some (.inl x4), some (.inl x5)], [], (am_sh, am_mm U1))) (σ2 := ((d + 1), 93, 251, [some (.inr (.inr 86)), some (.inl x1), some (.inl x2), some (.inl x3), some (.inl x4), some (.inl x5)], [], (am_sh, am_mm U1))) 3 (fun _ => rfl) (fun hc => ?_) (fun hc => ?_)
        · have h21aa21 := h21aa2.1 hc
          exact h21aa21
        · have h21aa22 := h21aa2.2 (Decidable.not_not.mp hc)
          refine ev_br (P := ¬ (U1 86 12) = (-1)) (σ1 := ((d + 1), 93, 264, [some (.inr (.inr 86)), some (.inl x1), some (.inl x2), some (.inl x3), some (.inl x4), some (.inl x5)], [], (am_sh, am_mm U1))) (σ2 := ((d + 1), 93, 259, [some (.inr (.inr 86)), some (.inl x1), some (.inl x2), some (.inl x3), some (.inl x4), some (.inl x5)], [], (am_sh, am_mm U1))) 4 (fun _ => rfl) (fun hc => ?_) (fun hc => ?_)
          · have h21aa221 := h21aa22.1 hc
            exact h21aa221
          · have h21aa222 := h21aa22.2 (Decidable.not_not.mp hc)
            refine ev_seg (σ1 := ((d + 1), 93, 261, [some (.inr (.inr 86)), some (.inl x1), some (.inl x2), some (.inl x3), some (.inl x4), some (.inl x5)], [.inl x1, .inr (.inr 86)], (am_sh, am_mm U1))) 2 (fun _ => rfl) ?_
            refine eu_puti 86 (n := 90) rfl (by decide) rfl rfl ?_
            show Ev (am_kz N X) ((d + 1), 93, 264, [some (.inr (.inr 86)), some (.inl x1), some (.inl x2), some (.inl x3), some (.inl x4), some (.inl x5)], [], (am_sh, am_mm (am_upd U1 86 12 x1))) R
            exact h21aa222
    · have h22 := h2.2 hc
      refine ev_seg (σ1 := ((d + 1), 93, 222, [some (.inr (.inr 86)), some (.inl x1), some (.inl x2), some (.inl x3), some (.inl x4), some (.inl x5)], [.inl x1, .inr (.inr 87)], (am_sh, am_mm U))) 3 (fun _ => rfl) ?_
      refine eu_iald 87 (n := 1800) rfl (by decide) rfl (fun _ => rfl) h22.1 ?_
      show Ev (am_kz N X) ((d + 1), 93, 223, [some (.inr (.inr 86)), some (.inl x1), some (.inl x2), some (.inl x3), some (.inl x4), some (.inl x5)], [.inl (U 87 x1.toNat)], (am_sh, am_mm U)) R
      have h22a := h22.2
      obtain ⟨r2, U2, h22ac, h22aa⟩ := h22a
      refine ev_cal (σc := (M_isLetter_s0 d (U 87 x1.toNat) U)) (fun _ => rfl) h22ac ?_
      show Ev (am_kz N X) ((d + 1), 93, 226, [some (.inr (.inr 86)), some (.inl x1), some (.inl x2), some (.inl x3), some (.inl x4), some (.inl x5)], [.inl r2], (am_sh, am_mm U2)) R
      refine ev_br (P := r2 = 0) (σ1 := ((d + 1), 93, 335, [some (.inr (.inr 86)), some (.inl x1), some (.inl x2), some (.inl x3), some (.inl x4), some (.inl x5)], [], (am_sh, am_mm U2))) (σ2 := ((d + 1), 93, 229, [some (.inr (.inr 86)), some (.inl x1), some (.inl x2), some (.inl x3), some (.inl x4), some (.inl x5)], [], (am_sh, am_mm U2))) 1 (fun _ => rfl) (fun hc => ?_) (fun hc => ?_)
      · have h22aa1 := h22aa.1 hc
        refine ev_seg (σ1 := ((d + 1), 93, 337, [some (.inr (.inr 86)), some (.inl x1), some (.inl x2), some (.inl x3), some (.inl x4), some (.inl x5)], [.inl x1, .inr (.inr 86)], (am_sh, am_mm U2))) 2 (fun _ => rfl) ?_
        refine eu_puti 86 (n := 90) rfl (by decide) rfl rfl ?_
        show Ev (am_kz N X) ((d + 1), 93, 340, [some (.inr (.inr 86)), some (.inl x1), some (.inl x2), some (.inl x3), some (.inl x4), some (.inl x5)], [], (am_sh, am_mm (am_upd U2 86 5 x1))) R
        subst h22aa1
        exact ev_end 1 (fun _ => rfl)
      · have h22aa2 := h22aa.2 hc
        refine ev_br (P := ¬ x5 = x4) (σ1 := ((d + 1), 93, 264, [some (.inr (.inr 86)), some (.inl x1), some (.inl x2), some (.inl x3), some (.inl x4), some (.inl x5)], [], (am_sh, am_mm U2))) (σ2 := ((d + 1), 93, 251, [some (.inr (.inr 86)), some (.inl x1), some (.inl x2), some (.inl x3), some (.inl x4), some (.inl x5)], [], (am_sh, am_mm U2))) 4 (fun _ => rfl) (fun hc => ?_) (fun hc => ?_)
        · have h22aa21 := h22aa2.1 hc
          exact h22aa21
        · have h22aa22 := h22aa2.2 (Decidable.not_not.mp hc)
          refine ev_br (P := ¬ (U2 86 12) = (-1)) (σ1 := ((d + 1), 93, 264, [some (.inr (.inr 86)), some (.inl x1), some (.inl x2), some (.inl x3), some (.inl x4), some (.inl x5)], [], (am_sh, am_mm U2))) (σ2 := ((d + 1), 93, 259, [some (.inr (.inr 86)), some (.inl x1), some (.inl x2), some (.inl x3), some (.inl x4), some (.inl x5)], [], (am_sh, am_mm U2))) 4 (fun _ => rfl) (fun hc => ?_) (fun hc => ?_)
          · have h22aa221 := h22aa22.1 hc
            exact h22aa221
          · have h22aa222 := h22aa22.2 (Decidable.not_not.mp hc)
            refine ev_seg (σ1 := ((d + 1), 93, 261, [some (.inr (.inr 86)), some (.inl x1), some (.inl x2), some (.inl x3), some (.inl x4), some (.inl x5)], [.inl x1, .inr (.inr 86)], (am_sh, am_mm U2))) 2 (fun _ => rfl) ?_
            refine eu_puti 86 (n := 90) rfl (by decide) rfl rfl ?_
            show Ev (am_kz N X) ((d + 1), 93, 264, [some (.inr (.inr 86)), some (.inl x1), some (.inl x2), some (.inl x3), some (.inl x4), some (.inl x5)], [], (am_sh, am_mm (am_upd U2 86 12 x1))) R
            exact h22aa222
set_option maxRecDepth 8000 in
theorem M_ahead_r264 {N : Nat} {X : Nat → Int} {d : Nat} {x1 x2 x3 x4 x5 : Int} {U : am_U} {R : Option am_V × am_M} (h : ((x4 ≤ x5) → EvK N X (M_ahead_s205 (d + 1) (w32 (x1 + 1)) x2 x3 x4 (w32 (x5 + 1)) U) R) ∧ ((x5 < x4) → ((x2 = 0) → ((x3 = 0) → EvK N X (M_ahead_s205 (d + 1) (w32 (x1 + 1)) x2 x3 x4 (w32 (x5 + 1)) U) R) ∧ ((x3 ≠ 0) → (0 ≤ x1 ∧ x1 < 1800) ∧ EvK N X (M_ahead_s205 (d + 1) (w32 (x1 + 1)) x2 x3 x4 (w32 (x5 + 1)) (am_upd U 86 6 (w32 ((w32 ((w32 (10 * (U 86 6))) + (U 87 x1.toNat))) - 48)))) R)) ∧ ((x2 ≠ 0) → (0 ≤ x1 ∧ x1 < 1800) ∧ ((x3 = 0) → EvK N X (M_ahead_s205 (d + 1) (w32 (x1 + 1)) x2 x3 x4 (w32 (x5 + 1)) (am_upd U 86 7 (am_lor (am_lshl (U 86 7) 8) (U 87 x1.toNat)))) R) ∧ ((x3 ≠ 0) → EvK N X (M_ahead_s205 (d + 1) (w32 (x1 + 1)) x2 x3 x4 (w32 (x5 + 1)) (am_upd (am_upd U 86 7 (am_lor (am_lshl (U 86 7) 8) (U 87 x1.toNat))) 86 6 (w32 ((w32 ((w32 (10 * (U 86 6))) + (U 87 x1.toNat))) - 48)))) R)))) : EvK N X (M_ahead_s264 (d + 1) x1 x2 x3 x4 x5 U) R := by
  show Ev (am_kz N X) ((d + 1), 93, 264, [some (.inr (.inr 86)), some (.inl x1), some (.inl x2), some (.inl x3), some (.inl x4), some (.inl x5)], [], (am_sh, am_mm U)) R
  refine ev_br (P := x4 ≤ x5) (σ1 := ((d + 1), 93, 294, [some (.inr (.inr 86)), some (.inl x1), some (.inl x2), some (.inl x3), some (.inl x4), some (.inl x5)], [], (am_sh, am_mm U))) (σ2 := ((d + 1), 93, 271, [some (.inr (.inr 86)), some (.inl x1), some (.inl x2), some (.inl x3), some (.inl x4), some (.inl x5)], [], (am_sh, am_mm U))) 3 (fun _ => rfl) (fun hc => ?_) (fun hc => ?_)
  · have h1 := h.1 hc
    have hq := hc
    refine ev_br (P := x4 ≤ x5) (σ1 := ((d + 1), 93, 326, [some (.inr (.inr 86)), some (.inl x1), some (.inl x2), some (.inl x3), some (.inl x4), some (.inl x5)], [], (am_sh, am_mm U))) (σ2 := ((d + 1), 93, 301, [some (.inr (.inr 86)), some (.inl x1), some (.inl x2), some (.inl x3), some (.inl x4), some (.inl x5)], [], (am_sh, am_mm U))) 3 (fun _ => rfl) (fun hc => ?_) (fun hc => absurd hq (fun h0 => by have h1 := (Int.not_le.mp hc); omega))
    refine ev_seg (σ1 := ((d + 1), 93, 205, [some (.inr (.inr 86)), some (.inl (w32 (x1 + 1))), some (.inl x2), some (.inl x3), some (.inl x4), some (.inl (w32 (x5 + 1)))], [], (am_sh, am_mm U))) 3 (fun _ => rfl) ?_
    exact h1
  · have h2 := h.2 (Int.not_le.mp hc)
    have hq := (Int.not_le.mp hc)
    refine ev_br (P := x2 = 0) (σ1 := ((d + 1), 93, 294, [some (.inr (.inr 86)), some (.inl x1), some (.inl x2), some (.inl x3), some (.inl x4), some (.inl x5)], [], (am_sh, am_mm U))) (σ2 := ((d + 1), 93, 275, [some (.inr (.inr 86)), some (.inl x1), some (.inl x2), some (.inl x3), some (.inl x4), some (.inl x5)], [], (am_sh, am_mm U))) 2 (fun _ => rfl) (fun hc => ?_) (fun hc => ?_)
    · have h21 := h2.1 hc
      refine ev_br (P := x4 ≤ x5) (σ1 := ((d + 1), 93, 326, [some (.inr (.inr 86)), some (.inl x1), some (.inl x2), some (.inl x3), some (.inl x4), some (.inl x5)], [], (am_sh, am_mm U))) (σ2 := ((d + 1), 93, 301, [some (.inr (.inr 86)), some (.inl x1), some (.inl x2), some (.inl x3), some (.inl x4), some (.inl x5)], [], (am_sh, am_mm U))) 3 (fun _ => rfl) (fun hc => absurd hq (fun h0 => by have h1 := hc; omega)) (fun hc => ?_)
      refine ev_br (P := x3 = 0) (σ1 := ((d + 1), 93, 326, [some (.inr (.inr 86)), some (.inl x1), some (.inl x2), some (.inl x3), some (.inl x4), some (.inl x5)], [], (am_sh, am_mm U))) (σ2 := ((d + 1), 93, 305, [some (.inr (.inr 86)), some (.inl x1), some (.inl x2), some (.inl x3), some (.inl x4), some (.inl x5)], [], (am_sh, am_mm U))) 2 (fun _ => rfl) (fun hc => ?_) (fun hc => ?_)
      · have h211 := h21.1 hc
        refine ev_seg (σ1 := ((d + 1), 93, 205, [some (.inr (.inr 86)), some (.inl (w32 (x1 + 1))), some (.inl x2), some (.inl x3), some (.inl x4), some (.inl (w32 (x5 + 1)))], [], (am_sh, am_mm U))) 3 (fun _ => rfl) ?_
        exact h211
      · have h212 := h21.2 hc
        refine ev_seg (σ1 := ((d + 1), 93, 318, [some (.inr (.inr 86)), some (.inl x1), some (.inl x2), some (.inl x3), some (.inl x4), some (.inl x5)], [.inl x1, .inr (.inr 87), .inl (w32 (10 * (U 86 6))), .inr (.inr 86)], (am_sh, am_mm U))) 8 (fun _ => rfl) ?_
        refine eu_iald 87 (n := 1800) rfl (by decide) rfl (fun _ => rfl) h212.1 ?_
        show Ev (am_kz N X) ((d + 1), 93, 319, [some (.inr (.inr 86)), some (.inl x1), some (.inl x2), some (.inl x3), some (.inl x4), some (.inl x5)], [.inl (U 87 x1.toNat), .inl (w32 (10 * (U 86 6))), .inr (.inr 86)], (am_sh, am_mm U)) R
        have h212a := h212.2
        refine ev_seg (σ1 := ((d + 1), 93, 323, [some (.inr (.inr 86)), some (.inl x1), some (.inl x2), some (.inl x3), some (.inl x4), some (.inl x5)], [.inl (w32 ((w32 ((w32 (10 * (U 86 6))) + (U 87 x1.toNat))) - 48)), .inr (.inr 86)], (am_sh, am_mm U))) 3 (fun _ => rfl) ?_
        refine eu_puti 86 (n := 90) rfl (by decide) rfl rfl ?_
        show Ev (am_kz N X) ((d + 1), 93, 326, [some (.inr (.inr 86)), some (.inl x1), some (.inl x2), some (.inl x3), some (.inl x4), some (.inl x5)], [], (am_sh, am_mm (am_upd U 86 6 (w32 ((w32 ((w32 (10 * (U 86 6))) + (U 87 x1.toNat))) - 48))))) R
        refine ev_seg (σ1 := ((d + 1), 93, 205, [some (.inr (.inr 86)), some (.inl (w32 (x1 + 1))), some (.inl x2), some (.inl x3), some (.inl x4), some (.inl (w32 (x5 + 1)))], [], (am_sh, am_mm (am_upd U 86 6 (w32 ((w32 ((w32 (10 * (U 86 6))) + (U 87 x1.toNat))) - 48)))))) 3 (fun _ => rfl) ?_
        exact h212a
    · have h22 := h2.2 hc
      refine ev_seg (σ1 := ((d + 1), 93, 288, [some (.inr (.inr 86)), some (.inl x1), some (.inl x2), some (.inl x3), some (.inl x4), some (.inl x5)], [.inl x1, .inr (.inr 87), .inr (.inl (am_lshl (U 86 7) 8)), .inr (.inr 86)], (am_sh, am_mm U))) 8 (fun _ => rfl) ?_
      refine eu_iald 87 (n := 1800) rfl (by decide) rfl (fun _ => rfl) h22.1 ?_
      show Ev (am_kz N X) ((d + 1), 93, 289, [some (.inr (.inr 86)), some (.inl x1), some (.inl x2), some (.inl x3), some (.inl x4), some (.inl x5)], [.inl (U 87 x1.toNat), .inr (.inl (am_lshl (U 86 7) 8)), .inr (.inr 86)], (am_sh, am_mm U)) R
      have h22a := h22.2
      refine ev_seg (σ1 := ((d + 1), 93, 291, [some (.inr (.inr 86)), some (.inl x1), some (.inl x2), some (.inl x3), some (.inl x4), some (.inl x5)], [.inr (.inl (am_lor (am_lshl (U 86 7) 8) (U 87 x1.toNat))), .inr (.inr 86)], (am_sh, am_mm U))) 2 (fun _ => rfl) ?_
      refine eu_putj 86 (n := 90) rfl (by decide) rfl rfl ?_
      show Ev (am_kz N X) ((d + 1), 93, 294, [some (.inr (.inr 86)), some (.inl x1), some (.inl x2), some (.inl x3), some (.inl x4), some (.inl x5)], [], (am_sh, am_mm (am_upd U 86 7 (am_lor (am_lshl (U 86 7) 8) (U 87 x1.toNat))))) R
      refine ev_br (P := x4 ≤ x5) (σ1 := ((d + 1), 93, 326, [some (.inr (.inr 86)), some (.inl x1), some (.inl x2), some (.inl x3), some (.inl x4), some (.inl x5)], [], (am_sh, am_mm (am_upd U 86 7 (am_lor (am_lshl (U 86 7) 8) (U 87 x1.toNat)))))) (σ2 := ((d + 1), 93, 301, [some (.inr (.inr 86)), some (.inl x1), some (.inl x2), some (.inl x3), some (.inl x4), some (.inl x5)], [], (am_sh, am_mm (am_upd U 86 7 (am_lor (am_lshl (U 86 7) 8) (U 87 x1.toNat)))))) 3 (fun _ => rfl) (fun hc => absurd hq (fun h0 => by have h1 := hc; omega)) (fun hc => ?_)
      refine ev_br (P := x3 = 0) (σ1 := ((d + 1), 93, 326, [some (.inr (.inr 86)), some (.inl x1), some (.inl x2), some (.inl x3), some (.inl x4), some (.inl x5)], [], (am_sh, am_mm (am_upd U 86 7 (am_lor (am_lshl (U 86 7) 8) (U 87 x1.toNat)))))) (σ2 := ((d + 1), 93, 305, [some (.inr (.inr 86)), some (.inl x1), some (.inl x2), some (.inl x3), some (.inl x4), some (.inl x5)], [], (am_sh, am_mm (am_upd U 86 7 (am_lor (am_lshl (U 86 7) 8) (U 87 x1.toNat)))))) 2 (fun _ => rfl) (fun hc => ?_) (fun hc => ?_)
      · have h22a1 := h22a.1 hc
        refine ev_seg (σ1 := ((d + 1), 93, 205, [some (.inr (.inr 86)), some (.inl (w32 (x1 + 1))), some (.inl x2), some (.inl x3), some (.inl x4), some (.inl (w32 (x5 + 1)))], [], (am_sh, am_mm (am_upd U 86 7 (am_lor (am_lshl (U 86 7) 8) (U 87 x1.toNat)))))) 3 (fun _ => rfl) ?_
        exact h22a1
      · have h22a2 := h22a.2 hc
        refine ev_seg (σ1 := ((d + 1), 93, 318, [some (.inr (.inr 86)), some (.inl x1), some (.inl x2), some (.inl x3), some (.inl x4), some (.inl x5)], [.inl x1, .inr (.inr 87), .inl (w32 (10 * (U 86 6))), .inr (.inr 86)], (am_sh, am_mm (am_upd U 86 7 (am_lor (am_lshl (U 86 7) 8) (U 87 x1.toNat)))))) 8 (fun _ => rfl) ?_
        refine eu_iald 87 (n := 1800) rfl (by decide) rfl (fun _ => rfl) h22.1 ?_
        show Ev (am_kz N X) ((d + 1), 93, 319, [some (.inr (.inr 86)), some (.inl x1), some (.inl x2), some (.inl x3), some (.inl x4), some (.inl x5)], [.inl (U 87 x1.toNat), .inl (w32 (10 * (U 86 6))), .inr (.inr 86)], (am_sh, am_mm (am_upd U 86 7 (am_lor (am_lshl (U 86 7) 8) (U 87 x1.toNat))))) R
        refine ev_seg (σ1 := ((d + 1), 93, 323, [some (.inr (.inr 86)), some (.inl x1), some (.inl x2), some (.inl x3), some (.inl x4), some (.inl x5)], [.inl (w32 ((w32 ((w32 (10 * (U 86 6))) + (U 87 x1.toNat))) - 48)), .inr (.inr 86)], (am_sh, am_mm (am_upd U 86 7 (am_lor (am_lshl (U 86 7) 8) (U 87 x1.toNat)))))) 3 (fun _ => rfl) ?_
        refine eu_puti 86 (n := 90) rfl (by decide) rfl rfl ?_
        show Ev (am_kz N X) ((d + 1), 93, 326, [some (.inr (.inr 86)), some (.inl x1), some (.inl x2), some (.inl x3), some (.inl x4), some (.inl x5)], [], (am_sh, am_mm (am_upd (am_upd U 86 7 (am_lor (am_lshl (U 86 7) 8) (U 87 x1.toNat))) 86 6 (w32 ((w32 ((w32 (10 * (U 86 6))) + (U 87 x1.toNat))) - 48))))) R
        refine ev_seg (σ1 := ((d + 1), 93, 205, [some (.inr (.inr 86)), some (.inl (w32 (x1 + 1))), some (.inl x2), some (.inl x3), some (.inl x4), some (.inl (w32 (x5 + 1)))], [], (am_sh, am_mm (am_upd (am_upd U 86 7 (am_lor (am_lshl (U 86 7) 8) (U 87 x1.toNat))) 86 6 (w32 ((w32 ((w32 (10 * (U 86 6))) + (U 87 x1.toNat))) - 48)))))) 3 (fun _ => rfl) ?_
        exact h22a2
set_option maxRecDepth 8000 in
theorem M_begin_r0 {N : Nat} {X : Nat → Int} {d : Nat} {U : am_U} {R : Option am_V × am_M} (h : (0 ≤ (U 86 13) ∧ (U 86 13) < 2) ∧ EvK N X (M_begin_s41 d 0 (am_upd (am_upd (am_upd (am_upd (am_upd U 120 0 0) 121 0 0) 86 58 0) 86 82 0) 122 0 (U 97 ((U 86 13).toNat)))) R) : EvK N X (M_begin_s0 d U) R := by
  show Ev (am_kz N X) (d, 96, 0, [some (.inr (.inr 86)), none], [], (am_sh, am_mm U)) R
  refine ev_seg (σ1 := (d, 96, 6, [some (.inr (.inr 86)), none], [.inl 0, .inl 0, .inr (.inr 120)], (am_sh, am_mm U))) 4 (fun _ => rfl) ?_
  refine eu_iast 120 (n := 22) rfl (by decide) rfl (fun _ => rfl) (by decide) ?_
  show Ev (am_kz N X) (d, 96, 7, [some (.inr (.inr 86)), none], [], (am_sh, am_mm (am_upd U 120 0 0))) R
  refine ev_seg (σ1 := (d, 96, 13, [some (.inr (.inr 86)), none], [.inl 0, .inl 0, .inr (.inr 121)], (am_sh, am_mm (am_upd U 120 0 0)))) 4 (fun _ => rfl) ?_
  refine eu_iast 121 (n := 22) rfl (by decide) rfl (fun _ => rfl) (by decide) ?_
  show Ev (am_kz N X) (d, 96, 14, [some (.inr (.inr 86)), none], [], (am_sh, am_mm (am_upd (am_upd U 120 0 0) 121 0 0))) R
  refine ev_seg (σ1 := (d, 96, 16, [some (.inr (.inr 86)), none], [.inl 0, .inr (.inr 86)], (am_sh, am_mm (am_upd (am_upd U 120 0 0) 121 0 0)))) 2 (fun _ => rfl) ?_
  refine eu_puti 86 (n := 90) rfl (by decide) rfl rfl ?_
  show Ev (am_kz N X) (d, 96, 19, [some (.inr (.inr 86)), none], [], (am_sh, am_mm (am_upd (am_upd (am_upd U 120 0 0) 121 0 0) 86 58 0))) R
  refine ev_seg (σ1 := (d, 96, 21, [some (.inr (.inr 86)), none], [.inl 0, .inr (.inr 86)], (am_sh, am_mm (am_upd (am_upd (am_upd U 120 0 0) 121 0 0) 86 58 0)))) 2 (fun _ => rfl) ?_
  refine eu_puti 86 (n := 90) rfl (by decide) rfl rfl ?_
  show Ev (am_kz N X) (d, 96, 24, [some (.inr (.inr 86)), none], [], (am_sh, am_mm (am_upd (am_upd (am_upd (am_upd U 120 0 0) 121 0 0) 86 58 0) 86 82 0))) R
  refine ev_seg (σ1 := (d, 96, 37, [some (.inr (.inr 86)), none], [.inl (U 86 13), .inr (.inr 97), .inl 0, .inr (.inr 122)], (am_sh, am_mm (am_upd (am_upd (am_upd (am_upd U 120 0 0) 121 0 0) 86 58 0) 86 82 0)))) 7 (fun _ => rfl) ?_
  refine eu_iald 97 (n := 2) rfl (by decide) rfl (fun _ => rfl) h.1 ?_
  show Ev (am_kz N X) (d, 96, 38, [some (.inr (.inr 86)), none], [.inl (U 97 ((U 86 13).toNat)), .inl 0, .inr (.inr 122)], (am_sh, am_mm (am_upd (am_upd (am_upd (am_upd U 120 0 0) 121 0 0) 86 58 0) 86 82 0))) R
  have ha := h.2
  refine eu_iast 122 (n := 22) rfl (by decide) rfl (fun _ => rfl) (by decide) ?_
  show Ev (am_kz N X) (d, 96, 39, [some (.inr (.inr 86)), none], [], (am_sh, am_mm (am_upd (am_upd (am_upd (am_upd (am_upd U 120 0 0) 121 0 0) 86 58 0) 86 82 0) 122 0 (U 97 ((U 86 13).toNat))))) R
  refine ev_seg (σ1 := (d, 96, 41, [some (.inr (.inr 86)), some (.inl 0)], [], (am_sh, am_mm (am_upd (am_upd (am_upd (am_upd (am_upd U 120 0 0) 121 0 0) 86 58 0) 86 82 0) 122 0 (U 97 ((U 86 13).toNat)))))) 2 (fun _ => rfl) ?_
  exact ha
set_option maxRecDepth 8000 in
theorem M_begin_r41 {N : Nat} {X : Nat → Int} {d : Nat} {x1 : Int} {U : am_U} {R : Option am_V × am_M} (h : (0 ≤ (U 86 13) ∧ (U 86 13) < 2) ∧ (((U 97 ((U 86 13).toNat)) ≤ x1) → R = rV U) ∧ ((x1 < (U 97 ((U 86 13).toNat))) → (0 ≤ (w32 ((w32 (16 * (U 86 13))) + x1)) ∧ (w32 ((w32 (16 * (U 86 13))) + x1)) < 32) ∧ (0 ≤ x1 ∧ x1 < 352) ∧ EvK N X (M_begin_s41 d (w32 (x1 + 1)) (am_upd (am_upd U 123 x1.toNat (U 98 ((w32 ((w32 (16 * (U 86 13))) + x1)).toNat))) 124 x1.toNat (U 99 ((w32 ((w32 (16 * (U 86 13))) + x1)).toNat)))) R)) : EvK N X (M_begin_s41 d x1 U) R := by
  show Ev (am_kz N X) (d, 96, 41, [some (.inr (.inr 86)), some (.inl x1)], [], (am_sh, am_mm U)) R
  refine ev_seg (σ1 := (d, 96, 50, [some (.inr (.inr 86)), some (.inl x1)], [.inl (U 86 13), .inr (.inr 97), .inl x1], (am_sh, am_mm U))) 5 (fun _ => rfl) ?_
  refine eu_iald 97 (n := 2) rfl (by decide) rfl (fun _ => rfl) h.1 ?_
  show Ev (am_kz N X) (d, 96, 51, [some (.inr (.inr 86)), some (.inl x1)], [.inl (U 97 ((U 86 13).toNat)), .inl x1], (am_sh, am_mm U)) R
  have ha := h.2
  refine ev_br (P := (U 97 ((U 86 13).toNat)) ≤ x1) (σ1 := (d, 96, 100, [some (.inr (.inr 86)), some (.inl x1)], [], (am_sh, am_mm U))) (σ2 := (d, 96, 54, [some (.inr (.inr 86)), some (.inl x1)], [], (am_sh, am_mm U))) 1 (fun _ => rfl) (fun hc => ?_) (fun hc => ?_)
  · have ha1 := ha.1 hc
    subst ha1
    exact ev_end 1 (fun _ => rfl)
  · have ha2 := ha.2 (Int.not_le.mp hc)
    refine ev_seg (σ1 := (d, 96, 72, [some (.inr (.inr 86)), some (.inl x1)], [.inl (w32 ((w32 (16 * (U 86 13))) + x1)), .inr (.inr 98), .inl x1, .inr (.inr 123)], (am_sh, am_mm U))) 11 (fun _ => rfl) ?_
    refine eu_iald 98 (n := 32) rfl (by decide) rfl (fun _ => rfl) ha2.1 ?_
    show Ev (am_kz N X) (d, 96, 73, [some (.inr (.inr 86)), some (.inl x1)], [.inl (U 98 ((w32 ((w32 (16 * (U 86 13))) + x1)).toNat)), .inl x1, .inr (.inr 123)], (am_sh, am_mm U)) R
    have ha2a := ha2.2
    refine eu_iast 123 (n := 352) rfl (by decide) rfl (fun _ => rfl) ha2a.1 ?_
    show Ev (am_kz N X) (d, 96, 74, [some (.inr (.inr 86)), some (.inl x1)], [], (am_sh, am_mm (am_upd U 123 x1.toNat (U 98 ((w32 ((w32 (16 * (U 86 13))) + x1)).toNat))))) R
    have ha2aa := ha2a.2
    refine ev_seg (σ1 := (d, 96, 92, [some (.inr (.inr 86)), some (.inl x1)], [.inl (w32 ((w32 (16 * (U 86 13))) + x1)), .inr (.inr 99), .inl x1, .inr (.inr 124)], (am_sh, am_mm (am_upd U 123 x1.toNat (U 98 ((w32 ((w32 (16 * (U 86 13))) + x1)).toNat)))))) 11 (fun _ => rfl) ?_
    refine eu_iald 99 (n := 32) rfl (by decide) rfl (fun _ => rfl) ha2.1 ?_
    show Ev (am_kz N X) (d, 96, 93, [some (.inr (.inr 86)), some (.inl x1)], [.inl (U 99 ((w32 ((w32 (16 * (U 86 13))) + x1)).toNat)), .inl x1, .inr (.inr 124)], (am_sh, am_mm (am_upd U 123 x1.toNat (U 98 ((w32 ((w32 (16 * (U 86 13))) + x1)).toNat))))) R
    refine eu_iast 124 (n := 352) rfl (by decide) rfl (fun _ => rfl) ha2a.1 ?_
    show Ev (am_kz N X) (d, 96, 94, [some (.inr (.inr 86)), some (.inl x1)], [], (am_sh, am_mm (am_upd (am_upd U 123 x1.toNat (U 98 ((w32 ((w32 (16 * (U 86 13))) + x1)).toNat))) 124 x1.toNat (U 99 ((w32 ((w32 (16 * (U 86 13))) + x1)).toNat))))) R
    refine ev_seg (σ1 := (d, 96, 41, [some (.inr (.inr 86)), some (.inl (w32 (x1 + 1)))], [], (am_sh, am_mm (am_upd (am_upd U 123 x1.toNat (U 98 ((w32 ((w32 (16 * (U 86 13))) + x1)).toNat))) 124 x1.toNat (U 99 ((w32 ((w32 (16 * (U 86 13))) + x1)).toNat)))))) 2 (fun _ => rfl) ?_
    exact ha2aa
set_option maxRecDepth 8000 in
theorem M_statement_r0 {N : Nat} {X : Nat → Int} {d : Nat} {U : am_U} {R : Option am_V × am_M} (h : ∃ U1 : am_U, EvK N X (M_lex_s0 d U) (rV U1) ∧ (((U1 86 8) ≤ 0) → ∃ (r2 : Int) (U2 : am_U), EvK N X (M_isWord_s0 d 126943972648308 U1) (rI r2 U2) ∧ ((r2 = 0) → ∃ (r3 : Int) (U3 : am_U), EvK N X (M_isWord_s0 d 448546567013 U2) (rI r3 U3) ∧ ((r3 = 0) → ∃ (r4 : Int) (U4 : am_U), EvK N X (M_isWord_s0 d 1818324581 U3) (rI r4 U4) ∧ ((r4 = 0) → ∃ (r5 : Int) (U5 : am_U), EvK N X (M_isWord_s0 d 121450625394034 U4) (rI r5 U5) ∧ ((r5 = 0) → ∃ (r6 : Int) (U6 : am_U), EvK N X (M_isWord_s0 d 7102839 U5) (rI r6 U6) ∧ ((r6 = 0) → ∃ (r7 : Int) (U7 : am_U), EvK N X (M_isWord_s0 d 7824740 U6) (rI r7 U7) ∧ ((r7 = 0) → ∃ (r8 : Int) (U8 : am_U), EvK N X (M_isWord_s0 d 1870095731 U7) (rI r8 U8) ∧ ((r8 = 0) → ∃ (r9 : Int) (U9 : am_U), EvK N X (M_isWord_s0 d 1718186597 U8) (rI r9 U9) ∧ ((r9 = 0) → ∃ U10 : am_U, EvK N X (M_blame_s0 d 1 (U9 86 4) U9) (rV U10) ∧ R = rV U10) ∧ ((r9 ≠ 0) → ∃ U11 : am_U, EvK N X (M_burning_s0 d U9) (rV U11) ∧ R = rV U11)) ∧ ((r8 ≠ 0) → ∃ U12 : am_U, EvK N X (M_owing_s0 d U8) (rV U12) ∧ R = rV U12)) ∧ ((r7 ≠ 0) → ∃ U13 : am_U, EvK N X (M_wedding_s0 d U7) (rV U13) ∧ R = rV U13)) ∧ ((r6 ≠ 0) → ∃ U14 : am_U, EvK N X (M_lawing_s0 d U6) (rV U14) ∧ R = rV U14)) ∧ ((r5 ≠ 0) → ∃ U15 : am_U, EvK N X (M_numbering_s0 d U5) (rV U15) ∧ R = rV U15)) ∧ ((r4 ≠ 0) → ∃ U16 : am_U, EvK N X (M_laning_s0 d U4) (rV U16) ∧ R = rV U16)) ∧ ((r3 ≠ 0) → ∃ U17 : am_U, EvK N X (M_housing_s0 d U3) (rV U17) ∧ R = rV U17)) ∧ ((r2 ≠ 0) → ∃ U18 : am_U, EvK N X (M_streeting_s0 d U2) (rV U18) ∧ R = rV U18)) ∧ ((0 < (U1 86 8)) → R = rV U1)) : EvK N X (M_statement_s0 (d + 1) U) R := by
  show Ev (am_kz N X) ((d + 1), 94, 0, [some (.inr (.inr 86))], [], (am_sh, am_mm U)) R
  refine ev_seg (σ1 := ((d + 1), 94, 1, [some (.inr (.inr 86))], [.inr (.inr 86)], (am_sh, am_mm U))) 1 (fun _ => rfl) ?_
  obtain ⟨U1, hc, ha⟩ := h
  refine ev_cal (σc := (M_lex_s0 d U)) (fun _ => rfl) hc ?_
  show Ev (am_kz N X) ((d + 1), 94, 4, [some (.inr (.inr 86))], [], (am_sh, am_mm U1)) R
  refine ev_br (P := (U1 86 8) ≤ 0) (σ1 := ((d + 1), 94, 12, [some (.inr (.inr 86))], [], (am_sh, am_mm U1))) (σ2 := ((d + 1), 94, 11, [some (.inr (.inr 86))], [], (am_sh, am_mm U1))) 3 (fun _ => rfl) (fun hc => ?_) (fun hc => ?_)
  · have ha1 := ha.1 hc
    refine ev_seg (σ1 := ((d + 1), 94, 16, [some (.inr (.inr 86))], [.inr (.inl 126943972648308), .inr (.inr 86)], (am_sh, am_mm U1))) 2 (fun _ => rfl) ?_
    obtain ⟨r2, U2, ha1c, ha1a⟩ := ha1
    refine ev_cal (σc := (M_isWord_s0 d 126943972648308 U1)) (fun _ => rfl) ha1c ?_
    show Ev (am_kz N X) ((d + 1), 94, 19, [some (.inr (.inr 86))], [.inl r2], (am_sh, am_mm U2)) R
    refine ev_br (P := r2 = 0) (σ1 := ((d + 1), 94, 29, [some (.inr (.inr 86))], [], (am_sh, am_mm U2))) (σ2 := ((d + 1), 94, 22, [some (.inr (.inr 86))], [], (am_sh, am_mm U2))) 1 (fun _ => rfl) (fun hc => ?_) (fun hc => ?_)
    · have ha1a1 := ha1a.1 hc
      refine ev_seg (σ1 := ((d + 1), 94, 33, [some (.inr (.inr 86))], [.inr (.inl 448546567013), .inr (.inr 86)], (am_sh, am_mm U2))) 2 (fun _ => rfl) ?_
      obtain ⟨r3, U3, ha1a1c, ha1a1a⟩ := ha1a1
      refine ev_cal (σc := (M_isWord_s0 d 448546567013 U2)) (fun _ => rfl) ha1a1c ?_
      show Ev (am_kz N X) ((d + 1), 94, 36, [some (.inr (.inr 86))], [.inl r3], (am_sh, am_mm U3)) R
      refine ev_br (P := r3 = 0) (σ1 := ((d + 1), 94, 46, [some (.inr (.inr 86))], [], (am_sh, am_mm U3))) (σ2 := ((d + 1), 94, 39, [some (.inr (.inr 86))], [], (am_sh, am_mm U3))) 1 (fun _ => rfl) (fun hc => ?_) (fun hc => ?_)
      · have ha1a1a1 := ha1a1a.1 hc
        refine ev_seg (σ1 := ((d + 1), 94, 50, [some (.inr (.inr 86))], [.inr (.inl 1818324581), .inr (.inr 86)], (am_sh, am_mm U3))) 2 (fun _ => rfl) ?_
        obtain ⟨r4, U4, ha1a1a1c, ha1a1a1a⟩ := ha1a1a1
        refine ev_cal (σc := (M_isWord_s0 d 1818324581 U3)) (fun _ => rfl) ha1a1a1c ?_
        show Ev (am_kz N X) ((d + 1), 94, 53, [some (.inr (.inr 86))], [.inl r4], (am_sh, am_mm U4)) R
        refine ev_br (P := r4 = 0) (σ1 := ((d + 1), 94, 63, [some (.inr (.inr 86))], [], (am_sh, am_mm U4))) (σ2 := ((d + 1), 94, 56, [some (.inr (.inr 86))], [], (am_sh, am_mm U4))) 1 (fun _ => rfl) (fun hc => ?_) (fun hc => ?_)
        · have ha1a1a1a1 := ha1a1a1a.1 hc
          refine ev_seg (σ1 := ((d + 1), 94, 67, [some (.inr (.inr 86))], [.inr (.inl 121450625394034), .inr (.inr 86)], (am_sh, am_mm U4))) 2 (fun _ => rfl) ?_
          obtain ⟨r5, U5, ha1a1a1a1c, ha1a1a1a1a⟩ := ha1a1a1a1
          refine ev_cal (σc := (M_isWord_s0 d 121450625394034 U4)) (fun _ => rfl) ha1a1a1a1c ?_
          show Ev (am_kz N X) ((d + 1), 94, 70, [some (.inr (.inr 86))], [.inl r5], (am_sh, am_mm U5)) R
          refine ev_br (P := r5 = 0) (σ1 := ((d + 1), 94, 80, [some (.inr (.inr 86))], [], (am_sh, am_mm U5))) (σ2 := ((d + 1), 94, 73, [some (.inr (.inr 86))], [], (am_sh, am_mm U5))) 1 (fun _ => rfl) (fun hc => ?_) (fun hc => ?_)
          · have ha1a1a1a1a1 := ha1a1a1a1a.1 hc
            refine ev_seg (σ1 := ((d + 1), 94, 84, [some (.inr (.inr 86))], [.inr (.inl 7102839), .inr (.inr 86)], (am_sh, am_mm U5))) 2 (fun _ => rfl) ?_
            obtain ⟨r6, U6, ha1a1a1a1a1c, ha1a1a1a1a1a⟩ := ha1a1a1a1a1
            refine ev_cal (σc := (M_isWord_s0 d 7102839 U5)) (fun _ => rfl) ha1a1a1a1a1c ?_
            show Ev (am_kz N X) ((d + 1), 94, 87, [some (.inr (.inr 86))], [.inl r6], (am_sh, am_mm U6)) R
            refine ev_br (P := r6 = 0) (σ1 := ((d + 1), 94, 97, [some (.inr (.inr 86))], [], (am_sh, am_mm U6))) (σ2 := ((d + 1), 94, 90, [some (.inr (.inr 86))], [], (am_sh, am_mm U6))) 1 (fun _ => rfl) (fun hc => ?_) (fun hc => ?_)
            · have ha1a1a1a1a1a1 := ha1a1a1a1a1a.1 hc
              refine ev_seg (σ1 := ((d + 1), 94, 101, [some (.inr (.inr 86))], [.inr (.inl 7824740), .inr (.inr 86)], (am_sh, am_mm U6))) 2 (fun _ => rfl) ?_
              obtain ⟨r7, U7, ha1a1a1a1a1a1c, ha1a1a1a1a1a1a⟩ := ha1a1a1a1a1a1
              refine ev_cal (σc := (M_isWord_s0 d 7824740 U6)) (fun _ => rfl) ha1a1a1a1a1a1c ?_
              show Ev (am_kz N X) ((d + 1), 94, 104, [some (.inr (.inr 86))], [.inl r7], (am_sh, am_mm U7)) R
              refine ev_br (P := r7 = 0) (σ1 := ((d + 1), 94, 114, [some (.inr (.inr 86))], [], (am_sh, am_mm U7))) (σ2 := ((d + 1), 94, 107, [some (.inr (.inr 86))], [], (am_sh, am_mm U7))) 1 (fun _ => rfl) (fun hc => ?_) (fun hc => ?_)
              · have ha1a1a1a1a1a1a1 := ha1a1a1a1a1a1a.1 hc
                refine ev_seg (σ1 := ((d + 1), 94, 118, [some (.inr (.inr 86))], [.inr (.inl 1870095731), .inr (.inr 86)], (am_sh, am_mm U7))) 2 (fun _ => rfl) ?_
                obtain ⟨r8, U8, ha1a1a1a1a1a1a1c, ha1a1a1a1a1a1a1a⟩ := ha1a1a1a1a1a1a1
                refine ev_cal (σc := (M_isWord_s0 d 1870095731 U7)) (fun _ => rfl) ha1a1a1a1a1a1a1c ?_
                show Ev (am_kz N X) ((d + 1), 94, 121, [some (.inr (.inr 86))], [.inl r8], (am_sh, am_mm U8)) R
                refine ev_br (P := r8 = 0) (σ1 := ((d + 1), 94, 131, [some (.inr (.inr 86))], [], (am_sh, am_mm U8))) (σ2 := ((d + 1), 94, 124, [some (.inr (.inr 86))], [], (am_sh, am_mm U8))) 1 (fun _ => rfl) (fun hc => ?_) (fun hc => ?_)
                · have ha1a1a1a1a1a1a1a1 := ha1a1a1a1a1a1a1a.1 hc
                  refine ev_seg (σ1 := ((d + 1), 94, 135, [some (.inr (.inr 86))], [.inr (.inl 1718186597), .inr (.inr 86)], (am_sh, am_mm U8))) 2 (fun _ => rfl) ?_
                  obtain ⟨r9, U9, ha1a1a1a1a1a1a1a1c, ha1a1a1a1a1a1a1a1a⟩ := ha1a1a1a1a1a1a1a1
                  refine ev_cal (σc := (M_isWord_s0 d 1718186597 U8)) (fun _ => rfl) ha1a1a1a1a1a1a1a1c ?_
                  show Ev (am_kz N X) ((d + 1), 94, 138, [some (.inr (.inr 86))], [.inl r9], (am_sh, am_mm U9)) R
                  refine ev_br (P := r9 = 0) (σ1 := ((d + 1), 94, 148, [some (.inr (.inr 86))], [], (am_sh, am_mm U9))) (σ2 := ((d + 1), 94, 141, [some (.inr (.inr 86))], [], (am_sh, am_mm U9))) 1 (fun _ => rfl) (fun hc => ?_) (fun hc => ?_)
                  · have ha1a1a1a1a1a1a1a1a1 := ha1a1a1a1a1a1a1a1a.1 hc
                    refine ev_seg (σ1 := ((d + 1), 94, 154, [some (.inr (.inr 86))], [.inl (U9 86 4), .inl 1, .inr (.inr 86)], (am_sh, am_mm U9))) 4 (fun _ => rfl) ?_
                    obtain ⟨U10, ha1a1a1a1a1a1a1a1a1c, ha1a1a1a1a1a1a1a1a1a⟩ := ha1a1a1a1a1a1a1a1a1
                    refine ev_cal (σc := (M_blame_s0 d 1 (U9 86 4) U9)) (fun _ => rfl) ha1a1a1a1a1a1a1a1a1c ?_
                    show Ev (am_kz N X) ((d + 1), 94, 157, [some (.inr (.inr 86))], [], (am_sh, am_mm U10)) R
                    subst ha1a1a1a1a1a1a1a1a1a
                    exact ev_end 1 (fun _ => rfl)
                  · have ha1a1a1a1a1a1a1a1a2 := ha1a1a1a1a1a1a1a1a.2 hc
                    refine ev_seg (σ1 := ((d + 1), 94, 142, [some (.inr (.inr 86))], [.inr (.inr 86)], (am_sh, am_mm U9))) 1 (fun _ => rfl) ?_
                    obtain ⟨U11, ha1a1a1a1a1a1a1a1a2c, ha1a1a1a1a1a1a1a1a2a⟩ := ha1a1a1a1a1a1a1a1a2
                    refine ev_cal (σc := (M_burning_s0 d U9)) (fun _ => rfl) ha1a1a1a1a1a1a1a1a2c ?_
                    show Ev (am_kz N X) ((d + 1), 94, 145, [some (.inr (.inr 86))], [], (am_sh, am_mm U11)) R
                    subst ha1a1a1a1a1a1a1a1a2a
                    exact ev_end 2 (fun _ => rfl)
                · have ha1a1a1a1a1a1a1a2 := ha1a1a1a1a1a1a1a.2 hc
                  refine ev_seg (σ1 := ((d + 1), 94, 125, [some (.inr (.inr 86))], [.inr (.inr 86)], (am_sh, am_mm U8))) 1 (fun _ => rfl) ?_
                  obtain ⟨U12, ha1a1a1a1a1a1a1a2c, ha1a1a1a1a1a1a1a2a⟩ := ha1a1a1a1a1a1a1a2
                  refine ev_cal (σc := (M_owing_s0 d U8)) (fun _ => rfl) ha1a1a1a1a1a1a1a2c ?_
                  show Ev (am_kz N X) ((d + 1), 94, 128, [some (.inr (.inr 86))], [], (am_sh, am_mm U12)) R
                  subst ha1a1a1a1a1a1a1a2a
                  exact ev_end 2 (fun _ => rfl)
              · have ha1a1a1a1a1a1a2 := ha1a1a1a1a1a1a.2 hc
                refine ev_seg (σ1 := ((d + 1), 94, 108, [some (.inr (.inr 86))], [.inr (.inr 86)], (am_sh, am_mm U7))) 1 (fun _ => rfl) ?_
                obtain ⟨U13, ha1a1a1a1a1a1a2c, ha1a1a1a1a1a1a2a⟩ := ha1a1a1a1a1a1a2
                refine ev_cal (σc := (M_wedding_s0 d U7)) (fun _ => rfl) ha1a1a1a1a1a1a2c ?_
                show Ev (am_kz N X) ((d + 1), 94, 111, [some (.inr (.inr 86))], [], (am_sh, am_mm U13)) R
                subst ha1a1a1a1a1a1a2a
                exact ev_end 2 (fun _ => rfl)
            · have ha1a1a1a1a1a2 := ha1a1a1a1a1a.2 hc
              refine ev_seg (σ1 := ((d + 1), 94, 91, [some (.inr (.inr 86))], [.inr (.inr 86)], (am_sh, am_mm U6))) 1 (fun _ => rfl) ?_
              obtain ⟨U14, ha1a1a1a1a1a2c, ha1a1a1a1a1a2a⟩ := ha1a1a1a1a1a2
              refine ev_cal (σc := (M_lawing_s0 d U6)) (fun _ => rfl) ha1a1a1a1a1a2c ?_
              show Ev (am_kz N X) ((d + 1), 94, 94, [some (.inr (.inr 86))], [], (am_sh, am_mm U14)) R
              subst ha1a1a1a1a1a2a
              exact ev_end 2 (fun _ => rfl)
          · have ha1a1a1a1a2 := ha1a1a1a1a.2 hc
            refine ev_seg (σ1 := ((d + 1), 94, 74, [some (.inr (.inr 86))], [.inr (.inr 86)], (am_sh, am_mm U5))) 1 (fun _ => rfl) ?_
            obtain ⟨U15, ha1a1a1a1a2c, ha1a1a1a1a2a⟩ := ha1a1a1a1a2
            refine ev_cal (σc := (M_numbering_s0 d U5)) (fun _ => rfl) ha1a1a1a1a2c ?_
            show Ev (am_kz N X) ((d + 1), 94, 77, [some (.inr (.inr 86))], [], (am_sh, am_mm U15)) R
            subst ha1a1a1a1a2a
            exact ev_end 2 (fun _ => rfl)
        · have ha1a1a1a2 := ha1a1a1a.2 hc
          refine ev_seg (σ1 := ((d + 1), 94, 57, [some (.inr (.inr 86))], [.inr (.inr 86)], (am_sh, am_mm U4))) 1 (fun _ => rfl) ?_
          obtain ⟨U16, ha1a1a1a2c, ha1a1a1a2a⟩ := ha1a1a1a2
          refine ev_cal (σc := (M_laning_s0 d U4)) (fun _ => rfl) ha1a1a1a2c ?_
          show Ev (am_kz N X) ((d + 1), 94, 60, [some (.inr (.inr 86))], [], (am_sh, am_mm U16)) R
          subst ha1a1a1a2a
          exact ev_end 2 (fun _ => rfl)
      · have ha1a1a2 := ha1a1a.2 hc
        refine ev_seg (σ1 := ((d + 1), 94, 40, [some (.inr (.inr 86))], [.inr (.inr 86)], (am_sh, am_mm U3))) 1 (fun _ => rfl) ?_
        obtain ⟨U17, ha1a1a2c, ha1a1a2a⟩ := ha1a1a2
        refine ev_cal (σc := (M_housing_s0 d U3)) (fun _ => rfl) ha1a1a2c ?_
        show Ev (am_kz N X) ((d + 1), 94, 43, [some (.inr (.inr 86))], [], (am_sh, am_mm U17)) R
        subst ha1a1a2a
        exact ev_end 2 (fun _ => rfl)
    · have ha1a2 := ha1a.2 hc
      refine ev_seg (σ1 := ((d + 1), 94, 23, [some (.inr (.inr 86))], [.inr (.inr 86)], (am_sh, am_mm U2))) 1 (fun _ => rfl) ?_
      obtain ⟨U18, ha1a2c, ha1a2a⟩ := ha1a2
      refine ev_cal (σc := (M_streeting_s0 d U2)) (fun _ => rfl) ha1a2c ?_
      show Ev (am_kz N X) ((d + 1), 94, 26, [some (.inr (.inr 86))], [], (am_sh, am_mm U18)) R
      subst ha1a2a
      exact ev_end 2 (fun _ => rfl)
  · have ha2 := ha.2 (Int.not_le.mp hc)
    subst ha2
    exact ev_end 1 (fun _ => rfl)
set_option maxRecDepth 8000 in
theorem M_finishes_r0 {N : Nat} {X : Nat → Int} {d : Nat} {x1 : Int} {U : am_U} {R : Option am_V × am_M} (h : ∃ U1 : am_U, EvK N X (M_lex_s0 d U) (rV U1) ∧ (((U1 86 8) ≤ 0) → EvK N X (M_finishes_s17 (d + 1) x1 (U1 86 5) U1) R) ∧ ((0 < (U1 86 8)) → R = rV U1)) : EvK N X (M_finishes_s0 (d + 1) x1 U) R := by
  show Ev (am_kz N X) ((d + 1), 95, 0, [some (.inr (.inr 86)), some (.inl x1), none], [], (am_sh, am_mm U)) R
  refine ev_seg (σ1 := ((d + 1), 95, 1, [some (.inr (.inr 86)), some (.inl x1), none], [.inr (.inr 86)], (am_sh, am_mm U))) 1 (fun _ => rfl) ?_
  obtain ⟨U1, hc, ha⟩ := h
  refine ev_cal (σc := (M_lex_s0 d U)) (fun _ => rfl) hc ?_
  show Ev (am_kz N X) ((d + 1), 95, 4, [some (.inr (.inr 86)), some (.inl x1), none], [], (am_sh, am_mm U1)) R
  refine ev_br (P := (U1 86 8) ≤ 0) (σ1 := ((d + 1), 95, 12, [some (.inr (.inr 86)), some (.inl x1), none], [], (am_sh, am_mm U1))) (σ2 := ((d + 1), 95, 11, [some (.inr (.inr 86)), some (.inl x1), none], [], (am_sh, am_mm U1))) 3 (fun _ => rfl) (fun hc => ?_) (fun hc => ?_)
  · have ha1 := ha.1 hc
    refine ev_seg (σ1 := ((d + 1), 95, 17, [some (.inr (.inr 86)), some (.inl x1), some (.inl (U1 86 5))], [], (am_sh, am_mm U1))) 3 (fun _ => rfl) ?_
    exact ha1
  · have ha2 := ha.2 (Int.not_le.mp hc)
    subst ha2
    exact ev_end 1 (fun _ => rfl)
set_option maxRecDepth 8000 in
theorem M_finishes_r17 {N : Nat} {X : Nat → Int} {d : Nat} {x1 x2 : Int} {U : am_U} {R : Option am_V × am_M} (h : (((U 86 2) ≤ x2) → ∃ (r1 : Int) (U1 : am_U), EvK N X (M_isSign_s0 d 59 U) (rI r1 U1) ∧ ((r1 = 0) → ∃ U2 : am_U, EvK N X (M_must_I_s0 d 59 U1) (rV U2) ∧ R = rV U2) ∧ ((r1 ≠ 0) → ((x1 ≠ 80) → ∃ U3 : am_U, EvK N X (M_must_I_s0 d 59 U1) (rV U3) ∧ R = rV U3) ∧ ((x1 = 80) → (((U1 86 2) ≤ x2) → ∃ U4 : am_U, EvK N X (M_must_I_s0 d 59 U1) (rV U4) ∧ R = rV U4) ∧ ((x2 < (U1 86 2)) → ∃ U5 : am_U, EvK N X (M_blame_s0 d 6 x2 U1) (rV U5) ∧ ∃ U6 : am_U, EvK N X (M_must_I_s0 d 59 U5) (rV U6) ∧ R = rV U6)))) ∧ ((x2 < (U 86 2)) → (0 ≤ x2 ∧ x2 < 1800) ∧ (((U 87 x2.toNat) = 32) → EvK N X (M_finishes_s17 (d + 1) x1 (w32 (x2 + 1)) U) R) ∧ (((U 87 x2.toNat) ≠ 32) → (((U 87 x2.toNat) ≠ 10) → ∃ (r7 : Int) (U7 : am_U), EvK N X (M_isSign_s0 d 59 U) (rI r7 U7) ∧ ((r7 = 0) → ∃ U8 : am_U, EvK N X (M_must_I_s0 d 59 U7) (rV U8) ∧ R = rV U8) ∧ ((r7 ≠ 0) → ((x1 ≠ 80) → ∃ U9 : am_U, EvK N X (M_must_I_s0 d 59 U7) (rV U9) ∧ R = rV U9) ∧ ((x1 = 80) → (((U7 86 2) ≤ x2) → ∃ U10 : am_U, EvK N X (M_must_I_s0 d 59 U7) (rV U10) ∧ R = rV U10) ∧ ((x2 < (U7 86 2)) → ∃ U11 : am_U, EvK N X (M_blame_s0 d 6 x2 U7) (rV U11) ∧ ∃ U12 : am_U, EvK N X (M_must_I_s0 d 59 U11) (rV U12) ∧ R = rV U12)))) ∧ (((U 87 x2.toNat) = 10) → EvK N X (M_finishes_s17 (d + 1) x1 (w32 (x2 + 1)) U) R)))) : EvK N X (M_finishes_s17 (d + 1) x1 x2 U) R := by
  show Ev (am_kz N X) ((d + 1), 95, 17, [some (.inr (.inr 86)), some (.inl x1), some (.inl x2)], [], (am_sh, am_mm U)) R
  refine ev_br (P := (U 86 2) ≤ x2) (σ1 := ((d + 1), 95, 53, [some (.inr (.inr 86)), some (.inl x1), some (.inl x2)], [], (am_sh, am_mm U))) (σ2 := ((d + 1), 95, 25, [some (.inr (.inr 86)), some (.inl x1), some (.inl x2)], [], (am_sh, am_mm U))) 4 (fun _ => rfl) (fun hc => ?_) (fun hc => ?_)
  · have h1 := h.1 hc
    refine ev_seg (σ1 := ((d + 1), 95, 56, [some (.inr (.inr 86)), some (.inl x1), some (.inl x2)], [.inl 59, .inr (.inr 86)], (am_sh, am_mm U))) 2 (fun _ => rfl) ?_
    obtain ⟨r1, U1, h1c, h1a⟩ := h1
    refine ev_cal (σc := (M_isSign_s0 d 59 U)) (fun _ => rfl) h1c ?_
    show Ev (am_kz N X) ((d + 1), 95, 59, [some (.inr (.inr 86)), some (.inl x1), some (.inl x2)], [.inl r1], (am_sh, am_mm U1)) R
    refine ev_br (P := r1 = 0) (σ1 := ((d + 1), 95, 83, [some (.inr (.inr 86)), some (.inl x1), some (.inl x2)], [], (am_sh, am_mm U1))) (σ2 := ((d + 1), 95, 62, [some (.inr (.inr 86)), some (.inl x1), some (.inl x2)], [], (am_sh, am_mm U1))) 1 (fun _ => rfl) (fun hc => ?_) (fun hc => ?_)
    · have h1a1 := h1a.1 hc
      refine ev_seg (σ1 := ((d + 1), 95, 86, [some (.inr (.inr 86)), some (.inl x1), some (.inl x2)], [.inl 59, .inr (.inr 86)], (am_sh, am_mm U1))) 2 (fun _ => rfl) ?_
      obtain ⟨U2, h1a1c, h1a1a⟩ := h1a1
      refine ev_cal (σc := (M_must_I_s0 d 59 U1)) (fun _ => rfl) h1a1c ?_
      show Ev (am_kz N X) ((d + 1), 95, 89, [some (.inr (.inr 86)), some (.inl x1), some (.inl x2)], [], (am_sh, am_mm U2)) R
      subst h1a1a
      exact ev_end 1 (fun _ => rfl)
    · have h1a2 := h1a.2 hc
      refine ev_br (P := ¬ x1 = 80) (σ1 := ((d + 1), 95, 83, [some (.inr (.inr 86)), some (.inl x1), some (.inl x2)], [], (am_sh, am_mm U1))) (σ2 := ((d + 1), 95, 68, [some (.inr (.inr 86)), some (.inl x1), some (.inl x2)], [], (am_sh, am_mm U1))) 3 (fun _ => rfl) (fun hc => ?_) (fun hc => ?_)
      · have h1a21 := h1a2.1 hc
        refine ev_seg (σ1 := ((d + 1), 95, 86, [some (.inr (.inr 86)), some (.inl x1), some (.inl x2)], [.inl 59, .inr (.inr 86)], (am_sh, am_mm U1))) 2 (fun _ => rfl) ?_
        obtain ⟨U3, h1a21c, h1a21a⟩ := h1a21
        refine ev_cal (σc := (M_must_I_s0 d 59 U1)) (fun _ => rfl) h1a21c ?_
        show Ev (am_kz N X) ((d + 1), 95, 89, [some (.inr (.inr 86)), some (.inl x1), some (.inl x2)], [], (am_sh, am_mm U3)) R
        subst h1a21a
        exact ev_end 1 (fun _ => rfl)
      · have h1a22 := h1a2.2 (Decidable.not_not.mp hc)
        refine ev_br (P := (U1 86 2) ≤ x2) (σ1 := ((d + 1), 95, 83, [some (.inr (.inr 86)), some (.inl x1), some (.inl x2)], [], (am_sh, am_mm U1))) (σ2 := ((d + 1), 95, 76, [some (.inr (.inr 86)), some (.inl x1), some (.inl x2)], [], (am_sh, am_mm U1))) 4 (fun _ => rfl) (fun hc => ?_) (fun hc => ?_)
        · have h1a221 := h1a22.1 hc
          refine ev_seg (σ1 := ((d + 1), 95, 86, [some (.inr (.inr 86)), some (.inl x1), some (.inl x2)], [.inl 59, .inr (.inr 86)], (am_sh, am_mm U1))) 2 (fun _ => rfl) ?_
          obtain ⟨U4, h1a221c, h1a221a⟩ := h1a221
          refine ev_cal (σc := (M_must_I_s0 d 59 U1)) (fun _ => rfl) h1a221c ?_
          show Ev (am_kz N X) ((d + 1), 95, 89, [some (.inr (.inr 86)), some (.inl x1), some (.inl x2)], [], (am_sh, am_mm U4)) R
          subst h1a221a
          exact ev_end 1 (fun _ => rfl)
        · have h1a222 := h1a22.2 (Int.not_le.mp hc)
          refine ev_seg (σ1 := ((d + 1), 95, 80, [some (.inr (.inr 86)), some (.inl x1), some (.inl x2)], [.inl x2, .inl 6, .inr (.inr 86)], (am_sh, am_mm U1))) 3 (fun _ => rfl) ?_
          obtain ⟨U5, h1a222c, h1a222a⟩ := h1a222
          refine ev_cal (σc := (M_blame_s0 d 6 x2 U1)) (fun _ => rfl) h1a222c ?_
          show Ev (am_kz N X) ((d + 1), 95, 83, [some (.inr (.inr 86)), some (.inl x1), some (.inl x2)], [], (am_sh, am_mm U5)) R
          refine ev_seg (σ1 := ((d + 1), 95, 86, [some (.inr (.inr 86)), some (.inl x1), some (.inl x2)], [.inl 59, .inr (.inr 86)], (am_sh, am_mm U5))) 2 (fun _ => rfl) ?_
          obtain ⟨U6, h1a222ac, h1a222aa⟩ := h1a222a
          refine ev_cal (σc := (M_must_I_s0 d 59 U5)) (fun _ => rfl) h1a222ac ?_
          show Ev (am_kz N X) ((d + 1), 95, 89, [some (.inr (.inr 86)), some (.inl x1), some (.inl x2)], [], (am_sh, am_mm U6)) R
          subst h1a222aa
          exact ev_end 1 (fun _ => rfl)
  · have h2 := h.2 (Int.not_le.mp hc)
    refine ev_seg (σ1 := ((d + 1), 95, 30, [some (.inr (.inr 86)), some (.inl x1), some (.inl x2)], [.inl x2, .inr (.inr 87)], (am_sh, am_mm U))) 3 (fun _ => rfl) ?_
    refine eu_iald 87 (n := 1800) rfl (by decide) rfl (fun _ => rfl) h2.1 ?_
    show Ev (am_kz N X) ((d + 1), 95, 31, [some (.inr (.inr 86)), some (.inl x1), some (.inl x2)], [.inl (U 87 x2.toNat)], (am_sh, am_mm U)) R
    have h2a := h2.2
    refine ev_br (P := (U 87 x2.toNat) = 32) (σ1 := ((d + 1), 95, 47, [some (.inr (.inr 86)), some (.inl x1), some (.inl x2)], [], (am_sh, am_mm U))) (σ2 := ((d + 1), 95, 36, [some (.inr (.inr 86)), some (.inl x1), some (.inl x2)], [], (am_sh, am_mm U))) 2 (fun _ => rfl) (fun hc => ?_) (fun hc => ?_)
    · have h2a1 := h2a.1 hc
      refine ev_seg (σ1 := ((d + 1), 95, 17, [some (.inr (.inr 86)), some (.inl x1), some (.inl (w32 (x2 + 1)))], [], (am_sh, am_mm U))) 2 (fun _ => rfl) ?_
      exact h2a1
    · have h2a2 := h2a.2 hc
      refine ev_seg (σ1 := ((d + 1), 95, 41, [some (.inr (.inr 86)), some (.inl x1), some (.inl x2)], [.inl x2, .inr (.inr 87)], (am_sh, am_mm U))) 3 (fun _ => rfl) ?_
      refine eu_iald 87 (n := 1800) rfl (by decide) rfl (fun _ => rfl) h2.1 ?_
      show Ev (am_kz N X) ((d + 1), 95, 42, [some (.inr (.inr 86)), some (.inl x1), some (.inl x2)], [.inl (U 87 x2.toNat)], (am_sh, am_mm U)) R
      refine ev_br (P := ¬ (U 87 x2.toNat) = 10) (σ1 := ((d + 1), 95, 53, [some (.inr (.inr 86)), some (.inl x1), some (.inl x2)], [], (am_sh, am_mm U))) (σ2 := ((d + 1), 95, 47, [some (.inr (.inr 86)), some (.inl x1), some (.inl x2)], [], (am_sh, am_mm U))) 2 (fun _ => rfl) (fun hc => ?_) (fun hc => ?_)
      · have h2a21 := h2a2.1 hc
        refine ev_seg (σ1 := ((d + 1), 95, 56, [some (.inr (.inr 86)), some (.inl x1), some (.inl x2)], [.inl 59, .inr (.inr 86)], (am_sh, am_mm U))) 2 (fun _ => rfl) ?_
        obtain ⟨r7, U7, h2a21c, h2a21a⟩ := h2a21
        refine ev_cal (σc := (M_isSign_s0 d 59 U)) (fun _ => rfl) h2a21c ?_
        show Ev (am_kz N X) ((d + 1), 95, 59, [some (.inr (.inr 86)), some (.inl x1), some (.inl x2)], [.inl r7], (am_sh, am_mm U7)) R
        refine ev_br (P := r7 = 0) (σ1 := ((d + 1), 95, 83, [some (.inr (.inr 86)), some (.inl x1), some (.inl x2)], [], (am_sh, am_mm U7))) (σ2 := ((d + 1), 95, 62, [some (.inr (.inr 86)), some (.inl x1), some (.inl x2)], [], (am_sh, am_mm U7))) 1 (fun _ => rfl) (fun hc => ?_) (fun hc => ?_)
        · have h2a21a1 := h2a21a.1 hc
          refine ev_seg (σ1 := ((d + 1), 95, 86, [some (.inr (.inr 86)), some (.inl x1), some (.inl x2)], [.inl 59, .inr (.inr 86)], (am_sh, am_mm U7))) 2 (fun _ => rfl) ?_
          obtain ⟨U8, h2a21a1c, h2a21a1a⟩ := h2a21a1
          refine ev_cal (σc := (M_must_I_s0 d 59 U7)) (fun _ => rfl) h2a21a1c ?_
          show Ev (am_kz N X) ((d + 1), 95, 89, [some (.inr (.inr 86)), some (.inl x1), some (.inl x2)], [], (am_sh, am_mm U8)) R
          subst h2a21a1a
          exact ev_end 1 (fun _ => rfl)
        · have h2a21a2 := h2a21a.2 hc
          refine ev_br (P := ¬ x1 = 80) (σ1 := ((d + 1), 95, 83, [some (.inr (.inr 86)), some (.inl x1), some (.inl x2)], [], (am_sh, am_mm U7))) (σ2 := ((d + 1), 95, 68, [some (.inr (.inr 86)), some (.inl x1), some (.inl x2)], [], (am_sh, am_mm U7))) 3 (fun _ => rfl) (fun hc => ?_) (fun hc => ?_)
          · have h2a21a21 := h2a21a2.1 hc
            refine ev_seg (σ1 := ((d + 1), 95, 86, [some (.inr (.inr 86)), some (.inl x1), some (.inl x2)], [.inl 59, .inr (.inr 86)], (am_sh, am_mm U7))) 2 (fun _ => rfl) ?_
            obtain ⟨U9, h2a21a21c, h2a21a21a⟩ := h2a21a21
            refine ev_cal (σc := (M_must_I_s0 d 59 U7)) (fun _ => rfl) h2a21a21c ?_
            show Ev (am_kz N X) ((d + 1), 95, 89, [some (.inr (.inr 86)), some (.inl x1), some (.inl x2)], [], (am_sh, am_mm U9)) R
            subst h2a21a21a
            exact ev_end 1 (fun _ => rfl)
          · have h2a21a22 := h2a21a2.2 (Decidable.not_not.mp hc)
            refine ev_br (P := (U7 86 2) ≤ x2) (σ1 := ((d + 1), 95, 83, [some (.inr (.inr 86)), some (.inl x1), some (.inl x2)], [], (am_sh, am_mm U7))) (σ2 := ((d + 1), 95, 76, [some (.inr (.inr 86)), some (.inl x1), some (.inl x2)], [], (am_sh, am_mm U7))) 4 (fun _ => rfl) (fun hc => ?_) (fun hc => ?_)
            · have h2a21a221 := h2a21a22.1 hc
              refine ev_seg (σ1 := ((d + 1), 95, 86, [some (.inr (.inr 86)), some (.inl x1), some (.inl x2)], [.inl 59, .inr (.inr 86)], (am_sh, am_mm U7))) 2 (fun _ => rfl) ?_
              obtain ⟨U10, h2a21a221c, h2a21a221a⟩ := h2a21a221
              refine ev_cal (σc := (M_must_I_s0 d 59 U7)) (fun _ => rfl) h2a21a221c ?_
              show Ev (am_kz N X) ((d + 1), 95, 89, [some (.inr (.inr 86)), some (.inl x1), some (.inl x2)], [], (am_sh, am_mm U10)) R
              subst h2a21a221a
              exact ev_end 1 (fun _ => rfl)
            · have h2a21a222 := h2a21a22.2 (Int.not_le.mp hc)
              refine ev_seg (σ1 := ((d + 1), 95, 80, [some (.inr (.inr 86)), some (.inl x1), some (.inl x2)], [.inl x2, .inl 6, .inr (.inr 86)], (am_sh, am_mm U7))) 3 (fun _ => rfl) ?_
              obtain ⟨U11, h2a21a222c, h2a21a222a⟩ := h2a21a222
              refine ev_cal (σc := (M_blame_s0 d 6 x2 U7)) (fun _ => rfl) h2a21a222c ?_
              show Ev (am_kz N X) ((d + 1), 95, 83, [some (.inr (.inr 86)), some (.inl x1), some (.inl x2)], [], (am_sh, am_mm U11)) R
              refine ev_seg (σ1 := ((d + 1), 95, 86, [some (.inr (.inr 86)), some (.inl x1), some (.inl x2)], [.inl 59, .inr (.inr 86)], (am_sh, am_mm U11))) 2 (fun _ => rfl) ?_
              obtain ⟨U12, h2a21a222ac, h2a21a222aa⟩ := h2a21a222a
              refine ev_cal (σc := (M_must_I_s0 d 59 U11)) (fun _ => rfl) h2a21a222ac ?_
              show Ev (am_kz N X) ((d + 1), 95, 89, [some (.inr (.inr 86)), some (.inl x1), some (.inl x2)], [], (am_sh, am_mm U12)) R
              subst h2a21a222aa
              exact ev_end 1 (fun _ => rfl)
      · have h2a22 := h2a2.2 (Decidable.not_not.mp hc)
        refine ev_seg (σ1 := ((d + 1), 95, 17, [some (.inr (.inr 86)), some (.inl x1), some (.inl (w32 (x2 + 1)))], [], (am_sh, am_mm U))) 2 (fun _ => rfl) ?_
        exact h2a22
set_option maxRecDepth 8000 in
theorem Fk_waiting_r0 {N : Nat} {X : Nat → Int} {d : Nat} {U : am_U} {R : Option am_V × am_M} (h : EvK N X (Fk_waiting_s4 d 0 0 U) R) : EvK N X (Fk_waiting_s0 d U) R := by
  show Ev (am_kz N X) (d, 97, 0, [some (.inr (.inr 16)), none, none], [], (am_sh, am_mm U)) R
  refine ev_seg (σ1 := (d, 97, 4, [some (.inr (.inr 16)), some (.inl 0), some (.inl 0)], [], (am_sh, am_mm U))) 4 (fun _ => rfl) ?_
  exact h
set_option maxRecDepth 8000 in
theorem Fk_waiting_r4 {N : Nat} {X : Nat → Int} {d : Nat} {x1 x2 : Int} {U : am_U} {R : Option am_V × am_M} (h : (((U 16 0) ≤ x2) → R = rI x1 U) ∧ ((x2 < (U 16 0)) → (0 ≤ x2 ∧ x2 < 16) ∧ (((U 18 x2.toNat) ≠ (-1)) → EvK N X (Fk_waiting_s4 d x1 (w32 (x2 + 1)) U) R) ∧ (((U 18 x2.toNat) = (-1)) → EvK N X (Fk_waiting_s4 d (am_or x1 (am_shl 1 x2)) (w32 (x2 + 1)) U) R))) : EvK N X (Fk_waiting_s4 d x1 x2 U) R := by
  show Ev (am_kz N X) (d, 97, 4, [some (.inr (.inr 16)), some (.inl x1), some (.inl x2)], [], (am_sh, am_mm U)) R
  refine ev_br (P := (U 16 0) ≤ x2) (σ1 := (d, 97, 34, [some (.inr (.inr 16)), some (.inl x1), some (.inl x2)], [], (am_sh, am_mm U))) (σ2 := (d, 97, 12, [some (.inr (.inr 16)), some (.inl x1), some (.inl x2)], [], (am_sh, am_mm U))) 4 (fun _ => rfl) (fun hc => ?_) (fun hc => ?_)
  · have h1 := h.1 hc
    subst h1
    exact ev_end 2 (fun _ => rfl)
  · have h2 := h.2 (Int.not_le.mp hc)
    refine ev_seg (σ1 := (d, 97, 17, [some (.inr (.inr 16)), some (.inl x1), some (.inl x2)], [.inl x2, .inr (.inr 18)], (am_sh, am_mm U))) 3 (fun _ => rfl) ?_
    refine eu_iald 18 (n := 16) rfl (by decide) rfl (fun _ => rfl) h2.1 ?_
    show Ev (am_kz N X) (d, 97, 18, [some (.inr (.inr 16)), some (.inl x1), some (.inl x2)], [.inl (U 18 x2.toNat)], (am_sh, am_mm U)) R
    have h2a := h2.2
    refine ev_br (P := ¬ (U 18 x2.toNat) = (-1)) (σ1 := (d, 97, 28, [some (.inr (.inr 16)), some (.inl x1), some (.inl x2)], [], (am_sh, am_mm U))) (σ2 := (d, 97, 22, [some (.inr (.inr 16)), some (.inl x1), some (.inl x2)], [], (am_sh, am_mm U))) 2 (fun _ => rfl) (fun hc => ?_) (fun hc => ?_)
    · have h2a1 := h2a.1 hc
      refine ev_seg (σ1 := (d, 97, 4, [some (.inr (.inr 16)), some (.inl x1), some (.inl (w32 (x2 + 1)))], [], (am_sh, am_mm U))) 2 (fun _ => rfl) ?_
      exact h2a1
    · have h2a2 := h2a.2 (Decidable.not_not.mp hc)
      refine ev_seg (σ1 := (d, 97, 4, [some (.inr (.inr 16)), some (.inl (am_or x1 (am_shl 1 x2))), some (.inl (w32 (x2 + 1)))], [], (am_sh, am_mm U))) 8 (fun _ => rfl) ?_
      exact h2a2
set_option maxRecDepth 8000 in
theorem In_bitCount_r0 {N : Nat} {X : Nat → Int} {d : Nat} {x0 : Int} {U : am_U} {R : Option am_V × am_M} (h : R = rI (am_and (w32 ((w32 ((am_and (w32 ((w32 ((am_and (w32 (x0 - (am_and (am_ushr x0 1) 1431655765))) 858993459) + (am_and (am_ushr (w32 (x0 - (am_and (am_ushr x0 1) 1431655765))) 2) 858993459))) + (am_ushr (w32 ((am_and (w32 (x0 - (am_and (am_ushr x0 1) 1431655765))) 858993459) + (am_and (am_ushr (w32 (x0 - (am_and (am_ushr x0 1) 1431655765))) 2) 858993459))) 4))) 252645135) + (am_ushr (am_and (w32 ((w32 ((am_and (w32 (x0 - (am_and (am_ushr x0 1) 1431655765))) 858993459) + (am_and (am_ushr (w32 (x0 - (am_and (am_ushr x0 1) 1431655765))) 2) 858993459))) + (am_ushr (w32 ((am_and (w32 (x0 - (am_and (am_ushr x0 1) 1431655765))) 858993459) + (am_and (am_ushr (w32 (x0 - (am_and (am_ushr x0 1) 1431655765))) 2) 858993459))) 4))) 252645135) 8))) + (am_ushr (w32 ((am_and (w32 ((w32 ((am_and (w32 (x0 - (am_and (am_ushr x0 1) 1431655765))) 858993459) + (am_and (am_ushr (w32 (x0 - (am_and (am_ushr x0 1) 1431655765))) 2) 858993459))) + (am_ushr (w32 ((am_and (w32 (x0 - (am_and (am_ushr x0 1) 1431655765))) 858993459) + (am_and (am_ushr (w32 (x0 - (am_and (am_ushr x0 1) 1431655765))) 2) 858993459))) 4))) 252645135) + (am_ushr (am_and (w32 ((w32 ((am_and (w32 (x0 - (am_and (am_ushr x0 1) 1431655765))) 858993459) + (am_and (am_ushr (w32 (x0 - (am_and (am_ushr x0 1) 1431655765))) 2) 858993459))) + (am_ushr (w32 ((am_and (w32 (x0 - (am_and (am_ushr x0 1) 1431655765))) 858993459) + (am_and (am_ushr (w32 (x0 - (am_and (am_ushr x0 1) 1431655765))) 2) 858993459))) 4))) 252645135) 8))) 16))) 63) U) : EvK N X (In_bitCount_s0 d x0 U) R := by
  show Ev (am_kz N X) (d, 98, 0, [some (.inl x0)], [], (am_sh, am_mm U)) R
  subst h
  exact ev_end 42 (fun _ => rfl)
set_option maxRecDepth 8000 in
theorem Jg_countBreaches_r0 {N : Nat} {X : Nat → Int} {d : Nat} {U : am_U} {R : Option am_V × am_M} (h : ∃ U1 : am_U, EvK N X (Jg_look_s0 d U) (rV U1) ∧ EvK N X (Jg_countBreaches_s8 (d + 1) 0 0 U1) R) : EvK N X (Jg_countBreaches_s0 (d + 1) U) R := by
  show Ev (am_kz N X) ((d + 1), 99, 0, [some (.inr (.inr 45)), none, none], [], (am_sh, am_mm U)) R
  refine ev_seg (σ1 := ((d + 1), 99, 1, [some (.inr (.inr 45)), none, none], [.inr (.inr 45)], (am_sh, am_mm U))) 1 (fun _ => rfl) ?_
  obtain ⟨U1, hc, ha⟩ := h
  refine ev_cal (σc := (Jg_look_s0 d U)) (fun _ => rfl) hc ?_
  show Ev (am_kz N X) ((d + 1), 99, 4, [some (.inr (.inr 45)), none, none], [], (am_sh, am_mm U1)) R
  refine ev_seg (σ1 := ((d + 1), 99, 8, [some (.inr (.inr 45)), some (.inl 0), some (.inl 0)], [], (am_sh, am_mm U1))) 4 (fun _ => rfl) ?_
  exact ha
set_option maxRecDepth 8000 in
theorem Jg_countBreaches_r8 {N : Nat} {X : Nat → Int} {d : Nat} {x1 x2 : Int} {U : am_U} {R : Option am_V × am_M} (h : ((128 ≤ x2) → R = rI x1 U) ∧ ((x2 < 128) → (0 ≤ x2 ∧ x2 < 128) ∧ ∃ (r1 : Int) (U1 : am_U), EvK N X (In_bitCount_s0 d (U 47 x2.toNat) U) (rI r1 U1) ∧ EvK N X (Jg_countBreaches_s8 (d + 1) (w32 (x1 + r1)) (w32 (x2 + 1)) U1) R)) : EvK N X (Jg_countBreaches_s8 (d + 1) x1 x2 U) R := by
  show Ev (am_kz N X) ((d + 1), 99, 8, [some (.inr (.inr 45)), some (.inl x1), some (.inl x2)], [], (am_sh, am_mm U)) R
  refine ev_br (P := 128 ≤ x2) (σ1 := ((d + 1), 99, 35, [some (.inr (.inr 45)), some (.inl x1), some (.inl x2)], [], (am_sh, am_mm U))) (σ2 := ((d + 1), 99, 17, [some (.inr (.inr 45)), some (.inl x1), some (.inl x2)], [], (am_sh, am_mm U))) 5 (fun _ => rfl) (fun hc => ?_) (fun hc => ?_)
  · have h1 := h.1 hc
    subst h1
    exact ev_end 2 (fun _ => rfl)
  · have h2 := h.2 (Int.not_le.mp hc)
    refine ev_seg (σ1 := ((d + 1), 99, 23, [some (.inr (.inr 45)), some (.inl x1), some (.inl x2)], [.inl x2, .inr (.inr 47), .inl x1], (am_sh, am_mm U))) 4 (fun _ => rfl) ?_
    refine eu_iald 47 (n := 128) rfl (by decide) rfl (fun _ => rfl) h2.1 ?_
    show Ev (am_kz N X) ((d + 1), 99, 24, [some (.inr (.inr 45)), some (.inl x1), some (.inl x2)], [.inl (U 47 x2.toNat), .inl x1], (am_sh, am_mm U)) R
    have h2a := h2.2
    obtain ⟨r1, U1, h2ac, h2aa⟩ := h2a
    refine ev_cal (σc := (In_bitCount_s0 d (U 47 x2.toNat) U)) (fun _ => rfl) h2ac ?_
    show Ev (am_kz N X) ((d + 1), 99, 27, [some (.inr (.inr 45)), some (.inl x1), some (.inl x2)], [.inl r1, .inl x1], (am_sh, am_mm U1)) R
    refine ev_seg (σ1 := ((d + 1), 99, 8, [some (.inr (.inr 45)), some (.inl (w32 (x1 + r1))), some (.inl (w32 (x2 + 1)))], [], (am_sh, am_mm U1))) 4 (fun _ => rfl) ?_
    exact h2aa
set_option maxRecDepth 8000 in
theorem M_scans_r0 {N : Nat} {X : Nat → Int} {d : Nat} {x1 x2 x3 : Int} {U : am_U} {R : Option am_V × am_M} (h : EvK N X (M_scans_s13 (d + 1) x1 x2 x3 0 (am_upd (am_upd U 86 67 0) 86 64 (-1))) R) : EvK N X (M_scans_s0 (d + 1) x1 x2 x3 U) R := by
  show Ev (am_kz N X) ((d + 1), 100, 0, [some (.inr (.inr 86)), some (.inl x1), some (.inl x2), some (.inl x3), none, none, none, none], [], (am_sh, am_mm U)) R
  refine ev_seg (σ1 := ((d + 1), 100, 2, [some (.inr (.inr 86)), some (.inl x1), some (.inl x2), some (.inl x3), none, none, none, none], [.inl 0, .inr (.inr 86)], (am_sh, am_mm U))) 2 (fun _ => rfl) ?_
  refine eu_puti 86 (n := 90) rfl (by decide) rfl rfl ?_
  show Ev (am_kz N X) ((d + 1), 100, 5, [some (.inr (.inr 86)), some (.inl x1), some (.inl x2), some (.inl x3), none, none, none, none], [], (am_sh, am_mm (am_upd U 86 67 0))) R
  refine ev_seg (σ1 := ((d + 1), 100, 7, [some (.inr (.inr 86)), some (.inl x1), some (.inl x2), some (.inl x3), none, none, none, none], [.inl (-1), .inr (.inr 86)], (am_sh, am_mm (am_upd U 86 67 0)))) 2 (fun _ => rfl) ?_
  refine eu_puti 86 (n := 90) rfl (by decide) rfl rfl ?_
  show Ev (am_kz N X) ((d + 1), 100, 10, [some (.inr (.inr 86)), some (.inl x1), some (.inl x2), some (.inl x3), none, none, none, none], [], (am_sh, am_mm (am_upd (am_upd U 86 67 0) 86 64 (-1)))) R
  refine ev_seg (σ1 := ((d + 1), 100, 13, [some (.inr (.inr 86)), some (.inl x1), some (.inl x2), some (.inl x3), some (.inl 0), none, none, none], [], (am_sh, am_mm (am_upd (am_upd U 86 67 0) 86 64 (-1))))) 2 (fun _ => rfl) ?_
  exact h
set_option maxRecDepth 8000 in
theorem M_scans_r13 {N : Nat} {X : Nat → Int} {d : Nat} {x1 x2 x3 x4 : Int} {U : am_U} {R : Option am_V × am_M} (h : (0 ≤ (U 86 13) ∧ (U 86 13) < 2) ∧ (((U 100 ((U 86 13).toNat)) ≤ x4) → R = rI (U 86 67) U) ∧ ((x4 < (U 100 ((U 86 13).toNat))) → (0 ≤ (w32 ((w32 (8 * (U 86 13))) + x4)) ∧ (w32 ((w32 (8 * (U 86 13))) + x4)) < 16) ∧ EvK N X (M_scans_s47 (d + 1) x1 x2 x3 x4 (U 101 ((w32 ((w32 (8 * (U 86 13))) + x4)).toNat)) 0 U) R)) : EvK N X (M_scans_s13 (d + 1) x1 x2 x3 x4 U) R := by
  show Ev (am_kz N X) ((d + 1), 100, 13, [some (.inr (.inr 86)), some (.inl x1), some (.inl x2), some (.inl x3), some (.inl x4), none, none, none], [], (am_sh, am_mm U)) R
  refine ev_seg (σ1 := ((d + 1), 100, 23, [some (.inr (.inr 86)), some (.inl x1), some (.inl x2), some (.inl x3), some (.inl x4), none, none, none], [.inl (U 86 13), .inr (.inr 100), .inl x4], (am_sh, am_mm U))) 5 (fun _ => rfl) ?_
  refine eu_iald 100 (n := 2) rfl (by decide) rfl (fun _ => rfl) h.1 ?_
  show Ev (am_kz N X) ((d + 1), 100, 24, [some (.inr (.inr 86)), some (.inl x1), some (.inl x2), some (.inl x3), some (.inl x4), none, none, none], [.inl (U 100 ((U 86 13).toNat)), .inl x4], (am_sh, am_mm U)) R
  have ha := h.2
  refine ev_br (P := (U 100 ((U 86 13).toNat)) ≤ x4) (σ1 := ((d + 1), 100, 211, [some (.inr (.inr 86)), some (.inl x1), some (.inl x2), some (.inl x3), some (.inl x4), none, none, none], [], (am_sh, am_mm U))) (σ2 := ((d + 1), 100, 27, [some (.inr (.inr 86)), some (.inl x1), some (.inl x2), some (.inl x3), some (.inl x4), none, none, none], [], (am_sh, am_mm U))) 1 (fun _ => rfl) (fun hc => ?_) (fun hc => ?_)
  · have ha1 := ha.1 hc
    subst ha1
    exact ev_end 3 (fun _ => rfl)
  · have ha2 := ha.2 (Int.not_le.mp hc)
    refine ev_seg (σ1 := ((d + 1), 100, 41, [some (.inr (.inr 86)), some (.inl x1), some (.inl x2), some (.inl x3), some (.inl x4), none, none, none], [.inl (w32 ((w32 (8 * (U 86 13))) + x4)), .inr (.inr 101)], (am_sh, am_mm U))) 8 (fun _ => rfl) ?_
    refine eu_iald 101 (n := 16) rfl (by decide) rfl (fun _ => rfl) ha2.1 ?_
    show Ev (am_kz N X) ((d + 1), 100, 42, [some (.inr (.inr 86)), some (.inl x1), some (.inl x2), some (.inl x3), some (.inl x4), none, none, none], [.inl (U 101 ((w32 ((w32 (8 * (U 86 13))) + x4)).toNat))], (am_sh, am_mm U)) R
    have ha2a := ha2.2
    refine ev_seg (σ1 := ((d + 1), 100, 47, [some (.inr (.inr 86)), some (.inl x1), some (.inl x2), some (.inl x3), some (.inl x4), some (.inl (U 101 ((w32 ((w32 (8 * (U 86 13))) + x4)).toNat))), some (.inl 0), none], [], (am_sh, am_mm U))) 3 (fun _ => rfl) ?_
    exact ha2a
set_option maxRecDepth 8000 in
theorem M_scans_r47 {N : Nat} {X : Nat → Int} {d : Nat} {x1 x2 x3 x4 x5 x6 : Int} {U : am_U} {R : Option am_V × am_M} (h : (0 ≤ x1 ∧ x1 < 22) ∧ (((U 122 x1.toNat) ≤ x6) → EvK N X (M_scans_s13 (d + 1) x1 x2 x3 (w32 (x4 + 1)) U) R) ∧ ((x6 < (U 122 x1.toNat)) → ∃ (r1 : Int) (U1 : am_U), EvK N X (M_homeOf_s0 d x1 x6 U) (rI r1 U1) ∧ ((r1 ≠ (-1)) → ((x5 ≠ 0) → EvK N X (M_scans_s117 (d + 1) x1 x2 x3 x4 x5 x6 0 U1) R) ∧ ((x5 = 0) → ((x2 = (-1)) → ∃ (r2 : Int) (U2 : am_U), EvK N X (M_lawHolds_s0 d x1 x4 x6 0 U1) (rI r2 U2) ∧ ((r2 ≠ 0) → EvK N X (M_scans_s47 (d + 1) x1 x2 x3 x4 x5 (w32 (x6 + 1)) U2) R) ∧ ((r2 = 0) → ∃ U3 : am_U, EvK N X (M_counted_s0 d x4 x6 (-1) x3 U2) (rV U3) ∧ EvK N X (M_scans_s47 (d + 1) x1 x2 x3 x4 x5 (w32 (x6 + 1)) U3) R)) ∧ ((x2 ≠ (-1)) → ((x2 ≠ x6) → EvK N X (M_scans_s47 (d + 1) x1 x2 x3 x4 x5 (w32 (x6 + 1)) U1) R) ∧ ((x2 = x6) → ∃ (r4 : Int) (U4 : am_U), EvK N X (M_lawHolds_s0 d x1 x4 x6 0 U1) (rI r4 U4) ∧ ((r4 ≠ 0) → EvK N X (M_scans_s47 (d + 1) x1 x2 x3 x4 x5 (w32 (x6 + 1)) U4) R) ∧ ((r4 = 0) → ∃ U5 : am_U, EvK N X (M_counted_s0 d x4 x6 (-1) x3 U4) (rV U5) ∧ EvK N X (M_scans_s47 (d + 1) x1 x2 x3 x4 x5 (w32 (x6 + 1)) U5) R))))) ∧ ((r1 = (-1)) → EvK N X (M_scans_s47 (d + 1) x1 x2 x3 x4 x5 (w32 (x6 + 1)) U1) R))) : EvK N X (M_scans_s47 (d + 1) x1 x2 x3 x4 x5 x6 U) R := by
  show Ev (am_kz N X) ((d + 1), 100, 47, [some (.inr (.inr 86)), some (.inl x1), some (.inl x2), some (.inl x3), some (.inl x4), some (.inl x5), some (.inl x6), none], [], (am_sh, am_mm U)) R
  refine ev_seg (σ1 := ((d + 1), 100, 54, [some (.inr (.inr 86)), some (.inl x1), some (.inl x2), some (.inl x3), some (.inl x4), some (.inl x5), some (.inl x6), none], [.inl x1, .inr (.inr 122), .inl x6], (am_sh, am_mm U))) 4 (fun _ => rfl) ?_
  refine eu_iald 122 (n := 22) rfl (by decide) rfl (fun _ => rfl) h.1 ?_
  show Ev (am_kz N X) ((d + 1), 100, 55, [some (.inr (.inr 86)), some (.inl x1), some (.inl x2), some (.inl x3), some (.inl x4), some (.inl x5), some (.inl x6), none], [.inl (U 122 x1.toNat), .inl x6], (am_sh, am_mm U)) R
  have ha := h.2
  refine ev_br (P := (U 122 x1.toNat) ≤ x6) (σ1 := ((d + 1), 100, 205, [some (.inr (.inr 86)), some (.inl x1), some (.inl x2), some (.inl x3), some (.inl x4), some (.inl x5), some (.inl x6), none], [], (am_sh, am_mm U))) (σ2 := ((d + 1), 100, 58, [some (.inr (.inr 86)), some (.inl x1), some (.inl x2), some (.inl x3), some (.inl x4), some (.inl x5), some (.inl x6), none], [], (am_sh, am_mm U))) 1 (fun _ => rfl) (fun hc => ?_) (fun hc => ?_)
  · have ha1 := ha.1 hc
    refine ev_seg (σ1 := ((d + 1), 100, 13, [some (.inr (.inr 86)), some (.inl x1), some (.inl x2), some (.inl x3), some (.inl (w32 (x4 + 1))), some (.inl x5), some (.inl x6), none], [], (am_sh, am_mm U))) 2 (fun _ => rfl) ?_
    exact ev_le (L := [some (.inr (.inr 86)), some (.inl x1), some (.inl x2), some (.inl x3), some (.inl (w32 (x4 + 1))), none, none, none]) ⟨rfl, ⟨rfl, ⟨rfl, ⟨rfl, ⟨rfl, trivial⟩⟩⟩⟩⟩ ha1
  · have ha2 := ha.2 (Int.not_le.mp hc)
    refine ev_seg (σ1 := ((d + 1), 100, 62, [some (.inr (.inr 86)), some (.inl x1), some (.inl x2), some (.inl x3), some (.inl x4), some (.inl x5), some (.inl x6), none], [.inl x6, .inl x1, .inr (.inr 86)], (am_sh, am_mm U))) 3 (fun _ => rfl) ?_
    obtain ⟨r1, U1, ha2c, ha2a⟩ := ha2
    refine ev_cal (σc := (M_homeOf_s0 d x1 x6 U)) (fun _ => rfl) ha2c ?_
    show Ev (am_kz N X) ((d + 1), 100, 65, [some (.inr (.inr 86)), some (.inl x1), some (.inl x2), some (.inl x3), some (.inl x4), some (.inl x5), some (.inl x6), none], [.inl r1], (am_sh, am_mm U1)) R
    refine ev_br (P := ¬ r1 = (-1)) (σ1 := ((d + 1), 100, 72, [some (.inr (.inr 86)), some (.inl x1), some (.inl x2), some (.inl x3), some (.inl x4), some (.inl x5), some (.inl x6), none], [], (am_sh, am_mm U1))) (σ2 := ((d + 1), 100, 69, [some (.inr (.inr 86)), some (.inl x1), some (.inl x2), some (.inl x3), some (.inl x4), some (.inl x5), some (.inl x6), none], [], (am_sh, am_mm U1))) 2 (fun _ => rfl) (fun hc => ?_) (fun hc => ?_)
    · have ha2a1 := ha2a.1 hc
      refine ev_br (P := ¬ x5 = 0) (σ1 := ((d + 1), 100, 114, [some (.inr (.inr 86)), some (.inl x1), some (.inl x2), some (.inl x3), some (.inl x4), some (.inl x5), some (.inl x6), none], [], (am_sh, am_mm U1))) (σ2 := ((d + 1), 100, 77, [some (.inr (.inr 86)), some (.inl x1), some (.inl x2), some (.inl x3), some (.inl x4), some (.inl x5), some (.inl x6), none], [], (am_sh, am_mm U1))) 2 (fun _ => rfl) (fun hc => ?_) (fun hc => ?_)
      · have ha2a11 := ha2a1.1 hc
        refine ev_seg (σ1 := ((d + 1), 100, 117, [some (.inr (.inr 86)), some (.inl x1), some (.inl x2), some (.inl x3), some (.inl x4), some (.inl x5), some (.inl x6), some (.inl 0)], [], (am_sh, am_mm U1))) 2 (fun _ => rfl) ?_
        exact ha2a11
      · have ha2a12 := ha2a1.2 (Decidable.not_not.mp hc)
        refine ev_br (P := x2 = (-1)) (σ1 := ((d + 1), 100, 88, [some (.inr (.inr 86)), some (.inl x1), some (.inl x2), some (.inl x3), some (.inl x4), some (.inl x5), some (.inl x6), none], [], (am_sh, am_mm U1))) (σ2 := ((d + 1), 100, 82, [some (.inr (.inr 86)), some (.inl x1), some (.inl x2), some (.inl x3), some (.inl x4), some (.inl x5), some (.inl x6), none], [], (am_sh, am_mm U1))) 3 (fun _ => rfl) (fun hc => ?_) (fun hc => ?_)
        · have ha2a121 := ha2a12.1 hc
          refine ev_seg (σ1 := ((d + 1), 100, 95, [some (.inr (.inr 86)), some (.inl x1), some (.inl x2), some (.inl x3), some (.inl x4), some (.inl x5), some (.inl x6), none], [.inr (.inl 0), .inl x6, .inl x4, .inl x1, .inr (.inr 86)], (am_sh, am_mm U1))) 5 (fun _ => rfl) ?_
          obtain ⟨r2, U2, ha2a121c, ha2a121a⟩ := ha2a121
          refine ev_cal (σc := (M_lawHolds_s0 d x1 x4 x6 0 U1)) (fun _ => rfl) ha2a121c ?_
          show Ev (am_kz N X) ((d + 1), 100, 98, [some (.inr (.inr 86)), some (.inl x1), some (.inl x2), some (.inl x3), some (.inl x4), some (.inl x5), some (.inl x6), none], [.inl r2], (am_sh, am_mm U2)) R
          refine ev_br (P := ¬ r2 = 0) (σ1 := ((d + 1), 100, 199, [some (.inr (.inr 86)), some (.inl x1), some (.inl x2), some (.inl x3), some (.inl x4), some (.inl x5), some (.inl x6), none], [], (am_sh, am_mm U2))) (σ2 := ((d + 1), 100, 101, [some (.inr (.inr 86)), some (.inl x1), some (.inl x2), some (.inl x3), some (.inl x4), some (.inl x5), some (.inl x6), none], [], (am_sh, am_mm U2))) 1 (fun _ => rfl) (fun hc => ?_) (fun hc => ?_)
          · have ha2a121a1 := ha2a121a.1 hc
            refine ev_seg (σ1 := ((d + 1), 100, 47, [some (.inr (.inr 86)), some (.inl x1), some (.inl x2), some (.inl x3), some (.inl x4), some (.inl x5), some (.inl (w32 (x6 + 1))), none], [], (am_sh, am_mm U2))) 2 (fun _ => rfl) ?_
            exact ha2a121a1
          · have ha2a121a2 := ha2a121a.2 (Decidable.not_not.mp hc)
            refine ev_seg (σ1 := ((d + 1), 100, 108, [some (.inr (.inr 86)), some (.inl x1), some (.inl x2), some (.inl x3), some (.inl x4), some (.inl x5), some (.inl x6), none], [.inl x3, .inl (-1), .inl x6, .inl x4, .inr (.inr 86)], (am_sh, am_mm U2))) 5 (fun _ => rfl) ?_
            obtain ⟨U3, ha2a121a2c, ha2a121a2a⟩ := ha2a121a2
            refine ev_cal (σc := (M_counted_s0 d x4 x6 (-1) x3 U2)) (fun _ => rfl) ha2a121a2c ?_
            show Ev (am_kz N X) ((d + 1), 100, 111, [some (.inr (.inr 86)), some (.inl x1), some (.inl x2), some (.inl x3), some (.inl x4), some (.inl x5), some (.inl x6), none], [], (am_sh, am_mm U3)) R
            refine ev_seg (σ1 := ((d + 1), 100, 47, [some (.inr (.inr 86)), some (.inl x1), some (.inl x2), some (.inl x3), some (.inl x4), some (.inl x5), some (.inl (w32 (x6 + 1))), none], [], (am_sh, am_mm U3))) 3 (fun _ => rfl) ?_
            exact ha2a121a2a
        · have ha2a122 := ha2a12.2 hc
          refine ev_br (P := ¬ x2 = x6) (σ1 := ((d + 1), 100, 199, [some (.inr (.inr 86)), some (.inl x1), some (.inl x2), some (.inl x3), some (.inl x4), some (.inl x5), some (.inl x6), none], [], (am_sh, am_mm U1))) (σ2 := ((d + 1), 100, 88, [some (.inr (.inr 86)), some (.inl x1), some (.inl x2), some (.inl x3), some (.inl x4), some (.inl x5), some (.inl x6), none], [], (am_sh, am_mm U1))) 3 (fun _ => rfl) (fun hc => ?_) (fun hc => ?_)
          · have ha2a1221 := ha2a122.1 hc
            refine ev_seg (σ1 := ((d + 1), 100, 47, [some (.inr (.inr 86)), some (.inl x1), some (.inl x2), some (.inl x3), some (.inl x4), some (.inl x5), some (.inl (w32 (x6 + 1))), none], [], (am_sh, am_mm U1))) 2 (fun _ => rfl) ?_
            exact ha2a1221
          · have ha2a1222 := ha2a122.2 (Decidable.not_not.mp hc)
            refine ev_seg (σ1 := ((d + 1), 100, 95, [some (.inr (.inr 86)), some (.inl x1), some (.inl x2), some (.inl x3), some (.inl x4), some (.inl x5), some (.inl x6), none], [.inr (.inl 0), .inl x6, .inl x4, .inl x1, .inr (.inr 86)], (am_sh, am_mm U1))) 5 (fun _ => rfl) ?_
            obtain ⟨r4, U4, ha2a1222c, ha2a1222a⟩ := ha2a1222
            refine ev_cal (σc := (M_lawHolds_s0 d x1 x4 x6 0 U1)) (fun _ => rfl) ha2a1222c ?_
            show Ev (am_kz N X) ((d + 1), 100, 98, [some (.inr (.inr 86)), some (.inl x1), some (.inl x2), some (.inl x3), some (.inl x4), some (.inl x5), some (.inl x6), none], [.inl r4], (am_sh, am_mm U4)) R
            refine ev_br (P := ¬ r4 = 0) (σ1 := ((d + 1), 100, 199, [some (.inr (.inr 86)), some (.inl x1), some (.inl x2), some (.inl x3), some (.inl x4), some (.inl x5), some (.inl x6), none], [], (am_sh, am_mm U4))) (σ2 := ((d + 1), 100, 101, [some (.inr (.inr 86)), some (.inl x1), some (.inl x2), some (.inl x3), some (.inl x4), some (.inl x5), some (.inl x6), none], [], (am_sh, am_mm U4))) 1 (fun _ => rfl) (fun hc => ?_) (fun hc => ?_)
            · have ha2a1222a1 := ha2a1222a.1 hc
              refine ev_seg (σ1 := ((d + 1), 100, 47, [some (.inr (.inr 86)), some (.inl x1), some (.inl x2), some (.inl x3), some (.inl x4), some (.inl x5), some (.inl (w32 (x6 + 1))), none], [], (am_sh, am_mm U4))) 2 (fun _ => rfl) ?_
              exact ha2a1222a1
            · have ha2a1222a2 := ha2a1222a.2 (Decidable.not_not.mp hc)
              refine ev_seg (σ1 := ((d + 1), 100, 108, [some (.inr (.inr 86)), some (.inl x1), some (.inl x2), some (.inl x3), some (.inl x4), some (.inl x5), some (.inl x6), none], [.inl x3, .inl (-1), .inl x6, .inl x4, .inr (.inr 86)], (am_sh, am_mm U4))) 5 (fun _ => rfl) ?_
              obtain ⟨U5, ha2a1222a2c, ha2a1222a2a⟩ := ha2a1222a2
              refine ev_cal (σc := (M_counted_s0 d x4 x6 (-1) x3 U4)) (fun _ => rfl) ha2a1222a2c ?_
              show Ev (am_kz N X) ((d + 1), 100, 111, [some (.inr (.inr 86)), some (.inl x1), some (.inl x2), some (.inl x3), some (.inl x4), some (.inl x5), some (.inl x6), none], [], (am_sh, am_mm U5)) R
              refine ev_seg (σ1 := ((d + 1), 100, 47, [some (.inr (.inr 86)), some (.inl x1), some (.inl x2), some (.inl x3), some (.inl x4), some (.inl x5), some (.inl (w32 (x6 + 1))), none], [], (am_sh, am_mm U5))) 3 (fun _ => rfl) ?_
              exact ha2a1222a2a
    · have ha2a2 := ha2a.2 (Decidable.not_not.mp hc)
      refine ev_seg (σ1 := ((d + 1), 100, 47, [some (.inr (.inr 86)), some (.inl x1), some (.inl x2), some (.inl x3), some (.inl x4), some (.inl x5), some (.inl (w32 (x6 + 1))), none], [], (am_sh, am_mm U1))) 3 (fun _ => rfl) ?_
      exact ha2a2
set_option maxRecDepth 8000 in
theorem M_scans_r117 {N : Nat} {X : Nat → Int} {d : Nat} {x1 x2 x3 x4 x5 x6 x7 : Int} {U : am_U} {R : Option am_V × am_M} (h : (0 ≤ x1 ∧ x1 < 22) ∧ (((U 122 x1.toNat) ≤ x7) → EvK N X (M_scans_s47 (d + 1) x1 x2 x3 x4 x5 (w32 (x6 + 1)) U) R) ∧ ((x7 < (U 122 x1.toNat)) → ((x2 = (-1)) → ∃ (r1 : Int) (U1 : am_U), EvK N X (M_isPair_s0 d x1 x5 x6 x7 U) (rI r1 U1) ∧ ((r1 ≠ 0) → ∃ (r2 : Int) (U2 : am_U), EvK N X (M_numberOf_s0 d x1 x7 U1) (rI r2 U2) ∧ ∃ (r3 : Int) (U3 : am_U), EvK N X (M_lawHolds_s0 d x1 x4 x6 r2 U2) (rI r3 U3) ∧ ((r3 ≠ 0) → EvK N X (M_scans_s117 (d + 1) x1 x2 x3 x4 x5 x6 (w32 (x7 + 1)) U3) R) ∧ ((r3 = 0) → ∃ U4 : am_U, EvK N X (M_counted_s0 d x4 x6 x7 x3 U3) (rV U4) ∧ EvK N X (M_scans_s117 (d + 1) x1 x2 x3 x4 x5 x6 (w32 (x7 + 1)) U4) R)) ∧ ((r1 = 0) → EvK N X (M_scans_s117 (d + 1) x1 x2 x3 x4 x5 x6 (w32 (x7 + 1)) U1) R)) ∧ ((x2 ≠ (-1)) → ((x2 = x6) → ∃ (r5 : Int) (U5 : am_U), EvK N X (M_isPair_s0 d x1 x5 x6 x7 U) (rI r5 U5) ∧ ((r5 ≠ 0) → ∃ (r6 : Int) (U6 : am_U), EvK N X (M_numberOf_s0 d x1 x7 U5) (rI r6 U6) ∧ ∃ (r7 : Int) (U7 : am_U), EvK N X (M_lawHolds_s0 d x1 x4 x6 r6 U6) (rI r7 U7) ∧ ((r7 ≠ 0) → EvK N X (M_scans_s117 (d + 1) x1 x2 x3 x4 x5 x6 (w32 (x7 + 1)) U7) R) ∧ ((r7 = 0) → ∃ U8 : am_U, EvK N X (M_counted_s0 d x4 x6 x7 x3 U7) (rV U8) ∧ EvK N X (M_scans_s117 (d + 1) x1 x2 x3 x4 x5 x6 (w32 (x7 + 1)) U8) R)) ∧ ((r5 = 0) → EvK N X (M_scans_s117 (d + 1) x1 x2 x3 x4 x5 x6 (w32 (x7 + 1)) U5) R)) ∧ ((x2 ≠ x6) → ((x2 ≠ x7) → EvK N X (M_scans_s117 (d + 1) x1 x2 x3 x4 x5 x6 (w32 (x7 + 1)) U) R) ∧ ((x2 = x7) → ∃ (r9 : Int) (U9 : am_U), EvK N X (M_isPair_s0 d x1 x5 x6 x7 U) (rI r9 U9) ∧ ((r9 ≠ 0) → ∃ (r10 : Int) (U10 : am_U), EvK N X (M_numberOf_s0 d x1 x7 U9) (rI r10 U10) ∧ ∃ (r11 : Int) (U11 : am_U), EvK N X (M_lawHolds_s0 d x1 x4 x6 r10 U10) (rI r11 U11) ∧ ((r11 ≠ 0) → EvK N X (M_scans_s117 (d + 1) x1 x2 x3 x4 x5 x6 (w32 (x7 + 1)) U11) R) ∧ ((r11 = 0) → ∃ U12 : am_U, EvK N X (M_counted_s0 d x4 x6 x7 x3 U11) (rV U12) ∧ EvK N X (M_scans_s117 (d + 1) x1 x2 x3 x4 x5 x6 (w32 (x7 + 1)) U12) R)) ∧ ((r9 = 0) → EvK N X (M_scans_s117 (d + 1) x1 x2 x3 x4 x5 x6 (w32 (x7 + 1)) U9) R)))))) : EvK N X (M_scans_s117 (d + 1) x1 x2 x3 x4 x5 x6 x7 U) R := by
  show Ev (am_kz N X) ((d + 1), 100, 117, [some (.inr (.inr 86)), some (.inl x1), some (.inl x2), some (.inl x3), some (.inl x4), some (.inl x5), some (.inl x6), some (.inl x7)], [], (am_sh, am_mm U)) R
  refine ev_seg (σ1 := ((d + 1), 100, 124, [some (.inr (.inr 86)), some (.inl x1), some (.inl x2), some (.inl x3), some (.inl x4), some (.inl x5), some (.inl x6), some (.inl x7)], [.inl x1, .inr (.inr 122), .inl x7], (am_sh, am_mm U))) 4 (fun _ => rfl) ?_
  refine eu_iald 122 (n := 22) rfl (by decide) rfl (fun _ => rfl) h.1 ?_
  show Ev (am_kz N X) ((d + 1), 100, 125, [some (.inr (.inr 86)), some (.inl x1), some (.inl x2), some (.inl x3), some (.inl x4), some (.inl x5), some (.inl x6), some (.inl x7)], [.inl (U 122 x1.toNat), .inl x7], (am_sh, am_mm U)) R
  have ha := h.2
  refine ev_br (P := (U 122 x1.toNat) ≤ x7) (σ1 := ((d + 1), 100, 199, [some (.inr (.inr 86)), some (.inl x1), some (.inl x2), some (.inl x3), some (.inl x4), some (.inl x5), some (.inl x6), some (.inl x7)], [], (am_sh, am_mm U))) (σ2 := ((d + 1), 100, 128, [some (.inr (.inr 86)), some (.inl x1), some (.inl x2), some (.inl x3), some (.inl x4), some (.inl x5), some (.inl x6), some (.inl x7)], [], (am_sh, am_mm U))) 1 (fun _ => rfl) (fun hc => ?_) (fun hc => ?_)
  · have ha1 := ha.1 hc
    refine ev_seg (σ1 := ((d + 1), 100, 47, [some (.inr (.inr 86)), some (.inl x1), some (.inl x2), some (.inl x3), some (.inl x4), some (.inl x5), some (.inl (w32 (x6 + 1))), some (.inl x7)], [], (am_sh, am_mm U))) 2 (fun _ => rfl) ?_
    exact ev_le (L := [some (.inr (.inr 86)), some (.inl x1), some (.inl x2), some (.inl x3), some (.inl x4), some (.inl x5), some (.inl (w32 (x6 + 1))), none]) ⟨rfl, ⟨rfl, ⟨rfl, ⟨rfl, ⟨rfl, ⟨rfl, ⟨rfl, trivial⟩⟩⟩⟩⟩⟩⟩ ha1
  · have ha2 := ha.2 (Int.not_le.mp hc)
    refine ev_br (P := x2 = (-1)) (σ1 := ((d + 1), 100, 145, [some (.inr (.inr 86)), some (.inl x1), some (.inl x2), some (.inl x3), some (.inl x4), some (.inl x5), some (.inl x6), some (.inl x7)], [], (am_sh, am_mm U))) (σ2 := ((d + 1), 100, 133, [some (.inr (.inr 86)), some (.inl x1), some (.inl x2), some (.inl x3), some (.inl x4), some (.inl x5), some (.inl x6), some (.inl x7)], [], (am_sh, am_mm U))) 3 (fun _ => rfl) (fun hc => ?_) (fun hc => ?_)
    · have ha21 := ha2.1 hc
      refine ev_seg (σ1 := ((d + 1), 100, 153, [some (.inr (.inr 86)), some (.inl x1), some (.inl x2), some (.inl x3), some (.inl x4), some (.inl x5), some (.inl x6), some (.inl x7)], [.inl x7, .inl x6, .inl x5, .inl x1, .inr (.inr 86)], (am_sh, am_mm U))) 5 (fun _ => rfl) ?_
      obtain ⟨r1, U1, ha21c, ha21a⟩ := ha21
      refine ev_cal (σc := (M_isPair_s0 d x1 x5 x6 x7 U)) (fun _ => rfl) ha21c ?_
      show Ev (am_kz N X) ((d + 1), 100, 156, [some (.inr (.inr 86)), some (.inl x1), some (.inl x2), some (.inl x3), some (.inl x4), some (.inl x5), some (.inl x6), some (.inl x7)], [.inl r1], (am_sh, am_mm U1)) R
      refine ev_br (P := ¬ r1 = 0) (σ1 := ((d + 1), 100, 162, [some (.inr (.inr 86)), some (.inl x1), some (.inl x2), some (.inl x3), some (.inl x4), some (.inl x5), some (.inl x6), some (.inl x7)], [], (am_sh, am_mm U1))) (σ2 := ((d + 1), 100, 159, [some (.inr (.inr 86)), some (.inl x1), some (.inl x2), some (.inl x3), some (.inl x4), some (.inl x5), some (.inl x6), some (.inl x7)], [], (am_sh, am_mm U1))) 1 (fun _ => rfl) (fun hc => ?_) (fun hc => ?_)
      · have ha21a1 := ha21a.1 hc
        refine ev_seg (σ1 := ((d + 1), 100, 172, [some (.inr (.inr 86)), some (.inl x1), some (.inl x2), some (.inl x3), some (.inl x4), some (.inl x5), some (.inl x6), some (.inl x7)], [.inl x7, .inl x1, .inr (.inr 86), .inl x6, .inl x4, .inl x1, .inr (.inr 86)], (am_sh, am_mm U1))) 7 (fun _ => rfl) ?_
        obtain ⟨r2, U2, ha21a1c, ha21a1a⟩ := ha21a1
        refine ev_cal (σc := (M_numberOf_s0 d x1 x7 U1)) (fun _ => rfl) ha21a1c ?_
        show Ev (am_kz N X) ((d + 1), 100, 175, [some (.inr (.inr 86)), some (.inl x1), some (.inl x2), some (.inl x3), some (.inl x4), some (.inl x5), some (.inl x6), some (.inl x7)], [.inl r2, .inl x6, .inl x4, .inl x1, .inr (.inr 86)], (am_sh, am_mm U2)) R
        refine ev_seg (σ1 := ((d + 1), 100, 176, [some (.inr (.inr 86)), some (.inl x1), some (.inl x2), some (.inl x3), some (.inl x4), some (.inl x5), some (.inl x6), some (.inl x7)], [.inr (.inl r2), .inl x6, .inl x4, .inl x1, .inr (.inr 86)], (am_sh, am_mm U2))) 1 (fun _ => rfl) ?_
        obtain ⟨r3, U3, ha21a1ac, ha21a1aa⟩ := ha21a1a
        refine ev_cal (σc := (M_lawHolds_s0 d x1 x4 x6 r2 U2)) (fun _ => rfl) ha21a1ac ?_
        show Ev (am_kz N X) ((d + 1), 100, 179, [some (.inr (.inr 86)), some (.inl x1), some (.inl x2), some (.inl x3), some (.inl x4), some (.inl x5), some (.inl x6), some (.inl x7)], [.inl r3], (am_sh, am_mm U3)) R
        refine ev_br (P := ¬ r3 = 0) (σ1 := ((d + 1), 100, 193, [some (.inr (.inr 86)), some (.inl x1), some (.inl x2), some (.inl x3), some (.inl x4), some (.inl x5), some (.inl x6), some (.inl x7)], [], (am_sh, am_mm U3))) (σ2 := ((d + 1), 100, 182, [some (.inr (.inr 86)), some (.inl x1), some (.inl x2), some (.inl x3), some (.inl x4), some (.inl x5), some (.inl x6), some (.inl x7)], [], (am_sh, am_mm U3))) 1 (fun _ => rfl) (fun hc => ?_) (fun hc => ?_)
        · have ha21a1aa1 := ha21a1aa.1 hc
          refine ev_seg (σ1 := ((d + 1), 100, 117, [some (.inr (.inr 86)), some (.inl x1), some (.inl x2), some (.inl x3), some (.inl x4), some (.inl x5), some (.inl x6), some (.inl (w32 (x7 + 1)))], [], (am_sh, am_mm U3))) 2 (fun _ => rfl) ?_
          exact ha21a1aa1
        · have ha21a1aa2 := ha21a1aa.2 (Decidable.not_not.mp hc)
          refine ev_seg (σ1 := ((d + 1), 100, 190, [some (.inr (.inr 86)), some (.inl x1), some (.inl x2), some (.inl x3), some (.inl x4), some (.inl x5), some (.inl x6), some (.inl x7)], [.inl x3, .inl x7, .inl x6, .inl x4, .inr (.inr 86)], (am_sh, am_mm U3))) 5 (fun _ => rfl) ?_
          obtain ⟨U4, ha21a1aa2c, ha21a1aa2a⟩ := ha21a1aa2
          refine ev_cal (σc := (M_counted_s0 d x4 x6 x7 x3 U3)) (fun _ => rfl) ha21a1aa2c ?_
          show Ev (am_kz N X) ((d + 1), 100, 193, [some (.inr (.inr 86)), some (.inl x1), some (.inl x2), some (.inl x3), some (.inl x4), some (.inl x5), some (.inl x6), some (.inl x7)], [], (am_sh, am_mm U4)) R
          refine ev_seg (σ1 := ((d + 1), 100, 117, [some (.inr (.inr 86)), some (.inl x1), some (.inl x2), some (.inl x3), some (.inl x4), some (.inl x5), some (.inl x6), some (.inl (w32 (x7 + 1)))], [], (am_sh, am_mm U4))) 2 (fun _ => rfl) ?_
          exact ha21a1aa2a
      · have ha21a2 := ha21a.2 (Decidable.not_not.mp hc)
        refine ev_seg (σ1 := ((d + 1), 100, 117, [some (.inr (.inr 86)), some (.inl x1), some (.inl x2), some (.inl x3), some (.inl x4), some (.inl x5), some (.inl x6), some (.inl (w32 (x7 + 1)))], [], (am_sh, am_mm U1))) 3 (fun _ => rfl) ?_
        exact ha21a2
    · have ha22 := ha2.2 hc
      refine ev_br (P := x2 = x6) (σ1 := ((d + 1), 100, 145, [some (.inr (.inr 86)), some (.inl x1), some (.inl x2), some (.inl x3), some (.inl x4), some (.inl x5), some (.inl x6), some (.inl x7)], [], (am_sh, am_mm U))) (σ2 := ((d + 1), 100, 139, [some (.inr (.inr 86)), some (.inl x1), some (.inl x2), some (.inl x3), some (.inl x4), some (.inl x5), some (.inl x6), some (.inl x7)], [], (am_sh, am_mm U))) 3 (fun _ => rfl) (fun hc => ?_) (fun hc => ?_)
      · have ha221 := ha22.1 hc
        refine ev_seg (σ1 := ((d + 1), 100, 153, [some (.inr (.inr 86)), some (.inl x1), some (.inl x2), some (.inl x3), some (.inl x4), some (.inl x5), some (.inl x6), some (.inl x7)], [.inl x7, .inl x6, .inl x5, .inl x1, .inr (.inr 86)], (am_sh, am_mm U))) 5 (fun _ => rfl) ?_
        obtain ⟨r5, U5, ha221c, ha221a⟩ := ha221
        refine ev_cal (σc := (M_isPair_s0 d x1 x5 x6 x7 U)) (fun _ => rfl) ha221c ?_
        show Ev (am_kz N X) ((d + 1), 100, 156, [some (.inr (.inr 86)), some (.inl x1), some (.inl x2), some (.inl x3), some (.inl x4), some (.inl x5), some (.inl x6), some (.inl x7)], [.inl r5], (am_sh, am_mm U5)) R
        refine ev_br (P := ¬ r5 = 0) (σ1 := ((d + 1), 100, 162, [some (.inr (.inr 86)), some (.inl x1), some (.inl x2), some (.inl x3), some (.inl x4), some (.inl x5), some (.inl x6), some (.inl x7)], [], (am_sh, am_mm U5))) (σ2 := ((d + 1), 100, 159, [some (.inr (.inr 86)), some (.inl x1), some (.inl x2), some (.inl x3), some (.inl x4), some (.inl x5), some (.inl x6), some (.inl x7)], [], (am_sh, am_mm U5))) 1 (fun _ => rfl) (fun hc => ?_) (fun hc => ?_)
        · have ha221a1 := ha221a.1 hc
          refine ev_seg (σ1 := ((d + 1), 100, 172, [some (.inr (.inr 86)), some (.inl x1), some (.inl x2), some (.inl x3), some (.inl x4), some (.inl x5), some (.inl x6), some (.inl x7)], [.inl x7, .inl x1, .inr (.inr 86), .inl x6, .inl x4, .inl x1, .inr (.inr 86)], (am_sh, am_mm U5))) 7 (fun _ => rfl) ?_
          obtain ⟨r6, U6, ha221a1c, ha221a1a⟩ := ha221a1
          refine ev_cal (σc := (M_numberOf_s0 d x1 x7 U5)) (fun _ => rfl) ha221a1c ?_
          show Ev (am_kz N X) ((d + 1), 100, 175, [some (.inr (.inr 86)), some (.inl x1), some (.inl x2), some (.inl x3), some (.inl x4), some (.inl x5), some (.inl x6), some (.inl x7)], [.inl r6, .inl x6, .inl x4, .inl x1, .inr (.inr 86)], (am_sh, am_mm U6)) R
          refine ev_seg (σ1 := ((d + 1), 100, 176, [some (.inr (.inr 86)), some (.inl x1), some (.inl x2), some (.inl x3), some (.inl x4), some (.inl x5), some (.inl x6), some (.inl x7)], [.inr (.inl r6), .inl x6, .inl x4, .inl x1, .inr (.inr 86)], (am_sh, am_mm U6))) 1 (fun _ => rfl) ?_
          obtain ⟨r7, U7, ha221a1ac, ha221a1aa⟩ := ha221a1a
          refine ev_cal (σc := (M_lawHolds_s0 d x1 x4 x6 r6 U6)) (fun _ => rfl) ha221a1ac ?_
          show Ev (am_kz N X) ((d + 1), 100, 179, [some (.inr (.inr 86)), some (.inl x1), some (.inl x2), some (.inl x3), some (.inl x4), some (.inl x5), some (.inl x6), some (.inl x7)], [.inl r7], (am_sh, am_mm U7)) R
          refine ev_br (P := ¬ r7 = 0) (σ1 := ((d + 1), 100, 193, [some (.inr (.inr 86)), some (.inl x1), some (.inl x2), some (.inl x3), some (.inl x4), some (.inl x5), some (.inl x6), some (.inl x7)], [], (am_sh, am_mm U7))) (σ2 := ((d + 1), 100, 182, [some (.inr (.inr 86)), some (.inl x1), some (.inl x2), some (.inl x3), some (.inl x4), some (.inl x5), some (.inl x6), some (.inl x7)], [], (am_sh, am_mm U7))) 1 (fun _ => rfl) (fun hc => ?_) (fun hc => ?_)
          · have ha221a1aa1 := ha221a1aa.1 hc
            refine ev_seg (σ1 := ((d + 1), 100, 117, [some (.inr (.inr 86)), some (.inl x1), some (.inl x2), some (.inl x3), some (.inl x4), some (.inl x5), some (.inl x6), some (.inl (w32 (x7 + 1)))], [], (am_sh, am_mm U7))) 2 (fun _ => rfl) ?_
            exact ha221a1aa1
          · have ha221a1aa2 := ha221a1aa.2 (Decidable.not_not.mp hc)
            refine ev_seg (σ1 := ((d + 1), 100, 190, [some (.inr (.inr 86)), some (.inl x1), some (.inl x2), some (.inl x3), some (.inl x4), some (.inl x5), some (.inl x6), some (.inl x7)], [.inl x3, .inl x7, .inl x6, .inl x4, .inr (.inr 86)], (am_sh, am_mm U7))) 5 (fun _ => rfl) ?_
            obtain ⟨U8, ha221a1aa2c, ha221a1aa2a⟩ := ha221a1aa2
            refine ev_cal (σc := (M_counted_s0 d x4 x6 x7 x3 U7)) (fun _ => rfl) ha221a1aa2c ?_
            show Ev (am_kz N X) ((d + 1), 100, 193, [some (.inr (.inr 86)), some (.inl x1), some (.inl x2), some (.inl x3), some (.inl x4), some (.inl x5), some (.inl x6), some (.inl x7)], [], (am_sh, am_mm U8)) R
            refine ev_seg (σ1 := ((d + 1), 100, 117, [some (.inr (.inr 86)), some (.inl x1), some (.inl x2), some (.inl x3), some (.inl x4), some (.inl x5), some (.inl x6), some (.inl (w32 (x7 + 1)))], [], (am_sh, am_mm U8))) 2 (fun _ => rfl) ?_
            exact ha221a1aa2a
        · have ha221a2 := ha221a.2 (Decidable.not_not.mp hc)
          refine ev_seg (σ1 := ((d + 1), 100, 117, [some (.inr (.inr 86)), some (.inl x1), some (.inl x2), some (.inl x3), some (.inl x4), some (.inl x5), some (.inl x6), some (.inl (w32 (x7 + 1)))], [], (am_sh, am_mm U5))) 3 (fun _ => rfl) ?_
          exact ha221a2
      · have ha222 := ha22.2 hc
        refine ev_br (P := ¬ x2 = x7) (σ1 := ((d + 1), 100, 193, [some (.inr (.inr 86)), some (.inl x1), some (.inl x2), some (.inl x3), some (.inl x4), some (.inl x5), some (.inl x6), some (.inl x7)], [], (am_sh, am_mm U))) (σ2 := ((d + 1), 100, 145, [some (.inr (.inr 86)), some (.inl x1), some (.inl x2), some (.inl x3), some (.inl x4), some (.inl x5), some (.inl x6), some (.inl x7)], [], (am_sh, am_mm U))) 3 (fun _ => rfl) (fun hc => ?_) (fun hc => ?_)
        · have ha2221 := ha222.1 hc
          refine ev_seg (σ1 := ((d + 1), 100, 117, [some (.inr (.inr 86)), some (.inl x1), some (.inl x2), some (.inl x3), some (.inl x4), some (.inl x5), some (.inl x6), some (.inl (w32 (x7 + 1)))], [], (am_sh, am_mm U))) 2 (fun _ => rfl) ?_
          exact ha2221
        · have ha2222 := ha222.2 (Decidable.not_not.mp hc)
          refine ev_seg (σ1 := ((d + 1), 100, 153, [some (.inr (.inr 86)), some (.inl x1), some (.inl x2), some (.inl x3), some (.inl x4), some (.inl x5), some (.inl x6), some (.inl x7)], [.inl x7, .inl x6, .inl x5, .inl x1, .inr (.inr 86)], (am_sh, am_mm U))) 5 (fun _ => rfl) ?_
          obtain ⟨r9, U9, ha2222c, ha2222a⟩ := ha2222
          refine ev_cal (σc := (M_isPair_s0 d x1 x5 x6 x7 U)) (fun _ => rfl) ha2222c ?_
          show Ev (am_kz N X) ((d + 1), 100, 156, [some (.inr (.inr 86)), some (.inl x1), some (.inl x2), some (.inl x3), some (.inl x4), some (.inl x5), some (.inl x6), some (.inl x7)], [.inl r9], (am_sh, am_mm U9)) R
          refine ev_br (P := ¬ r9 = 0) (σ1 := ((d + 1), 100, 162, [some (.inr (.inr 86)), some (.inl x1), some (.inl x2), some (.inl x3), some (.inl x4), some (.inl x5), some (.inl x6), some (.inl x7)], [], (am_sh, am_mm U9))) (σ2 := ((d + 1), 100, 159, [some (.inr (.inr 86)), some (.inl x1), some (.inl x2), some (.inl x3), some (.inl x4), some (.inl x5), some (.inl x6), some (.inl x7)], [], (am_sh, am_mm U9))) 1 (fun _ => rfl) (fun hc => ?_) (fun hc => ?_)
          · have ha2222a1 := ha2222a.1 hc
            refine ev_seg (σ1 := ((d + 1), 100, 172, [some (.inr (.inr 86)), some (.inl x1), some (.inl x2), some (.inl x3), some (.inl x4), some (.inl x5), some (.inl x6), some (.inl x7)], [.inl x7, .inl x1, .inr (.inr 86), .inl x6, .inl x4, .inl x1, .inr (.inr 86)], (am_sh, am_mm U9))) 7 (fun _ => rfl) ?_
            obtain ⟨r10, U10, ha2222a1c, ha2222a1a⟩ := ha2222a1
            refine ev_cal (σc := (M_numberOf_s0 d x1 x7 U9)) (fun _ => rfl) ha2222a1c ?_
            show Ev (am_kz N X) ((d + 1), 100, 175, [some (.inr (.inr 86)), some (.inl x1), some (.inl x2), some (.inl x3), some (.inl x4), some (.inl x5), some (.inl x6), some (.inl x7)], [.inl r10, .inl x6, .inl x4, .inl x1, .inr (.inr 86)], (am_sh, am_mm U10)) R
            refine ev_seg (σ1 := ((d + 1), 100, 176, [some (.inr (.inr 86)), some (.inl x1), some (.inl x2), some (.inl x3), some (.inl x4), some (.inl x5), some (.inl x6), some (.inl x7)], [.inr (.inl r10), .inl x6, .inl x4, .inl x1, .inr (.inr 86)], (am_sh, am_mm U10))) 1 (fun _ => rfl) ?_
            obtain ⟨r11, U11, ha2222a1ac, ha2222a1aa⟩ := ha2222a1a
            refine ev_cal (σc := (M_lawHolds_s0 d x1 x4 x6 r10 U10)) (fun _ => rfl) ha2222a1ac ?_
            show Ev (am_kz N X) ((d + 1), 100, 179, [some (.inr (.inr 86)), some (.inl x1), some (.inl x2), some (.inl x3), some (.inl x4), some (.inl x5), some (.inl x6), some (.inl x7)], [.inl r11], (am_sh, am_mm U11)) R
            refine ev_br (P := ¬ r11 = 0) (σ1 := ((d + 1), 100, 193, [some (.inr (.inr 86)), some (.inl x1), some (.inl x2), some (.inl x3), some (.inl x4), some (.inl x5), some (.inl x6), some (.inl x7)], [], (am_sh, am_mm U11))) (σ2 := ((d + 1), 100, 182, [some (.inr (.inr 86)), some (.inl x1), some (.inl x2), some (.inl x3), some (.inl x4), some (.inl x5), some (.inl x6), some (.inl x7)], [], (am_sh, am_mm U11))) 1 (fun _ => rfl) (fun hc => ?_) (fun hc => ?_)
            · have ha2222a1aa1 := ha2222a1aa.1 hc
              refine ev_seg (σ1 := ((d + 1), 100, 117, [some (.inr (.inr 86)), some (.inl x1), some (.inl x2), some (.inl x3), some (.inl x4), some (.inl x5), some (.inl x6), some (.inl (w32 (x7 + 1)))], [], (am_sh, am_mm U11))) 2 (fun _ => rfl) ?_
              exact ha2222a1aa1
            · have ha2222a1aa2 := ha2222a1aa.2 (Decidable.not_not.mp hc)
              refine ev_seg (σ1 := ((d + 1), 100, 190, [some (.inr (.inr 86)), some (.inl x1), some (.inl x2), some (.inl x3), some (.inl x4), some (.inl x5), some (.inl x6), some (.inl x7)], [.inl x3, .inl x7, .inl x6, .inl x4, .inr (.inr 86)], (am_sh, am_mm U11))) 5 (fun _ => rfl) ?_
              obtain ⟨U12, ha2222a1aa2c, ha2222a1aa2a⟩ := ha2222a1aa2
              refine ev_cal (σc := (M_counted_s0 d x4 x6 x7 x3 U11)) (fun _ => rfl) ha2222a1aa2c ?_
              show Ev (am_kz N X) ((d + 1), 100, 193, [some (.inr (.inr 86)), some (.inl x1), some (.inl x2), some (.inl x3), some (.inl x4), some (.inl x5), some (.inl x6), some (.inl x7)], [], (am_sh, am_mm U12)) R
              refine ev_seg (σ1 := ((d + 1), 100, 117, [some (.inr (.inr 86)), some (.inl x1), some (.inl x2), some (.inl x3), some (.inl x4), some (.inl x5), some (.inl x6), some (.inl (w32 (x7 + 1)))], [], (am_sh, am_mm U12))) 2 (fun _ => rfl) ?_
              exact ha2222a1aa2a
          · have ha2222a2 := ha2222a.2 (Decidable.not_not.mp hc)
            refine ev_seg (σ1 := ((d + 1), 100, 117, [some (.inr (.inr 86)), some (.inl x1), some (.inl x2), some (.inl x3), some (.inl x4), some (.inl x5), some (.inl x6), some (.inl (w32 (x7 + 1)))], [], (am_sh, am_mm U9))) 3 (fun _ => rfl) ?_
            exact ha2222a2
set_option maxRecDepth 8000 in
theorem D_isHouse_r0 {N : Nat} {X : Nat → Int} {d : Nat} {x1 : Int} {U : am_U} {R : Option am_V × am_M} (h : ((x1 < 0) → R = rI 0 U) ∧ ((0 ≤ x1) → (((U 3 1) ≤ x1) → R = rI 0 U) ∧ ((x1 < (U 3 1)) → R = rI 1 U))) : EvK N X (D_isHouse_s0 d x1 U) R := by
  show Ev (am_kz N X) (d, 102, 0, [some (.inr (.inr 1)), some (.inl x1)], [], (am_sh, am_mm U)) R
  refine ev_br (P := x1 < 0) (σ1 := (d, 102, 19, [some (.inr (.inr 1)), some (.inl x1)], [], (am_sh, am_mm U))) (σ2 := (d, 102, 4, [some (.inr (.inr 1)), some (.inl x1)], [], (am_sh, am_mm U))) 2 (fun _ => rfl) (fun hc => ?_) (fun hc => ?_)
  · have h1 := h.1 hc
    subst h1
    exact ev_end 2 (fun _ => rfl)
  · have h2 := h.2 (Int.not_lt.mp hc)
    refine ev_br (P := (U 3 1) ≤ x1) (σ1 := (d, 102, 19, [some (.inr (.inr 1)), some (.inl x1)], [], (am_sh, am_mm U))) (σ2 := (d, 102, 15, [some (.inr (.inr 1)), some (.inl x1)], [], (am_sh, am_mm U))) 5 (fun _ => rfl) (fun hc => ?_) (fun hc => ?_)
    · have h21 := h2.1 hc
      subst h21
      exact ev_end 2 (fun _ => rfl)
    · have h22 := h2.2 (Int.not_le.mp hc)
      subst h22
      exact ev_end 3 (fun _ => rfl)
set_option maxRecDepth 8000 in
theorem Tk_letterOf_r0 {N : Nat} {X : Nat → Int} {d : Nat} {x0 x1 : Int} {U : am_U} {R : Option am_V × am_M} (h : R = rI (am_and (am_shr x0 (w32 (25 - (w32 (5 * x1))))) 31) U) : EvK N X (Tk_letterOf_s0 d x0 x1 U) R := by
  show Ev (am_kz N X) (d, 101, 0, [some (.inl x0), some (.inl x1)], [], (am_sh, am_mm U)) R
  subst h
  exact ev_end 10 (fun _ => rfl)
set_option maxRecDepth 8000 in
theorem M_is_r0 {N : Nat} {X : Nat → Int} {d : Nat} {x0 x1 x2 : Int} {U : am_U} {R : Option am_V × am_M} (h : ((x0 < x1) → R = rI 0 U) ∧ ((x1 ≤ x0) → ((x2 < x0) → R = rI 0 U) ∧ ((x0 ≤ x2) → R = rI 1 U))) : EvK N X (M_is_s0 d x0 x1 x2 U) R := by
  show Ev (am_kz N X) (d, 103, 0, [some (.inl x0), some (.inl x1), some (.inl x2)], [], (am_sh, am_mm U)) R
  refine ev_br (P := x0 < x1) (σ1 := (d, 103, 14, [some (.inl x0), some (.inl x1), some (.inl x2)], [], (am_sh, am_mm U))) (σ2 := (d, 103, 5, [some (.inl x0), some (.inl x1), some (.inl x2)], [], (am_sh, am_mm U))) 3 (fun _ => rfl) (fun hc => ?_) (fun hc => ?_)
  · have h1 := h.1 hc
    subst h1
    exact ev_end 2 (fun _ => rfl)
  · have h2 := h.2 (Int.not_lt.mp hc)
    refine ev_br (P := x2 < x0) (σ1 := (d, 103, 14, [some (.inl x0), some (.inl x1), some (.inl x2)], [], (am_sh, am_mm U))) (σ2 := (d, 103, 10, [some (.inl x0), some (.inl x1), some (.inl x2)], [], (am_sh, am_mm U))) 3 (fun _ => rfl) (fun hc => ?_) (fun hc => ?_)
    · have h21 := h2.1 hc
      subst h21
      exact ev_end 2 (fun _ => rfl)
    · have h22 := h2.2 (Int.not_lt.mp hc)
      subst h22
      exact ev_end 3 (fun _ => rfl)
set_option maxRecDepth 8000 in
theorem M_manyOf_r0 {N : Nat} {X : Nat → Int} {d : Nat} {x1 x2 : Int} {U : am_U} {R : Option am_V × am_M} (h : ((x2 ≠ 0) → (0 ≤ x1 ∧ x1 < 2) ∧ R = rI (U 90 x1.toNat) U) ∧ ((x2 = 0) → (0 ≤ x1 ∧ x1 < 2) ∧ R = rI (U 88 x1.toNat) U)) : EvK N X (M_manyOf_s0 d x1 x2 U) R := by
  show Ev (am_kz N X) (d, 104, 0, [some (.inr (.inr 86)), some (.inl x1), some (.inl x2)], [], (am_sh, am_mm U)) R
  refine ev_br (P := ¬ x2 = 0) (σ1 := (d, 104, 13, [some (.inr (.inr 86)), some (.inl x1), some (.inl x2)], [], (am_sh, am_mm U))) (σ2 := (d, 104, 4, [some (.inr (.inr 86)), some (.inl x1), some (.inl x2)], [], (am_sh, am_mm U))) 2 (fun _ => rfl) (fun hc => ?_) (fun hc => ?_)
  · have h1 := h.1 hc
    refine ev_seg (σ1 := (d, 104, 18, [some (.inr (.inr 86)), some (.inl x1), some (.inl x2)], [.inl x1, .inr (.inr 90)], (am_sh, am_mm U))) 3 (fun _ => rfl) ?_
    refine eu_iald 90 (n := 2) rfl (by decide) rfl (fun _ => rfl) h1.1 ?_
    show Ev (am_kz N X) (d, 104, 19, [some (.inr (.inr 86)), some (.inl x1), some (.inl x2)], [.inl (U 90 x1.toNat)], (am_sh, am_mm U)) R
    have h1a := h1.2
    subst h1a
    exact ev_end 1 (fun _ => rfl)
  · have h2 := h.2 (Decidable.not_not.mp hc)
    refine ev_seg (σ1 := (d, 104, 9, [some (.inr (.inr 86)), some (.inl x1), some (.inl x2)], [.inl x1, .inr (.inr 88)], (am_sh, am_mm U))) 3 (fun _ => rfl) ?_
    refine eu_iald 88 (n := 2) rfl (by decide) rfl (fun _ => rfl) h2.1 ?_
    show Ev (am_kz N X) (d, 104, 10, [some (.inr (.inr 86)), some (.inl x1), some (.inl x2)], [.inl (U 88 x1.toNat)], (am_sh, am_mm U)) R
    have h2a := h2.2
    subst h2a
    exact ev_end 2 (fun _ => rfl)
set_option maxRecDepth 8000 in
theorem M_nameOf_r0 {N : Nat} {X : Nat → Int} {d : Nat} {x1 x2 x3 : Int} {U : am_U} {R : Option am_V × am_M} (h : ((x2 ≠ 0) → (0 ≤ (w32 ((w32 (12 * x1)) + x3)) ∧ (w32 ((w32 (12 * x1)) + x3)) < 24) ∧ R = rJ (U 91 ((w32 ((w32 (12 * x1)) + x3)).toNat)) U) ∧ ((x2 = 0) → (0 ≤ (w32 ((w32 (4 * x1)) + x3)) ∧ (w32 ((w32 (4 * x1)) + x3)) < 8) ∧ R = rJ (U 89 ((w32 ((w32 (4 * x1)) + x3)).toNat)) U)) : EvK N X (M_nameOf_s0 d x1 x2 x3 U) R := by
  show Ev (am_kz N X) (d, 105, 0, [some (.inr (.inr 86)), some (.inl x1), some (.inl x2), some (.inl x3)], [], (am_sh, am_mm U)) R
  refine ev_br (P := ¬ x2 = 0) (σ1 := (d, 105, 17, [some (.inr (.inr 86)), some (.inl x1), some (.inl x2), some (.inl x3)], [], (am_sh, am_mm U))) (σ2 := (d, 105, 4, [some (.inr (.inr 86)), some (.inl x1), some (.inl x2), some (.inl x3)], [], (am_sh, am_mm U))) 2 (fun _ => rfl) (fun hc => ?_) (fun hc => ?_)
  · have h1 := h.1 hc
    refine ev_seg (σ1 := (d, 105, 27, [some (.inr (.inr 86)), some (.inl x1), some (.inl x2), some (.inl x3)], [.inl (w32 ((w32 (12 * x1)) + x3)), .inr (.inr 91)], (am_sh, am_mm U))) 7 (fun _ => rfl) ?_
    refine eu_lald 91 (n := 24) rfl (by decide) rfl (fun _ => rfl) h1.1 ?_
    show Ev (am_kz N X) (d, 105, 28, [some (.inr (.inr 86)), some (.inl x1), some (.inl x2), some (.inl x3)], [.inr (.inl (U 91 ((w32 ((w32 (12 * x1)) + x3)).toNat)))], (am_sh, am_mm U)) R
    have h1a := h1.2
    subst h1a
    exact ev_end 1 (fun _ => rfl)
  · have h2 := h.2 (Decidable.not_not.mp hc)
    refine ev_seg (σ1 := (d, 105, 13, [some (.inr (.inr 86)), some (.inl x1), some (.inl x2), some (.inl x3)], [.inl (w32 ((w32 (4 * x1)) + x3)), .inr (.inr 89)], (am_sh, am_mm U))) 7 (fun _ => rfl) ?_
    refine eu_lald 89 (n := 8) rfl (by decide) rfl (fun _ => rfl) h2.1 ?_
    show Ev (am_kz N X) (d, 105, 14, [some (.inr (.inr 86)), some (.inl x1), some (.inl x2), some (.inl x3)], [.inr (.inl (U 89 ((w32 ((w32 (4 * x1)) + x3)).toNat)))], (am_sh, am_mm U)) R
    have h2a := h2.2
    subst h2a
    exact ev_end 2 (fun _ => rfl)
set_option maxRecDepth 8000 in
theorem Fk_living_16_r0 {N : Nat} {X : Nat → Int} {d : Nat} {x1 : Int} {U : am_U} {R : Option am_V × am_M} (h : (0 ≤ x1 ∧ x1 < 12) ∧ ∃ (r1 : Int) (U1 : am_U), EvK N X (In_bitCount_s0 d (U 19 x1.toNat) U) (rI r1 U1) ∧ R = rI r1 U1) : EvK N X (Fk_living_16_s0 (d + 1) x1 U) R := by
  show Ev (am_kz N X) ((d + 1), 106, 0, [some (.inr (.inr 16)), some (.inl x1)], [], (am_sh, am_mm U)) R
  refine ev_seg (σ1 := ((d + 1), 106, 5, [some (.inr (.inr 16)), some (.inl x1)], [.inl x1, .inr (.inr 19)], (am_sh, am_mm U))) 3 (fun _ => rfl) ?_
  refine eu_iald 19 (n := 12) rfl (by decide) rfl (fun _ => rfl) h.1 ?_
  show Ev (am_kz N X) ((d + 1), 106, 6, [some (.inr (.inr 16)), some (.inl x1)], [.inl (U 19 x1.toNat)], (am_sh, am_mm U)) R
  have ha := h.2
  obtain ⟨r1, U1, hac, haa⟩ := ha
  refine ev_cal (σc := (In_bitCount_s0 d (U 19 x1.toNat) U)) (fun _ => rfl) hac ?_
  show Ev (am_kz N X) ((d + 1), 106, 9, [some (.inr (.inr 16)), some (.inl x1)], [.inl r1], (am_sh, am_mm U1)) R
  subst haa
  exact ev_end 1 (fun _ => rfl)
set_option maxRecDepth 8000 in
theorem D_bitAt_r0 {N : Nat} {X : Nat → Int} {d : Nat} {x0 x1 : Int} {U : am_U} {R : Option am_V × am_M} (h : ((0 ≤ x1) → EvK N X (D_bitAt_s10 d x0 x1 x1 0 U) R) ∧ ((x1 < 0) → R = rI (-1) U)) : EvK N X (D_bitAt_s0 d x0 x1 U) R := by
  show Ev (am_kz N X) (d, 107, 0, [some (.inl x0), some (.inl x1), none, none], [], (am_sh, am_mm U)) R
  refine ev_br (P := 0 ≤ x1) (σ1 := (d, 107, 6, [some (.inl x0), some (.inl x1), none, none], [], (am_sh, am_mm U))) (σ2 := (d, 107, 4, [some (.inl x0), some (.inl x1), none, none], [], (am_sh, am_mm U))) 2 (fun _ => rfl) (fun hc => ?_) (fun hc => ?_)
  · have h1 := h.1 hc
    refine ev_seg (σ1 := (d, 107, 10, [some (.inl x0), some (.inl x1), some (.inl x1), some (.inl 0)], [], (am_sh, am_mm U))) 4 (fun _ => rfl) ?_
    exact h1
  · have h2 := h.2 (Int.not_le.mp hc)
    subst h2
    exact ev_end 2 (fun _ => rfl)
set_option maxRecDepth 8000 in
theorem D_bitAt_r10 {N : Nat} {X : Nat → Int} {d : Nat} {x0 x1 x2 x3 : Int} {U : am_U} {R : Option am_V × am_M} (h : ((32 ≤ x3) → R = rI (-1) U) ∧ ((x3 < 32) → (((am_and (am_ushr x0 x3) 1) ≠ 1) → EvK N X (D_bitAt_s10 d x0 x1 x2 (w32 (x3 + 1)) U) R) ∧ (((am_and (am_ushr x0 x3) 1) = 1) → ((x2 ≠ 0) → EvK N X (D_bitAt_s10 d x0 x1 (w32 (x2 + (-1))) (w32 (x3 + 1)) U) R) ∧ ((x2 = 0) → R = rI x3 U)))) : EvK N X (D_bitAt_s10 d x0 x1 x2 x3 U) R := by
  show Ev (am_kz N X) (d, 107, 10, [some (.inl x0), some (.inl x1), some (.inl x2), some (.inl x3)], [], (am_sh, am_mm U)) R
  refine ev_br (P := 32 ≤ x3) (σ1 := (d, 107, 40, [some (.inl x0), some (.inl x1), some (.inl x2), some (.inl x3)], [], (am_sh, am_mm U))) (σ2 := (d, 107, 16, [some (.inl x0), some (.inl x1), some (.inl x2), some (.inl x3)], [], (am_sh, am_mm U))) 3 (fun _ => rfl) (fun hc => ?_) (fun hc => ?_)
  · have h1 := h.1 hc
    subst h1
    exact ev_end 2 (fun _ => rfl)
  · have h2 := h.2 (Int.not_le.mp hc)
    refine ev_br (P := ¬ (am_and (am_ushr x0 x3) 1) = 1) (σ1 := (d, 107, 34, [some (.inl x0), some (.inl x1), some (.inl x2), some (.inl x3)], [], (am_sh, am_mm U))) (σ2 := (d, 107, 25, [some (.inl x0), some (.inl x1), some (.inl x2), some (.inl x3)], [], (am_sh, am_mm U))) 7 (fun _ => rfl) (fun hc => ?_) (fun hc => ?_)
    · have h21 := h2.1 hc
      refine ev_seg (σ1 := (d, 107, 10, [some (.inl x0), some (.inl x1), some (.inl x2), some (.inl (w32 (x3 + 1)))], [], (am_sh, am_mm U))) 2 (fun _ => rfl) ?_
      exact h21
    · have h22 := h2.2 (Decidable.not_not.mp hc)
      refine ev_br (P := ¬ x2 = 0) (σ1 := (d, 107, 31, [some (.inl x0), some (.inl x1), some (.inl x2), some (.inl x3)], [], (am_sh, am_mm U))) (σ2 := (d, 107, 29, [some (.inl x0), some (.inl x1), some (.inl x2), some (.inl x3)], [], (am_sh, am_mm U))) 2 (fun _ => rfl) (fun hc => ?_) (fun hc => ?_)
      · have h221 := h22.1 hc
        refine ev_seg (σ1 := (d, 107, 10, [some (.inl x0), some (.inl x1), some (.inl (w32 (x2 + (-1)))), some (.inl (w32 (x3 + 1)))], [], (am_sh, am_mm U))) 3 (fun _ => rfl) ?_
        exact h221
      · have h222 := h22.2 (Decidable.not_not.mp hc)
        subst h222
        exact ev_end 2 (fun _ => rfl)
set_option maxRecDepth 8000 in
theorem M_isHouse_r0 {N : Nat} {X : Nat → Int} {d : Nat} {x1 : Int} {U : am_U} {R : Option am_V × am_M} (h : ((x1 < 0) → R = rI 0 U) ∧ ((0 ≤ x1) → (0 ≤ (U 86 13) ∧ (U 86 13) < 2) ∧ (((U 90 ((U 86 13).toNat)) ≤ x1) → R = rI 0 U) ∧ ((x1 < (U 90 ((U 86 13).toNat))) → R = rI 1 U))) : EvK N X (M_isHouse_s0 d x1 U) R := by
  show Ev (am_kz N X) (d, 108, 0, [some (.inr (.inr 86)), some (.inl x1)], [], (am_sh, am_mm U)) R
  refine ev_br (P := x1 < 0) (σ1 := (d, 108, 21, [some (.inr (.inr 86)), some (.inl x1)], [], (am_sh, am_mm U))) (σ2 := (d, 108, 4, [some (.inr (.inr 86)), some (.inl x1)], [], (am_sh, am_mm U))) 2 (fun _ => rfl) (fun hc => ?_) (fun hc => ?_)
  · have h1 := h.1 hc
    subst h1
    exact ev_end 2 (fun _ => rfl)
  · have h2 := h.2 (Int.not_lt.mp hc)
    refine ev_seg (σ1 := (d, 108, 13, [some (.inr (.inr 86)), some (.inl x1)], [.inl (U 86 13), .inr (.inr 90), .inl x1], (am_sh, am_mm U))) 5 (fun _ => rfl) ?_
    refine eu_iald 90 (n := 2) rfl (by decide) rfl (fun _ => rfl) h2.1 ?_
    show Ev (am_kz N X) (d, 108, 14, [some (.inr (.inr 86)), some (.inl x1)], [.inl (U 90 ((U 86 13).toNat)), .inl x1], (am_sh, am_mm U)) R
    have h2a := h2.2
    refine ev_br (P := (U 90 ((U 86 13).toNat)) ≤ x1) (σ1 := (d, 108, 21, [some (.inr (.inr 86)), some (.inl x1)], [], (am_sh, am_mm U))) (σ2 := (d, 108, 17, [some (.inr (.inr 86)), some (.inl x1)], [], (am_sh, am_mm U))) 1 (fun _ => rfl) (fun hc => ?_) (fun hc => ?_)
    · have h2a1 := h2a.1 hc
      subst h2a1
      exact ev_end 2 (fun _ => rfl)
    · have h2a2 := h2a.2 (Int.not_le.mp hc)
      subst h2a2
      exact ev_end 3 (fun _ => rfl)
set_option maxRecDepth 8000 in
theorem M_streetOf_r0 {N : Nat} {X : Nat → Int} {d : Nat} {x1 : Int} {U : am_U} {R : Option am_V × am_M} (h : (0 ≤ (w32 ((w32 (12 * (U 86 13))) + x1)) ∧ (w32 ((w32 (12 * (U 86 13))) + x1)) < 24) ∧ R = rI (U 92 ((w32 ((w32 (12 * (U 86 13))) + x1)).toNat)) U) : EvK N X (M_streetOf_s0 d x1 U) R := by
  show Ev (am_kz N X) (d, 109, 0, [some (.inr (.inr 86)), some (.inl x1)], [], (am_sh, am_mm U)) R
  refine ev_seg (σ1 := (d, 109, 13, [some (.inr (.inr 86)), some (.inl x1)], [.inl (w32 ((w32 (12 * (U 86 13))) + x1)), .inr (.inr 92)], (am_sh, am_mm U))) 8 (fun _ => rfl) ?_
  refine eu_iald 92 (n := 24) rfl (by decide) rfl (fun _ => rfl) h.1 ?_
  show Ev (am_kz N X) (d, 109, 14, [some (.inr (.inr 86)), some (.inl x1)], [.inl (U 92 ((w32 ((w32 (12 * (U 86 13))) + x1)).toNat))], (am_sh, am_mm U)) R
  have ha := h.2
  subst ha
  exact ev_end 1 (fun _ => rfl)
set_option maxRecDepth 8000 in
theorem M_roomsOf_r0 {N : Nat} {X : Nat → Int} {d : Nat} {x1 : Int} {U : am_U} {R : Option am_V × am_M} (h : (0 ≤ (w32 ((w32 (12 * (U 86 13))) + x1)) ∧ (w32 ((w32 (12 * (U 86 13))) + x1)) < 24) ∧ R = rI (U 93 ((w32 ((w32 (12 * (U 86 13))) + x1)).toNat)) U) : EvK N X (M_roomsOf_s0 d x1 U) R := by
  show Ev (am_kz N X) (d, 110, 0, [some (.inr (.inr 86)), some (.inl x1)], [], (am_sh, am_mm U)) R
  refine ev_seg (σ1 := (d, 110, 13, [some (.inr (.inr 86)), some (.inl x1)], [.inl (w32 ((w32 (12 * (U 86 13))) + x1)), .inr (.inr 93)], (am_sh, am_mm U))) 8 (fun _ => rfl) ?_
  refine eu_iald 93 (n := 24) rfl (by decide) rfl (fun _ => rfl) h.1 ?_
  show Ev (am_kz N X) (d, 110, 14, [some (.inr (.inr 86)), some (.inl x1)], [.inl (U 93 ((w32 ((w32 (12 * (U 86 13))) + x1)).toNat))], (am_sh, am_mm U)) R
  have ha := h.2
  subst ha
  exact ev_end 1 (fun _ => rfl)
set_option maxRecDepth 8000 in
theorem M_living_r0 {N : Nat} {X : Nat → Int} {d : Nat} {x1 x2 : Int} {U : am_U} {R : Option am_V × am_M} (h : EvK N X (M_living_s5 (d + 1) x1 x2 0 0 U) R) : EvK N X (M_living_s0 (d + 1) x1 x2 U) R := by
  show Ev (am_kz N X) ((d + 1), 111, 0, [some (.inr (.inr 86)), some (.inl x1), some (.inl x2), none, none], [], (am_sh, am_mm U)) R
  refine ev_seg (σ1 := ((d + 1), 111, 5, [some (.inr (.inr 86)), some (.inl x1), some (.inl x2), some (.inl 0), some (.inl 0)], [], (am_sh, am_mm U))) 4 (fun _ => rfl) ?_
  exact h
set_option maxRecDepth 8000 in
theorem M_living_r5 {N : Nat} {X : Nat → Int} {d : Nat} {x1 x2 x3 x4 : Int} {U : am_U} {R : Option am_V × am_M} (h : (0 ≤ x1 ∧ x1 < 22) ∧ (((U 122 x1.toNat) ≤ x4) → R = rI x3 U) ∧ ((x4 < (U 122 x1.toNat)) → ∃ (r1 : Int) (U1 : am_U), EvK N X (M_homeOf_s0 d x1 x4 U) (rI r1 U1) ∧ ((r1 ≠ x2) → EvK N X (M_living_s5 (d + 1) x1 x2 (w32 (x3 + 0)) (w32 (x4 + 1)) U1) R) ∧ ((r1 = x2) → EvK N X (M_living_s5 (d + 1) x1 x2 (w32 (x3 + 1)) (w32 (x4 + 1)) U1) R))) : EvK N X (M_living_s5 (d + 1) x1 x2 x3 x4 U) R := by
  show Ev (am_kz N X) ((d + 1), 111, 5, [some (.inr (.inr 86)), some (.inl x1), some (.inl x2), some (.inl x3), some (.inl x4)], [], (am_sh, am_mm U)) R
  refine ev_seg (σ1 := ((d + 1), 111, 12, [some (.inr (.inr 86)), some (.inl x1), some (.inl x2), some (.inl x3), some (.inl x4)], [.inl x1, .inr (.inr 122), .inl x4], (am_sh, am_mm U))) 4 (fun _ => rfl) ?_
  refine eu_iald 122 (n := 22) rfl (by decide) rfl (fun _ => rfl) h.1 ?_
  show Ev (am_kz N X) ((d + 1), 111, 13, [some (.inr (.inr 86)), some (.inl x1), some (.inl x2), some (.inl x3), some (.inl x4)], [.inl (U 122 x1.toNat), .inl x4], (am_sh, am_mm U)) R
  have ha := h.2
  refine ev_br (P := (U 122 x1.toNat) ≤ x4) (σ1 := ((d + 1), 111, 41, [some (.inr (.inr 86)), some (.inl x1), some (.inl x2), some (.inl x3), some (.inl x4)], [], (am_sh, am_mm U))) (σ2 := ((d + 1), 111, 16, [some (.inr (.inr 86)), some (.inl x1), some (.inl x2), some (.inl x3), some (.inl x4)], [], (am_sh, am_mm U))) 1 (fun _ => rfl) (fun hc => ?_) (fun hc => ?_)
  · have ha1 := ha.1 hc
    subst ha1
    exact ev_end 2 (fun _ => rfl)
  · have ha2 := ha.2 (Int.not_le.mp hc)
    refine ev_seg (σ1 := ((d + 1), 111, 21, [some (.inr (.inr 86)), some (.inl x1), some (.inl x2), some (.inl x3), some (.inl x4)], [.inl x4, .inl x1, .inr (.inr 86), .inl x3], (am_sh, am_mm U))) 4 (fun _ => rfl) ?_
    obtain ⟨r1, U1, ha2c, ha2a⟩ := ha2
    refine ev_cal (σc := (M_homeOf_s0 d x1 x4 U)) (fun _ => rfl) ha2c ?_
    show Ev (am_kz N X) ((d + 1), 111, 24, [some (.inr (.inr 86)), some (.inl x1), some (.inl x2), some (.inl x3), some (.inl x4)], [.inl r1, .inl x3], (am_sh, am_mm U1)) R
    refine ev_br (P := ¬ r1 = x2) (σ1 := ((d + 1), 111, 32, [some (.inr (.inr 86)), some (.inl x1), some (.inl x2), some (.inl x3), some (.inl x4)], [.inl x3], (am_sh, am_mm U1))) (σ2 := ((d + 1), 111, 28, [some (.inr (.inr 86)), some (.inl x1), some (.inl x2), some (.inl x3), some (.inl x4)], [.inl x3], (am_sh, am_mm U1))) 2 (fun _ => rfl) (fun hc => ?_) (fun hc => ?_)
    · have ha2a1 := ha2a.1 hc
      refine ev_seg (σ1 := ((d + 1), 111, 5, [some (.inr (.inr 86)), some (.inl x1), some (.inl x2), some (.inl (w32 (x3 + 0))), some (.inl (w32 (x4 + 1)))], [], (am_sh, am_mm U1))) 5 (fun _ => rfl) ?_
      exact ha2a1
    · have ha2a2 := ha2a.2 (Decidable.not_not.mp hc)
      refine ev_seg (σ1 := ((d + 1), 111, 5, [some (.inr (.inr 86)), some (.inl x1), some (.inl x2), some (.inl (w32 (x3 + 1))), some (.inl (w32 (x4 + 1)))], [], (am_sh, am_mm U1))) 6 (fun _ => rfl) ?_
      exact ha2a2
set_option maxRecDepth 8000 in
theorem M_placeOf_r0 {N : Nat} {X : Nat → Int} {d : Nat} {x1 x2 : Int} {U : am_U} {R : Option am_V × am_M} (h : EvK N X (M_placeOf_s5 d x1 x2 0 0 U) R) : EvK N X (M_placeOf_s0 d x1 x2 U) R := by
  show Ev (am_kz N X) (d, 112, 0, [some (.inr (.inr 86)), some (.inl x1), some (.inl x2), none, none], [], (am_sh, am_mm U)) R
  refine ev_seg (σ1 := (d, 112, 5, [some (.inr (.inr 86)), some (.inl x1), some (.inl x2), some (.inl 0), some (.inl 0)], [], (am_sh, am_mm U))) 4 (fun _ => rfl) ?_
  exact h
set_option maxRecDepth 8000 in
theorem M_placeOf_r5 {N : Nat} {X : Nat → Int} {d : Nat} {x1 x2 x3 x4 : Int} {U : am_U} {R : Option am_V × am_M} (h : ((x2 ≤ x4) → R = rI x3 U) ∧ ((x4 < x2) → (0 ≤ (w32 ((w32 (12 * x1)) + x4)) ∧ (w32 ((w32 (12 * x1)) + x4)) < 24) ∧ (0 ≤ (w32 ((w32 (12 * x1)) + x2)) ∧ (w32 ((w32 (12 * x1)) + x2)) < 24) ∧ (((U 92 ((w32 ((w32 (12 * x1)) + x4)).toNat)) ≠ (U 92 ((w32 ((w32 (12 * x1)) + x2)).toNat))) → EvK N X (M_placeOf_s5 d x1 x2 (w32 (x3 + 0)) (w32 (x4 + 1)) U) R) ∧ (((U 92 ((w32 ((w32 (12 * x1)) + x4)).toNat)) = (U 92 ((w32 ((w32 (12 * x1)) + x2)).toNat))) → EvK N X (M_placeOf_s5 d x1 x2 (w32 (x3 + 1)) (w32 (x4 + 1)) U) R))) : EvK N X (M_placeOf_s5 d x1 x2 x3 x4 U) R := by
  show Ev (am_kz N X) (d, 112, 5, [some (.inr (.inr 86)), some (.inl x1), some (.inl x2), some (.inl x3), some (.inl x4)], [], (am_sh, am_mm U)) R
  refine ev_br (P := x2 ≤ x4) (σ1 := (d, 112, 51, [some (.inr (.inr 86)), some (.inl x1), some (.inl x2), some (.inl x3), some (.inl x4)], [], (am_sh, am_mm U))) (σ2 := (d, 112, 11, [some (.inr (.inr 86)), some (.inl x1), some (.inl x2), some (.inl x3), some (.inl x4)], [], (am_sh, am_mm U))) 3 (fun _ => rfl) (fun hc => ?_) (fun hc => ?_)
  · have h1 := h.1 hc
    subst h1
    exact ev_end 2 (fun _ => rfl)
  · have h2 := h.2 (Int.not_le.mp hc)
    refine ev_seg (σ1 := (d, 112, 23, [some (.inr (.inr 86)), some (.inl x1), some (.inl x2), some (.inl x3), some (.inl x4)], [.inl (w32 ((w32 (12 * x1)) + x4)), .inr (.inr 92), .inl x3], (am_sh, am_mm U))) 8 (fun _ => rfl) ?_
    refine eu_iald 92 (n := 24) rfl (by decide) rfl (fun _ => rfl) h2.1 ?_
    show Ev (am_kz N X) (d, 112, 24, [some (.inr (.inr 86)), some (.inl x1), some (.inl x2), some (.inl x3), some (.inl x4)], [.inl (U 92 ((w32 ((w32 (12 * x1)) + x4)).toNat)), .inl x3], (am_sh, am_mm U)) R
    have h2a := h2.2
    refine ev_seg (σ1 := (d, 112, 34, [some (.inr (.inr 86)), some (.inl x1), some (.inl x2), some (.inl x3), some (.inl x4)], [.inl (w32 ((w32 (12 * x1)) + x2)), .inr (.inr 92), .inl (U 92 ((w32 ((w32 (12 * x1)) + x4)).toNat)), .inl x3], (am_sh, am_mm U))) 7 (fun _ => rfl) ?_
    refine eu_iald 92 (n := 24) rfl (by decide) rfl (fun _ => rfl) h2a.1 ?_
    show Ev (am_kz N X) (d, 112, 35, [some (.inr (.inr 86)), some (.inl x1), some (.inl x2), some (.inl x3), some (.inl x4)], [.inl (U 92 ((w32 ((w32 (12 * x1)) + x2)).toNat)), .inl (U 92 ((w32 ((w32 (12 * x1)) + x4)).toNat)), .inl x3], (am_sh, am_mm U)) R
    have h2aa := h2a.2
    refine ev_br (P := ¬ (U 92 ((w32 ((w32 (12 * x1)) + x4)).toNat)) = (U 92 ((w32 ((w32 (12 * x1)) + x2)).toNat))) (σ1 := (d, 112, 42, [some (.inr (.inr 86)), some (.inl x1), some (.inl x2), some (.inl x3), some (.inl x4)], [.inl x3], (am_sh, am_mm U))) (σ2 := (d, 112, 38, [some (.inr (.inr 86)), some (.inl x1), some (.inl x2), some (.inl x3), some (.inl x4)], [.inl x3], (am_sh, am_mm U))) 1 (fun _ => rfl) (fun hc => ?_) (fun hc => ?_)
    · have h2aa1 := h2aa.1 hc
      refine ev_seg (σ1 := (d, 112, 5, [some (.inr (.inr 86)), some (.inl x1), some (.inl x2), some (.inl (w32 (x3 + 0))), some (.inl (w32 (x4 + 1)))], [], (am_sh, am_mm U))) 5 (fun _ => rfl) ?_
      exact h2aa1
    · have h2aa2 := h2aa.2 (Decidable.not_not.mp hc)
      refine ev_seg (σ1 := (d, 112, 5, [some (.inr (.inr 86)), some (.inl x1), some (.inl x2), some (.inl (w32 (x3 + 1))), some (.inl (w32 (x4 + 1)))], [], (am_sh, am_mm U))) 6 (fun _ => rfl) ?_
      exact h2aa2
set_option maxRecDepth 8000 in
theorem M_areNeighbours_r0 {N : Nat} {X : Nat → Int} {d : Nat} {x1 x2 x3 : Int} {U : am_U} {R : Option am_V × am_M} (h : ((x2 ≠ x3) → (0 ≤ (w32 ((w32 (12 * x1)) + x2)) ∧ (w32 ((w32 (12 * x1)) + x2)) < 24) ∧ (0 ≤ (w32 ((w32 (12 * x1)) + x3)) ∧ (w32 ((w32 (12 * x1)) + x3)) < 24) ∧ (((U 92 ((w32 ((w32 (12 * x1)) + x2)).toNat)) ≠ (U 92 ((w32 ((w32 (12 * x1)) + x3)).toNat))) → EvK N X (M_areNeighbours_s64 (d + 1) x1 x2 x3 0 U) R) ∧ (((U 92 ((w32 ((w32 (12 * x1)) + x2)).toNat)) = (U 92 ((w32 ((w32 (12 * x1)) + x3)).toNat))) → ∃ (r1 : Int) (U1 : am_U), EvK N X (M_placeOf_s0 d x1 x2 U) (rI r1 U1) ∧ ∃ (r2 : Int) (U2 : am_U), EvK N X (M_placeOf_s0 d x1 x3 U1) (rI r2 U2) ∧ (((w32 (r1 - r2)) = 1) → R = rI 1 U2) ∧ (((w32 (r1 - r2)) ≠ 1) → (((w32 (r1 - r2)) ≠ (-1)) → EvK N X (M_areNeighbours_s64 (d + 1) x1 x2 x3 0 U2) R) ∧ (((w32 (r1 - r2)) = (-1)) → R = rI 1 U2)))) ∧ ((x2 = x3) → R = rI 0 U)) : EvK N X (M_areNeighbours_s0 (d + 1) x1 x2 x3 U) R := by
  show Ev (am_kz N X) ((d + 1), 113, 0, [some (.inr (.inr 86)), some (.inl x1), some (.inl x2), some (.inl x3), none, none], [], (am_sh, am_mm U)) R
  refine ev_br (P := ¬ x2 = x3) (σ1 := ((d + 1), 113, 7, [some (.inr (.inr 86)), some (.inl x1), some (.inl x2), some (.inl x3), none, none], [], (am_sh, am_mm U))) (σ2 := ((d + 1), 113, 5, [some (.inr (.inr 86)), some (.inl x1), some (.inl x2), some (.inl x3), none, none], [], (am_sh, am_mm U))) 3 (fun _ => rfl) (fun hc => ?_) (fun hc => ?_)
  · have h1 := h.1 hc
    refine ev_seg (σ1 := ((d + 1), 113, 17, [some (.inr (.inr 86)), some (.inl x1), some (.inl x2), some (.inl x3), none, none], [.inl (w32 ((w32 (12 * x1)) + x2)), .inr (.inr 92)], (am_sh, am_mm U))) 7 (fun _ => rfl) ?_
    refine eu_iald 92 (n := 24) rfl (by decide) rfl (fun _ => rfl) h1.1 ?_
    show Ev (am_kz N X) ((d + 1), 113, 18, [some (.inr (.inr 86)), some (.inl x1), some (.inl x2), some (.inl x3), none, none], [.inl (U 92 ((w32 ((w32 (12 * x1)) + x2)).toNat))], (am_sh, am_mm U)) R
    have h1a := h1.2
    refine ev_seg (σ1 := ((d + 1), 113, 28, [some (.inr (.inr 86)), some (.inl x1), some (.inl x2), some (.inl x3), none, none], [.inl (w32 ((w32 (12 * x1)) + x3)), .inr (.inr 92), .inl (U 92 ((w32 ((w32 (12 * x1)) + x2)).toNat))], (am_sh, am_mm U))) 7 (fun _ => rfl) ?_
    refine eu_iald 92 (n := 24) rfl (by decide) rfl (fun _ => rfl) h1a.1 ?_
    show Ev (am_kz N X) ((d + 1), 113, 29, [some (.inr (.inr 86)), some (.inl x1), some (.inl x2), some (.inl x3), none, none], [.inl (U 92 ((w32 ((w32 (12 * x1)) + x3)).toNat)), .inl (U 92 ((w32 ((w32 (12 * x1)) + x2)).toNat))], (am_sh, am_mm U)) R
    have h1aa := h1a.2
    refine ev_br (P := ¬ (U 92 ((w32 ((w32 (12 * x1)) + x2)).toNat)) = (U 92 ((w32 ((w32 (12 * x1)) + x3)).toNat))) (σ1 := ((d + 1), 113, 61, [some (.inr (.inr 86)), some (.inl x1), some (.inl x2), some (.inl x3), none, none], [], (am_sh, am_mm U))) (σ2 := ((d + 1), 113, 32, [some (.inr (.inr 86)), some (.inl x1), some (.inl x2), some (.inl x3), none, none], [], (am_sh, am_mm U))) 1 (fun _ => rfl) (fun hc => ?_) (fun hc => ?_)
    · have h1aa1 := h1aa.1 hc
      refine ev_seg (σ1 := ((d + 1), 113, 64, [some (.inr (.inr 86)), some (.inl x1), some (.inl x2), some (.inl x3), some (.inl 0), none], [], (am_sh, am_mm U))) 2 (fun _ => rfl) ?_
      exact h1aa1
    · have h1aa2 := h1aa.2 (Decidable.not_not.mp hc)
      refine ev_seg (σ1 := ((d + 1), 113, 35, [some (.inr (.inr 86)), some (.inl x1), some (.inl x2), some (.inl x3), none, none], [.inl x2, .inl x1, .inr (.inr 86)], (am_sh, am_mm U))) 3 (fun _ => rfl) ?_
      obtain ⟨r1, U1, h1aa2c, h1aa2a⟩ := h1aa2
      refine ev_cal (σc := (M_placeOf_s0 d x1 x2 U)) (fun _ => rfl) h1aa2c ?_
      show Ev (am_kz N X) ((d + 1), 113, 38, [some (.inr (.inr 86)), some (.inl x1), some (.inl x2), some (.inl x3), none, none], [.inl r1], (am_sh, am_mm U1)) R
      refine ev_seg (σ1 := ((d + 1), 113, 41, [some (.inr (.inr 86)), some (.inl x1), some (.inl x2), some (.inl x3), none, none], [.inl x3, .inl x1, .inr (.inr 86), .inl r1], (am_sh, am_mm U1))) 3 (fun _ => rfl) ?_
      obtain ⟨r2, U2, h1aa2ac, h1aa2aa⟩ := h1aa2a
      refine ev_cal (σc := (M_placeOf_s0 d x1 x3 U1)) (fun _ => rfl) h1aa2ac ?_
      show Ev (am_kz N X) ((d + 1), 113, 44, [some (.inr (.inr 86)), some (.inl x1), some (.inl x2), some (.inl x3), none, none], [.inl r2, .inl r1], (am_sh, am_mm U2)) R
      refine ev_br (P := (w32 (r1 - r2)) = 1) (σ1 := ((d + 1), 113, 59, [some (.inr (.inr 86)), some (.inl x1), some (.inl x2), some (.inl x3), some (.inl (w32 (r1 - r2))), none], [], (am_sh, am_mm U2))) (σ2 := ((d + 1), 113, 53, [some (.inr (.inr 86)), some (.inl x1), some (.inl x2), some (.inl x3), some (.inl (w32 (r1 - r2))), none], [], (am_sh, am_mm U2))) 5 (fun _ => rfl) (fun hc => ?_) (fun hc => ?_)
      · have h1aa2aa1 := h1aa2aa.1 hc
        subst h1aa2aa1
        exact ev_end 2 (fun _ => rfl)
      · have h1aa2aa2 := h1aa2aa.2 hc
        refine ev_br (P := ¬ (w32 (r1 - r2)) = (-1)) (σ1 := ((d + 1), 113, 61, [some (.inr (.inr 86)), some (.inl x1), some (.inl x2), some (.inl x3), some (.inl (w32 (r1 - r2))), none], [], (am_sh, am_mm U2))) (σ2 := ((d + 1), 113, 59, [some (.inr (.inr 86)), some (.inl x1), some (.inl x2), some (.inl x3), some (.inl (w32 (r1 - r2))), none], [], (am_sh, am_mm U2))) 3 (fun _ => rfl) (fun hc => ?_) (fun hc => ?_)
        · have h1aa2aa21 := h1aa2aa2.1 hc
          refine ev_seg (σ1 := ((d + 1), 113, 64, [some (.inr (.inr 86)), some (.inl x1), some (.inl x2), some (.inl x3), some (.inl 0), none], [], (am_sh, am_mm U2))) 2 (fun _ => rfl) ?_
          exact h1aa2aa21
        · have h1aa2aa22 := h1aa2aa2.2 (Decidable.not_not.mp hc)
          subst h1aa2aa22
          exact ev_end 2 (fun _ => rfl)
  · have h2 := h.2 (Decidable.not_not.mp hc)
    subst h2
    exact ev_end 2 (fun _ => rfl)
set_option maxRecDepth 8000 in
theorem M_areNeighbours_r64 {N : Nat} {X : Nat → Int} {d : Nat} {x1 x2 x3 x4 : Int} {U : am_U} {R : Option am_V × am_M} (h : (0 ≤ x1 ∧ x1 < 2) ∧ (((U 94 x1.toNat) ≤ x4) → R = rI 0 U) ∧ ((x4 < (U 94 x1.toNat)) → (0 ≤ (w32 ((w32 (10 * x1)) + x4)) ∧ (w32 ((w32 (10 * x1)) + x4)) < 20) ∧ (((U 95 ((w32 ((w32 (10 * x1)) + x4)).toNat)) ≠ x2) → (((U 95 ((w32 ((w32 (10 * x1)) + x4)).toNat)) ≠ x3) → EvK N X (M_areNeighbours_s64 (d + 1) x1 x2 x3 (w32 (x4 + 1)) U) R) ∧ (((U 95 ((w32 ((w32 (10 * x1)) + x4)).toNat)) = x3) → (((U 96 ((w32 ((w32 (10 * x1)) + x4)).toNat)) ≠ x2) → EvK N X (M_areNeighbours_s64 (d + 1) x1 x2 x3 (w32 (x4 + 1)) U) R) ∧ (((U 96 ((w32 ((w32 (10 * x1)) + x4)).toNat)) = x2) → R = rI 1 U))) ∧ (((U 95 ((w32 ((w32 (10 * x1)) + x4)).toNat)) = x2) → (((U 96 ((w32 ((w32 (10 * x1)) + x4)).toNat)) = x3) → R = rI 1 U) ∧ (((U 96 ((w32 ((w32 (10 * x1)) + x4)).toNat)) ≠ x3) → (((U 95 ((w32 ((w32 (10 * x1)) + x4)).toNat)) ≠ x3) → EvK N X (M_areNeighbours_s64 (d + 1) x1 x2 x3 (w32 (x4 + 1)) U) R) ∧ (((U 95 ((w32 ((w32 (10 * x1)) + x4)).toNat)) = x3) → (((U 96 ((w32 ((w32 (10 * x1)) + x4)).toNat)) ≠ x2) → EvK N X (M_areNeighbours_s64 (d + 1) x1 x2 x3 (w32 (x4 + 1)) U) R) ∧ (((U 96 ((w32 ((w32 (10 * x1)) + x4)).toNat)) = x2) → R = rI 1 U)))))) : EvK N X (M_areNeighbours_s64 (d + 1) x1 x2 x3 x4 U) R := by
  show Ev (am_kz N X) ((d + 1), 113, 64, [some (.inr (.inr 86)), some (.inl x1), some (.inl x2), some (.inl x3), some (.inl x4), none], [], (am_sh, am_mm U)) R
  refine ev_seg (σ1 := ((d + 1), 113, 71, [some (.inr (.inr 86)), some (.inl x1), some (.inl x2), some (.inl x3), some (.inl x4), none], [.inl x1, .inr (.inr 94), .inl x4], (am_sh, am_mm U))) 4 (fun _ => rfl) ?_
  refine eu_iald 94 (n := 2) rfl (by decide) rfl (fun _ => rfl) h.1 ?_
  show Ev (am_kz N X) ((d + 1), 113, 72, [some (.inr (.inr 86)), some (.inl x1), some (.inl x2), some (.inl x3), some (.inl x4), none], [.inl (U 94 x1.toNat), .inl x4], (am_sh, am_mm U)) R
  have ha := h.2
  refine ev_br (P := (U 94 x1.toNat) ≤ x4) (σ1 := ((d + 1), 113, 136, [some (.inr (.inr 86)), some (.inl x1), some (.inl x2), some (.inl x3), some (.inl x4), none], [], (am_sh, am_mm U))) (σ2 := ((d + 1), 113, 75, [some (.inr (.inr 86)), some (.inl x1), some (.inl x2), some (.inl x3), some (.inl x4), none], [], (am_sh, am_mm U))) 1 (fun _ => rfl) (fun hc => ?_) (fun hc => ?_)
  · have ha1 := ha.1 hc
    subst ha1
    exact ev_end 2 (fun _ => rfl)
  · have ha2 := ha.2 (Int.not_le.mp hc)
    refine ev_seg (σ1 := ((d + 1), 113, 90, [some (.inr (.inr 86)), some (.inl x1), some (.inl x2), some (.inl x3), some (.inl x4), some (.inl (w32 ((w32 (10 * x1)) + x4)))], [.inl (w32 ((w32 (10 * x1)) + x4)), .inr (.inr 95)], (am_sh, am_mm U))) 9 (fun _ => rfl) ?_
    refine eu_iald 95 (n := 20) rfl (by decide) rfl (fun _ => rfl) ha2.1 ?_
    show Ev (am_kz N X) ((d + 1), 113, 91, [some (.inr (.inr 86)), some (.inl x1), some (.inl x2), some (.inl x3), some (.inl x4), some (.inl (w32 ((w32 (10 * x1)) + x4)))], [.inl (U 95 ((w32 ((w32 (10 * x1)) + x4)).toNat))], (am_sh, am_mm U)) R
    have ha2a := ha2.2
    refine ev_br (P := ¬ (U 95 ((w32 ((w32 (10 * x1)) + x4)).toNat)) = x2) (σ1 := ((d + 1), 113, 106, [some (.inr (.inr 86)), some (.inl x1), some (.inl x2), some (.inl x3), some (.inl x4), some (.inl (w32 ((w32 (10 * x1)) + x4)))], [], (am_sh, am_mm U))) (σ2 := ((d + 1), 113, 95, [some (.inr (.inr 86)), some (.inl x1), some (.inl x2), some (.inl x3), some (.inl x4), some (.inl (w32 ((w32 (10 * x1)) + x4)))], [], (am_sh, am_mm U))) 2 (fun _ => rfl) (fun hc => ?_) (fun hc => ?_)
    · have ha2a1 := ha2a.1 hc
      refine ev_seg (σ1 := ((d + 1), 113, 112, [some (.inr (.inr 86)), some (.inl x1), some (.inl x2), some (.inl x3), some (.inl x4), some (.inl (w32 ((w32 (10 * x1)) + x4)))], [.inl (w32 ((w32 (10 * x1)) + x4)), .inr (.inr 95)], (am_sh, am_mm U))) 3 (fun _ => rfl) ?_
      refine eu_iald 95 (n := 20) rfl (by decide) rfl (fun _ => rfl) ha2.1 ?_
      show Ev (am_kz N X) ((d + 1), 113, 113, [some (.inr (.inr 86)), some (.inl x1), some (.inl x2), some (.inl x3), some (.inl x4), some (.inl (w32 ((w32 (10 * x1)) + x4)))], [.inl (U 95 ((w32 ((w32 (10 * x1)) + x4)).toNat))], (am_sh, am_mm U)) R
      refine ev_br (P := ¬ (U 95 ((w32 ((w32 (10 * x1)) + x4)).toNat)) = x3) (σ1 := ((d + 1), 113, 130, [some (.inr (.inr 86)), some (.inl x1), some (.inl x2), some (.inl x3), some (.inl x4), some (.inl (w32 ((w32 (10 * x1)) + x4)))], [], (am_sh, am_mm U))) (σ2 := ((d + 1), 113, 117, [some (.inr (.inr 86)), some (.inl x1), some (.inl x2), some (.inl x3), some (.inl x4), some (.inl (w32 ((w32 (10 * x1)) + x4)))], [], (am_sh, am_mm U))) 2 (fun _ => rfl) (fun hc => ?_) (fun hc => ?_)
      · have ha2a11 := ha2a1.1 hc
        refine ev_seg (σ1 := ((d + 1), 113, 64, [some (.inr (.inr 86)), some (.inl x1), some (.inl x2), some (.inl x3), some (.inl (w32 (x4 + 1))), some (.inl (w32 ((w32 (10 * x1)) + x4)))], [], (am_sh, am_mm U))) 2 (fun _ => rfl) ?_
        exact ev_le (L := [some (.inr (.inr 86)), some (.inl x1), some (.inl x2), some (.inl x3), some (.inl (w32 (x4 + 1))), none]) ⟨rfl, ⟨rfl, ⟨rfl, ⟨rfl, ⟨rfl, trivial⟩⟩⟩⟩⟩ ha2a11
      · have ha2a12 := ha2a1.2 (Decidable.not_not.mp hc)
        refine ev_seg (σ1 := ((d + 1), 113, 123, [some (.inr (.inr 86)), some (.inl x1), some (.inl x2), some (.inl x3), some (.inl x4), some (.inl (w32 ((w32 (10 * x1)) + x4)))], [.inl (w32 ((w32 (10 * x1)) + x4)), .inr (.inr 96)], (am_sh, am_mm U))) 3 (fun _ => rfl) ?_
        refine eu_iald 96 (n := 20) rfl (by decide) rfl (fun _ => rfl) ha2.1 ?_
        show Ev (am_kz N X) ((d + 1), 113, 124, [some (.inr (.inr 86)), some (.inl x1), some (.inl x2), some (.inl x3), some (.inl x4), some (.inl (w32 ((w32 (10 * x1)) + x4)))], [.inl (U 96 ((w32 ((w32 (10 * x1)) + x4)).toNat))], (am_sh, am_mm U)) R
        refine ev_br (P := ¬ (U 96 ((w32 ((w32 (10 * x1)) + x4)).toNat)) = x2) (σ1 := ((d + 1), 113, 130, [some (.inr (.inr 86)), some (.inl x1), some (.inl x2), some (.inl x3), some (.inl x4), some (.inl (w32 ((w32 (10 * x1)) + x4)))], [], (am_sh, am_mm U))) (σ2 := ((d + 1), 113, 128, [some (.inr (.inr 86)), some (.inl x1), some (.inl x2), some (.inl x3), some (.inl x4), some (.inl (w32 ((w32 (10 * x1)) + x4)))], [], (am_sh, am_mm U))) 2 (fun _ => rfl) (fun hc => ?_) (fun hc => ?_)
        · have ha2a121 := ha2a12.1 hc
          refine ev_seg (σ1 := ((d + 1), 113, 64, [some (.inr (.inr 86)), some (.inl x1), some (.inl x2), some (.inl x3), some (.inl (w32 (x4 + 1))), some (.inl (w32 ((w32 (10 * x1)) + x4)))], [], (am_sh, am_mm U))) 2 (fun _ => rfl) ?_
          exact ev_le (L := [some (.inr (.inr 86)), some (.inl x1), some (.inl x2), some (.inl x3), some (.inl (w32 (x4 + 1))), none]) ⟨rfl, ⟨rfl, ⟨rfl, ⟨rfl, ⟨rfl, trivial⟩⟩⟩⟩⟩ ha2a121
        · have ha2a122 := ha2a12.2 (Decidable.not_not.mp hc)
          subst ha2a122
          exact ev_end 2 (fun _ => rfl)
    · have ha2a2 := ha2a.2 (Decidable.not_not.mp hc)
      refine ev_seg (σ1 := ((d + 1), 113, 101, [some (.inr (.inr 86)), some (.inl x1), some (.inl x2), some (.inl x3), some (.inl x4), some (.inl (w32 ((w32 (10 * x1)) + x4)))], [.inl (w32 ((w32 (10 * x1)) + x4)), .inr (.inr 96)], (am_sh, am_mm U))) 3 (fun _ => rfl) ?_
      refine eu_iald 96 (n := 20) rfl (by decide) rfl (fun _ => rfl) ha2.1 ?_
      show Ev (am_kz N X) ((d + 1), 113, 102, [some (.inr (.inr 86)), some (.inl x1), some (.inl x2), some (.inl x3), some (.inl x4), some (.inl (w32 ((w32 (10 * x1)) + x4)))], [.inl (U 96 ((w32 ((w32 (10 * x1)) + x4)).toNat))], (am_sh, am_mm U)) R
      refine ev_br (P := (U 96 ((w32 ((w32 (10 * x1)) + x4)).toNat)) = x3) (σ1 := ((d + 1), 113, 128, [some (.inr (.inr 86)), some (.inl x1), some (.inl x2), some (.inl x3), some (.inl x4), some (.inl (w32 ((w32 (10 * x1)) + x4)))], [], (am_sh, am_mm U))) (σ2 := ((d + 1), 113, 106, [some (.inr (.inr 86)), some (.inl x1), some (.inl x2), some (.inl x3), some (.inl x4), some (.inl (w32 ((w32 (10 * x1)) + x4)))], [], (am_sh, am_mm U))) 2 (fun _ => rfl) (fun hc => ?_) (fun hc => ?_)
      · have ha2a21 := ha2a2.1 hc
        subst ha2a21
        exact ev_end 2 (fun _ => rfl)
      · have ha2a22 := ha2a2.2 hc
        refine ev_seg (σ1 := ((d + 1), 113, 112, [some (.inr (.inr 86)), some (.inl x1), some (.inl x2), some (.inl x3), some (.inl x4), some (.inl (w32 ((w32 (10 * x1)) + x4)))], [.inl (w32 ((w32 (10 * x1)) + x4)), .inr (.inr 95)], (am_sh, am_mm U))) 3 (fun _ => rfl) ?_
        refine eu_iald 95 (n := 20) rfl (by decide) rfl (fun _ => rfl) ha2.1 ?_
        show Ev (am_kz N X) ((d + 1), 113, 113, [some (.inr (.inr 86)), some (.inl x1), some (.inl x2), some (.inl x3), some (.inl x4), some (.inl (w32 ((w32 (10 * x1)) + x4)))], [.inl (U 95 ((w32 ((w32 (10 * x1)) + x4)).toNat))], (am_sh, am_mm U)) R
        refine ev_br (P := ¬ (U 95 ((w32 ((w32 (10 * x1)) + x4)).toNat)) = x3) (σ1 := ((d + 1), 113, 130, [some (.inr (.inr 86)), some (.inl x1), some (.inl x2), some (.inl x3), some (.inl x4), some (.inl (w32 ((w32 (10 * x1)) + x4)))], [], (am_sh, am_mm U))) (σ2 := ((d + 1), 113, 117, [some (.inr (.inr 86)), some (.inl x1), some (.inl x2), some (.inl x3), some (.inl x4), some (.inl (w32 ((w32 (10 * x1)) + x4)))], [], (am_sh, am_mm U))) 2 (fun _ => rfl) (fun hc => ?_) (fun hc => ?_)
        · have ha2a221 := ha2a22.1 hc
          refine ev_seg (σ1 := ((d + 1), 113, 64, [some (.inr (.inr 86)), some (.inl x1), some (.inl x2), some (.inl x3), some (.inl (w32 (x4 + 1))), some (.inl (w32 ((w32 (10 * x1)) + x4)))], [], (am_sh, am_mm U))) 2 (fun _ => rfl) ?_
          exact ev_le (L := [some (.inr (.inr 86)), some (.inl x1), some (.inl x2), some (.inl x3), some (.inl (w32 (x4 + 1))), none]) ⟨rfl, ⟨rfl, ⟨rfl, ⟨rfl, ⟨rfl, trivial⟩⟩⟩⟩⟩ ha2a221
        · have ha2a222 := ha2a22.2 (Decidable.not_not.mp hc)
          refine ev_seg (σ1 := ((d + 1), 113, 123, [some (.inr (.inr 86)), some (.inl x1), some (.inl x2), some (.inl x3), some (.inl x4), some (.inl (w32 ((w32 (10 * x1)) + x4)))], [.inl (w32 ((w32 (10 * x1)) + x4)), .inr (.inr 96)], (am_sh, am_mm U))) 3 (fun _ => rfl) ?_
          refine eu_iald 96 (n := 20) rfl (by decide) rfl (fun _ => rfl) ha2.1 ?_
          show Ev (am_kz N X) ((d + 1), 113, 124, [some (.inr (.inr 86)), some (.inl x1), some (.inl x2), some (.inl x3), some (.inl x4), some (.inl (w32 ((w32 (10 * x1)) + x4)))], [.inl (U 96 ((w32 ((w32 (10 * x1)) + x4)).toNat))], (am_sh, am_mm U)) R
          refine ev_br (P := ¬ (U 96 ((w32 ((w32 (10 * x1)) + x4)).toNat)) = x2) (σ1 := ((d + 1), 113, 130, [some (.inr (.inr 86)), some (.inl x1), some (.inl x2), some (.inl x3), some (.inl x4), some (.inl (w32 ((w32 (10 * x1)) + x4)))], [], (am_sh, am_mm U))) (σ2 := ((d + 1), 113, 128, [some (.inr (.inr 86)), some (.inl x1), some (.inl x2), some (.inl x3), some (.inl x4), some (.inl (w32 ((w32 (10 * x1)) + x4)))], [], (am_sh, am_mm U))) 2 (fun _ => rfl) (fun hc => ?_) (fun hc => ?_)
          · have ha2a2221 := ha2a222.1 hc
            refine ev_seg (σ1 := ((d + 1), 113, 64, [some (.inr (.inr 86)), some (.inl x1), some (.inl x2), some (.inl x3), some (.inl (w32 (x4 + 1))), some (.inl (w32 ((w32 (10 * x1)) + x4)))], [], (am_sh, am_mm U))) 2 (fun _ => rfl) ?_
            exact ev_le (L := [some (.inr (.inr 86)), some (.inl x1), some (.inl x2), some (.inl x3), some (.inl (w32 (x4 + 1))), none]) ⟨rfl, ⟨rfl, ⟨rfl, ⟨rfl, ⟨rfl, trivial⟩⟩⟩⟩⟩ ha2a2221
          · have ha2a2222 := ha2a222.2 (Decidable.not_not.mp hc)
            subst ha2a2222
            exact ev_end 2 (fun _ => rfl)
set_option maxRecDepth 8000 in
theorem D_isPerson_r0 {N : Nat} {X : Nat → Int} {d : Nat} {x1 : Int} {U : am_U} {R : Option am_V × am_M} (h : ((x1 < 0) → R = rI 0 U) ∧ ((0 ≤ x1) → (((U 16 0) ≤ x1) → R = rI 0 U) ∧ ((x1 < (U 16 0)) → R = rI 1 U))) : EvK N X (D_isPerson_s0 d x1 U) R := by
  show Ev (am_kz N X) (d, 114, 0, [some (.inr (.inr 1)), some (.inl x1)], [], (am_sh, am_mm U)) R
  refine ev_br (P := x1 < 0) (σ1 := (d, 114, 19, [some (.inr (.inr 1)), some (.inl x1)], [], (am_sh, am_mm U))) (σ2 := (d, 114, 4, [some (.inr (.inr 1)), some (.inl x1)], [], (am_sh, am_mm U))) 2 (fun _ => rfl) (fun hc => ?_) (fun hc => ?_)
  · have h1 := h.1 hc
    subst h1
    exact ev_end 2 (fun _ => rfl)
  · have h2 := h.2 (Int.not_lt.mp hc)
    refine ev_br (P := (U 16 0) ≤ x1) (σ1 := (d, 114, 19, [some (.inr (.inr 1)), some (.inl x1)], [], (am_sh, am_mm U))) (σ2 := (d, 114, 15, [some (.inr (.inr 1)), some (.inl x1)], [], (am_sh, am_mm U))) 5 (fun _ => rfl) (fun hc => ?_) (fun hc => ?_)
    · have h21 := h2.1 hc
      subst h21
      exact ev_end 2 (fun _ => rfl)
    · have h22 := h2.2 (Int.not_le.mp hc)
      subst h22
      exact ev_end 3 (fun _ => rfl)
set_option maxRecDepth 8000 in
theorem M_isPerson_r0 {N : Nat} {X : Nat → Int} {d : Nat} {x1 : Int} {U : am_U} {R : Option am_V × am_M} (h : ((x1 < 0) → R = rI 0 U) ∧ ((0 ≤ x1) → (((U 122 0) ≤ x1) → R = rI 0 U) ∧ ((x1 < (U 122 0)) → R = rI 1 U))) : EvK N X (M_isPerson_s0 d x1 U) R := by
  show Ev (am_kz N X) (d, 115, 0, [some (.inr (.inr 86)), some (.inl x1)], [], (am_sh, am_mm U)) R
  refine ev_br (P := x1 < 0) (σ1 := (d, 115, 18, [some (.inr (.inr 86)), some (.inl x1)], [], (am_sh, am_mm U))) (σ2 := (d, 115, 4, [some (.inr (.inr 86)), some (.inl x1)], [], (am_sh, am_mm U))) 2 (fun _ => rfl) (fun hc => ?_) (fun hc => ?_)
  · have h1 := h.1 hc
    subst h1
    exact ev_end 2 (fun _ => rfl)
  · have h2 := h.2 (Int.not_lt.mp hc)
    refine ev_seg (σ1 := (d, 115, 10, [some (.inr (.inr 86)), some (.inl x1)], [.inl 0, .inr (.inr 122), .inl x1], (am_sh, am_mm U))) 4 (fun _ => rfl) ?_
    refine eu_iald 122 (n := 22) rfl (by decide) rfl (fun _ => rfl) (by decide) ?_
    show Ev (am_kz N X) (d, 115, 11, [some (.inr (.inr 86)), some (.inl x1)], [.inl (U 122 0), .inl x1], (am_sh, am_mm U)) R
    refine ev_br (P := (U 122 0) ≤ x1) (σ1 := (d, 115, 18, [some (.inr (.inr 86)), some (.inl x1)], [], (am_sh, am_mm U))) (σ2 := (d, 115, 14, [some (.inr (.inr 86)), some (.inl x1)], [], (am_sh, am_mm U))) 1 (fun _ => rfl) (fun hc => ?_) (fun hc => ?_)
    · have h21 := h2.1 hc
      subst h21
      exact ev_end 2 (fun _ => rfl)
    · have h22 := h2.2 (Int.not_le.mp hc)
      subst h22
      exact ev_end 3 (fun _ => rfl)
set_option maxRecDepth 8000 in
theorem Jg_countBreachesOf_r0 {N : Nat} {X : Nat → Int} {d : Nat} {x1 : Int} {U : am_U} {R : Option am_V × am_M} (h : ∃ U1 : am_U, EvK N X (Jg_look_s0 d U) (rV U1) ∧ EvK N X (Jg_countBreachesOf_s8 (d + 1) x1 0 0 U1) R) : EvK N X (Jg_countBreachesOf_s0 (d + 1) x1 U) R := by
  show Ev (am_kz N X) ((d + 1), 116, 0, [some (.inr (.inr 45)), some (.inl x1), none, none, none], [], (am_sh, am_mm U)) R
  refine ev_seg (σ1 := ((d + 1), 116, 1, [some (.inr (.inr 45)), some (.inl x1), none, none, none], [.inr (.inr 45)], (am_sh, am_mm U))) 1 (fun _ => rfl) ?_
  obtain ⟨U1, hc, ha⟩ := h
  refine ev_cal (σc := (Jg_look_s0 d U)) (fun _ => rfl) hc ?_
  show Ev (am_kz N X) ((d + 1), 116, 4, [some (.inr (.inr 45)), some (.inl x1), none, none, none], [], (am_sh, am_mm U1)) R
  refine ev_seg (σ1 := ((d + 1), 116, 8, [some (.inr (.inr 45)), some (.inl x1), some (.inl 0), some (.inl 0), none], [], (am_sh, am_mm U1))) 4 (fun _ => rfl) ?_
  exact ha
set_option maxRecDepth 8000 in
theorem Jg_countBreachesOf_r8 {N : Nat} {X : Nat → Int} {d : Nat} {x1 x2 x3 : Int} {U : am_U} {R : Option am_V × am_M} (h : ((8 ≤ x3) → R = rI x2 U) ∧ ((x3 < 8) → (0 ≤ (w32 ((w32 (16 * x3)) + x1)) ∧ (w32 ((w32 (16 * x3)) + x1)) < 128) ∧ ∃ (r1 : Int) (U1 : am_U), EvK N X (In_bitCount_s0 d (U 47 ((w32 ((w32 (16 * x3)) + x1)).toNat)) U) (rI r1 U1) ∧ EvK N X (Jg_countBreachesOf_s34 (d + 1) x1 (w32 (x2 + r1)) x3 0 U1) R)) : EvK N X (Jg_countBreachesOf_s8 (d + 1) x1 x2 x3 U) R := by
  show Ev (am_kz N X) ((d + 1), 116, 8, [some (.inr (.inr 45)), some (.inl x1), some (.inl x2), some (.inl x3), none], [], (am_sh, am_mm U)) R
  refine ev_br (P := 8 ≤ x3) (σ1 := ((d + 1), 116, 72, [some (.inr (.inr 45)), some (.inl x1), some (.inl x2), some (.inl x3), none], [], (am_sh, am_mm U))) (σ2 := ((d + 1), 116, 14, [some (.inr (.inr 45)), some (.inl x1), some (.inl x2), some (.inl x3), none], [], (am_sh, am_mm U))) 3 (fun _ => rfl) (fun hc => ?_) (fun hc => ?_)
  · have h1 := h.1 hc
    subst h1
    exact ev_end 2 (fun _ => rfl)
  · have h2 := h.2 (Int.not_le.mp hc)
    refine ev_seg (σ1 := ((d + 1), 116, 25, [some (.inr (.inr 45)), some (.inl x1), some (.inl x2), some (.inl x3), none], [.inl (w32 ((w32 (16 * x3)) + x1)), .inr (.inr 47), .inl x2], (am_sh, am_mm U))) 8 (fun _ => rfl) ?_
    refine eu_iald 47 (n := 128) rfl (by decide) rfl (fun _ => rfl) h2.1 ?_
    show Ev (am_kz N X) ((d + 1), 116, 26, [some (.inr (.inr 45)), some (.inl x1), some (.inl x2), some (.inl x3), none], [.inl (U 47 ((w32 ((w32 (16 * x3)) + x1)).toNat)), .inl x2], (am_sh, am_mm U)) R
    have h2a := h2.2
    obtain ⟨r1, U1, h2ac, h2aa⟩ := h2a
    refine ev_cal (σc := (In_bitCount_s0 d (U 47 ((w32 ((w32 (16 * x3)) + x1)).toNat)) U)) (fun _ => rfl) h2ac ?_
    show Ev (am_kz N X) ((d + 1), 116, 29, [some (.inr (.inr 45)), some (.inl x1), some (.inl x2), some (.inl x3), none], [.inl r1, .inl x2], (am_sh, am_mm U1)) R
    refine ev_seg (σ1 := ((d + 1), 116, 34, [some (.inr (.inr 45)), some (.inl x1), some (.inl (w32 (x2 + r1))), some (.inl x3), some (.inl 0)], [], (am_sh, am_mm U1))) 4 (fun _ => rfl) ?_
    exact h2aa
set_option maxRecDepth 8000 in
theorem Jg_countBreachesOf_r34 {N : Nat} {X : Nat → Int} {d : Nat} {x1 x2 x3 x4 : Int} {U : am_U} {R : Option am_V × am_M} (h : ((16 ≤ x4) → EvK N X (Jg_countBreachesOf_s8 (d + 1) x1 x2 (w32 (x3 + 1)) U) R) ∧ ((x4 < 16) → (0 ≤ (w32 ((w32 (16 * x3)) + x4)) ∧ (w32 ((w32 (16 * x3)) + x4)) < 128) ∧ EvK N X (Jg_countBreachesOf_s34 (d + 1) x1 (w32 (x2 + (am_and (am_shr (U 47 ((w32 ((w32 (16 * x3)) + x4)).toNat)) x1) 1))) x3 (w32 (x4 + 1)) U) R)) : EvK N X (Jg_countBreachesOf_s34 (d + 1) x1 x2 x3 x4 U) R := by
  show Ev (am_kz N X) ((d + 1), 116, 34, [some (.inr (.inr 45)), some (.inl x1), some (.inl x2), some (.inl x3), some (.inl x4)], [], (am_sh, am_mm U)) R
  refine ev_br (P := 16 ≤ x4) (σ1 := ((d + 1), 116, 66, [some (.inr (.inr 45)), some (.inl x1), some (.inl x2), some (.inl x3), some (.inl x4)], [], (am_sh, am_mm U))) (σ2 := ((d + 1), 116, 41, [some (.inr (.inr 45)), some (.inl x1), some (.inl x2), some (.inl x3), some (.inl x4)], [], (am_sh, am_mm U))) 3 (fun _ => rfl) (fun hc => ?_) (fun hc => ?_)
  · have h1 := h.1 hc
    refine ev_seg (σ1 := ((d + 1), 116, 8, [some (.inr (.inr 45)), some (.inl x1), some (.inl x2), some (.inl (w32 (x3 + 1))), some (.inl x4)], [], (am_sh, am_mm U))) 2 (fun _ => rfl) ?_
    exact ev_le (L := [some (.inr (.inr 45)), some (.inl x1), some (.inl x2), some (.inl (w32 (x3 + 1))), none]) ⟨rfl, ⟨rfl, ⟨rfl, ⟨rfl, trivial⟩⟩⟩⟩ h1
  · have h2 := h.2 (Int.not_le.mp hc)
    refine ev_seg (σ1 := ((d + 1), 116, 53, [some (.inr (.inr 45)), some (.inl x1), some (.inl x2), some (.inl x3), some (.inl x4)], [.inl (w32 ((w32 (16 * x3)) + x4)), .inr (.inr 47), .inl x2], (am_sh, am_mm U))) 8 (fun _ => rfl) ?_
    refine eu_iald 47 (n := 128) rfl (by decide) rfl (fun _ => rfl) h2.1 ?_
    show Ev (am_kz N X) ((d + 1), 116, 54, [some (.inr (.inr 45)), some (.inl x1), some (.inl x2), some (.inl x3), some (.inl x4)], [.inl (U 47 ((w32 ((w32 (16 * x3)) + x4)).toNat)), .inl x2], (am_sh, am_mm U)) R
    have h2a := h2.2
    refine ev_seg (σ1 := ((d + 1), 116, 34, [some (.inr (.inr 45)), some (.inl x1), some (.inl (w32 (x2 + (am_and (am_shr (U 47 ((w32 ((w32 (16 * x3)) + x4)).toNat)) x1) 1)))), some (.inl x3), some (.inl (w32 (x4 + 1)))], [], (am_sh, am_mm U))) 8 (fun _ => rfl) ?_
    exact h2a
set_option maxRecDepth 8000 in
theorem D_quarrelling_r0 {N : Nat} {X : Nat → Int} {d : Nat} {x1 : Int} {U : am_U} {R : Option am_V × am_M} (h : ∃ (r1 : Int) (U1 : am_U), EvK N X (Jg_within_s0 d x1 U) (rI r1 U1) ∧ ∃ (r2 : Int) (U2 : am_U), EvK N X (Jg_besides_s0 d x1 U1) (rI r2 U2) ∧ EvK N X (D_quarrelling_s23 (d + 1) x1 (am_or r1 r2) 0 0 U2) R) : EvK N X (D_quarrelling_s0 (d + 1) x1 U) R := by
  show Ev (am_kz N X) ((d + 1), 117, 0, [some (.inr (.inr 1)), some (.inl x1), none, none, none], [], (am_sh, am_mm U)) R
  refine ev_seg (σ1 := ((d + 1), 117, 5, [some (.inr (.inr 1)), some (.inl x1), none, none, none], [.inl x1, .inr (.inr 45)], (am_sh, am_mm U))) 3 (fun _ => rfl) ?_
  obtain ⟨r1, U1, hc, ha⟩ := h
  refine ev_cal (σc := (Jg_within_s0 d x1 U)) (fun _ => rfl) hc ?_
  show Ev (am_kz N X) ((d + 1), 117, 8, [some (.inr (.inr 1)), some (.inl x1), none, none, none], [.inl r1], (am_sh, am_mm U1)) R
  refine ev_seg (σ1 := ((d + 1), 117, 13, [some (.inr (.inr 1)), some (.inl x1), none, none, none], [.inl x1, .inr (.inr 45), .inl r1], (am_sh, am_mm U1))) 3 (fun _ => rfl) ?_
  obtain ⟨r2, U2, hac, haa⟩ := ha
  refine ev_cal (σc := (Jg_besides_s0 d x1 U1)) (fun _ => rfl) hac ?_
  show Ev (am_kz N X) ((d + 1), 117, 16, [some (.inr (.inr 1)), some (.inl x1), none, none, none], [.inl r2, .inl r1], (am_sh, am_mm U2)) R
  refine ev_seg (σ1 := ((d + 1), 117, 23, [some (.inr (.inr 1)), some (.inl x1), some (.inl (am_or r1 r2)), some (.inl 0), some (.inl 0)], [], (am_sh, am_mm U2))) 6 (fun _ => rfl) ?_
  exact haa
set_option maxRecDepth 8000 in
theorem D_quarrelling_r23 {N : Nat} {X : Nat → Int} {d : Nat} {x1 x2 x3 x4 : Int} {U : am_U} {R : Option am_V × am_M} (h : (((U 16 0) ≤ x4) → R = rI x3 U) ∧ ((x4 < (U 16 0)) → (((am_and (am_shr x2 x4) 1) ≠ 1) → EvK N X (D_quarrelling_s23 (d + 1) x1 x2 x3 (w32 (x4 + 1)) U) R) ∧ (((am_and (am_shr x2 x4) 1) = 1) → (0 ≤ x1 ∧ x1 < 16) ∧ (0 ≤ x4 ∧ x4 < 16) ∧ ∃ (r1 : Int) (U1 : am_U), EvK N X (Nm_commonFactor_s0 d (U 17 x1.toNat) (U 17 x4.toNat) U) (rI r1 U1) ∧ ((r1 ≤ 1) → EvK N X (D_quarrelling_s23 (d + 1) x1 x2 x3 (w32 (x4 + 1)) U1) R) ∧ ((1 < r1) → EvK N X (D_quarrelling_s23 (d + 1) x1 x2 (am_or x3 (am_shl 1 x4)) (w32 (x4 + 1)) U1) R)))) : EvK N X (D_quarrelling_s23 (d + 1) x1 x2 x3 x4 U) R := by
  show Ev (am_kz N X) ((d + 1), 117, 23, [some (.inr (.inr 1)), some (.inl x1), some (.inl x2), some (.inl x3), some (.inl x4)], [], (am_sh, am_mm U)) R
  refine ev_br (P := (U 16 0) ≤ x4) (σ1 := ((d + 1), 117, 84, [some (.inr (.inr 1)), some (.inl x1), some (.inl x2), some (.inl x3), some (.inl x4)], [], (am_sh, am_mm U))) (σ2 := ((d + 1), 117, 35, [some (.inr (.inr 1)), some (.inl x1), some (.inl x2), some (.inl x3), some (.inl x4)], [], (am_sh, am_mm U))) 5 (fun _ => rfl) (fun hc => ?_) (fun hc => ?_)
  · have h1 := h.1 hc
    subst h1
    exact ev_end 2 (fun _ => rfl)
  · have h2 := h.2 (Int.not_le.mp hc)
    refine ev_br (P := ¬ (am_and (am_shr x2 x4) 1) = 1) (σ1 := ((d + 1), 117, 78, [some (.inr (.inr 1)), some (.inl x1), some (.inl x2), some (.inl x3), some (.inl x4)], [], (am_sh, am_mm U))) (σ2 := ((d + 1), 117, 45, [some (.inr (.inr 1)), some (.inl x1), some (.inl x2), some (.inl x3), some (.inl x4)], [], (am_sh, am_mm U))) 7 (fun _ => rfl) (fun hc => ?_) (fun hc => ?_)
    · have h21 := h2.1 hc
      refine ev_seg (σ1 := ((d + 1), 117, 23, [some (.inr (.inr 1)), some (.inl x1), some (.inl x2), some (.inl x3), some (.inl (w32 (x4 + 1)))], [], (am_sh, am_mm U))) 2 (fun _ => rfl) ?_
      exact h21
    · have h22 := h2.2 (Decidable.not_not.mp hc)
      refine ev_seg (σ1 := ((d + 1), 117, 53, [some (.inr (.inr 1)), some (.inl x1), some (.inl x2), some (.inl x3), some (.inl x4)], [.inl x1, .inr (.inr 17)], (am_sh, am_mm U))) 4 (fun _ => rfl) ?_
      refine eu_iald 17 (n := 16) rfl (by decide) rfl (fun _ => rfl) h22.1 ?_
      show Ev (am_kz N X) ((d + 1), 117, 54, [some (.inr (.inr 1)), some (.inl x1), some (.inl x2), some (.inl x3), some (.inl x4)], [.inl (U 17 x1.toNat)], (am_sh, am_mm U)) R
      have h22a := h22.2
      refine ev_seg (σ1 := ((d + 1), 117, 63, [some (.inr (.inr 1)), some (.inl x1), some (.inl x2), some (.inl x3), some (.inl x4)], [.inl x4, .inr (.inr 17), .inl (U 17 x1.toNat)], (am_sh, am_mm U))) 4 (fun _ => rfl) ?_
      refine eu_iald 17 (n := 16) rfl (by decide) rfl (fun _ => rfl) h22a.1 ?_
      show Ev (am_kz N X) ((d + 1), 117, 64, [some (.inr (.inr 1)), some (.inl x1), some (.inl x2), some (.inl x3), some (.inl x4)], [.inl (U 17 x4.toNat), .inl (U 17 x1.toNat)], (am_sh, am_mm U)) R
      have h22aa := h22a.2
      obtain ⟨r1, U1, h22aac, h22aaa⟩ := h22aa
      refine ev_cal (σc := (Nm_commonFactor_s0 d (U 17 x1.toNat) (U 17 x4.toNat) U)) (fun _ => rfl) h22aac ?_
      show Ev (am_kz N X) ((d + 1), 117, 67, [some (.inr (.inr 1)), some (.inl x1), some (.inl x2), some (.inl x3), some (.inl x4)], [.inl r1], (am_sh, am_mm U1)) R
      refine ev_br (P := r1 ≤ 1) (σ1 := ((d + 1), 117, 78, [some (.inr (.inr 1)), some (.inl x1), some (.inl x2), some (.inl x3), some (.inl x4)], [], (am_sh, am_mm U1))) (σ2 := ((d + 1), 117, 71, [some (.inr (.inr 1)), some (.inl x1), some (.inl x2), some (.inl x3), some (.inl x4)], [], (am_sh, am_mm U1))) 2 (fun _ => rfl) (fun hc => ?_) (fun hc => ?_)
      · have h22aaa1 := h22aaa.1 hc
        refine ev_seg (σ1 := ((d + 1), 117, 23, [some (.inr (.inr 1)), some (.inl x1), some (.inl x2), some (.inl x3), some (.inl (w32 (x4 + 1)))], [], (am_sh, am_mm U1))) 2 (fun _ => rfl) ?_
        exact h22aaa1
      · have h22aaa2 := h22aaa.2 (Int.not_le.mp hc)
        refine ev_seg (σ1 := ((d + 1), 117, 23, [some (.inr (.inr 1)), some (.inl x1), some (.inl x2), some (.inl (am_or x3 (am_shl 1 x4))), some (.inl (w32 (x4 + 1)))], [], (am_sh, am_mm U1))) 8 (fun _ => rfl) ?_
        exact h22aaa2
set_option maxRecDepth 8000 in
theorem Nm_isPrime_r0 {N : Nat} {X : Nat → Int} {d : Nat} {x0 : Int} {U : am_U} {R : Option am_V × am_M} (h : ((2 ≤ x0) → EvK N X (Nm_isPrime_s9 d x0 0 U) R) ∧ ((x0 < 2) → R = rI 0 U)) : EvK N X (Nm_isPrime_s0 d x0 U) R := by
  show Ev (am_kz N X) (d, 118, 0, [some (.inl x0), none, none, none, none, none, none, none], [], (am_sh, am_mm U)) R
  refine ev_br (P := 2 ≤ x0) (σ1 := (d, 118, 7, [some (.inl x0), none, none, none, none, none, none, none], [], (am_sh, am_mm U))) (σ2 := (d, 118, 5, [some (.inl x0), none, none, none, none, none, none, none], [], (am_sh, am_mm U))) 3 (fun _ => rfl) (fun hc => ?_) (fun hc => ?_)
  · have h1 := h.1 hc
    refine ev_seg (σ1 := (d, 118, 9, [some (.inl x0), some (.inl 0), none, none, none, none, none, none], [], (am_sh, am_mm U))) 2 (fun _ => rfl) ?_
    exact h1
  · have h2 := h.2 (Int.not_le.mp hc)
    subst h2
    exact ev_end 2 (fun _ => rfl)
set_option maxRecDepth 8000 in
theorem Nm_isPrime_r9 {N : Nat} {X : Nat → Int} {d : Nat} {x0 x1 : Int} {U : am_U} {R : Option am_V × am_M} (h : ((12 ≤ x1) → EvK N X (Nm_isPrime_s54 d x0 1 0 U) R) ∧ ((x1 < 12) → (0 ≤ x1 ∧ x1 < 12) ∧ (((am_pr x1.toNat) = 0) → EvK N X (Nm_isPrime_s9 d x0 (w32 (x1 + 1)) U) R) ∧ (((am_pr x1.toNat) ≠ 0) → (am_pr x1.toNat) ≠ 0 ∧ (((Int.tmod x0 (am_pr x1.toNat)) ≠ 0) → EvK N X (Nm_isPrime_s9 d x0 (w32 (x1 + 1)) U) R) ∧ (((Int.tmod x0 (am_pr x1.toNat)) = 0) → ((x0 ≠ (am_pr x1.toNat)) → R = rI 0 U) ∧ ((x0 = (am_pr x1.toNat)) → R = rI 1 U))))) : EvK N X (Nm_isPrime_s9 d x0 x1 U) R := by
  show Ev (am_kz N X) (d, 118, 9, [some (.inl x0), some (.inl x1), none, none, none, none, none, none], [], (am_sh, am_mm U)) R
  refine ev_br (P := 12 ≤ x1) (σ1 := (d, 118, 50, [some (.inl x0), some (.inl x1), none, none, none, none, none, none], [], (am_sh, am_mm U))) (σ2 := (d, 118, 17, [some (.inl x0), some (.inl x1), none, none, none, none, none, none], [], (am_sh, am_mm U))) 4 (fun _ => rfl) (fun hc => ?_) (fun hc => ?_)
  · have h1 := h.1 hc
    refine ev_seg (σ1 := (d, 118, 54, [some (.inl x0), some (.inl 1), some (.inl 0), none, none, none, none, none], [], (am_sh, am_mm U))) 4 (fun _ => rfl) ?_
    exact h1
  · have h2 := h.2 (Int.not_le.mp hc)
    refine ev_seg (σ1 := (d, 118, 21, [some (.inl x0), some (.inl x1), none, none, none, none, none, none], [.inl x1, .inr (.inr (-4))], (am_sh, am_mm U))) 2 (fun _ => rfl) ?_
    refine ev_iaz (f := am_pr) (n := 12) rfl (by decide) rfl h2.1 ?_
    show Ev (am_kz N X) (d, 118, 22, [some (.inl x0), some (.inl x1), none, none, none, none, none, none], [.inl (am_pr x1.toNat)], (am_sh, am_mm U)) R
    have h2a := h2.2
    refine ev_br (P := (am_pr x1.toNat) = 0) (σ1 := (d, 118, 44, [some (.inl x0), some (.inl x1), some (.inl (am_pr x1.toNat)), none, none, none, none, none], [], (am_sh, am_mm U))) (σ2 := (d, 118, 27, [some (.inl x0), some (.inl x1), some (.inl (am_pr x1.toNat)), none, none, none, none, none], [], (am_sh, am_mm U))) 3 (fun _ => rfl) (fun hc => ?_) (fun hc => ?_)
    · have h2a1 := h2a.1 hc
      refine ev_seg (σ1 := (d, 118, 9, [some (.inl x0), some (.inl (w32 (x1 + 1))), some (.inl (am_pr x1.toNat)), none, none, none, none, none], [], (am_sh, am_mm U))) 2 (fun _ => rfl) ?_
      exact ev_le (L := [some (.inl x0), some (.inl (w32 (x1 + 1))), none, none, none, none, none, none]) ⟨rfl, ⟨rfl, trivial⟩⟩ h2a1
    · have h2a2 := h2a.2 hc
      refine ev_seg (σ1 := (d, 118, 29, [some (.inl x0), some (.inl x1), some (.inl (am_pr x1.toNat)), none, none, none, none, none], [.inl (am_pr x1.toNat), .inl x0], (am_sh, am_mm U))) 2 (fun _ => rfl) ?_
      refine ev_irem rfl h2a2.1 ?_
      show Ev (am_kz N X) (d, 118, 30, [some (.inl x0), some (.inl x1), some (.inl (am_pr x1.toNat)), none, none, none, none, none], [.inl (Int.tmod x0 (am_pr x1.toNat))], (am_sh, am_mm U)) R
      have h2a2a := h2a2.2
      refine ev_br (P := ¬ (Int.tmod x0 (am_pr x1.toNat)) = 0) (σ1 := (d, 118, 44, [some (.inl x0), some (.inl x1), some (.inl (am_pr x1.toNat)), none, none, none, none, none], [], (am_sh, am_mm U))) (σ2 := (d, 118, 33, [some (.inl x0), some (.inl x1), some (.inl (am_pr x1.toNat)), none, none, none, none, none], [], (am_sh, am_mm U))) 1 (fun _ => rfl) (fun hc => ?_) (fun hc => ?_)
      · have h2a2a1 := h2a2a.1 hc
        refine ev_seg (σ1 := (d, 118, 9, [some (.inl x0), some (.inl (w32 (x1 + 1))), some (.inl (am_pr x1.toNat)), none, none, none, none, none], [], (am_sh, am_mm U))) 2 (fun _ => rfl) ?_
        exact ev_le (L := [some (.inl x0), some (.inl (w32 (x1 + 1))), none, none, none, none, none, none]) ⟨rfl, ⟨rfl, trivial⟩⟩ h2a2a1
      · have h2a2a2 := h2a2a.2 (Decidable.not_not.mp hc)
        refine ev_br (P := ¬ x0 = (am_pr x1.toNat)) (σ1 := (d, 118, 42, [some (.inl x0), some (.inl x1), some (.inl (am_pr x1.toNat)), none, none, none, none, none], [], (am_sh, am_mm U))) (σ2 := (d, 118, 38, [some (.inl x0), some (.inl x1), some (.inl (am_pr x1.toNat)), none, none, none, none, none], [], (am_sh, am_mm U))) 3 (fun _ => rfl) (fun hc => ?_) (fun hc => ?_)
        · have h2a2a21 := h2a2a2.1 hc
          subst h2a2a21
          exact ev_end 2 (fun _ => rfl)
        · have h2a2a22 := h2a2a2.2 (Decidable.not_not.mp hc)
          subst h2a2a22
          exact ev_end 3 (fun _ => rfl)
set_option maxRecDepth 8000 in
theorem Nm_isPrime_r54 {N : Nat} {X : Nat → Int} {d : Nat} {x0 x1 x2 : Int} {U : am_U} {R : Option am_V × am_M} (h : ((3 ≤ x2) → (x1 = 0 ∨ x1 = 1) ∧ R = rI x1 U) ∧ ((x2 < 3) → ((x1 = 0) → (x1 = 0 ∨ x1 = 1) ∧ R = rI x1 U) ∧ ((x1 ≠ 0) → ((x0 < 1681) → (x1 = 0 ∨ x1 = 1) ∧ R = rI x1 U) ∧ ((1681 ≤ x0) → EvK N X (Nm_isPrime_s79 d x0 x1 x2 1 30 U) R)))) : EvK N X (Nm_isPrime_s54 d x0 x1 x2 U) R := by
  show Ev (am_kz N X) (d, 118, 54, [some (.inl x0), some (.inl x1), some (.inl x2), none, none, none, none, none], [], (am_sh, am_mm U)) R
  refine ev_br (P := 3 ≤ x2) (σ1 := (d, 118, 182, [some (.inl x0), some (.inl x1), some (.inl x2), none, none, none, none, none], [], (am_sh, am_mm U))) (σ2 := (d, 118, 62, [some (.inl x0), some (.inl x1), some (.inl x2), none, none, none, none, none], [], (am_sh, am_mm U))) 4 (fun _ => rfl) (fun hc => ?_) (fun hc => ?_)
  · have h1 := h.1 hc
    refine ev_seg (σ1 := (d, 118, 183, [some (.inl x0), some (.inl x1), some (.inl x2), none, none, none, none, none], [.inl x1], (am_sh, am_mm U))) 1 (fun _ => rfl) ?_
    rw [h1.2]
    exact ev_retz rfl rfl h1.1
  · have h2 := h.2 (Int.not_le.mp hc)
    refine ev_br (P := x1 = 0) (σ1 := (d, 118, 182, [some (.inl x0), some (.inl x1), some (.inl x2), none, none, none, none, none], [], (am_sh, am_mm U))) (σ2 := (d, 118, 66, [some (.inl x0), some (.inl x1), some (.inl x2), none, none, none, none, none], [], (am_sh, am_mm U))) 2 (fun _ => rfl) (fun hc => ?_) (fun hc => ?_)
    · have h21 := h2.1 hc
      refine ev_seg (σ1 := (d, 118, 183, [some (.inl x0), some (.inl x1), some (.inl x2), none, none, none, none, none], [.inl x1], (am_sh, am_mm U))) 1 (fun _ => rfl) ?_
      rw [h21.2]
      exact ev_retz rfl rfl h21.1
    · have h22 := h2.2 hc
      refine ev_br (P := x0 < 1681) (σ1 := (d, 118, 182, [some (.inl x0), some (.inl x1), some (.inl x2), none, none, none, none, none], [], (am_sh, am_mm U))) (σ2 := (d, 118, 73, [some (.inl x0), some (.inl x1), some (.inl x2), none, none, none, none, none], [], (am_sh, am_mm U))) 3 (fun _ => rfl) (fun hc => ?_) (fun hc => ?_)
      · have h221 := h22.1 hc
        refine ev_seg (σ1 := (d, 118, 183, [some (.inl x0), some (.inl x1), some (.inl x2), none, none, none, none, none], [.inl x1], (am_sh, am_mm U))) 1 (fun _ => rfl) ?_
        rw [h221.2]
        exact ev_retz rfl rfl h221.1
      · have h222 := h22.2 (Int.not_lt.mp hc)
        refine ev_seg (σ1 := (d, 118, 79, [some (.inl x0), some (.inl x1), some (.inl x2), some (.inr (.inl 1)), none, some (.inl 30), none, none], [], (am_sh, am_mm U))) 4 (fun _ => rfl) ?_
        exact h222
set_option maxRecDepth 8000 in
theorem Nm_isPrime_r79 {N : Nat} {X : Nat → Int} {d : Nat} {x0 x1 x2 x3 x5 : Int} {U : am_U} {R : Option am_V × am_M} (h : ((x5 < 0) → ((x1 = 0) → EvK N X (Nm_isPrime_s54 d x0 0 (w32 (x2 + 1)) U) R) ∧ ((x1 ≠ 0) → ((x3 ≠ 1) → EvK N X (Nm_isPrime_s54 d x0 0 (w32 (x2 + 1)) U) R) ∧ ((x3 = 1) → EvK N X (Nm_isPrime_s54 d x0 1 (w32 (x2 + 1)) U) R))) ∧ ((0 ≤ x5) → x0 ≠ 0 ∧ ((x1 = 0) → (((am_and (am_shr (w32 (x0 - 1)) x5) 1) ≠ 1) → EvK N X (Nm_isPrime_s79 d x0 0 x2 (Int.tmod (w64 (x3 * x3)) x0) (w32 (x5 + (-1))) U) R) ∧ (((am_and (am_shr (w32 (x0 - 1)) x5) 1) = 1) → (0 ≤ x2 ∧ x2 < 3) ∧ x0 ≠ 0 ∧ EvK N X (Nm_isPrime_s79 d x0 0 x2 (Int.tmod (w64 ((Int.tmod (w64 (x3 * x3)) x0) * (am_wi x2.toNat))) x0) (w32 (x5 + (-1))) U) R)) ∧ ((x1 ≠ 0) → (((Int.tmod (w64 (x3 * x3)) x0) ≠ 1) → (((am_and (am_shr (w32 (x0 - 1)) x5) 1) ≠ 1) → EvK N X (Nm_isPrime_s79 d x0 1 x2 (Int.tmod (w64 (x3 * x3)) x0) (w32 (x5 + (-1))) U) R) ∧ (((am_and (am_shr (w32 (x0 - 1)) x5) 1) = 1) → (0 ≤ x2 ∧ x2 < 3) ∧ x0 ≠ 0 ∧ EvK N X (Nm_isPrime_s79 d x0 1 x2 (Int.tmod (w64 ((Int.tmod (w64 (x3 * x3)) x0) * (am_wi x2.toNat))) x0) (w32 (x5 + (-1))) U) R)) ∧ (((Int.tmod (w64 (x3 * x3)) x0) = 1) → ((x3 = 1) → (((am_and (am_shr (w32 (x0 - 1)) x5) 1) ≠ 1) → EvK N X (Nm_isPrime_s79 d x0 1 x2 (Int.tmod (w64 (x3 * x3)) x0) (w32 (x5 + (-1))) U) R) ∧ (((am_and (am_shr (w32 (x0 - 1)) x5) 1) = 1) → (0 ≤ x2 ∧ x2 < 3) ∧ x0 ≠ 0 ∧ EvK N X (Nm_isPrime_s79 d x0 1 x2 (Int.tmod (w64 ((Int.tmod (w64 (x3 * x3)) x0) * (am_wi x2.toNat))) x0) (w32 (x5 + (-1))) U) R)) ∧ ((x3 ≠ 1) → ((x3 ≠ (w32 (x0 - 1))) → (((am_and (am_shr (w32 (x0 - 1)) x5) 1) ≠ 1) → EvK N X (Nm_isPrime_s79 d x0 0 x2 (Int.tmod (w64 (x3 * x3)) x0) (w32 (x5 + (-1))) U) R) ∧ (((am_and (am_shr (w32 (x0 - 1)) x5) 1) = 1) → (0 ≤ x2 ∧ x2 < 3) ∧ x0 ≠ 0 ∧ EvK N X (Nm_isPrime_s79 d x0 0 x2 (Int.tmod (w64 ((Int.tmod (w64 (x3 * x3)) x0) * (am_wi x2.toNat))) x0) (w32 (x5 + (-1))) U) R)) ∧ ((x3 = (w32 (x0 - 1))) → (((am_and (am_shr (w32 (x0 - 1)) x5) 1) ≠ 1) → EvK N X (Nm_isPrime_s79 d x0 1 x2 (Int.tmod (w64 (x3 * x3)) x0) (w32 (x5 + (-1))) U) R) ∧ (((am_and (am_shr (w32 (x0 - 1)) x5) 1) = 1) → (0 ≤ x2 ∧ x2 < 3) ∧ x0 ≠ 0 ∧ EvK N X (Nm_isPrime_s79 d x0 1 x2 (Int.tmod (w64 ((Int.tmod (w64 (x3 * x3)) x0) * (am_wi x2.toNat))) x0) (w32 (x5 + (-1))) U) R))))))) : EvK N X (Nm_isPrime_s79 d x0 x1 x2 x3 x5 U) R := by
  show Ev (am_kz N X) (d, 118, 79, [some (.inl x0), some (.inl x1), some (.inl x2), some (.inr (.inl x3)), none, some (.inl x5), none, none], [], (am_sh, am_mm U)) R
  refine ev_br (P := x5 < 0) (σ1 := (d, 118, 160, [some (.inl x0), some (.inl x1), some (.inl x2), some (.inr (.inl x3)), none, some (.inl x5), none, none], [], (am_sh, am_mm U))) (σ2 := (d, 118, 84, [some (.inl x0), some (.inl x1), some (.inl x2), some (.inr (.inl x3)), none, some (.inl x5), none, none], [], (am_sh, am_mm U))) 2 (fun _ => rfl) (fun hc => ?_) (fun hc => ?_)
  · have h1 := h.1 hc
    refine ev_br (P := x1 = 0) (σ1 := (d, 118, 174, [some (.inl x0), some (.inl x1), some (.inl x2), some (.inr (.inl x3)), none, some (.inl x5), none, none], [], (am_sh, am_mm U))) (σ2 := (d, 118, 164, [some (.inl x0), some (.inl x1), some (.inl x2), some (.inr (.inl x3)), none, some (.inl x5), none, none], [], (am_sh, am_mm U))) 2 (fun _ => rfl) (fun hc => ?_) (fun hc => ?_)
    · have h11 := h1.1 hc
      refine ev_seg (σ1 := (d, 118, 54, [some (.inl x0), some (.inl 0), some (.inl (w32 (x2 + 1))), some (.inr (.inl x3)), none, some (.inl x5), none, none], [], (am_sh, am_mm U))) 4 (fun _ => rfl) ?_
      exact ev_le (L := [some (.inl x0), some (.inl 0), some (.inl (w32 (x2 + 1))), none, none, none, none, none]) ⟨rfl, ⟨rfl, ⟨rfl, trivial⟩⟩⟩ h11
    · have h12 := h1.2 hc
      refine ev_br (P := ¬ (am_lcmp x3 1) = 0) (σ1 := (d, 118, 174, [some (.inl x0), some (.inl x1), some (.inl x2), some (.inr (.inl x3)), none, some (.inl x5), none, none], [], (am_sh, am_mm U))) (σ2 := (d, 118, 170, [some (.inl x0), some (.inl x1), some (.inl x2), some (.inr (.inl x3)), none, some (.inl x5), none, none], [], (am_sh, am_mm U))) 4 (fun _ => rfl) (fun hc => ?_) (fun hc => ?_)
      · have h121 := h12.1 ((am_lc_ne x3 1).mp hc)
        refine ev_seg (σ1 := (d, 118, 54, [some (.inl x0), some (.inl 0), some (.inl (w32 (x2 + 1))), some (.inr (.inl x3)), none, some (.inl x5), none, none], [], (am_sh, am_mm U))) 4 (fun _ => rfl) ?_
        exact ev_le (L := [some (.inl x0), some (.inl 0), some (.inl (w32 (x2 + 1))), none, none, none, none, none]) ⟨rfl, ⟨rfl, ⟨rfl, trivial⟩⟩⟩ h121
      · have h122 := h12.2 ((am_lcn_ne x3 1).mp hc)
        refine ev_seg (σ1 := (d, 118, 54, [some (.inl x0), some (.inl 1), some (.inl (w32 (x2 + 1))), some (.inr (.inl x3)), none, some (.inl x5), none, none], [], (am_sh, am_mm U))) 5 (fun _ => rfl) ?_
        exact ev_le (L := [some (.inl x0), some (.inl 1), some (.inl (w32 (x2 + 1))), none, none, none, none, none]) ⟨rfl, ⟨rfl, ⟨rfl, trivial⟩⟩⟩ h122
  · have h2 := h.2 (Int.not_lt.mp hc)
    refine ev_seg (σ1 := (d, 118, 89, [some (.inl x0), some (.inl x1), some (.inl x2), some (.inr (.inl x3)), none, some (.inl x5), none, none], [.inr (.inl x0), .inr (.inl (w64 (x3 * x3)))], (am_sh, am_mm U))) 5 (fun _ => rfl) ?_
    refine ev_lrem rfl h2.1 ?_
    show Ev (am_kz N X) (d, 118, 90, [some (.inl x0), some (.inl x1), some (.inl x2), some (.inr (.inl x3)), none, some (.inl x5), none, none], [.inr (.inl (Int.tmod (w64 (x3 * x3)) x0))], (am_sh, am_mm U)) R
    have h2a := h2.2
    refine ev_br (P := x1 = 0) (σ1 := (d, 118, 122, [some (.inl x0), some (.inl x1), some (.inl x2), some (.inr (.inl x3)), none, some (.inl x5), some (.inr (.inl (Int.tmod (w64 (x3 * x3)) x0))), none], [], (am_sh, am_mm U))) (σ2 := (d, 118, 96, [some (.inl x0), some (.inl x1), some (.inl x2), some (.inr (.inl x3)), none, some (.inl x5), some (.inr (.inl (Int.tmod (w64 (x3 * x3)) x0))), none], [], (am_sh, am_mm U))) 3 (fun _ => rfl) (fun hc => ?_) (fun hc => ?_)
    · have h2a1 := h2a.1 hc
      refine ev_br (P := ¬ (am_and (am_shr (w32 (x0 - 1)) x5) 1) = 1) (σ1 := (d, 118, 151, [some (.inl x0), some (.inl 0), some (.inl x2), some (.inr (.inl x3)), none, some (.inl x5), some (.inr (.inl (Int.tmod (w64 (x3 * x3)) x0))), none], [], (am_sh, am_mm U))) (σ2 := (d, 118, 136, [some (.inl x0), some (.inl 0), some (.inl x2), some (.inr (.inl x3)), none, some (.inl x5), some (.inr (.inl (Int.tmod (w64 (x3 * x3)) x0))), none], [], (am_sh, am_mm U))) 11 (fun _ => rfl) (fun hc => ?_) (fun hc => ?_)
      · have h2a11 := h2a1.1 hc
        refine ev_seg (σ1 := (d, 118, 79, [some (.inl x0), some (.inl 0), some (.inl x2), some (.inr (.inl (Int.tmod (w64 (x3 * x3)) x0))), none, some (.inl (w32 (x5 + (-1)))), some (.inr (.inl (Int.tmod (w64 (x3 * x3)) x0))), none], [], (am_sh, am_mm U))) 4 (fun _ => rfl) ?_
        exact ev_le (L := [some (.inl x0), some (.inl 0), some (.inl x2), some (.inr (.inl (Int.tmod (w64 (x3 * x3)) x0))), none, some (.inl (w32 (x5 + (-1)))), none, none]) ⟨rfl, ⟨rfl, ⟨rfl, ⟨rfl, ⟨rfl, trivial⟩⟩⟩⟩⟩ h2a11
      · have h2a12 := h2a1.2 (Decidable.not_not.mp hc)
        refine ev_seg (σ1 := (d, 118, 142, [some (.inl x0), some (.inl 0), some (.inl x2), some (.inr (.inl x3)), none, some (.inl x5), some (.inr (.inl (Int.tmod (w64 (x3 * x3)) x0))), none], [.inl x2, .inr (.inr (-5)), .inr (.inl (Int.tmod (w64 (x3 * x3)) x0))], (am_sh, am_mm U))) 3 (fun _ => rfl) ?_
        refine ev_iaz (f := am_wi) (n := 3) rfl (by decide) rfl h2a12.1 ?_
        show Ev (am_kz N X) (d, 118, 143, [some (.inl x0), some (.inl 0), some (.inl x2), some (.inr (.inl x3)), none, some (.inl x5), some (.inr (.inl (Int.tmod (w64 (x3 * x3)) x0))), none], [.inl (am_wi x2.toNat), .inr (.inl (Int.tmod (w64 (x3 * x3)) x0))], (am_sh, am_mm U)) R
        have h2a12a := h2a12.2
        refine ev_seg (σ1 := (d, 118, 147, [some (.inl x0), some (.inl 0), some (.inl x2), some (.inr (.inl x3)), none, some (.inl x5), some (.inr (.inl (Int.tmod (w64 (x3 * x3)) x0))), none], [.inr (.inl x0), .inr (.inl (w64 ((Int.tmod (w64 (x3 * x3)) x0) * (am_wi x2.toNat))))], (am_sh, am_mm U))) 4 (fun _ => rfl) ?_
        refine ev_lrem rfl h2a12a.1 ?_
        show Ev (am_kz N X) (d, 118, 148, [some (.inl x0), some (.inl 0), some (.inl x2), some (.inr (.inl x3)), none, some (.inl x5), some (.inr (.inl (Int.tmod (w64 (x3 * x3)) x0))), none], [.inr (.inl (Int.tmod (w64 ((Int.tmod (w64 (x3 * x3)) x0) * (am_wi x2.toNat))) x0))], (am_sh, am_mm U)) R
        have h2a12aa := h2a12a.2
        refine ev_seg (σ1 := (d, 118, 79, [some (.inl x0), some (.inl 0), some (.inl x2), some (.inr (.inl (Int.tmod (w64 ((Int.tmod (w64 (x3 * x3)) x0) * (am_wi x2.toNat))) x0))), none, some (.inl (w32 (x5 + (-1)))), some (.inr (.inl (Int.tmod (w64 (x3 * x3)) x0))), none], [], (am_sh, am_mm U))) 4 (fun _ => rfl) ?_
        exact ev_le (L := [some (.inl x0), some (.inl 0), some (.inl x2), some (.inr (.inl (Int.tmod (w64 ((Int.tmod (w64 (x3 * x3)) x0) * (am_wi x2.toNat))) x0))), none, some (.inl (w32 (x5 + (-1)))), none, none]) ⟨rfl, ⟨rfl, ⟨rfl, ⟨rfl, ⟨rfl, trivial⟩⟩⟩⟩⟩ h2a12aa
    · have h2a2 := h2a.2 hc
      refine ev_br (P := ¬ (am_lcmp (Int.tmod (w64 (x3 * x3)) x0) 1) = 0) (σ1 := (d, 118, 118, [some (.inl x0), some (.inl x1), some (.inl x2), some (.inr (.inl x3)), none, some (.inl x5), some (.inr (.inl (Int.tmod (w64 (x3 * x3)) x0))), none], [], (am_sh, am_mm U))) (σ2 := (d, 118, 103, [some (.inl x0), some (.inl x1), some (.inl x2), some (.inr (.inl x3)), none, some (.inl x5), some (.inr (.inl (Int.tmod (w64 (x3 * x3)) x0))), none], [], (am_sh, am_mm U))) 4 (fun _ => rfl) (fun hc => ?_) (fun hc => ?_)
      · have h2a21 := h2a2.1 ((am_lc_ne (Int.tmod (w64 (x3 * x3)) x0) 1).mp hc)
        refine ev_br (P := ¬ (am_and (am_shr (w32 (x0 - 1)) x5) 1) = 1) (σ1 := (d, 118, 151, [some (.inl x0), some (.inl 1), some (.inl x2), some (.inr (.inl x3)), none, some (.inl x5), some (.inr (.inl (Int.tmod (w64 (x3 * x3)) x0))), none], [], (am_sh, am_mm U))) (σ2 := (d, 118, 136, [some (.inl x0), some (.inl 1), some (.inl x2), some (.inr (.inl x3)), none, some (.inl x5), some (.inr (.inl (Int.tmod (w64 (x3 * x3)) x0))), none], [], (am_sh, am_mm U))) 12 (fun _ => rfl) (fun hc => ?_) (fun hc => ?_)
        · have h2a211 := h2a21.1 hc
          refine ev_seg (σ1 := (d, 118, 79, [some (.inl x0), some (.inl 1), some (.inl x2), some (.inr (.inl (Int.tmod (w64 (x3 * x3)) x0))), none, some (.inl (w32 (x5 + (-1)))), some (.inr (.inl (Int.tmod (w64 (x3 * x3)) x0))), none], [], (am_sh, am_mm U))) 4 (fun _ => rfl) ?_
          exact ev_le (L := [some (.inl x0), some (.inl 1), some (.inl x2), some (.inr (.inl (Int.tmod (w64 (x3 * x3)) x0))), none, some (.inl (w32 (x5 + (-1)))), none, none]) ⟨rfl, ⟨rfl, ⟨rfl, ⟨rfl, ⟨rfl, trivial⟩⟩⟩⟩⟩ h2a211
        · have h2a212 := h2a21.2 (Decidable.not_not.mp hc)
          refine ev_seg (σ1 := (d, 118, 142, [some (.inl x0), some (.inl 1), some (.inl x2), some (.inr (.inl x3)), none, some (.inl x5), some (.inr (.inl (Int.tmod (w64 (x3 * x3)) x0))), none], [.inl x2, .inr (.inr (-5)), .inr (.inl (Int.tmod (w64 (x3 * x3)) x0))], (am_sh, am_mm U))) 3 (fun _ => rfl) ?_
          refine ev_iaz (f := am_wi) (n := 3) rfl (by decide) rfl h2a212.1 ?_
          show Ev (am_kz N X) (d, 118, 143, [some (.inl x0), some (.inl 1), some (.inl x2), some (.inr (.inl x3)), none, some (.inl x5), some (.inr (.inl (Int.tmod (w64 (x3 * x3)) x0))), none], [.inl (am_wi x2.toNat), .inr (.inl (Int.tmod (w64 (x3 * x3)) x0))], (am_sh, am_mm U)) R
          have h2a212a := h2a212.2
          refine ev_seg (σ1 := (d, 118, 147, [some (.inl x0), some (.inl 1), some (.inl x2), some (.inr (.inl x3)), none, some (.inl x5), some (.inr (.inl (Int.tmod (w64 (x3 * x3)) x0))), none], [.inr (.inl x0), .inr (.inl (w64 ((Int.tmod (w64 (x3 * x3)) x0) * (am_wi x2.toNat))))], (am_sh, am_mm U))) 4 (fun _ => rfl) ?_
          refine ev_lrem rfl h2a212a.1 ?_
          show Ev (am_kz N X) (d, 118, 148, [some (.inl x0), some (.inl 1), some (.inl x2), some (.inr (.inl x3)), none, some (.inl x5), some (.inr (.inl (Int.tmod (w64 (x3 * x3)) x0))), none], [.inr (.inl (Int.tmod (w64 ((Int.tmod (w64 (x3 * x3)) x0) * (am_wi x2.toNat))) x0))], (am_sh, am_mm U)) R
          have h2a212aa := h2a212a.2
          refine ev_seg (σ1 := (d, 118, 79, [some (.inl x0), some (.inl 1), some (.inl x2), some (.inr (.inl (Int.tmod (w64 ((Int.tmod (w64 (x3 * x3)) x0) * (am_wi x2.toNat))) x0))), none, some (.inl (w32 (x5 + (-1)))), some (.inr (.inl (Int.tmod (w64 (x3 * x3)) x0))), none], [], (am_sh, am_mm U))) 4 (fun _ => rfl) ?_
          exact ev_le (L := [some (.inl x0), some (.inl 1), some (.inl x2), some (.inr (.inl (Int.tmod (w64 ((Int.tmod (w64 (x3 * x3)) x0) * (am_wi x2.toNat))) x0))), none, some (.inl (w32 (x5 + (-1)))), none, none]) ⟨rfl, ⟨rfl, ⟨rfl, ⟨rfl, ⟨rfl, trivial⟩⟩⟩⟩⟩ h2a212aa
      · have h2a22 := h2a2.2 ((am_lcn_ne (Int.tmod (w64 (x3 * x3)) x0) 1).mp hc)
        refine ev_br (P := (am_lcmp x3 1) = 0) (σ1 := (d, 118, 118, [some (.inl x0), some (.inl x1), some (.inl x2), some (.inr (.inl x3)), none, some (.inl x5), some (.inr (.inl (Int.tmod (w64 (x3 * x3)) x0))), none], [], (am_sh, am_mm U))) (σ2 := (d, 118, 109, [some (.inl x0), some (.inl x1), some (.inl x2), some (.inr (.inl x3)), none, some (.inl x5), some (.inr (.inl (Int.tmod (w64 (x3 * x3)) x0))), none], [], (am_sh, am_mm U))) 4 (fun _ => rfl) (fun hc => ?_) (fun hc => ?_)
        · have h2a221 := h2a22.1 ((am_lc_eq x3 1).mp hc)
          refine ev_br (P := ¬ (am_and (am_shr (w32 (x0 - 1)) x5) 1) = 1) (σ1 := (d, 118, 151, [some (.inl x0), some (.inl 1), some (.inl x2), some (.inr (.inl x3)), none, some (.inl x5), some (.inr (.inl (Int.tmod (w64 (x3 * x3)) x0))), none], [], (am_sh, am_mm U))) (σ2 := (d, 118, 136, [some (.inl x0), some (.inl 1), some (.inl x2), some (.inr (.inl x3)), none, some (.inl x5), some (.inr (.inl (Int.tmod (w64 (x3 * x3)) x0))), none], [], (am_sh, am_mm U))) 12 (fun _ => rfl) (fun hc => ?_) (fun hc => ?_)
          · have h2a2211 := h2a221.1 hc
            refine ev_seg (σ1 := (d, 118, 79, [some (.inl x0), some (.inl 1), some (.inl x2), some (.inr (.inl (Int.tmod (w64 (x3 * x3)) x0))), none, some (.inl (w32 (x5 + (-1)))), some (.inr (.inl (Int.tmod (w64 (x3 * x3)) x0))), none], [], (am_sh, am_mm U))) 4 (fun _ => rfl) ?_
            exact ev_le (L := [some (.inl x0), some (.inl 1), some (.inl x2), some (.inr (.inl (Int.tmod (w64 (x3 * x3)) x0))), none, some (.inl (w32 (x5 + (-1)))), none, none]) ⟨rfl, ⟨rfl, ⟨rfl, ⟨rfl, ⟨rfl, trivial⟩⟩⟩⟩⟩ h2a2211
          · have h2a2212 := h2a221.2 (Decidable.not_not.mp hc)
            refine ev_seg (σ1 := (d, 118, 142, [some (.inl x0), some (.inl 1), some (.inl x2), some (.inr (.inl x3)), none, some (.inl x5), some (.inr (.inl (Int.tmod (w64 (x3 * x3)) x0))), none], [.inl x2, .inr (.inr (-5)), .inr (.inl (Int.tmod (w64 (x3 * x3)) x0))], (am_sh, am_mm U))) 3 (fun _ => rfl) ?_
            refine ev_iaz (f := am_wi) (n := 3) rfl (by decide) rfl h2a2212.1 ?_
            show Ev (am_kz N X) (d, 118, 143, [some (.inl x0), some (.inl 1), some (.inl x2), some (.inr (.inl x3)), none, some (.inl x5), some (.inr (.inl (Int.tmod (w64 (x3 * x3)) x0))), none], [.inl (am_wi x2.toNat), .inr (.inl (Int.tmod (w64 (x3 * x3)) x0))], (am_sh, am_mm U)) R
            have h2a2212a := h2a2212.2
            refine ev_seg (σ1 := (d, 118, 147, [some (.inl x0), some (.inl 1), some (.inl x2), some (.inr (.inl x3)), none, some (.inl x5), some (.inr (.inl (Int.tmod (w64 (x3 * x3)) x0))), none], [.inr (.inl x0), .inr (.inl (w64 ((Int.tmod (w64 (x3 * x3)) x0) * (am_wi x2.toNat))))], (am_sh, am_mm U))) 4 (fun _ => rfl) ?_
            refine ev_lrem rfl h2a2212a.1 ?_
            show Ev (am_kz N X) (d, 118, 148, [some (.inl x0), some (.inl 1), some (.inl x2), some (.inr (.inl x3)), none, some (.inl x5), some (.inr (.inl (Int.tmod (w64 (x3 * x3)) x0))), none], [.inr (.inl (Int.tmod (w64 ((Int.tmod (w64 (x3 * x3)) x0) * (am_wi x2.toNat))) x0))], (am_sh, am_mm U)) R
            have h2a2212aa := h2a2212a.2
            refine ev_seg (σ1 := (d, 118, 79, [some (.inl x0), some (.inl 1), some (.inl x2), some (.inr (.inl (Int.tmod (w64 ((Int.tmod (w64 (x3 * x3)) x0) * (am_wi x2.toNat))) x0))), none, some (.inl (w32 (x5 + (-1)))), some (.inr (.inl (Int.tmod (w64 (x3 * x3)) x0))), none], [], (am_sh, am_mm U))) 4 (fun _ => rfl) ?_
            exact ev_le (L := [some (.inl x0), some (.inl 1), some (.inl x2), some (.inr (.inl (Int.tmod (w64 ((Int.tmod (w64 (x3 * x3)) x0) * (am_wi x2.toNat))) x0))), none, some (.inl (w32 (x5 + (-1)))), none, none]) ⟨rfl, ⟨rfl, ⟨rfl, ⟨rfl, ⟨rfl, trivial⟩⟩⟩⟩⟩ h2a2212aa
        · have h2a222 := h2a22.2 ((am_lcn_eq x3 1).mp hc)
          refine ev_br (P := ¬ (am_lcmp x3 (w32 (x0 - 1))) = 0) (σ1 := (d, 118, 122, [some (.inl x0), some (.inl x1), some (.inl x2), some (.inr (.inl x3)), none, some (.inl x5), some (.inr (.inl (Int.tmod (w64 (x3 * x3)) x0))), none], [], (am_sh, am_mm U))) (σ2 := (d, 118, 118, [some (.inl x0), some (.inl x1), some (.inl x2), some (.inr (.inl x3)), none, some (.inl x5), some (.inr (.inl (Int.tmod (w64 (x3 * x3)) x0))), none], [], (am_sh, am_mm U))) 7 (fun _ => rfl) (fun hc => ?_) (fun hc => ?_)
          · have h2a2221 := h2a222.1 ((am_lc_ne x3 (w32 (x0 - 1))).mp hc)
            refine ev_br (P := ¬ (am_and (am_shr (w32 (x0 - 1)) x5) 1) = 1) (σ1 := (d, 118, 151, [some (.inl x0), some (.inl 0), some (.inl x2), some (.inr (.inl x3)), none, some (.inl x5), some (.inr (.inl (Int.tmod (w64 (x3 * x3)) x0))), none], [], (am_sh, am_mm U))) (σ2 := (d, 118, 136, [some (.inl x0), some (.inl 0), some (.inl x2), some (.inr (.inl x3)), none, some (.inl x5), some (.inr (.inl (Int.tmod (w64 (x3 * x3)) x0))), none], [], (am_sh, am_mm U))) 11 (fun _ => rfl) (fun hc => ?_) (fun hc => ?_)
            · have h2a22211 := h2a2221.1 hc
              refine ev_seg (σ1 := (d, 118, 79, [some (.inl x0), some (.inl 0), some (.inl x2), some (.inr (.inl (Int.tmod (w64 (x3 * x3)) x0))), none, some (.inl (w32 (x5 + (-1)))), some (.inr (.inl (Int.tmod (w64 (x3 * x3)) x0))), none], [], (am_sh, am_mm U))) 4 (fun _ => rfl) ?_
              exact ev_le (L := [some (.inl x0), some (.inl 0), some (.inl x2), some (.inr (.inl (Int.tmod (w64 (x3 * x3)) x0))), none, some (.inl (w32 (x5 + (-1)))), none, none]) ⟨rfl, ⟨rfl, ⟨rfl, ⟨rfl, ⟨rfl, trivial⟩⟩⟩⟩⟩ h2a22211
            · have h2a22212 := h2a2221.2 (Decidable.not_not.mp hc)
              refine ev_seg (σ1 := (d, 118, 142, [some (.inl x0), some (.inl 0), some (.inl x2), some (.inr (.inl x3)), none, some (.inl x5), some (.inr (.inl (Int.tmod (w64 (x3 * x3)) x0))), none], [.inl x2, .inr (.inr (-5)), .inr (.inl (Int.tmod (w64 (x3 * x3)) x0))], (am_sh, am_mm U))) 3 (fun _ => rfl) ?_
              refine ev_iaz (f := am_wi) (n := 3) rfl (by decide) rfl h2a22212.1 ?_
              show Ev (am_kz N X) (d, 118, 143, [some (.inl x0), some (.inl 0), some (.inl x2), some (.inr (.inl x3)), none, some (.inl x5), some (.inr (.inl (Int.tmod (w64 (x3 * x3)) x0))), none], [.inl (am_wi x2.toNat), .inr (.inl (Int.tmod (w64 (x3 * x3)) x0))], (am_sh, am_mm U)) R
              have h2a22212a := h2a22212.2
              refine ev_seg (σ1 := (d, 118, 147, [some (.inl x0), some (.inl 0), some (.inl x2), some (.inr (.inl x3)), none, some (.inl x5), some (.inr (.inl (Int.tmod (w64 (x3 * x3)) x0))), none], [.inr (.inl x0), .inr (.inl (w64 ((Int.tmod (w64 (x3 * x3)) x0) * (am_wi x2.toNat))))], (am_sh, am_mm U))) 4 (fun _ => rfl) ?_
              refine ev_lrem rfl h2a22212a.1 ?_
              show Ev (am_kz N X) (d, 118, 148, [some (.inl x0), some (.inl 0), some (.inl x2), some (.inr (.inl x3)), none, some (.inl x5), some (.inr (.inl (Int.tmod (w64 (x3 * x3)) x0))), none], [.inr (.inl (Int.tmod (w64 ((Int.tmod (w64 (x3 * x3)) x0) * (am_wi x2.toNat))) x0))], (am_sh, am_mm U)) R
              have h2a22212aa := h2a22212a.2
              refine ev_seg (σ1 := (d, 118, 79, [some (.inl x0), some (.inl 0), some (.inl x2), some (.inr (.inl (Int.tmod (w64 ((Int.tmod (w64 (x3 * x3)) x0) * (am_wi x2.toNat))) x0))), none, some (.inl (w32 (x5 + (-1)))), some (.inr (.inl (Int.tmod (w64 (x3 * x3)) x0))), none], [], (am_sh, am_mm U))) 4 (fun _ => rfl) ?_
              exact ev_le (L := [some (.inl x0), some (.inl 0), some (.inl x2), some (.inr (.inl (Int.tmod (w64 ((Int.tmod (w64 (x3 * x3)) x0) * (am_wi x2.toNat))) x0))), none, some (.inl (w32 (x5 + (-1)))), none, none]) ⟨rfl, ⟨rfl, ⟨rfl, ⟨rfl, ⟨rfl, trivial⟩⟩⟩⟩⟩ h2a22212aa
          · have h2a2222 := h2a222.2 ((am_lcn_ne x3 (w32 (x0 - 1))).mp hc)
            refine ev_br (P := ¬ (am_and (am_shr (w32 (x0 - 1)) x5) 1) = 1) (σ1 := (d, 118, 151, [some (.inl x0), some (.inl 1), some (.inl x2), some (.inr (.inl x3)), none, some (.inl x5), some (.inr (.inl (Int.tmod (w64 (x3 * x3)) x0))), none], [], (am_sh, am_mm U))) (σ2 := (d, 118, 136, [some (.inl x0), some (.inl 1), some (.inl x2), some (.inr (.inl x3)), none, some (.inl x5), some (.inr (.inl (Int.tmod (w64 (x3 * x3)) x0))), none], [], (am_sh, am_mm U))) 12 (fun _ => rfl) (fun hc => ?_) (fun hc => ?_)
            · have h2a22221 := h2a2222.1 hc
              refine ev_seg (σ1 := (d, 118, 79, [some (.inl x0), some (.inl 1), some (.inl x2), some (.inr (.inl (Int.tmod (w64 (x3 * x3)) x0))), none, some (.inl (w32 (x5 + (-1)))), some (.inr (.inl (Int.tmod (w64 (x3 * x3)) x0))), none], [], (am_sh, am_mm U))) 4 (fun _ => rfl) ?_
              exact ev_le (L := [some (.inl x0), some (.inl 1), some (.inl x2), some (.inr (.inl (Int.tmod (w64 (x3 * x3)) x0))), none, some (.inl (w32 (x5 + (-1)))), none, none]) ⟨rfl, ⟨rfl, ⟨rfl, ⟨rfl, ⟨rfl, trivial⟩⟩⟩⟩⟩ h2a22221
            · have h2a22222 := h2a2222.2 (Decidable.not_not.mp hc)
              refine ev_seg (σ1 := (d, 118, 142, [some (.inl x0), some (.inl 1), some (.inl x2), some (.inr (.inl x3)), none, some (.inl x5), some (.inr (.inl (Int.tmod (w64 (x3 * x3)) x0))), none], [.inl x2, .inr (.inr (-5)), .inr (.inl (Int.tmod (w64 (x3 * x3)) x0))], (am_sh, am_mm U))) 3 (fun _ => rfl) ?_
              refine ev_iaz (f := am_wi) (n := 3) rfl (by decide) rfl h2a22222.1 ?_
              show Ev (am_kz N X) (d, 118, 143, [some (.inl x0), some (.inl 1), some (.inl x2), some (.inr (.inl x3)), none, some (.inl x5), some (.inr (.inl (Int.tmod (w64 (x3 * x3)) x0))), none], [.inl (am_wi x2.toNat), .inr (.inl (Int.tmod (w64 (x3 * x3)) x0))], (am_sh, am_mm U)) R
              have h2a22222a := h2a22222.2
              refine ev_seg (σ1 := (d, 118, 147, [some (.inl x0), some (.inl 1), some (.inl x2), some (.inr (.inl x3)), none, some (.inl x5), some (.inr (.inl (Int.tmod (w64 (x3 * x3)) x0))), none], [.inr (.inl x0), .inr (.inl (w64 ((Int.tmod (w64 (x3 * x3)) x0) * (am_wi x2.toNat))))], (am_sh, am_mm U))) 4 (fun _ => rfl) ?_
              refine ev_lrem rfl h2a22222a.1 ?_
              show Ev (am_kz N X) (d, 118, 148, [some (.inl x0), some (.inl 1), some (.inl x2), some (.inr (.inl x3)), none, some (.inl x5), some (.inr (.inl (Int.tmod (w64 (x3 * x3)) x0))), none], [.inr (.inl (Int.tmod (w64 ((Int.tmod (w64 (x3 * x3)) x0) * (am_wi x2.toNat))) x0))], (am_sh, am_mm U)) R
              have h2a22222aa := h2a22222a.2
              refine ev_seg (σ1 := (d, 118, 79, [some (.inl x0), some (.inl 1), some (.inl x2), some (.inr (.inl (Int.tmod (w64 ((Int.tmod (w64 (x3 * x3)) x0) * (am_wi x2.toNat))) x0))), none, some (.inl (w32 (x5 + (-1)))), some (.inr (.inl (Int.tmod (w64 (x3 * x3)) x0))), none], [], (am_sh, am_mm U))) 4 (fun _ => rfl) ?_
              exact ev_le (L := [some (.inl x0), some (.inl 1), some (.inl x2), some (.inr (.inl (Int.tmod (w64 ((Int.tmod (w64 (x3 * x3)) x0) * (am_wi x2.toNat))) x0))), none, some (.inl (w32 (x5 + (-1)))), none, none]) ⟨rfl, ⟨rfl, ⟨rfl, ⟨rfl, ⟨rfl, trivial⟩⟩⟩⟩⟩ h2a22222aa
set_option maxRecDepth 8000 in
theorem Fk_partsFor_r0 {N : Nat} {X : Nat → Int} {d : Nat} {x1 : Int} {U : am_U} {R : Option am_V × am_M} (h : (0 ≤ x1 ∧ x1 < 16) ∧ ((0 ≤ (U 20 x1.toNat)) → R = rJ (U 20 x1.toNat) U) ∧ (((U 20 x1.toNat) < 0) → ∃ (r1 : Int) (U1 : am_U), EvK N X (Nm_partsOf_s0 d (if 0 ≤ (U 17 x1.toNat) then (U 17 x1.toNat) else w32 (-(U 17 x1.toNat))) U) (rJ r1 U1) ∧ R = rJ ((am_upd U1 20 x1.toNat r1) 20 x1.toNat) (am_upd U1 20 x1.toNat r1))) : EvK N X (Fk_partsFor_s0 (d + 1) x1 U) R := by
  show Ev (am_kz N X) ((d + 1), 119, 0, [some (.inr (.inr 16)), some (.inl x1)], [], (am_sh, am_mm U)) R
  refine ev_seg (σ1 := ((d + 1), 119, 5, [some (.inr (.inr 16)), some (.inl x1)], [.inl x1, .inr (.inr 20)], (am_sh, am_mm U))) 3 (fun _ => rfl) ?_
  refine eu_lald 20 (n := 16) rfl (by decide) rfl (fun _ => rfl) h.1 ?_
  show Ev (am_kz N X) ((d + 1), 119, 6, [some (.inr (.inr 16)), some (.inl x1)], [.inr (.inl (U 20 x1.toNat))], (am_sh, am_mm U)) R
  have ha := h.2
  refine ev_br (P := 0 ≤ (am_lcmp (U 20 x1.toNat) 0)) (σ1 := ((d + 1), 119, 29, [some (.inr (.inr 16)), some (.inl x1)], [], (am_sh, am_mm U))) (σ2 := ((d + 1), 119, 11, [some (.inr (.inr 16)), some (.inl x1)], [], (am_sh, am_mm U))) 3 (fun _ => rfl) (fun hc => ?_) (fun hc => ?_)
  · have ha1 := ha.1 ((am_lc_ge (U 20 x1.toNat) 0).mp hc)
    refine ev_seg (σ1 := ((d + 1), 119, 34, [some (.inr (.inr 16)), some (.inl x1)], [.inl x1, .inr (.inr 20)], (am_sh, am_mm U))) 3 (fun _ => rfl) ?_
    refine eu_lald 20 (n := 16) rfl (by decide) rfl (fun _ => rfl) h.1 ?_
    show Ev (am_kz N X) ((d + 1), 119, 35, [some (.inr (.inr 16)), some (.inl x1)], [.inr (.inl (U 20 x1.toNat))], (am_sh, am_mm U)) R
    subst ha1
    exact ev_end 1 (fun _ => rfl)
  · have ha2 := ha.2 ((am_lcn_ge (U 20 x1.toNat) 0).mp hc)
    refine ev_seg (σ1 := ((d + 1), 119, 21, [some (.inr (.inr 16)), some (.inl x1)], [.inl x1, .inr (.inr 17), .inl x1, .inr (.inr 20)], (am_sh, am_mm U))) 6 (fun _ => rfl) ?_
    refine eu_iald 17 (n := 16) rfl (by decide) rfl (fun _ => rfl) h.1 ?_
    show Ev (am_kz N X) ((d + 1), 119, 22, [some (.inr (.inr 16)), some (.inl x1)], [.inl (U 17 x1.toNat), .inl x1, .inr (.inr 20)], (am_sh, am_mm U)) R
    refine ev_seg (σ1 := ((d + 1), 119, 25, [some (.inr (.inr 16)), some (.inl x1)], [.inl (if 0 ≤ (U 17 x1.toNat) then (U 17 x1.toNat) else w32 (-(U 17 x1.toNat))), .inl x1, .inr (.inr 20)], (am_sh, am_mm U))) 1 (fun _ => rfl) ?_
    obtain ⟨r1, U1, ha2c, ha2a⟩ := ha2
    refine ev_cal (σc := (Nm_partsOf_s0 d (if 0 ≤ (U 17 x1.toNat) then (U 17 x1.toNat) else w32 (-(U 17 x1.toNat))) U)) (fun _ => rfl) ha2c ?_
    show Ev (am_kz N X) ((d + 1), 119, 28, [some (.inr (.inr 16)), some (.inl x1)], [.inr (.inl r1), .inl x1, .inr (.inr 20)], (am_sh, am_mm U1)) R
    refine eu_last 20 (n := 16) rfl (by decide) rfl (fun _ => rfl) h.1 ?_
    show Ev (am_kz N X) ((d + 1), 119, 29, [some (.inr (.inr 16)), some (.inl x1)], [], (am_sh, am_mm (am_upd U1 20 x1.toNat r1))) R
    refine ev_seg (σ1 := ((d + 1), 119, 34, [some (.inr (.inr 16)), some (.inl x1)], [.inl x1, .inr (.inr 20)], (am_sh, am_mm (am_upd U1 20 x1.toNat r1)))) 3 (fun _ => rfl) ?_
    refine eu_lald 20 (n := 16) rfl (by decide) rfl (fun _ => rfl) h.1 ?_
    show Ev (am_kz N X) ((d + 1), 119, 35, [some (.inr (.inr 16)), some (.inl x1)], [.inr (.inl ((am_upd U1 20 x1.toNat r1) 20 x1.toNat))], (am_sh, am_mm (am_upd U1 20 x1.toNat r1))) R
    subst ha2a
    exact ev_end 1 (fun _ => rfl)
set_option maxRecDepth 8000 in
theorem M_sizeOf_r0 {N : Nat} {X : Nat → Int} {d : Nat} {x1 : Int} {U : am_U} {R : Option am_V × am_M} (h : (0 ≤ x1 ∧ x1 < 352) ∧ ∃ (r1 : Int) (U1 : am_U), EvK N X (M_size_s0 d (U 123 x1.toNat) U) (rJ r1 U1) ∧ R = rJ r1 U1) : EvK N X (M_sizeOf_s0 (d + 1) x1 U) R := by
  show Ev (am_kz N X) ((d + 1), 121, 0, [some (.inr (.inr 86)), some (.inl x1)], [], (am_sh, am_mm U)) R
  refine ev_seg (σ1 := ((d + 1), 121, 5, [some (.inr (.inr 86)), some (.inl x1)], [.inl x1, .inr (.inr 123)], (am_sh, am_mm U))) 3 (fun _ => rfl) ?_
  refine eu_iald 123 (n := 352) rfl (by decide) rfl (fun _ => rfl) h.1 ?_
  show Ev (am_kz N X) ((d + 1), 121, 6, [some (.inr (.inr 86)), some (.inl x1)], [.inl (U 123 x1.toNat)], (am_sh, am_mm U)) R
  have ha := h.2
  refine ev_seg (σ1 := ((d + 1), 121, 7, [some (.inr (.inr 86)), some (.inl x1)], [.inr (.inl (U 123 x1.toNat))], (am_sh, am_mm U))) 1 (fun _ => rfl) ?_
  obtain ⟨r1, U1, hac, haa⟩ := ha
  refine ev_cal (σc := (M_size_s0 d (U 123 x1.toNat) U)) (fun _ => rfl) hac ?_
  show Ev (am_kz N X) ((d + 1), 121, 10, [some (.inr (.inr 86)), some (.inl x1)], [.inr (.inl r1)], (am_sh, am_mm U1)) R
  subst haa
  exact ev_end 1 (fun _ => rfl)
set_option maxRecDepth 8000 in
theorem M_isPrime_r0 {N : Nat} {X : Nat → Int} {d : Nat} {x0 : Int} {U : am_U} {R : Option am_V × am_M} (h : ((x0 ≤ 1) → R = rI 0 U) ∧ ((1 < x0) → ∃ (r1 : Int) (U1 : am_U), EvK N X (M_passes_s0 d x0 2 U) (rI r1 U1) ∧ ((r1 = 0) → R = rI 0 U1) ∧ ((r1 ≠ 0) → ∃ (r2 : Int) (U2 : am_U), EvK N X (M_passes_s0 d x0 3 U1) (rI r2 U2) ∧ ((r2 = 0) → R = rI 0 U2) ∧ ((r2 ≠ 0) → ∃ (r3 : Int) (U3 : am_U), EvK N X (M_passes_s0 d x0 5 U2) (rI r3 U3) ∧ ((r3 = 0) → R = rI 0 U3) ∧ ((r3 ≠ 0) → ∃ (r4 : Int) (U4 : am_U), EvK N X (M_passes_s0 d x0 7 U3) (rI r4 U4) ∧ ((r4 = 0) → R = rI 0 U4) ∧ ((r4 ≠ 0) → R = rI 1 U4)))))) : EvK N X (M_isPrime_s0 (d + 1) x0 U) R := by
  show Ev (am_kz N X) ((d + 1), 122, 0, [some (.inr (.inl x0)), none], [], (am_sh, am_mm U)) R
  refine ev_br (P := (am_lcmp x0 1) ≤ 0) (σ1 := ((d + 1), 122, 50, [some (.inr (.inl x0)), none], [], (am_sh, am_mm U))) (σ2 := ((d + 1), 122, 6, [some (.inr (.inl x0)), none], [], (am_sh, am_mm U))) 4 (fun _ => rfl) (fun hc => ?_) (fun hc => ?_)
  · have h1 := h.1 ((am_lc_le x0 1).mp hc)
    subst h1
    exact ev_end 2 (fun _ => rfl)
  · have h2 := h.2 ((am_lcn_le x0 1).mp hc)
    refine ev_seg (σ1 := ((d + 1), 122, 10, [some (.inr (.inl x0)), none], [.inr (.inl 2), .inr (.inl x0)], (am_sh, am_mm U))) 2 (fun _ => rfl) ?_
    obtain ⟨r1, U1, h2c, h2a⟩ := h2
    refine ev_cal (σc := (M_passes_s0 d x0 2 U)) (fun _ => rfl) h2c ?_
    show Ev (am_kz N X) ((d + 1), 122, 13, [some (.inr (.inl x0)), none], [.inl r1], (am_sh, am_mm U1)) R
    refine ev_br (P := r1 = 0) (σ1 := ((d + 1), 122, 50, [some (.inr (.inl x0)), none], [], (am_sh, am_mm U1))) (σ2 := ((d + 1), 122, 16, [some (.inr (.inl x0)), none], [], (am_sh, am_mm U1))) 1 (fun _ => rfl) (fun hc => ?_) (fun hc => ?_)
    · have h2a1 := h2a.1 hc
      subst h2a1
      exact ev_end 2 (fun _ => rfl)
    · have h2a2 := h2a.2 hc
      refine ev_seg (σ1 := ((d + 1), 122, 20, [some (.inr (.inl x0)), none], [.inr (.inl 3), .inr (.inl x0)], (am_sh, am_mm U1))) 2 (fun _ => rfl) ?_
      obtain ⟨r2, U2, h2a2c, h2a2a⟩ := h2a2
      refine ev_cal (σc := (M_passes_s0 d x0 3 U1)) (fun _ => rfl) h2a2c ?_
      show Ev (am_kz N X) ((d + 1), 122, 23, [some (.inr (.inl x0)), none], [.inl r2], (am_sh, am_mm U2)) R
      refine ev_br (P := r2 = 0) (σ1 := ((d + 1), 122, 50, [some (.inr (.inl x0)), none], [], (am_sh, am_mm U2))) (σ2 := ((d + 1), 122, 26, [some (.inr (.inl x0)), none], [], (am_sh, am_mm U2))) 1 (fun _ => rfl) (fun hc => ?_) (fun hc => ?_)
      · have h2a2a1 := h2a2a.1 hc
        subst h2a2a1
        exact ev_end 2 (fun _ => rfl)
      · have h2a2a2 := h2a2a.2 hc
        refine ev_seg (σ1 := ((d + 1), 122, 30, [some (.inr (.inl x0)), none], [.inr (.inl 5), .inr (.inl x0)], (am_sh, am_mm U2))) 2 (fun _ => rfl) ?_
        obtain ⟨r3, U3, h2a2a2c, h2a2a2a⟩ := h2a2a2
        refine ev_cal (σc := (M_passes_s0 d x0 5 U2)) (fun _ => rfl) h2a2a2c ?_
        show Ev (am_kz N X) ((d + 1), 122, 33, [some (.inr (.inl x0)), none], [.inl r3], (am_sh, am_mm U3)) R
        refine ev_br (P := r3 = 0) (σ1 := ((d + 1), 122, 50, [some (.inr (.inl x0)), none], [], (am_sh, am_mm U3))) (σ2 := ((d + 1), 122, 36, [some (.inr (.inl x0)), none], [], (am_sh, am_mm U3))) 1 (fun _ => rfl) (fun hc => ?_) (fun hc => ?_)
        · have h2a2a2a1 := h2a2a2a.1 hc
          subst h2a2a2a1
          exact ev_end 2 (fun _ => rfl)
        · have h2a2a2a2 := h2a2a2a.2 hc
          refine ev_seg (σ1 := ((d + 1), 122, 40, [some (.inr (.inl x0)), none], [.inr (.inl 7), .inr (.inl x0)], (am_sh, am_mm U3))) 2 (fun _ => rfl) ?_
          obtain ⟨r4, U4, h2a2a2a2c, h2a2a2a2a⟩ := h2a2a2a2
          refine ev_cal (σc := (M_passes_s0 d x0 7 U3)) (fun _ => rfl) h2a2a2a2c ?_
          show Ev (am_kz N X) ((d + 1), 122, 43, [some (.inr (.inl x0)), none], [.inl r4], (am_sh, am_mm U4)) R
          refine ev_br (P := r4 = 0) (σ1 := ((d + 1), 122, 50, [some (.inr (.inl x0)), none], [], (am_sh, am_mm U4))) (σ2 := ((d + 1), 122, 46, [some (.inr (.inl x0)), none], [], (am_sh, am_mm U4))) 1 (fun _ => rfl) (fun hc => ?_) (fun hc => ?_)
          · have h2a2a2a2a1 := h2a2a2a2a.1 hc
            subst h2a2a2a2a1
            exact ev_end 2 (fun _ => rfl)
          · have h2a2a2a2a2 := h2a2a2a2a.2 hc
            subst h2a2a2a2a2
            exact ev_end 3 (fun _ => rfl)
set_option maxRecDepth 8000 in
theorem M_partsOf_r0 {N : Nat} {X : Nat → Int} {d : Nat} {x0 : Int} {U : am_U} {R : Option am_V × am_M} (h : ((x0 ≤ 1) → EvK N X (M_partsOf_s17 d x0 0 2 U) R) ∧ ((1 < x0) → EvK N X (M_partsOf_s17 d x0 1 2 U) R)) : EvK N X (M_partsOf_s0 d x0 U) R := by
  show Ev (am_kz N X) (d, 123, 0, [some (.inr (.inl x0)), none, none, none, none, none], [], (am_sh, am_mm U)) R
  refine ev_br (P := (am_lcmp x0 1) ≤ 0) (σ1 := (d, 123, 10, [some (.inr (.inl x0)), none, none, none, none, none], [], (am_sh, am_mm U))) (σ2 := (d, 123, 6, [some (.inr (.inl x0)), none, none, none, none, none], [], (am_sh, am_mm U))) 4 (fun _ => rfl) (fun hc => ?_) (fun hc => ?_)
  · have h1 := h.1 ((am_lc_le x0 1).mp hc)
    refine ev_seg (σ1 := (d, 123, 17, [some (.inr (.inl x0)), none, some (.inr (.inl 0)), none, some (.inr (.inl 2)), none], [], (am_sh, am_mm U))) 4 (fun _ => rfl) ?_
    exact h1
  · have h2 := h.2 ((am_lcn_le x0 1).mp hc)
    refine ev_seg (σ1 := (d, 123, 17, [some (.inr (.inl x0)), none, some (.inr (.inl 1)), none, some (.inr (.inl 2)), none], [], (am_sh, am_mm U))) 5 (fun _ => rfl) ?_
    exact h2
set_option maxRecDepth 8000 in
theorem M_partsOf_r17 {N : Nat} {X : Nat → Int} {d : Nat} {x0 x2 x4 : Int} {U : am_U} {R : Option am_V × am_M} (h : ((x0 < (w64 (x4 * x4))) → R = rJ x2 U) ∧ (((w64 (x4 * x4)) ≤ x0) → x4 ≠ 0 ∧ (((Int.tmod x0 x4) = 0) → (((w64 (x4 * x4)) ≠ x0) → x4 ≠ 0 ∧ EvK N X (M_partsOf_s17 d x0 (w64 (x2 + (w64 (x4 + (w64 (Int.tdiv x0 x4)))))) (w64 (x4 + 1)) U) R) ∧ (((w64 (x4 * x4)) = x0) → EvK N X (M_partsOf_s17 d x0 (w64 (x2 + x4)) (w64 (x4 + 1)) U) R)) ∧ (((Int.tmod x0 x4) ≠ 0) → EvK N X (M_partsOf_s17 d x0 x2 (w64 (x4 + 1)) U) R))) : EvK N X (M_partsOf_s17 d x0 x2 x4 U) R := by
  show Ev (am_kz N X) (d, 123, 17, [some (.inr (.inl x0)), none, some (.inr (.inl x2)), none, some (.inr (.inl x4)), none], [], (am_sh, am_mm U)) R
  refine ev_br (P := 0 < (am_lcmp (w64 (x4 * x4)) x0)) (σ1 := (d, 123, 73, [some (.inr (.inl x0)), none, some (.inr (.inl x2)), none, some (.inr (.inl x4)), none], [], (am_sh, am_mm U))) (σ2 := (d, 123, 27, [some (.inr (.inl x0)), none, some (.inr (.inl x2)), none, some (.inr (.inl x4)), none], [], (am_sh, am_mm U))) 6 (fun _ => rfl) (fun hc => ?_) (fun hc => ?_)
  · have h1 := h.1 ((am_lc_gt (w64 (x4 * x4)) x0).mp hc)
    subst h1
    exact ev_end 2 (fun _ => rfl)
  · have h2 := h.2 ((am_lcn_gt (w64 (x4 * x4)) x0).mp hc)
    refine ev_seg (σ1 := (d, 123, 30, [some (.inr (.inl x0)), none, some (.inr (.inl x2)), none, some (.inr (.inl x4)), none], [.inr (.inl x4), .inr (.inl x0)], (am_sh, am_mm U))) 2 (fun _ => rfl) ?_
    refine ev_lrem rfl h2.1 ?_
    show Ev (am_kz N X) (d, 123, 31, [some (.inr (.inl x0)), none, some (.inr (.inl x2)), none, some (.inr (.inl x4)), none], [.inr (.inl (Int.tmod x0 x4))], (am_sh, am_mm U)) R
    have h2a := h2.2
    refine ev_br (P := (am_lcmp (Int.tmod x0 x4) 0) = 0) (σ1 := (d, 123, 39, [some (.inr (.inl x0)), none, some (.inr (.inl x2)), none, some (.inr (.inl x4)), none], [], (am_sh, am_mm U))) (σ2 := (d, 123, 36, [some (.inr (.inl x0)), none, some (.inr (.inl x2)), none, some (.inr (.inl x4)), none], [], (am_sh, am_mm U))) 3 (fun _ => rfl) (fun hc => ?_) (fun hc => ?_)
    · have h2a1 := h2a.1 ((am_lc_eq (Int.tmod x0 x4) 0).mp hc)
      refine ev_br (P := ¬ (am_lcmp (w64 (x4 * x4)) x0) = 0) (σ1 := (d, 123, 55, [some (.inr (.inl x0)), none, some (.inr (.inl x2)), none, some (.inr (.inl x4)), none], [.inr (.inl x2)], (am_sh, am_mm U))) (σ2 := (d, 123, 50, [some (.inr (.inl x0)), none, some (.inr (.inl x2)), none, some (.inr (.inl x4)), none], [.inr (.inl x2)], (am_sh, am_mm U))) 7 (fun _ => rfl) (fun hc => ?_) (fun hc => ?_)
      · have h2a11 := h2a1.1 ((am_lc_ne (w64 (x4 * x4)) x0).mp hc)
        refine ev_seg (σ1 := (d, 123, 60, [some (.inr (.inl x0)), none, some (.inr (.inl x2)), none, some (.inr (.inl x4)), none], [.inr (.inl x4), .inr (.inl x0), .inr (.inl x4), .inr (.inl x2)], (am_sh, am_mm U))) 3 (fun _ => rfl) ?_
        refine ev_ldiv rfl h2a11.1 ?_
        show Ev (am_kz N X) (d, 123, 61, [some (.inr (.inl x0)), none, some (.inr (.inl x2)), none, some (.inr (.inl x4)), none], [.inr (.inl (w64 (Int.tdiv x0 x4))), .inr (.inl x4), .inr (.inl x2)], (am_sh, am_mm U)) R
        have h2a11a := h2a11.2
        refine ev_seg (σ1 := (d, 123, 17, [some (.inr (.inl x0)), none, some (.inr (.inl (w64 (x2 + (w64 (x4 + (w64 (Int.tdiv x0 x4)))))))), none, some (.inr (.inl (w64 (x4 + 1)))), none], [], (am_sh, am_mm U))) 8 (fun _ => rfl) ?_
        exact h2a11a
      · have h2a12 := h2a1.2 ((am_lcn_ne (w64 (x4 * x4)) x0).mp hc)
        refine ev_seg (σ1 := (d, 123, 17, [some (.inr (.inl x0)), none, some (.inr (.inl (w64 (x2 + x4)))), none, some (.inr (.inl (w64 (x4 + 1)))), none], [], (am_sh, am_mm U))) 9 (fun _ => rfl) ?_
        exact h2a12
    · have h2a2 := h2a.2 ((am_lcn_eq (Int.tmod x0 x4) 0).mp hc)
      refine ev_seg (σ1 := (d, 123, 17, [some (.inr (.inl x0)), none, some (.inr (.inl x2)), none, some (.inr (.inl (w64 (x4 + 1)))), none], [], (am_sh, am_mm U))) 6 (fun _ => rfl) ?_
      exact h2a2
set_option maxRecDepth 8000 in
theorem M_isQuarrel_r0 {N : Nat} {X : Nat → Int} {d : Nat} {x1 x2 : Int} {U : am_U} {R : Option am_V × am_M} (h : ∃ (r1 : Int) (U1 : am_U), EvK N X (M_isNear_s0 d x1 x2 U) (rI r1 U1) ∧ ((r1 = 0) → R = rI 0 U1) ∧ ((r1 ≠ 0) → (0 ≤ x1 ∧ x1 < 352) ∧ (0 ≤ x2 ∧ x2 < 352) ∧ ∃ (r2 : Int) (U2 : am_U), EvK N X (M_gcd_s0 d (U1 123 x1.toNat) (U1 123 x2.toNat) U1) (rJ r2 U2) ∧ ((r2 ≤ 1) → R = rI 0 U2) ∧ ((1 < r2) → R = rI 1 U2))) : EvK N X (M_isQuarrel_s0 (d + 1) x1 x2 U) R := by
  show Ev (am_kz N X) ((d + 1), 120, 0, [some (.inr (.inr 86)), some (.inl x1), some (.inl x2)], [], (am_sh, am_mm U)) R
  refine ev_seg (σ1 := ((d + 1), 120, 3, [some (.inr (.inr 86)), some (.inl x1), some (.inl x2)], [.inl x2, .inl x1, .inr (.inr 86)], (am_sh, am_mm U))) 3 (fun _ => rfl) ?_
  obtain ⟨r1, U1, hc, ha⟩ := h
  refine ev_cal (σc := (M_isNear_s0 d x1 x2 U)) (fun _ => rfl) hc ?_
  show Ev (am_kz N X) ((d + 1), 120, 6, [some (.inr (.inr 86)), some (.inl x1), some (.inl x2)], [.inl r1], (am_sh, am_mm U1)) R
  refine ev_br (P := r1 = 0) (σ1 := ((d + 1), 120, 35, [some (.inr (.inr 86)), some (.inl x1), some (.inl x2)], [], (am_sh, am_mm U1))) (σ2 := ((d + 1), 120, 9, [some (.inr (.inr 86)), some (.inl x1), some (.inl x2)], [], (am_sh, am_mm U1))) 1 (fun _ => rfl) (fun hc => ?_) (fun hc => ?_)
  · have ha1 := ha.1 hc
    subst ha1
    exact ev_end 2 (fun _ => rfl)
  · have ha2 := ha.2 hc
    refine ev_seg (σ1 := ((d + 1), 120, 14, [some (.inr (.inr 86)), some (.inl x1), some (.inl x2)], [.inl x1, .inr (.inr 123)], (am_sh, am_mm U1))) 3 (fun _ => rfl) ?_
    refine eu_iald 123 (n := 352) rfl (by decide) rfl (fun _ => rfl) ha2.1 ?_
    show Ev (am_kz N X) ((d + 1), 120, 15, [some (.inr (.inr 86)), some (.inl x1), some (.inl x2)], [.inl (U1 123 x1.toNat)], (am_sh, am_mm U1)) R
    have ha2a := ha2.2
    refine ev_seg (σ1 := ((d + 1), 120, 21, [some (.inr (.inr 86)), some (.inl x1), some (.inl x2)], [.inl x2, .inr (.inr 123), .inr (.inl (U1 123 x1.toNat))], (am_sh, am_mm U1))) 4 (fun _ => rfl) ?_
    refine eu_iald 123 (n := 352) rfl (by decide) rfl (fun _ => rfl) ha2a.1 ?_
    show Ev (am_kz N X) ((d + 1), 120, 22, [some (.inr (.inr 86)), some (.inl x1), some (.inl x2)], [.inl (U1 123 x2.toNat), .inr (.inl (U1 123 x1.toNat))], (am_sh, am_mm U1)) R
    have ha2aa := ha2a.2
    refine ev_seg (σ1 := ((d + 1), 120, 23, [some (.inr (.inr 86)), some (.inl x1), some (.inl x2)], [.inr (.inl (U1 123 x2.toNat)), .inr (.inl (U1 123 x1.toNat))], (am_sh, am_mm U1))) 1 (fun _ => rfl) ?_
    obtain ⟨r2, U2, ha2aac, ha2aaa⟩ := ha2aa
    refine ev_cal (σc := (M_gcd_s0 d (U1 123 x1.toNat) (U1 123 x2.toNat) U1)) (fun _ => rfl) ha2aac ?_
    show Ev (am_kz N X) ((d + 1), 120, 26, [some (.inr (.inr 86)), some (.inl x1), some (.inl x2)], [.inr (.inl r2)], (am_sh, am_mm U2)) R
    refine ev_br (P := (am_lcmp r2 1) ≤ 0) (σ1 := ((d + 1), 120, 35, [some (.inr (.inr 86)), some (.inl x1), some (.inl x2)], [], (am_sh, am_mm U2))) (σ2 := ((d + 1), 120, 31, [some (.inr (.inr 86)), some (.inl x1), some (.inl x2)], [], (am_sh, am_mm U2))) 3 (fun _ => rfl) (fun hc => ?_) (fun hc => ?_)
    · have ha2aaa1 := ha2aaa.1 ((am_lc_le r2 1).mp hc)
      subst ha2aaa1
      exact ev_end 2 (fun _ => rfl)
    · have ha2aaa2 := ha2aaa.2 ((am_lcn_le r2 1).mp hc)
      subst ha2aaa2
      exact ev_end 3 (fun _ => rfl)
