set_option maxRecDepth 8000 in
theorem Rl_tellOf_r0 {N : Nat} {X : Nat → Int} {d : Nat} {x1 : Int} {U : am_U} {R : Option am_V × am_M} (h : (((U 78 5) ≤ 0) → R = rI (-1) U) ∧ ((0 < (U 78 5)) → ((x1 < 0) → R = rI (-1) U) ∧ ((0 ≤ x1) → (((U 78 3) ≤ x1) → R = rI (-1) U) ∧ ((x1 < (U 78 3)) → (0 ≤ x1 ∧ x1 < 4) ∧ R = rI (U 81 x1.toNat) U)))) : EvK N X (Rl_tellOf_s0 d x1 U) R := by
  show Ev (am_kz N X) (d, 168, 0, [some (.inr (.inr 78)), some (.inl x1)], [], (am_sh, am_mm U)) R
  refine ev_br (P := (U 78 5) ≤ 0) (σ1 := (d, 168, 28, [some (.inr (.inr 78)), some (.inl x1)], [], (am_sh, am_mm U))) (σ2 := (d, 168, 7, [some (.inr (.inr 78)), some (.inl x1)], [], (am_sh, am_mm U))) 3 (fun _ => rfl) (fun hc => ?_) (fun hc => ?_)
  · have h1 := h.1 hc
    subst h1
    exact ev_end 2 (fun _ => rfl)
  · have h2 := h.2 (Int.not_le.mp hc)
    refine ev_br (P := x1 < 0) (σ1 := (d, 168, 28, [some (.inr (.inr 78)), some (.inl x1)], [], (am_sh, am_mm U))) (σ2 := (d, 168, 11, [some (.inr (.inr 78)), some (.inl x1)], [], (am_sh, am_mm U))) 2 (fun _ => rfl) (fun hc => ?_) (fun hc => ?_)
    · have h21 := h2.1 hc
      subst h21
      exact ev_end 2 (fun _ => rfl)
    · have h22 := h2.2 (Int.not_lt.mp hc)
      refine ev_br (P := (U 78 3) ≤ x1) (σ1 := (d, 168, 28, [some (.inr (.inr 78)), some (.inl x1)], [], (am_sh, am_mm U))) (σ2 := (d, 168, 19, [some (.inr (.inr 78)), some (.inl x1)], [], (am_sh, am_mm U))) 4 (fun _ => rfl) (fun hc => ?_) (fun hc => ?_)
      · have h221 := h22.1 hc
        subst h221
        exact ev_end 2 (fun _ => rfl)
      · have h222 := h22.2 (Int.not_le.mp hc)
        refine ev_seg (σ1 := (d, 168, 24, [some (.inr (.inr 78)), some (.inl x1)], [.inl x1, .inr (.inr 81)], (am_sh, am_mm U))) 3 (fun _ => rfl) ?_
        refine eu_iald 81 (n := 4) rfl (by decide) rfl (fun _ => rfl) h222.1 ?_
        show Ev (am_kz N X) (d, 168, 25, [some (.inr (.inr 78)), some (.inl x1)], [.inl (U 81 x1.toNat)], (am_sh, am_mm U)) R
        have h222a := h222.2
        subst h222a
        exact ev_end 2 (fun _ => rfl)
set_option maxRecDepth 8000 in
theorem Fk_writeTo_r0 {N : Nat} {X : Nat → Int} {d : Nat} {U : am_U} {R : Option am_V × am_M} (h : (((w32 (5 + (w32 (5 * (U 16 0))))) ≤ 85) → (((U 16 2) = 0) → EvK N X (Fk_writeTo_s62 (d + 1) (w32 (5 + (w32 (5 * (U 16 0))))) 0 (am_upd (am_upd (am_upd (am_upd U 84 0 (am_shr (U 16 1) 8)) 84 1 (am_and (U 16 1) 255)) 84 2 0) 84 3 (U 16 0))) R) ∧ (((U 16 2) ≠ 0) → EvK N X (Fk_writeTo_s62 (d + 1) (w32 (5 + (w32 (5 * (U 16 0))))) 0 (am_upd (am_upd (am_upd (am_upd U 84 0 (am_shr (U 16 1) 8)) 84 1 (am_and (U 16 1) 255)) 84 2 1) 84 3 (U 16 0))) R)) ∧ ((85 < (w32 (5 + (w32 (5 * (U 16 0)))))) → R = rI 0 U)) : EvK N X (Fk_writeTo_s0 (d + 1) U) R := by
  show Ev (am_kz N X) ((d + 1), 169, 0, [some (.inr (.inr 16)), some (.inr (.inr 84)), none, none, none], [], (am_sh, am_mm U)) R
  refine ev_br (P := (w32 (5 + (w32 (5 * (U 16 0))))) ≤ 85) (σ1 := ((d + 1), 169, 17, [some (.inr (.inr 16)), some (.inr (.inr 84)), some (.inl (w32 (5 + (w32 (5 * (U 16 0)))))), none, none], [], (am_sh, am_mm U))) (σ2 := ((d + 1), 169, 15, [some (.inr (.inr 16)), some (.inr (.inr 84)), some (.inl (w32 (5 + (w32 (5 * (U 16 0)))))), none, none], [], (am_sh, am_mm U))) 11 (fun _ => rfl) (fun hc => ?_) (fun hc => ?_)
  · have h1 := h.1 hc
    refine ev_seg (σ1 := ((d + 1), 169, 26, [some (.inr (.inr 16)), some (.inr (.inr 84)), some (.inl (w32 (5 + (w32 (5 * (U 16 0)))))), none, none], [.inl (am_shr (U 16 1) 8), .inl 0, .inr (.inr 84)], (am_sh, am_mm U))) 6 (fun _ => rfl) ?_
    refine eu_iast 84 (n := 85) rfl (by decide) rfl (fun _ => rfl) (by decide) ?_
    show Ev (am_kz N X) ((d + 1), 169, 27, [some (.inr (.inr 16)), some (.inr (.inr 84)), some (.inl (w32 (5 + (w32 (5 * (U 16 0)))))), none, none], [], (am_sh, am_mm (am_upd U 84 0 (am_shr (U 16 1) 8)))) R
    refine ev_seg (σ1 := ((d + 1), 169, 37, [some (.inr (.inr 16)), some (.inr (.inr 84)), some (.inl (w32 (5 + (w32 (5 * (U 16 0)))))), none, none], [.inl (am_and (U 16 1) 255), .inl 1, .inr (.inr 84)], (am_sh, am_mm (am_upd U 84 0 (am_shr (U 16 1) 8))))) 6 (fun _ => rfl) ?_
    refine eu_iast 84 (n := 85) rfl (by decide) rfl (fun _ => rfl) (by decide) ?_
    show Ev (am_kz N X) ((d + 1), 169, 38, [some (.inr (.inr 16)), some (.inr (.inr 84)), some (.inl (w32 (5 + (w32 (5 * (U 16 0)))))), none, none], [], (am_sh, am_mm (am_upd (am_upd U 84 0 (am_shr (U 16 1) 8)) 84 1 (am_and (U 16 1) 255)))) R
    refine ev_br (P := (U 16 2) = 0) (σ1 := ((d + 1), 169, 51, [some (.inr (.inr 16)), some (.inr (.inr 84)), some (.inl (w32 (5 + (w32 (5 * (U 16 0)))))), none, none], [.inl 2, .inr (.inr 84)], (am_sh, am_mm (am_upd (am_upd U 84 0 (am_shr (U 16 1) 8)) 84 1 (am_and (U 16 1) 255))))) (σ2 := ((d + 1), 169, 47, [some (.inr (.inr 16)), some (.inr (.inr 84)), some (.inl (w32 (5 + (w32 (5 * (U 16 0)))))), none, none], [.inl 2, .inr (.inr 84)], (am_sh, am_mm (am_upd (am_upd U 84 0 (am_shr (U 16 1) 8)) 84 1 (am_and (U 16 1) 255))))) 5 (fun _ => rfl) (fun hc => ?_) (fun hc => ?_)
    · have h11 := h1.1 hc
      refine ev_seg (σ1 := ((d + 1), 169, 52, [some (.inr (.inr 16)), some (.inr (.inr 84)), some (.inl (w32 (5 + (w32 (5 * (U 16 0)))))), none, none], [.inl 0, .inl 2, .inr (.inr 84)], (am_sh, am_mm (am_upd (am_upd U 84 0 (am_shr (U 16 1) 8)) 84 1 (am_and (U 16 1) 255))))) 1 (fun _ => rfl) ?_
      refine eu_iast 84 (n := 85) rfl (by decide) rfl (fun _ => rfl) (by decide) ?_
      show Ev (am_kz N X) ((d + 1), 169, 53, [some (.inr (.inr 16)), some (.inr (.inr 84)), some (.inl (w32 (5 + (w32 (5 * (U 16 0)))))), none, none], [], (am_sh, am_mm (am_upd (am_upd (am_upd U 84 0 (am_shr (U 16 1) 8)) 84 1 (am_and (U 16 1) 255)) 84 2 0))) R
      refine ev_seg (σ1 := ((d + 1), 169, 59, [some (.inr (.inr 16)), some (.inr (.inr 84)), some (.inl (w32 (5 + (w32 (5 * (U 16 0)))))), none, none], [.inl (U 16 0), .inl 3, .inr (.inr 84)], (am_sh, am_mm (am_upd (am_upd (am_upd U 84 0 (am_shr (U 16 1) 8)) 84 1 (am_and (U 16 1) 255)) 84 2 0)))) 4 (fun _ => rfl) ?_
      refine eu_iast 84 (n := 85) rfl (by decide) rfl (fun _ => rfl) (by decide) ?_
      show Ev (am_kz N X) ((d + 1), 169, 60, [some (.inr (.inr 16)), some (.inr (.inr 84)), some (.inl (w32 (5 + (w32 (5 * (U 16 0)))))), none, none], [], (am_sh, am_mm (am_upd (am_upd (am_upd (am_upd U 84 0 (am_shr (U 16 1) 8)) 84 1 (am_and (U 16 1) 255)) 84 2 0) 84 3 (U 16 0)))) R
      refine ev_seg (σ1 := ((d + 1), 169, 62, [some (.inr (.inr 16)), some (.inr (.inr 84)), some (.inl (w32 (5 + (w32 (5 * (U 16 0)))))), some (.inl 0), none], [], (am_sh, am_mm (am_upd (am_upd (am_upd (am_upd U 84 0 (am_shr (U 16 1) 8)) 84 1 (am_and (U 16 1) 255)) 84 2 0) 84 3 (U 16 0))))) 2 (fun _ => rfl) ?_
      exact h11
    · have h12 := h1.2 hc
      refine ev_seg (σ1 := ((d + 1), 169, 52, [some (.inr (.inr 16)), some (.inr (.inr 84)), some (.inl (w32 (5 + (w32 (5 * (U 16 0)))))), none, none], [.inl 1, .inl 2, .inr (.inr 84)], (am_sh, am_mm (am_upd (am_upd U 84 0 (am_shr (U 16 1) 8)) 84 1 (am_and (U 16 1) 255))))) 2 (fun _ => rfl) ?_
      refine eu_iast 84 (n := 85) rfl (by decide) rfl (fun _ => rfl) (by decide) ?_
      show Ev (am_kz N X) ((d + 1), 169, 53, [some (.inr (.inr 16)), some (.inr (.inr 84)), some (.inl (w32 (5 + (w32 (5 * (U 16 0)))))), none, none], [], (am_sh, am_mm (am_upd (am_upd (am_upd U 84 0 (am_shr (U 16 1) 8)) 84 1 (am_and (U 16 1) 255)) 84 2 1))) R
      refine ev_seg (σ1 := ((d + 1), 169, 59, [some (.inr (.inr 16)), some (.inr (.inr 84)), some (.inl (w32 (5 + (w32 (5 * (U 16 0)))))), none, none], [.inl (U 16 0), .inl 3, .inr (.inr 84)], (am_sh, am_mm (am_upd (am_upd (am_upd U 84 0 (am_shr (U 16 1) 8)) 84 1 (am_and (U 16 1) 255)) 84 2 1)))) 4 (fun _ => rfl) ?_
      refine eu_iast 84 (n := 85) rfl (by decide) rfl (fun _ => rfl) (by decide) ?_
      show Ev (am_kz N X) ((d + 1), 169, 60, [some (.inr (.inr 16)), some (.inr (.inr 84)), some (.inl (w32 (5 + (w32 (5 * (U 16 0)))))), none, none], [], (am_sh, am_mm (am_upd (am_upd (am_upd (am_upd U 84 0 (am_shr (U 16 1) 8)) 84 1 (am_and (U 16 1) 255)) 84 2 1) 84 3 (U 16 0)))) R
      refine ev_seg (σ1 := ((d + 1), 169, 62, [some (.inr (.inr 16)), some (.inr (.inr 84)), some (.inl (w32 (5 + (w32 (5 * (U 16 0)))))), some (.inl 0), none], [], (am_sh, am_mm (am_upd (am_upd (am_upd (am_upd U 84 0 (am_shr (U 16 1) 8)) 84 1 (am_and (U 16 1) 255)) 84 2 1) 84 3 (U 16 0))))) 2 (fun _ => rfl) ?_
      exact h12
  · have h2 := h.2 (Int.not_le.mp hc)
    subst h2
    exact ev_end 2 (fun _ => rfl)
set_option maxRecDepth 8000 in
theorem Fk_writeTo_r62 {N : Nat} {X : Nat → Int} {d : Nat} {x2 x3 : Int} {U : am_U} {R : Option am_V × am_M} (h : (((U 16 0) ≤ x3) → ∃ (r1 : Int) (U1 : am_U), EvK N X (Fk_checkOf_84_s0 d (w32 (x2 - 1)) U) (rI r1 U1) ∧ (0 ≤ (w32 (x2 - 1)) ∧ (w32 (x2 - 1)) < 85) ∧ R = rI x2 (am_upd U1 84 ((w32 (x2 - 1)).toNat) r1)) ∧ ((x3 < (U 16 0)) → (0 ≤ x3 ∧ x3 < 16) ∧ (0 ≤ (w32 (4 + (w32 (5 * x3)))) ∧ (w32 (4 + (w32 (5 * x3)))) < 85) ∧ (0 ≤ (w32 ((w32 (4 + (w32 (5 * x3)))) + 1)) ∧ (w32 ((w32 (4 + (w32 (5 * x3)))) + 1)) < 85) ∧ (0 ≤ (w32 ((w32 (4 + (w32 (5 * x3)))) + 2)) ∧ (w32 ((w32 (4 + (w32 (5 * x3)))) + 2)) < 85) ∧ (0 ≤ (w32 ((w32 (4 + (w32 (5 * x3)))) + 3)) ∧ (w32 ((w32 (4 + (w32 (5 * x3)))) + 3)) < 85) ∧ (0 ≤ (w32 ((w32 (4 + (w32 (5 * x3)))) + 4)) ∧ (w32 ((w32 (4 + (w32 (5 * x3)))) + 4)) < 85) ∧ EvK N X (Fk_writeTo_s62 (d + 1) x2 (w32 (x3 + 1)) (am_upd (am_upd (am_upd (am_upd (am_upd U 84 ((w32 (4 + (w32 (5 * x3)))).toNat) (am_ushr (U 17 x3.toNat) 24)) 84 ((w32 ((w32 (4 + (w32 (5 * x3)))) + 1)).toNat) (am_and (am_shr (U 17 x3.toNat) 16) 255)) 84 ((w32 ((w32 (4 + (w32 (5 * x3)))) + 2)).toNat) (am_and (am_shr (U 17 x3.toNat) 8) 255)) 84 ((w32 ((w32 (4 + (w32 (5 * x3)))) + 3)).toNat) (am_and (U 17 x3.toNat) 255)) 84 ((w32 ((w32 (4 + (w32 (5 * x3)))) + 4)).toNat) (w32 ((U 18 x3.toNat) + 1)))) R)) : EvK N X (Fk_writeTo_s62 (d + 1) x2 x3 U) R := by
  show Ev (am_kz N X) ((d + 1), 169, 62, [some (.inr (.inr 16)), some (.inr (.inr 84)), some (.inl x2), some (.inl x3), none], [], (am_sh, am_mm U)) R
  refine ev_br (P := (U 16 0) ≤ x3) (σ1 := ((d + 1), 169, 164, [some (.inr (.inr 16)), some (.inr (.inr 84)), some (.inl x2), some (.inl x3), none], [], (am_sh, am_mm U))) (σ2 := ((d + 1), 169, 70, [some (.inr (.inr 16)), some (.inr (.inr 84)), some (.inl x2), some (.inl x3), none], [], (am_sh, am_mm U))) 4 (fun _ => rfl) (fun hc => ?_) (fun hc => ?_)
  · have h1 := h.1 hc
    refine ev_seg (σ1 := ((d + 1), 169, 172, [some (.inr (.inr 16)), some (.inr (.inr 84)), some (.inl x2), some (.inl x3), none], [.inl (w32 (x2 - 1)), .inr (.inr 84), .inl (w32 (x2 - 1)), .inr (.inr 84)], (am_sh, am_mm U))) 8 (fun _ => rfl) ?_
    obtain ⟨r1, U1, h1c, h1a⟩ := h1
    refine ev_cal (σc := (Fk_checkOf_84_s0 d (w32 (x2 - 1)) U)) (fun _ => rfl) h1c ?_
    show Ev (am_kz N X) ((d + 1), 169, 175, [some (.inr (.inr 16)), some (.inr (.inr 84)), some (.inl x2), some (.inl x3), none], [.inl r1, .inl (w32 (x2 - 1)), .inr (.inr 84)], (am_sh, am_mm U1)) R
    refine eu_iast 84 (n := 85) rfl (by decide) rfl (fun _ => rfl) h1a.1 ?_
    show Ev (am_kz N X) ((d + 1), 169, 176, [some (.inr (.inr 16)), some (.inr (.inr 84)), some (.inl x2), some (.inl x3), none], [], (am_sh, am_mm (am_upd U1 84 ((w32 (x2 - 1)).toNat) r1))) R
    have h1aa := h1a.2
    subst h1aa
    exact ev_end 2 (fun _ => rfl)
  · have h2 := h.2 (Int.not_le.mp hc)
    refine ev_seg (σ1 := ((d + 1), 169, 85, [some (.inr (.inr 16)), some (.inr (.inr 84)), some (.inl x2), some (.inl x3), some (.inl (w32 (4 + (w32 (5 * x3)))))], [.inl x3, .inr (.inr 17), .inl (w32 (4 + (w32 (5 * x3)))), .inr (.inr 84)], (am_sh, am_mm U))) 11 (fun _ => rfl) ?_
    refine eu_iald 17 (n := 16) rfl (by decide) rfl (fun _ => rfl) h2.1 ?_
    show Ev (am_kz N X) ((d + 1), 169, 86, [some (.inr (.inr 16)), some (.inr (.inr 84)), some (.inl x2), some (.inl x3), some (.inl (w32 (4 + (w32 (5 * x3)))))], [.inl (U 17 x3.toNat), .inl (w32 (4 + (w32 (5 * x3)))), .inr (.inr 84)], (am_sh, am_mm U)) R
    have h2a := h2.2
    refine ev_seg (σ1 := ((d + 1), 169, 89, [some (.inr (.inr 16)), some (.inr (.inr 84)), some (.inl x2), some (.inl x3), some (.inl (w32 (4 + (w32 (5 * x3)))))], [.inl (am_ushr (U 17 x3.toNat) 24), .inl (w32 (4 + (w32 (5 * x3)))), .inr (.inr 84)], (am_sh, am_mm U))) 2 (fun _ => rfl) ?_
    refine eu_iast 84 (n := 85) rfl (by decide) rfl (fun _ => rfl) h2a.1 ?_
    show Ev (am_kz N X) ((d + 1), 169, 90, [some (.inr (.inr 16)), some (.inr (.inr 84)), some (.inl x2), some (.inl x3), some (.inl (w32 (4 + (w32 (5 * x3)))))], [], (am_sh, am_mm (am_upd U 84 ((w32 (4 + (w32 (5 * x3)))).toNat) (am_ushr (U 17 x3.toNat) 24)))) R
    have h2aa := h2a.2
    refine ev_seg (σ1 := ((d + 1), 169, 100, [some (.inr (.inr 16)), some (.inr (.inr 84)), some (.inl x2), some (.inl x3), some (.inl (w32 (4 + (w32 (5 * x3)))))], [.inl x3, .inr (.inr 17), .inl (w32 ((w32 (4 + (w32 (5 * x3)))) + 1)), .inr (.inr 84)], (am_sh, am_mm (am_upd U 84 ((w32 (4 + (w32 (5 * x3)))).toNat) (am_ushr (U 17 x3.toNat) 24))))) 7 (fun _ => rfl) ?_
    refine eu_iald 17 (n := 16) rfl (by decide) rfl (fun _ => rfl) h2.1 ?_
    show Ev (am_kz N X) ((d + 1), 169, 101, [some (.inr (.inr 16)), some (.inr (.inr 84)), some (.inl x2), some (.inl x3), some (.inl (w32 (4 + (w32 (5 * x3)))))], [.inl (U 17 x3.toNat), .inl (w32 ((w32 (4 + (w32 (5 * x3)))) + 1)), .inr (.inr 84)], (am_sh, am_mm (am_upd U 84 ((w32 (4 + (w32 (5 * x3)))).toNat) (am_ushr (U 17 x3.toNat) 24)))) R
    refine ev_seg (σ1 := ((d + 1), 169, 108, [some (.inr (.inr 16)), some (.inr (.inr 84)), some (.inl x2), some (.inl x3), some (.inl (w32 (4 + (w32 (5 * x3)))))], [.inl (am_and (am_shr (U 17 x3.toNat) 16) 255), .inl (w32 ((w32 (4 + (w32 (5 * x3)))) + 1)), .inr (.inr 84)], (am_sh, am_mm (am_upd U 84 ((w32 (4 + (w32 (5 * x3)))).toNat) (am_ushr (U 17 x3.toNat) 24))))) 4 (fun _ => rfl) ?_
    refine eu_iast 84 (n := 85) rfl (by decide) rfl (fun _ => rfl) h2aa.1 ?_
    show Ev (am_kz N X) ((d + 1), 169, 109, [some (.inr (.inr 16)), some (.inr (.inr 84)), some (.inl x2), some (.inl x3), some (.inl (w32 (4 + (w32 (5 * x3)))))], [], (am_sh, am_mm (am_upd (am_upd U 84 ((w32 (4 + (w32 (5 * x3)))).toNat) (am_ushr (U 17 x3.toNat) 24)) 84 ((w32 ((w32 (4 + (w32 (5 * x3)))) + 1)).toNat) (am_and (am_shr (U 17 x3.toNat) 16) 255)))) R
    have h2aaa := h2aa.2
    refine ev_seg (σ1 := ((d + 1), 169, 119, [some (.inr (.inr 16)), some (.inr (.inr 84)), some (.inl x2), some (.inl x3), some (.inl (w32 (4 + (w32 (5 * x3)))))], [.inl x3, .inr (.inr 17), .inl (w32 ((w32 (4 + (w32 (5 * x3)))) + 2)), .inr (.inr 84)], (am_sh, am_mm (am_upd (am_upd U 84 ((w32 (4 + (w32 (5 * x3)))).toNat) (am_ushr (U 17 x3.toNat) 24)) 84 ((w32 ((w32 (4 + (w32 (5 * x3)))) + 1)).toNat) (am_and (am_shr (U 17 x3.toNat) 16) 255))))) 7 (fun _ => rfl) ?_
    refine eu_iald 17 (n := 16) rfl (by decide) rfl (fun _ => rfl) h2.1 ?_
    show Ev (am_kz N X) ((d + 1), 169, 120, [some (.inr (.inr 16)), some (.inr (.inr 84)), some (.inl x2), some (.inl x3), some (.inl (w32 (4 + (w32 (5 * x3)))))], [.inl (U 17 x3.toNat), .inl (w32 ((w32 (4 + (w32 (5 * x3)))) + 2)), .inr (.inr 84)], (am_sh, am_mm (am_upd (am_upd U 84 ((w32 (4 + (w32 (5 * x3)))).toNat) (am_ushr (U 17 x3.toNat) 24)) 84 ((w32 ((w32 (4 + (w32 (5 * x3)))) + 1)).toNat) (am_and (am_shr (U 17 x3.toNat) 16) 255)))) R
    refine ev_seg (σ1 := ((d + 1), 169, 127, [some (.inr (.inr 16)), some (.inr (.inr 84)), some (.inl x2), some (.inl x3), some (.inl (w32 (4 + (w32 (5 * x3)))))], [.inl (am_and (am_shr (U 17 x3.toNat) 8) 255), .inl (w32 ((w32 (4 + (w32 (5 * x3)))) + 2)), .inr (.inr 84)], (am_sh, am_mm (am_upd (am_upd U 84 ((w32 (4 + (w32 (5 * x3)))).toNat) (am_ushr (U 17 x3.toNat) 24)) 84 ((w32 ((w32 (4 + (w32 (5 * x3)))) + 1)).toNat) (am_and (am_shr (U 17 x3.toNat) 16) 255))))) 4 (fun _ => rfl) ?_
    refine eu_iast 84 (n := 85) rfl (by decide) rfl (fun _ => rfl) h2aaa.1 ?_
    show Ev (am_kz N X) ((d + 1), 169, 128, [some (.inr (.inr 16)), some (.inr (.inr 84)), some (.inl x2), some (.inl x3), some (.inl (w32 (4 + (w32 (5 * x3)))))], [], (am_sh, am_mm (am_upd (am_upd (am_upd U 84 ((w32 (4 + (w32 (5 * x3)))).toNat) (am_ushr (U 17 x3.toNat) 24)) 84 ((w32 ((w32 (4 + (w32 (5 * x3)))) + 1)).toNat) (am_and (am_shr (U 17 x3.toNat) 16) 255)) 84 ((w32 ((w32 (4 + (w32 (5 * x3)))) + 2)).toNat) (am_and (am_shr (U 17 x3.toNat) 8) 255)))) R
    have h2aaaa := h2aaa.2
    refine ev_seg (σ1 := ((d + 1), 169, 138, [some (.inr (.inr 16)), some (.inr (.inr 84)), some (.inl x2), some (.inl x3), some (.inl (w32 (4 + (w32 (5 * x3)))))], [.inl x3, .inr (.inr 17), .inl (w32 ((w32 (4 + (w32 (5 * x3)))) + 3)), .inr (.inr 84)], (am_sh, am_mm (am_upd (am_upd (am_upd U 84 ((w32 (4 + (w32 (5 * x3)))).toNat) (am_ushr (U 17 x3.toNat) 24)) 84 ((w32 ((w32 (4 + (w32 (5 * x3)))) + 1)).toNat) (am_and (am_shr (U 17 x3.toNat) 16) 255)) 84 ((w32 ((w32 (4 + (w32 (5 * x3)))) + 2)).toNat) (am_and (am_shr (U 17 x3.toNat) 8) 255))))) 7 (fun _ => rfl) ?_
    refine eu_iald 17 (n := 16) rfl (by decide) rfl (fun _ => rfl) h2.1 ?_
    show Ev (am_kz N X) ((d + 1), 169, 139, [some (.inr (.inr 16)), some (.inr (.inr 84)), some (.inl x2), some (.inl x3), some (.inl (w32 (4 + (w32 (5 * x3)))))], [.inl (U 17 x3.toNat), .inl (w32 ((w32 (4 + (w32 (5 * x3)))) + 3)), .inr (.inr 84)], (am_sh, am_mm (am_upd (am_upd (am_upd U 84 ((w32 (4 + (w32 (5 * x3)))).toNat) (am_ushr (U 17 x3.toNat) 24)) 84 ((w32 ((w32 (4 + (w32 (5 * x3)))) + 1)).toNat) (am_and (am_shr (U 17 x3.toNat) 16) 255)) 84 ((w32 ((w32 (4 + (w32 (5 * x3)))) + 2)).toNat) (am_and (am_shr (U 17 x3.toNat) 8) 255)))) R
    refine ev_seg (σ1 := ((d + 1), 169, 143, [some (.inr (.inr 16)), some (.inr (.inr 84)), some (.inl x2), some (.inl x3), some (.inl (w32 (4 + (w32 (5 * x3)))))], [.inl (am_and (U 17 x3.toNat) 255), .inl (w32 ((w32 (4 + (w32 (5 * x3)))) + 3)), .inr (.inr 84)], (am_sh, am_mm (am_upd (am_upd (am_upd U 84 ((w32 (4 + (w32 (5 * x3)))).toNat) (am_ushr (U 17 x3.toNat) 24)) 84 ((w32 ((w32 (4 + (w32 (5 * x3)))) + 1)).toNat) (am_and (am_shr (U 17 x3.toNat) 16) 255)) 84 ((w32 ((w32 (4 + (w32 (5 * x3)))) + 2)).toNat) (am_and (am_shr (U 17 x3.toNat) 8) 255))))) 2 (fun _ => rfl) ?_
    refine eu_iast 84 (n := 85) rfl (by decide) rfl (fun _ => rfl) h2aaaa.1 ?_
    show Ev (am_kz N X) ((d + 1), 169, 144, [some (.inr (.inr 16)), some (.inr (.inr 84)), some (.inl x2), some (.inl x3), some (.inl (w32 (4 + (w32 (5 * x3)))))], [], (am_sh, am_mm (am_upd (am_upd (am_upd (am_upd U 84 ((w32 (4 + (w32 (5 * x3)))).toNat) (am_ushr (U 17 x3.toNat) 24)) 84 ((w32 ((w32 (4 + (w32 (5 * x3)))) + 1)).toNat) (am_and (am_shr (U 17 x3.toNat) 16) 255)) 84 ((w32 ((w32 (4 + (w32 (5 * x3)))) + 2)).toNat) (am_and (am_shr (U 17 x3.toNat) 8) 255)) 84 ((w32 ((w32 (4 + (w32 (5 * x3)))) + 3)).toNat) (am_and (U 17 x3.toNat) 255)))) R
    have h2aaaaa := h2aaaa.2
    refine ev_seg (σ1 := ((d + 1), 169, 154, [some (.inr (.inr 16)), some (.inr (.inr 84)), some (.inl x2), some (.inl x3), some (.inl (w32 (4 + (w32 (5 * x3)))))], [.inl x3, .inr (.inr 18), .inl (w32 ((w32 (4 + (w32 (5 * x3)))) + 4)), .inr (.inr 84)], (am_sh, am_mm (am_upd (am_upd (am_upd (am_upd U 84 ((w32 (4 + (w32 (5 * x3)))).toNat) (am_ushr (U 17 x3.toNat) 24)) 84 ((w32 ((w32 (4 + (w32 (5 * x3)))) + 1)).toNat) (am_and (am_shr (U 17 x3.toNat) 16) 255)) 84 ((w32 ((w32 (4 + (w32 (5 * x3)))) + 2)).toNat) (am_and (am_shr (U 17 x3.toNat) 8) 255)) 84 ((w32 ((w32 (4 + (w32 (5 * x3)))) + 3)).toNat) (am_and (U 17 x3.toNat) 255))))) 7 (fun _ => rfl) ?_
    refine eu_iald 18 (n := 16) rfl (by decide) rfl (fun _ => rfl) h2.1 ?_
    show Ev (am_kz N X) ((d + 1), 169, 155, [some (.inr (.inr 16)), some (.inr (.inr 84)), some (.inl x2), some (.inl x3), some (.inl (w32 (4 + (w32 (5 * x3)))))], [.inl (U 18 x3.toNat), .inl (w32 ((w32 (4 + (w32 (5 * x3)))) + 4)), .inr (.inr 84)], (am_sh, am_mm (am_upd (am_upd (am_upd (am_upd U 84 ((w32 (4 + (w32 (5 * x3)))).toNat) (am_ushr (U 17 x3.toNat) 24)) 84 ((w32 ((w32 (4 + (w32 (5 * x3)))) + 1)).toNat) (am_and (am_shr (U 17 x3.toNat) 16) 255)) 84 ((w32 ((w32 (4 + (w32 (5 * x3)))) + 2)).toNat) (am_and (am_shr (U 17 x3.toNat) 8) 255)) 84 ((w32 ((w32 (4 + (w32 (5 * x3)))) + 3)).toNat) (am_and (U 17 x3.toNat) 255)))) R
    refine ev_seg (σ1 := ((d + 1), 169, 157, [some (.inr (.inr 16)), some (.inr (.inr 84)), some (.inl x2), some (.inl x3), some (.inl (w32 (4 + (w32 (5 * x3)))))], [.inl (w32 ((U 18 x3.toNat) + 1)), .inl (w32 ((w32 (4 + (w32 (5 * x3)))) + 4)), .inr (.inr 84)], (am_sh, am_mm (am_upd (am_upd (am_upd (am_upd U 84 ((w32 (4 + (w32 (5 * x3)))).toNat) (am_ushr (U 17 x3.toNat) 24)) 84 ((w32 ((w32 (4 + (w32 (5 * x3)))) + 1)).toNat) (am_and (am_shr (U 17 x3.toNat) 16) 255)) 84 ((w32 ((w32 (4 + (w32 (5 * x3)))) + 2)).toNat) (am_and (am_shr (U 17 x3.toNat) 8) 255)) 84 ((w32 ((w32 (4 + (w32 (5 * x3)))) + 3)).toNat) (am_and (U 17 x3.toNat) 255))))) 2 (fun _ => rfl) ?_
    refine eu_iast 84 (n := 85) rfl (by decide) rfl (fun _ => rfl) h2aaaaa.1 ?_
    show Ev (am_kz N X) ((d + 1), 169, 158, [some (.inr (.inr 16)), some (.inr (.inr 84)), some (.inl x2), some (.inl x3), some (.inl (w32 (4 + (w32 (5 * x3)))))], [], (am_sh, am_mm (am_upd (am_upd (am_upd (am_upd (am_upd U 84 ((w32 (4 + (w32 (5 * x3)))).toNat) (am_ushr (U 17 x3.toNat) 24)) 84 ((w32 ((w32 (4 + (w32 (5 * x3)))) + 1)).toNat) (am_and (am_shr (U 17 x3.toNat) 16) 255)) 84 ((w32 ((w32 (4 + (w32 (5 * x3)))) + 2)).toNat) (am_and (am_shr (U 17 x3.toNat) 8) 255)) 84 ((w32 ((w32 (4 + (w32 (5 * x3)))) + 3)).toNat) (am_and (U 17 x3.toNat) 255)) 84 ((w32 ((w32 (4 + (w32 (5 * x3)))) + 4)).toNat) (w32 ((U 18 x3.toNat) + 1))))) R
    have h2aaaaaa := h2aaaaa.2
    refine ev_seg (σ1 := ((d + 1), 169, 62, [some (.inr (.inr 16)), some (.inr (.inr 84)), some (.inl x2), some (.inl (w32 (x3 + 1))), some (.inl (w32 (4 + (w32 (5 * x3)))))], [], (am_sh, am_mm (am_upd (am_upd (am_upd (am_upd (am_upd U 84 ((w32 (4 + (w32 (5 * x3)))).toNat) (am_ushr (U 17 x3.toNat) 24)) 84 ((w32 ((w32 (4 + (w32 (5 * x3)))) + 1)).toNat) (am_and (am_shr (U 17 x3.toNat) 16) 255)) 84 ((w32 ((w32 (4 + (w32 (5 * x3)))) + 2)).toNat) (am_and (am_shr (U 17 x3.toNat) 8) 255)) 84 ((w32 ((w32 (4 + (w32 (5 * x3)))) + 3)).toNat) (am_and (U 17 x3.toNat) 255)) 84 ((w32 ((w32 (4 + (w32 (5 * x3)))) + 4)).toNat) (w32 ((U 18 x3.toNat) + 1)))))) 2 (fun _ => rfl) ?_
    exact ev_le (L := [some (.inr (.inr 16)), some (.inr (.inr 84)), some (.inl x2), some (.inl (w32 (x3 + 1))), none]) ⟨rfl, ⟨rfl, ⟨rfl, ⟨rfl, trivial⟩⟩⟩⟩ h2aaaaaa
set_option maxRecDepth 8000 in
theorem M_writes_r0 {N : Nat} {X : Nat → Int} {d : Nat} {x1 : Int} {U : am_U} {R : Option am_V × am_M} (h : (0 ≤ (U 86 89) ∧ (U 86 89) < 90) ∧ R = rV (am_upd (am_upd U 138 ((U 86 89).toNat) (am_and x1 255)) 86 89 (w32 ((U 86 89) + 1)))) : EvK N X (M_writes_s0 d x1 U) R := by
  show Ev (am_kz N X) (d, 170, 0, [some (.inr (.inr 86)), some (.inl x1)], [], (am_sh, am_mm U)) R
  refine ev_seg (σ1 := (d, 170, 13, [some (.inr (.inr 86)), some (.inl x1)], [.inl (am_and x1 255), .inl (U 86 89), .inr (.inr 138)], (am_sh, am_mm U))) 7 (fun _ => rfl) ?_
  refine eu_iast 138 (n := 90) rfl (by decide) rfl (fun _ => rfl) h.1 ?_
  show Ev (am_kz N X) (d, 170, 14, [some (.inr (.inr 86)), some (.inl x1)], [], (am_sh, am_mm (am_upd U 138 ((U 86 89).toNat) (am_and x1 255)))) R
  have ha := h.2
  refine ev_seg (σ1 := (d, 170, 21, [some (.inr (.inr 86)), some (.inl x1)], [.inl (w32 ((U 86 89) + 1)), .inr (.inr 86)], (am_sh, am_mm (am_upd U 138 ((U 86 89).toNat) (am_and x1 255))))) 5 (fun _ => rfl) ?_
  refine eu_puti 86 (n := 90) rfl (by decide) rfl rfl ?_
  show Ev (am_kz N X) (d, 170, 24, [some (.inr (.inr 86)), some (.inl x1)], [], (am_sh, am_mm (am_upd (am_upd U 138 ((U 86 89).toNat) (am_and x1 255)) 86 89 (w32 ((U 86 89) + 1))))) R
  subst ha
  exact ev_end 1 (fun _ => rfl)
set_option maxRecDepth 8000 in
theorem Fk_readFrom_r0 {N : Nat} {X : Nat → Int} {d : Nat} {x2 : Int} {U : am_U} {R : Option am_V × am_M} (h : ∃ U1 : am_U, EvK N X (Fk_clear_21_s0 d U) (rV U1) ∧ ((x2 < 5) → R = rI 0 U1) ∧ ((5 ≤ x2) → ((1600 < x2) → R = rI 0 U1) ∧ ((x2 ≤ 1600) → ((16 < (U1 2 3)) → R = rI 0 U1) ∧ (((U1 2 3) ≤ 16) → ((x2 = (w32 (5 + (w32 (5 * (U1 2 3)))))) → (((U1 2 2) ≠ 1) → ((9999 < (w32 ((w32 (256 * (U1 2 0))) + (U1 2 1)))) → R = rI 0 (am_upd (am_upd U1 21 1 (w32 ((w32 (256 * (U1 2 0))) + (U1 2 1)))) 21 2 0)) ∧ (((w32 ((w32 (256 * (U1 2 0))) + (U1 2 1))) ≤ 9999) → ((1 < (U1 2 2)) → R = rI 0 (am_upd (am_upd U1 21 1 (w32 ((w32 (256 * (U1 2 0))) + (U1 2 1)))) 21 2 0)) ∧ (((U1 2 2) ≤ 1) → (0 ≤ (w32 (x2 - 1)) ∧ (w32 (x2 - 1)) < 1600) ∧ ∃ (r2 : Int) (U2 : am_U), EvK N X (Fk_checkOf_2_s0 d (w32 (x2 - 1)) (am_upd (am_upd U1 21 1 (w32 ((w32 (256 * (U1 2 0))) + (U1 2 1)))) 21 2 0)) (rI r2 U2) ∧ (((U1 2 ((w32 (x2 - 1)).toNat)) = r2) → EvK N X (Fk_readFrom_s104 (d + 1) x2 4 U2) R) ∧ (((U1 2 ((w32 (x2 - 1)).toNat)) ≠ r2) → R = rI 0 U2)))) ∧ (((U1 2 2) = 1) → ((9999 < (w32 ((w32 (256 * (U1 2 0))) + (U1 2 1)))) → R = rI 0 (am_upd (am_upd U1 21 1 (w32 ((w32 (256 * (U1 2 0))) + (U1 2 1)))) 21 2 1)) ∧ (((w32 ((w32 (256 * (U1 2 0))) + (U1 2 1))) ≤ 9999) → ((1 < (U1 2 2)) → R = rI 0 (am_upd (am_upd U1 21 1 (w32 ((w32 (256 * (U1 2 0))) + (U1 2 1)))) 21 2 1)) ∧ (((U1 2 2) ≤ 1) → (0 ≤ (w32 (x2 - 1)) ∧ (w32 (x2 - 1)) < 1600) ∧ ∃ (r3 : Int) (U3 : am_U), EvK N X (Fk_checkOf_2_s0 d (w32 (x2 - 1)) (am_upd (am_upd U1 21 1 (w32 ((w32 (256 * (U1 2 0))) + (U1 2 1)))) 21 2 1)) (rI r3 U3) ∧ (((U1 2 ((w32 (x2 - 1)).toNat)) = r3) → EvK N X (Fk_readFrom_s104 (d + 1) x2 4 U3) R) ∧ (((U1 2 ((w32 (x2 - 1)).toNat)) ≠ r3) → R = rI 0 U3))))) ∧ ((x2 ≠ (w32 (5 + (w32 (5 * (U1 2 3)))))) → R = rI 0 U1))))) : EvK N X (Fk_readFrom_s0 (d + 1) x2 U) R := by
  show Ev (am_kz N X) ((d + 1), 171, 0, [some (.inr (.inr 21)), some (.inr (.inr 2)), some (.inl x2), some (.inr (.inr 3)), none, none], [], (am_sh, am_mm U)) R
  refine ev_seg (σ1 := ((d + 1), 171, 1, [some (.inr (.inr 21)), some (.inr (.inr 2)), some (.inl x2), some (.inr (.inr 3)), none, none], [.inr (.inr 21)], (am_sh, am_mm U))) 1 (fun _ => rfl) ?_
  obtain ⟨U1, hc, ha⟩ := h
  refine ev_cal (σc := (Fk_clear_21_s0 d U)) (fun _ => rfl) hc ?_
  show Ev (am_kz N X) ((d + 1), 171, 4, [some (.inr (.inr 21)), some (.inr (.inr 2)), some (.inl x2), some (.inr (.inr 3)), none, none], [], (am_sh, am_mm U1)) R
  refine ev_br (P := x2 < 5) (σ1 := ((d + 1), 171, 34, [some (.inr (.inr 21)), some (.inr (.inr 2)), some (.inl x2), some (.inr (.inr 3)), none, none], [], (am_sh, am_mm U1))) (σ2 := ((d + 1), 171, 9, [some (.inr (.inr 21)), some (.inr (.inr 2)), some (.inl x2), some (.inr (.inr 3)), none, none], [], (am_sh, am_mm U1))) 3 (fun _ => rfl) (fun hc => ?_) (fun hc => ?_)
  · have ha1 := ha.1 hc
    subst ha1
    exact ev_end 2 (fun _ => rfl)
  · have ha2 := ha.2 (Int.not_lt.mp hc)
    refine ev_br (P := 1600 < x2) (σ1 := ((d + 1), 171, 34, [some (.inr (.inr 21)), some (.inr (.inr 2)), some (.inl x2), some (.inr (.inr 3)), none, none], [], (am_sh, am_mm U1))) (σ2 := ((d + 1), 171, 15, [some (.inr (.inr 21)), some (.inr (.inr 2)), some (.inl x2), some (.inr (.inr 3)), none, none], [], (am_sh, am_mm U1))) 4 (fun _ => rfl) (fun hc => ?_) (fun hc => ?_)
    · have ha21 := ha2.1 hc
      subst ha21
      exact ev_end 2 (fun _ => rfl)
    · have ha22 := ha2.2 (Int.not_lt.mp hc)
      refine ev_seg (σ1 := ((d + 1), 171, 17, [some (.inr (.inr 21)), some (.inr (.inr 2)), some (.inl x2), some (.inr (.inr 3)), none, none], [.inl 3, .inr (.inr 2)], (am_sh, am_mm U1))) 2 (fun _ => rfl) ?_
      refine eu_iald 2 (n := 1600) rfl (by decide) rfl (fun _ => rfl) (by decide) ?_
      show Ev (am_kz N X) ((d + 1), 171, 18, [some (.inr (.inr 21)), some (.inr (.inr 2)), some (.inl x2), some (.inr (.inr 3)), none, none], [.inl (U1 2 3)], (am_sh, am_mm U1)) R
      refine ev_br (P := 16 < (U1 2 3)) (σ1 := ((d + 1), 171, 34, [some (.inr (.inr 21)), some (.inr (.inr 2)), some (.inl x2), some (.inr (.inr 3)), none, none], [], (am_sh, am_mm U1))) (σ2 := ((d + 1), 171, 23, [some (.inr (.inr 21)), some (.inr (.inr 2)), some (.inl x2), some (.inr (.inr 3)), none, none], [], (am_sh, am_mm U1))) 2 (fun _ => rfl) (fun hc => ?_) (fun hc => ?_)
      · have ha221 := ha22.1 hc
        subst ha221
        exact ev_end 2 (fun _ => rfl)
      · have ha222 := ha22.2 (Int.not_lt.mp hc)
        refine ev_seg (σ1 := ((d + 1), 171, 28, [some (.inr (.inr 21)), some (.inr (.inr 2)), some (.inl x2), some (.inr (.inr 3)), none, none], [.inl 3, .inr (.inr 2), .inl 5, .inl 5, .inl x2], (am_sh, am_mm U1))) 5 (fun _ => rfl) ?_
        refine eu_iald 2 (n := 1600) rfl (by decide) rfl (fun _ => rfl) (by decide) ?_
        show Ev (am_kz N X) ((d + 1), 171, 29, [some (.inr (.inr 21)), some (.inr (.inr 2)), some (.inl x2), some (.inr (.inr 3)), none, none], [.inl (U1 2 3), .inl 5, .inl 5, .inl x2], (am_sh, am_mm U1)) R
        refine ev_br (P := x2 = (w32 (5 + (w32 (5 * (U1 2 3)))))) (σ1 := ((d + 1), 171, 36, [some (.inr (.inr 21)), some (.inr (.inr 2)), some (.inl x2), some (.inr (.inr 3)), none, none], [], (am_sh, am_mm U1))) (σ2 := ((d + 1), 171, 34, [some (.inr (.inr 21)), some (.inr (.inr 2)), some (.inl x2), some (.inr (.inr 3)), none, none], [], (am_sh, am_mm U1))) 3 (fun _ => rfl) (fun hc => ?_) (fun hc => ?_)
        · have ha2221 := ha222.1 hc
          refine ev_seg (σ1 := ((d + 1), 171, 42, [some (.inr (.inr 21)), some (.inr (.inr 2)), some (.inl x2), some (.inr (.inr 3)), none, none], [.inl 0, .inr (.inr 2), .inl 256, .inr (.inr 21)], (am_sh, am_mm U1))) 4 (fun _ => rfl) ?_
          refine eu_iald 2 (n := 1600) rfl (by decide) rfl (fun _ => rfl) (by decide) ?_
          show Ev (am_kz N X) ((d + 1), 171, 43, [some (.inr (.inr 21)), some (.inr (.inr 2)), some (.inl x2), some (.inr (.inr 3)), none, none], [.inl (U1 2 0), .inl 256, .inr (.inr 21)], (am_sh, am_mm U1)) R
          refine ev_seg (σ1 := ((d + 1), 171, 46, [some (.inr (.inr 21)), some (.inr (.inr 2)), some (.inl x2), some (.inr (.inr 3)), none, none], [.inl 1, .inr (.inr 2), .inl (w32 (256 * (U1 2 0))), .inr (.inr 21)], (am_sh, am_mm U1))) 3 (fun _ => rfl) ?_
          refine eu_iald 2 (n := 1600) rfl (by decide) rfl (fun _ => rfl) (by decide) ?_
          show Ev (am_kz N X) ((d + 1), 171, 47, [some (.inr (.inr 21)), some (.inr (.inr 2)), some (.inl x2), some (.inr (.inr 3)), none, none], [.inl (U1 2 1), .inl (w32 (256 * (U1 2 0))), .inr (.inr 21)], (am_sh, am_mm U1)) R
          refine ev_seg (σ1 := ((d + 1), 171, 48, [some (.inr (.inr 21)), some (.inr (.inr 2)), some (.inl x2), some (.inr (.inr 3)), none, none], [.inl (w32 ((w32 (256 * (U1 2 0))) + (U1 2 1))), .inr (.inr 21)], (am_sh, am_mm U1))) 1 (fun _ => rfl) ?_
          refine eu_puti 21 (n := 7) rfl (by decide) rfl rfl ?_
          show Ev (am_kz N X) ((d + 1), 171, 51, [some (.inr (.inr 21)), some (.inr (.inr 2)), some (.inl x2), some (.inr (.inr 3)), none, none], [], (am_sh, am_mm (am_upd U1 21 1 (w32 ((w32 (256 * (U1 2 0))) + (U1 2 1)))))) R
          refine ev_seg (σ1 := ((d + 1), 171, 54, [some (.inr (.inr 21)), some (.inr (.inr 2)), some (.inl x2), some (.inr (.inr 3)), none, none], [.inl 2, .inr (.inr 2), .inr (.inr 21)], (am_sh, am_mm (am_upd U1 21 1 (w32 ((w32 (256 * (U1 2 0))) + (U1 2 1))))))) 3 (fun _ => rfl) ?_
          refine eu_iald 2 (n := 1600) rfl (by decide) rfl (fun _ => rfl) (by decide) ?_
          show Ev (am_kz N X) ((d + 1), 171, 55, [some (.inr (.inr 21)), some (.inr (.inr 2)), some (.inl x2), some (.inr (.inr 3)), none, none], [.inl (U1 2 2), .inr (.inr 21)], (am_sh, am_mm (am_upd U1 21 1 (w32 ((w32 (256 * (U1 2 0))) + (U1 2 1)))))) R
          refine ev_br (P := ¬ (U1 2 2) = 1) (σ1 := ((d + 1), 171, 63, [some (.inr (.inr 21)), some (.inr (.inr 2)), some (.inl x2), some (.inr (.inr 3)), none, none], [.inr (.inr 21)], (am_sh, am_mm (am_upd U1 21 1 (w32 ((w32 (256 * (U1 2 0))) + (U1 2 1))))))) (σ2 := ((d + 1), 171, 59, [some (.inr (.inr 21)), some (.inr (.inr 2)), some (.inl x2), some (.inr (.inr 3)), none, none], [.inr (.inr 21)], (am_sh, am_mm (am_upd U1 21 1 (w32 ((w32 (256 * (U1 2 0))) + (U1 2 1))))))) 2 (fun _ => rfl) (fun hc => ?_) (fun hc => ?_)
          · have ha22211 := ha2221.1 hc
            refine ev_seg (σ1 := ((d + 1), 171, 64, [some (.inr (.inr 21)), some (.inr (.inr 2)), some (.inl x2), some (.inr (.inr 3)), none, none], [.inl 0, .inr (.inr 21)], (am_sh, am_mm (am_upd U1 21 1 (w32 ((w32 (256 * (U1 2 0))) + (U1 2 1))))))) 1 (fun _ => rfl) ?_
            refine eu_putz 21 (n := 7) rfl (by decide) rfl rfl (by decide) ?_
            show Ev (am_kz N X) ((d + 1), 171, 67, [some (.inr (.inr 21)), some (.inr (.inr 2)), some (.inl x2), some (.inr (.inr 3)), none, none], [], (am_sh, am_mm (am_upd (am_upd U1 21 1 (w32 ((w32 (256 * (U1 2 0))) + (U1 2 1)))) 21 2 0))) R
            refine ev_br (P := 9999 < (w32 ((w32 (256 * (U1 2 0))) + (U1 2 1)))) (σ1 := ((d + 1), 171, 99, [some (.inr (.inr 21)), some (.inr (.inr 2)), some (.inl x2), some (.inr (.inr 3)), none, none], [], (am_sh, am_mm (am_upd (am_upd U1 21 1 (w32 ((w32 (256 * (U1 2 0))) + (U1 2 1)))) 21 2 0)))) (σ2 := ((d + 1), 171, 77, [some (.inr (.inr 21)), some (.inr (.inr 2)), some (.inl x2), some (.inr (.inr 3)), none, none], [], (am_sh, am_mm (am_upd (am_upd U1 21 1 (w32 ((w32 (256 * (U1 2 0))) + (U1 2 1)))) 21 2 0)))) 4 (fun _ => rfl) (fun hc => ?_) (fun hc => ?_)
            · have ha222111 := ha22211.1 hc
              subst ha222111
              exact ev_end 2 (fun _ => rfl)
            · have ha222112 := ha22211.2 (Int.not_lt.mp hc)
              refine ev_seg (σ1 := ((d + 1), 171, 79, [some (.inr (.inr 21)), some (.inr (.inr 2)), some (.inl x2), some (.inr (.inr 3)), none, none], [.inl 2, .inr (.inr 2)], (am_sh, am_mm (am_upd (am_upd U1 21 1 (w32 ((w32 (256 * (U1 2 0))) + (U1 2 1)))) 21 2 0)))) 2 (fun _ => rfl) ?_
              refine eu_iald 2 (n := 1600) rfl (by decide) rfl (fun _ => rfl) (by decide) ?_
              show Ev (am_kz N X) ((d + 1), 171, 80, [some (.inr (.inr 21)), some (.inr (.inr 2)), some (.inl x2), some (.inr (.inr 3)), none, none], [.inl (U1 2 2)], (am_sh, am_mm (am_upd (am_upd U1 21 1 (w32 ((w32 (256 * (U1 2 0))) + (U1 2 1)))) 21 2 0))) R
              refine ev_br (P := 1 < (U1 2 2)) (σ1 := ((d + 1), 171, 99, [some (.inr (.inr 21)), some (.inr (.inr 2)), some (.inl x2), some (.inr (.inr 3)), none, none], [], (am_sh, am_mm (am_upd (am_upd U1 21 1 (w32 ((w32 (256 * (U1 2 0))) + (U1 2 1)))) 21 2 0)))) (σ2 := ((d + 1), 171, 84, [some (.inr (.inr 21)), some (.inr (.inr 2)), some (.inl x2), some (.inr (.inr 3)), none, none], [], (am_sh, am_mm (am_upd (am_upd U1 21 1 (w32 ((w32 (256 * (U1 2 0))) + (U1 2 1)))) 21 2 0)))) 2 (fun _ => rfl) (fun hc => ?_) (fun hc => ?_)
              · have ha2221121 := ha222112.1 hc
                subst ha2221121
                exact ev_end 2 (fun _ => rfl)
              · have ha2221122 := ha222112.2 (Int.not_lt.mp hc)
                refine ev_seg (σ1 := ((d + 1), 171, 88, [some (.inr (.inr 21)), some (.inr (.inr 2)), some (.inl x2), some (.inr (.inr 3)), none, none], [.inl (w32 (x2 - 1)), .inr (.inr 2)], (am_sh, am_mm (am_upd (am_upd U1 21 1 (w32 ((w32 (256 * (U1 2 0))) + (U1 2 1)))) 21 2 0)))) 4 (fun _ => rfl) ?_
                refine eu_iald 2 (n := 1600) rfl (by decide) rfl (fun _ => rfl) ha2221122.1 ?_
                show Ev (am_kz N X) ((d + 1), 171, 89, [some (.inr (.inr 21)), some (.inr (.inr 2)), some (.inl x2), some (.inr (.inr 3)), none, none], [.inl (U1 2 ((w32 (x2 - 1)).toNat))], (am_sh, am_mm (am_upd (am_upd U1 21 1 (w32 ((w32 (256 * (U1 2 0))) + (U1 2 1)))) 21 2 0))) R
                have ha2221122a := ha2221122.2
                refine ev_seg (σ1 := ((d + 1), 171, 93, [some (.inr (.inr 21)), some (.inr (.inr 2)), some (.inl x2), some (.inr (.inr 3)), none, none], [.inl (w32 (x2 - 1)), .inr (.inr 2), .inl (U1 2 ((w32 (x2 - 1)).toNat))], (am_sh, am_mm (am_upd (am_upd U1 21 1 (w32 ((w32 (256 * (U1 2 0))) + (U1 2 1)))) 21 2 0)))) 4 (fun _ => rfl) ?_
                obtain ⟨r2, U2, ha2221122ac, ha2221122aa⟩ := ha2221122a
                refine ev_cal (σc := (Fk_checkOf_2_s0 d (w32 (x2 - 1)) (am_upd (am_upd U1 21 1 (w32 ((w32 (256 * (U1 2 0))) + (U1 2 1)))) 21 2 0))) (fun _ => rfl) ha2221122ac ?_
                show Ev (am_kz N X) ((d + 1), 171, 96, [some (.inr (.inr 21)), some (.inr (.inr 2)), some (.inl x2), some (.inr (.inr 3)), none, none], [.inl r2, .inl (U1 2 ((w32 (x2 - 1)).toNat))], (am_sh, am_mm U2)) R
                refine ev_br (P := (U1 2 ((w32 (x2 - 1)).toNat)) = r2) (σ1 := ((d + 1), 171, 101, [some (.inr (.inr 21)), some (.inr (.inr 2)), some (.inl x2), some (.inr (.inr 3)), none, none], [], (am_sh, am_mm U2))) (σ2 := ((d + 1), 171, 99, [some (.inr (.inr 21)), some (.inr (.inr 2)), some (.inl x2), some (.inr (.inr 3)), none, none], [], (am_sh, am_mm U2))) 1 (fun _ => rfl) (fun hc => ?_) (fun hc => ?_)
                · have ha2221122aa1 := ha2221122aa.1 hc
                  refine ev_seg (σ1 := ((d + 1), 171, 104, [some (.inr (.inr 21)), some (.inr (.inr 2)), some (.inl x2), some (.inr (.inr 3)), some (.inl 4), none], [], (am_sh, am_mm U2))) 2 (fun _ => rfl) ?_
                  exact ha2221122aa1
                · have ha2221122aa2 := ha2221122aa.2 hc
                  subst ha2221122aa2
                  exact ev_end 2 (fun _ => rfl)
          · have ha22212 := ha2221.2 (Decidable.not_not.mp hc)
            refine ev_seg (σ1 := ((d + 1), 171, 64, [some (.inr (.inr 21)), some (.inr (.inr 2)), some (.inl x2), some (.inr (.inr 3)), none, none], [.inl 1, .inr (.inr 21)], (am_sh, am_mm (am_upd U1 21 1 (w32 ((w32 (256 * (U1 2 0))) + (U1 2 1))))))) 2 (fun _ => rfl) ?_
            refine eu_putz 21 (n := 7) rfl (by decide) rfl rfl (by decide) ?_
            show Ev (am_kz N X) ((d + 1), 171, 67, [some (.inr (.inr 21)), some (.inr (.inr 2)), some (.inl x2), some (.inr (.inr 3)), none, none], [], (am_sh, am_mm (am_upd (am_upd U1 21 1 (w32 ((w32 (256 * (U1 2 0))) + (U1 2 1)))) 21 2 1))) R
            refine ev_br (P := 9999 < (w32 ((w32 (256 * (U1 2 0))) + (U1 2 1)))) (σ1 := ((d + 1), 171, 99, [some (.inr (.inr 21)), some (.inr (.inr 2)), some (.inl x2), some (.inr (.inr 3)), none, none], [], (am_sh, am_mm (am_upd (am_upd U1 21 1 (w32 ((w32 (256 * (U1 2 0))) + (U1 2 1)))) 21 2 1)))) (σ2 := ((d + 1), 171, 77, [some (.inr (.inr 21)), some (.inr (.inr 2)), some (.inl x2), some (.inr (.inr 3)), none, none], [], (am_sh, am_mm (am_upd (am_upd U1 21 1 (w32 ((w32 (256 * (U1 2 0))) + (U1 2 1)))) 21 2 1)))) 4 (fun _ => rfl) (fun hc => ?_) (fun hc => ?_)
            · have ha222121 := ha22212.1 hc
              subst ha222121
              exact ev_end 2 (fun _ => rfl)
            · have ha222122 := ha22212.2 (Int.not_lt.mp hc)
              refine ev_seg (σ1 := ((d + 1), 171, 79, [some (.inr (.inr 21)), some (.inr (.inr 2)), some (.inl x2), some (.inr (.inr 3)), none, none], [.inl 2, .inr (.inr 2)], (am_sh, am_mm (am_upd (am_upd U1 21 1 (w32 ((w32 (256 * (U1 2 0))) + (U1 2 1)))) 21 2 1)))) 2 (fun _ => rfl) ?_
              refine eu_iald 2 (n := 1600) rfl (by decide) rfl (fun _ => rfl) (by decide) ?_
              show Ev (am_kz N X) ((d + 1), 171, 80, [some (.inr (.inr 21)), some (.inr (.inr 2)), some (.inl x2), some (.inr (.inr 3)), none, none], [.inl (U1 2 2)], (am_sh, am_mm (am_upd (am_upd U1 21 1 (w32 ((w32 (256 * (U1 2 0))) + (U1 2 1)))) 21 2 1))) R
              refine ev_br (P := 1 < (U1 2 2)) (σ1 := ((d + 1), 171, 99, [some (.inr (.inr 21)), some (.inr (.inr 2)), some (.inl x2), some (.inr (.inr 3)), none, none], [], (am_sh, am_mm (am_upd (am_upd U1 21 1 (w32 ((w32 (256 * (U1 2 0))) + (U1 2 1)))) 21 2 1)))) (σ2 := ((d + 1), 171, 84, [some (.inr (.inr 21)), some (.inr (.inr 2)), some (.inl x2), some (.inr (.inr 3)), none, none], [], (am_sh, am_mm (am_upd (am_upd U1 21 1 (w32 ((w32 (256 * (U1 2 0))) + (U1 2 1)))) 21 2 1)))) 2 (fun _ => rfl) (fun hc => ?_) (fun hc => ?_)
              · have ha2221221 := ha222122.1 hc
                subst ha2221221
                exact ev_end 2 (fun _ => rfl)
              · have ha2221222 := ha222122.2 (Int.not_lt.mp hc)
                refine ev_seg (σ1 := ((d + 1), 171, 88, [some (.inr (.inr 21)), some (.inr (.inr 2)), some (.inl x2), some (.inr (.inr 3)), none, none], [.inl (w32 (x2 - 1)), .inr (.inr 2)], (am_sh, am_mm (am_upd (am_upd U1 21 1 (w32 ((w32 (256 * (U1 2 0))) + (U1 2 1)))) 21 2 1)))) 4 (fun _ => rfl) ?_
                refine eu_iald 2 (n := 1600) rfl (by decide) rfl (fun _ => rfl) ha2221222.1 ?_
                show Ev (am_kz N X) ((d + 1), 171, 89, [some (.inr (.inr 21)), some (.inr (.inr 2)), some (.inl x2), some (.inr (.inr 3)), none, none], [.inl (U1 2 ((w32 (x2 - 1)).toNat))], (am_sh, am_mm (am_upd (am_upd U1 21 1 (w32 ((w32 (256 * (U1 2 0))) + (U1 2 1)))) 21 2 1))) R
                have ha2221222a := ha2221222.2
                refine ev_seg (σ1 := ((d + 1), 171, 93, [some (.inr (.inr 21)), some (.inr (.inr 2)), some (.inl x2), some (.inr (.inr 3)), none, none], [.inl (w32 (x2 - 1)), .inr (.inr 2), .inl (U1 2 ((w32 (x2 - 1)).toNat))], (am_sh, am_mm (am_upd (am_upd U1 21 1 (w32 ((w32 (256 * (U1 2 0))) + (U1 2 1)))) 21 2 1)))) 4 (fun _ => rfl) ?_
                obtain ⟨r3, U3, ha2221222ac, ha2221222aa⟩ := ha2221222a
                refine ev_cal (σc := (Fk_checkOf_2_s0 d (w32 (x2 - 1)) (am_upd (am_upd U1 21 1 (w32 ((w32 (256 * (U1 2 0))) + (U1 2 1)))) 21 2 1))) (fun _ => rfl) ha2221222ac ?_
                show Ev (am_kz N X) ((d + 1), 171, 96, [some (.inr (.inr 21)), some (.inr (.inr 2)), some (.inl x2), some (.inr (.inr 3)), none, none], [.inl r3, .inl (U1 2 ((w32 (x2 - 1)).toNat))], (am_sh, am_mm U3)) R
                refine ev_br (P := (U1 2 ((w32 (x2 - 1)).toNat)) = r3) (σ1 := ((d + 1), 171, 101, [some (.inr (.inr 21)), some (.inr (.inr 2)), some (.inl x2), some (.inr (.inr 3)), none, none], [], (am_sh, am_mm U3))) (σ2 := ((d + 1), 171, 99, [some (.inr (.inr 21)), some (.inr (.inr 2)), some (.inl x2), some (.inr (.inr 3)), none, none], [], (am_sh, am_mm U3))) 1 (fun _ => rfl) (fun hc => ?_) (fun hc => ?_)
                · have ha2221222aa1 := ha2221222aa.1 hc
                  refine ev_seg (σ1 := ((d + 1), 171, 104, [some (.inr (.inr 21)), some (.inr (.inr 2)), some (.inl x2), some (.inr (.inr 3)), some (.inl 4), none], [], (am_sh, am_mm U3))) 2 (fun _ => rfl) ?_
                  exact ha2221222aa1
                · have ha2221222aa2 := ha2221222aa.2 hc
                  subst ha2221222aa2
                  exact ev_end 2 (fun _ => rfl)
        · have ha2222 := ha222.2 hc
          subst ha2222
          exact ev_end 2 (fun _ => rfl)
set_option maxRecDepth 8000 in
theorem Fk_readFrom_r104 {N : Nat} {X : Nat → Int} {d : Nat} {x2 x4 : Int} {U : am_U} {R : Option am_V × am_M} (h : ((x2 ≤ (w32 (x4 + 5))) → R = rI 1 U) ∧ (((w32 (x4 + 5)) < x2) → (0 ≤ x4 ∧ x4 < 1600) ∧ (0 ≤ (w32 (x4 + 1)) ∧ (w32 (x4 + 1)) < 1600) ∧ (0 ≤ (w32 (x4 + 2)) ∧ (w32 (x4 + 2)) < 1600) ∧ (0 ≤ (w32 (x4 + 3)) ∧ (w32 (x4 + 3)) < 1600) ∧ (0 ≤ (w32 (x4 + 4)) ∧ (w32 (x4 + 4)) < 1600) ∧ ∃ (r1 : Int) (U1 : am_U), EvK N X (Fk_readOne_s0 d (am_or (am_or (am_or (am_shl (U 2 x4.toNat) 24) (am_shl (U 2 ((w32 (x4 + 1)).toNat)) 16)) (am_shl (U 2 ((w32 (x4 + 2)).toNat)) 8)) (U 2 ((w32 (x4 + 3)).toNat))) (w32 ((U 2 ((w32 (x4 + 4)).toNat)) - 1)) U) (rI r1 U1) ∧ ((r1 ≠ 0) → EvK N X (Fk_readFrom_s104 (d + 1) x2 (w32 (x4 + 5)) U1) R) ∧ ((r1 = 0) → R = rI 0 U1))) : EvK N X (Fk_readFrom_s104 (d + 1) x2 x4 U) R := by
  show Ev (am_kz N X) ((d + 1), 171, 104, [some (.inr (.inr 21)), some (.inr (.inr 2)), some (.inl x2), some (.inr (.inr 3)), some (.inl x4), none], [], (am_sh, am_mm U)) R
  refine ev_br (P := x2 ≤ (w32 (x4 + 5))) (σ1 := ((d + 1), 171, 174, [some (.inr (.inr 21)), some (.inr (.inr 2)), some (.inl x2), some (.inr (.inr 3)), some (.inl x4), none], [], (am_sh, am_mm U))) (σ2 := ((d + 1), 171, 112, [some (.inr (.inr 21)), some (.inr (.inr 2)), some (.inl x2), some (.inr (.inr 3)), some (.inl x4), none], [], (am_sh, am_mm U))) 5 (fun _ => rfl) (fun hc => ?_) (fun hc => ?_)
  · have h1 := h.1 hc
    subst h1
    exact ev_end 2 (fun _ => rfl)
  · have h2 := h.2 (Int.not_le.mp hc)
    refine ev_seg (σ1 := ((d + 1), 171, 115, [some (.inr (.inr 21)), some (.inr (.inr 2)), some (.inl x2), some (.inr (.inr 3)), some (.inl x4), none], [.inl x4, .inr (.inr 2)], (am_sh, am_mm U))) 2 (fun _ => rfl) ?_
    refine eu_iald 2 (n := 1600) rfl (by decide) rfl (fun _ => rfl) h2.1 ?_
    show Ev (am_kz N X) ((d + 1), 171, 116, [some (.inr (.inr 21)), some (.inr (.inr 2)), some (.inl x2), some (.inr (.inr 3)), some (.inl x4), none], [.inl (U 2 x4.toNat)], (am_sh, am_mm U)) R
    have h2a := h2.2
    refine ev_seg (σ1 := ((d + 1), 171, 124, [some (.inr (.inr 21)), some (.inr (.inr 2)), some (.inl x2), some (.inr (.inr 3)), some (.inl x4), none], [.inl (w32 (x4 + 1)), .inr (.inr 2), .inl (am_shl (U 2 x4.toNat) 24)], (am_sh, am_mm U))) 6 (fun _ => rfl) ?_
    refine eu_iald 2 (n := 1600) rfl (by decide) rfl (fun _ => rfl) h2a.1 ?_
    show Ev (am_kz N X) ((d + 1), 171, 125, [some (.inr (.inr 21)), some (.inr (.inr 2)), some (.inl x2), some (.inr (.inr 3)), some (.inl x4), none], [.inl (U 2 ((w32 (x4 + 1)).toNat)), .inl (am_shl (U 2 x4.toNat) 24)], (am_sh, am_mm U)) R
    have h2aa := h2a.2
    refine ev_seg (σ1 := ((d + 1), 171, 134, [some (.inr (.inr 21)), some (.inr (.inr 2)), some (.inl x2), some (.inr (.inr 3)), some (.inl x4), none], [.inl (w32 (x4 + 2)), .inr (.inr 2), .inl (am_or (am_shl (U 2 x4.toNat) 24) (am_shl (U 2 ((w32 (x4 + 1)).toNat)) 16))], (am_sh, am_mm U))) 7 (fun _ => rfl) ?_
    refine eu_iald 2 (n := 1600) rfl (by decide) rfl (fun _ => rfl) h2aa.1 ?_
    show Ev (am_kz N X) ((d + 1), 171, 135, [some (.inr (.inr 21)), some (.inr (.inr 2)), some (.inl x2), some (.inr (.inr 3)), some (.inl x4), none], [.inl (U 2 ((w32 (x4 + 2)).toNat)), .inl (am_or (am_shl (U 2 x4.toNat) 24) (am_shl (U 2 ((w32 (x4 + 1)).toNat)) 16))], (am_sh, am_mm U)) R
    have h2aaa := h2aa.2
    refine ev_seg (σ1 := ((d + 1), 171, 144, [some (.inr (.inr 21)), some (.inr (.inr 2)), some (.inl x2), some (.inr (.inr 3)), some (.inl x4), none], [.inl (w32 (x4 + 3)), .inr (.inr 2), .inl (am_or (am_or (am_shl (U 2 x4.toNat) 24) (am_shl (U 2 ((w32 (x4 + 1)).toNat)) 16)) (am_shl (U 2 ((w32 (x4 + 2)).toNat)) 8))], (am_sh, am_mm U))) 7 (fun _ => rfl) ?_
    refine eu_iald 2 (n := 1600) rfl (by decide) rfl (fun _ => rfl) h2aaa.1 ?_
    show Ev (am_kz N X) ((d + 1), 171, 145, [some (.inr (.inr 21)), some (.inr (.inr 2)), some (.inl x2), some (.inr (.inr 3)), some (.inl x4), none], [.inl (U 2 ((w32 (x4 + 3)).toNat)), .inl (am_or (am_or (am_shl (U 2 x4.toNat) 24) (am_shl (U 2 ((w32 (x4 + 1)).toNat)) 16)) (am_shl (U 2 ((w32 (x4 + 2)).toNat)) 8))], (am_sh, am_mm U)) R
    have h2aaaa := h2aaa.2
    refine ev_seg (σ1 := ((d + 1), 171, 156, [some (.inr (.inr 21)), some (.inr (.inr 2)), some (.inl x2), some (.inr (.inr 3)), some (.inl x4), some (.inl (am_or (am_or (am_or (am_shl (U 2 x4.toNat) 24) (am_shl (U 2 ((w32 (x4 + 1)).toNat)) 16)) (am_shl (U 2 ((w32 (x4 + 2)).toNat)) 8)) (U 2 ((w32 (x4 + 3)).toNat))))], [.inl (w32 (x4 + 4)), .inr (.inr 2), .inl (am_or (am_or (am_or (am_shl (U 2 x4.toNat) 24) (am_shl (U 2 ((w32 (x4 + 1)).toNat)) 16)) (am_shl (U 2 ((w32 (x4 + 2)).toNat)) 8)) (U 2 ((w32 (x4 + 3)).toNat))), .inr (.inr 21)], (am_sh, am_mm U))) 8 (fun _ => rfl) ?_
    refine eu_iald 2 (n := 1600) rfl (by decide) rfl (fun _ => rfl) h2aaaa.1 ?_
    show Ev (am_kz N X) ((d + 1), 171, 157, [some (.inr (.inr 21)), some (.inr (.inr 2)), some (.inl x2), some (.inr (.inr 3)), some (.inl x4), some (.inl (am_or (am_or (am_or (am_shl (U 2 x4.toNat) 24) (am_shl (U 2 ((w32 (x4 + 1)).toNat)) 16)) (am_shl (U 2 ((w32 (x4 + 2)).toNat)) 8)) (U 2 ((w32 (x4 + 3)).toNat))))], [.inl (U 2 ((w32 (x4 + 4)).toNat)), .inl (am_or (am_or (am_or (am_shl (U 2 x4.toNat) 24) (am_shl (U 2 ((w32 (x4 + 1)).toNat)) 16)) (am_shl (U 2 ((w32 (x4 + 2)).toNat)) 8)) (U 2 ((w32 (x4 + 3)).toNat))), .inr (.inr 21)], (am_sh, am_mm U)) R
    have h2aaaaa := h2aaaa.2
    refine ev_seg (σ1 := ((d + 1), 171, 160, [some (.inr (.inr 21)), some (.inr (.inr 2)), some (.inl x2), some (.inr (.inr 3)), some (.inl x4), some (.inl (am_or (am_or (am_or (am_shl (U 2 x4.toNat) 24) (am_shl (U 2 ((w32 (x4 + 1)).toNat)) 16)) (am_shl (U 2 ((w32 (x4 + 2)).toNat)) 8)) (U 2 ((w32 (x4 + 3)).toNat))))], [.inr (.inr 3), .inl (w32 ((U 2 ((w32 (x4 + 4)).toNat)) - 1)), .inl (am_or (am_or (am_or (am_shl (U 2 x4.toNat) 24) (am_shl (U 2 ((w32 (x4 + 1)).toNat)) 16)) (am_shl (U 2 ((w32 (x4 + 2)).toNat)) 8)) (U 2 ((w32 (x4 + 3)).toNat))), .inr (.inr 21)], (am_sh, am_mm U))) 3 (fun _ => rfl) ?_
    obtain ⟨r1, U1, h2aaaaac, h2aaaaaa⟩ := h2aaaaa
    refine ev_cal (σc := (Fk_readOne_s0 d (am_or (am_or (am_or (am_shl (U 2 x4.toNat) 24) (am_shl (U 2 ((w32 (x4 + 1)).toNat)) 16)) (am_shl (U 2 ((w32 (x4 + 2)).toNat)) 8)) (U 2 ((w32 (x4 + 3)).toNat))) (w32 ((U 2 ((w32 (x4 + 4)).toNat)) - 1)) U)) (fun _ => rfl) h2aaaaac ?_
    show Ev (am_kz N X) ((d + 1), 171, 163, [some (.inr (.inr 21)), some (.inr (.inr 2)), some (.inl x2), some (.inr (.inr 3)), some (.inl x4), some (.inl (am_or (am_or (am_or (am_shl (U 2 x4.toNat) 24) (am_shl (U 2 ((w32 (x4 + 1)).toNat)) 16)) (am_shl (U 2 ((w32 (x4 + 2)).toNat)) 8)) (U 2 ((w32 (x4 + 3)).toNat))))], [.inl r1], (am_sh, am_mm U1)) R
    refine ev_br (P := ¬ r1 = 0) (σ1 := ((d + 1), 171, 168, [some (.inr (.inr 21)), some (.inr (.inr 2)), some (.inl x2), some (.inr (.inr 3)), some (.inl x4), some (.inl (am_or (am_or (am_or (am_shl (U 2 x4.toNat) 24) (am_shl (U 2 ((w32 (x4 + 1)).toNat)) 16)) (am_shl (U 2 ((w32 (x4 + 2)).toNat)) 8)) (U 2 ((w32 (x4 + 3)).toNat))))], [], (am_sh, am_mm U1))) (σ2 := ((d + 1), 171, 166, [some (.inr (.inr 21)), some (.inr (.inr 2)), some (.inl x2), some (.inr (.inr 3)), some (.inl x4), some (.inl (am_or (am_or (am_or (am_shl (U 2 x4.toNat) 24) (am_shl (U 2 ((w32 (x4 + 1)).toNat)) 16)) (am_shl (U 2 ((w32 (x4 + 2)).toNat)) 8)) (U 2 ((w32 (x4 + 3)).toNat))))], [], (am_sh, am_mm U1))) 1 (fun _ => rfl) (fun hc => ?_) (fun hc => ?_)
    · have h2aaaaaa1 := h2aaaaaa.1 hc
      refine ev_seg (σ1 := ((d + 1), 171, 104, [some (.inr (.inr 21)), some (.inr (.inr 2)), some (.inl x2), some (.inr (.inr 3)), some (.inl (w32 (x4 + 5))), some (.inl (am_or (am_or (am_or (am_shl (U 2 x4.toNat) 24) (am_shl (U 2 ((w32 (x4 + 1)).toNat)) 16)) (am_shl (U 2 ((w32 (x4 + 2)).toNat)) 8)) (U 2 ((w32 (x4 + 3)).toNat))))], [], (am_sh, am_mm U1))) 2 (fun _ => rfl) ?_
      exact ev_le (L := [some (.inr (.inr 21)), some (.inr (.inr 2)), some (.inl x2), some (.inr (.inr 3)), some (.inl (w32 (x4 + 5))), none]) ⟨rfl, ⟨rfl, ⟨rfl, ⟨rfl, ⟨rfl, trivial⟩⟩⟩⟩⟩ h2aaaaaa1
    · have h2aaaaaa2 := h2aaaaaa.2 (Decidable.not_not.mp hc)
      subst h2aaaaaa2
      exact ev_end 2 (fun _ => rfl)
set_option maxRecDepth 8000 in
theorem M_comesOn_r0 {N : Nat} {X : Nat → Int} {d : Nat} {x1 : Int} {U : am_U} {R : Option am_V × am_M} (h : ((x1 < 5) → R = rI 0 U) ∧ ((5 ≤ x1) → ((9999 < (am_or (am_shl (U 87 0) 8) (U 87 1))) → R = rI 0 U) ∧ (((am_or (am_shl (U 87 0) 8) (U 87 1)) ≤ 9999) → ((1 < (U 87 2)) → R = rI 0 U) ∧ (((U 87 2) ≤ 1) → ((16 < (U 87 3)) → R = rI 0 U) ∧ (((U 87 3) ≤ 16) → ((x1 = (w32 (5 + (w32 (5 * (U 87 3)))))) → EvK N X (M_comesOn_s69 (d + 1) x1 73 0 U) R) ∧ ((x1 ≠ (w32 (5 + (w32 (5 * (U 87 3)))))) → R = rI 0 U)))))) : EvK N X (M_comesOn_s0 (d + 1) x1 U) R := by
  show Ev (am_kz N X) ((d + 1), 172, 0, [some (.inr (.inr 86)), some (.inl x1), none, none, none, none], [], (am_sh, am_mm U)) R
  refine ev_br (P := x1 < 5) (σ1 := ((d + 1), 172, 62, [some (.inr (.inr 86)), some (.inl x1), none, none, none, none], [], (am_sh, am_mm U))) (σ2 := ((d + 1), 172, 5, [some (.inr (.inr 86)), some (.inl x1), none, none, none, none], [], (am_sh, am_mm U))) 3 (fun _ => rfl) (fun hc => ?_) (fun hc => ?_)
  · have h1 := h.1 hc
    subst h1
    exact ev_end 2 (fun _ => rfl)
  · have h2 := h.2 (Int.not_lt.mp hc)
    refine ev_seg (σ1 := ((d + 1), 172, 10, [some (.inr (.inr 86)), some (.inl x1), none, none, none, none], [.inl 0, .inr (.inr 87)], (am_sh, am_mm U))) 3 (fun _ => rfl) ?_
    refine eu_iald 87 (n := 1800) rfl (by decide) rfl (fun _ => rfl) (by decide) ?_
    show Ev (am_kz N X) ((d + 1), 172, 11, [some (.inr (.inr 86)), some (.inl x1), none, none, none, none], [.inl (U 87 0)], (am_sh, am_mm U)) R
    refine ev_seg (σ1 := ((d + 1), 172, 19, [some (.inr (.inr 86)), some (.inl x1), none, none, none, none], [.inl 1, .inr (.inr 87), .inl (am_shl (U 87 0) 8)], (am_sh, am_mm U))) 5 (fun _ => rfl) ?_
    refine eu_iald 87 (n := 1800) rfl (by decide) rfl (fun _ => rfl) (by decide) ?_
    show Ev (am_kz N X) ((d + 1), 172, 20, [some (.inr (.inr 86)), some (.inl x1), none, none, none, none], [.inl (U 87 1), .inl (am_shl (U 87 0) 8)], (am_sh, am_mm U)) R
    refine ev_br (P := 9999 < (am_or (am_shl (U 87 0) 8) (U 87 1))) (σ1 := ((d + 1), 172, 62, [some (.inr (.inr 86)), some (.inl x1), none, none, none, none], [], (am_sh, am_mm U))) (σ2 := ((d + 1), 172, 27, [some (.inr (.inr 86)), some (.inl x1), none, none, none, none], [], (am_sh, am_mm U))) 3 (fun _ => rfl) (fun hc => ?_) (fun hc => ?_)
    · have h21 := h2.1 hc
      subst h21
      exact ev_end 2 (fun _ => rfl)
    · have h22 := h2.2 (Int.not_lt.mp hc)
      refine ev_seg (σ1 := ((d + 1), 172, 32, [some (.inr (.inr 86)), some (.inl x1), none, none, none, none], [.inl 2, .inr (.inr 87)], (am_sh, am_mm U))) 3 (fun _ => rfl) ?_
      refine eu_iald 87 (n := 1800) rfl (by decide) rfl (fun _ => rfl) (by decide) ?_
      show Ev (am_kz N X) ((d + 1), 172, 33, [some (.inr (.inr 86)), some (.inl x1), none, none, none, none], [.inl (U 87 2)], (am_sh, am_mm U)) R
      refine ev_br (P := 1 < (U 87 2)) (σ1 := ((d + 1), 172, 62, [some (.inr (.inr 86)), some (.inl x1), none, none, none, none], [], (am_sh, am_mm U))) (σ2 := ((d + 1), 172, 37, [some (.inr (.inr 86)), some (.inl x1), none, none, none, none], [], (am_sh, am_mm U))) 2 (fun _ => rfl) (fun hc => ?_) (fun hc => ?_)
      · have h221 := h22.1 hc
        subst h221
        exact ev_end 2 (fun _ => rfl)
      · have h222 := h22.2 (Int.not_lt.mp hc)
        refine ev_seg (σ1 := ((d + 1), 172, 42, [some (.inr (.inr 86)), some (.inl x1), none, none, none, none], [.inl 3, .inr (.inr 87)], (am_sh, am_mm U))) 3 (fun _ => rfl) ?_
        refine eu_iald 87 (n := 1800) rfl (by decide) rfl (fun _ => rfl) (by decide) ?_
        show Ev (am_kz N X) ((d + 1), 172, 43, [some (.inr (.inr 86)), some (.inl x1), none, none, none, none], [.inl (U 87 3)], (am_sh, am_mm U)) R
        refine ev_br (P := 16 < (U 87 3)) (σ1 := ((d + 1), 172, 62, [some (.inr (.inr 86)), some (.inl x1), none, none, none, none], [], (am_sh, am_mm U))) (σ2 := ((d + 1), 172, 48, [some (.inr (.inr 86)), some (.inl x1), none, none, none, none], [], (am_sh, am_mm U))) 2 (fun _ => rfl) (fun hc => ?_) (fun hc => ?_)
        · have h2221 := h222.1 hc
          subst h2221
          exact ev_end 2 (fun _ => rfl)
        · have h2222 := h222.2 (Int.not_lt.mp hc)
          refine ev_seg (σ1 := ((d + 1), 172, 56, [some (.inr (.inr 86)), some (.inl x1), none, none, none, none], [.inl 3, .inr (.inr 87), .inl 5, .inl 5, .inl x1], (am_sh, am_mm U))) 6 (fun _ => rfl) ?_
          refine eu_iald 87 (n := 1800) rfl (by decide) rfl (fun _ => rfl) (by decide) ?_
          show Ev (am_kz N X) ((d + 1), 172, 57, [some (.inr (.inr 86)), some (.inl x1), none, none, none, none], [.inl (U 87 3), .inl 5, .inl 5, .inl x1], (am_sh, am_mm U)) R
          refine ev_br (P := x1 = (w32 (5 + (w32 (5 * (U 87 3)))))) (σ1 := ((d + 1), 172, 64, [some (.inr (.inr 86)), some (.inl x1), none, none, none, none], [], (am_sh, am_mm U))) (σ2 := ((d + 1), 172, 62, [some (.inr (.inr 86)), some (.inl x1), none, none, none, none], [], (am_sh, am_mm U))) 3 (fun _ => rfl) (fun hc => ?_) (fun hc => ?_)
          · have h22221 := h2222.1 hc
            refine ev_seg (σ1 := ((d + 1), 172, 69, [some (.inr (.inr 86)), some (.inl x1), some (.inl 73), some (.inl 0), none, none], [], (am_sh, am_mm U))) 4 (fun _ => rfl) ?_
            exact h22221
          · have h22222 := h2222.2 hc
            subst h22222
            exact ev_end 2 (fun _ => rfl)
set_option maxRecDepth 8000 in
theorem M_comesOn_r69 {N : Nat} {X : Nat → Int} {d : Nat} {x1 x2 x3 : Int} {U : am_U} {R : Option am_V × am_M} (h : (((w32 (x1 - 1)) ≤ x3) → (0 ≤ (w32 (x1 - 1)) ∧ (w32 (x1 - 1)) < 1800) ∧ (((U 87 ((w32 (x1 - 1)).toNat)) = x2) → EvK N X (M_comesOn_s125 (d + 1) x1 x2 0 (am_upd U 122 1 (U 87 3))) R) ∧ (((U 87 ((w32 (x1 - 1)).toNat)) ≠ x2) → R = rI 0 U)) ∧ ((x3 < (w32 (x1 - 1))) → (0 ≤ x3 ∧ x3 < 1800) ∧ EvK N X (M_comesOn_s69 (d + 1) x1 (Int.tmod (w32 ((w32 (5 * x2)) + (U 87 x3.toNat))) 251) (w32 (x3 + 1)) U) R)) : EvK N X (M_comesOn_s69 (d + 1) x1 x2 x3 U) R := by
  show Ev (am_kz N X) ((d + 1), 172, 69, [some (.inr (.inr 86)), some (.inl x1), some (.inl x2), some (.inl x3), none, none], [], (am_sh, am_mm U)) R
  refine ev_br (P := (w32 (x1 - 1)) ≤ x3) (σ1 := ((d + 1), 172, 97, [some (.inr (.inr 86)), some (.inl x1), some (.inl x2), some (.inl x3), none, none], [], (am_sh, am_mm U))) (σ2 := ((d + 1), 172, 76, [some (.inr (.inr 86)), some (.inl x1), some (.inl x2), some (.inl x3), none, none], [], (am_sh, am_mm U))) 5 (fun _ => rfl) (fun hc => ?_) (fun hc => ?_)
  · have h1 := h.1 hc
    refine ev_seg (σ1 := ((d + 1), 172, 104, [some (.inr (.inr 86)), some (.inl x1), some (.inl x2), some (.inl x3), none, none], [.inl (w32 (x1 - 1)), .inr (.inr 87)], (am_sh, am_mm U))) 5 (fun _ => rfl) ?_
    refine eu_iald 87 (n := 1800) rfl (by decide) rfl (fun _ => rfl) h1.1 ?_
    show Ev (am_kz N X) ((d + 1), 172, 105, [some (.inr (.inr 86)), some (.inl x1), some (.inl x2), some (.inl x3), none, none], [.inl (U 87 ((w32 (x1 - 1)).toNat))], (am_sh, am_mm U)) R
    have h1a := h1.2
    refine ev_br (P := (U 87 ((w32 (x1 - 1)).toNat)) = x2) (σ1 := ((d + 1), 172, 111, [some (.inr (.inr 86)), some (.inl x1), some (.inl x2), some (.inl x3), none, none], [], (am_sh, am_mm U))) (σ2 := ((d + 1), 172, 109, [some (.inr (.inr 86)), some (.inl x1), some (.inl x2), some (.inl x3), none, none], [], (am_sh, am_mm U))) 2 (fun _ => rfl) (fun hc => ?_) (fun hc => ?_)
    · have h1a1 := h1a.1 hc
      refine ev_seg (σ1 := ((d + 1), 172, 121, [some (.inr (.inr 86)), some (.inl x1), some (.inl x2), some (.inl x3), none, none], [.inl 3, .inr (.inr 87), .inl 1, .inr (.inr 122)], (am_sh, am_mm U))) 6 (fun _ => rfl) ?_
      refine eu_iald 87 (n := 1800) rfl (by decide) rfl (fun _ => rfl) (by decide) ?_
      show Ev (am_kz N X) ((d + 1), 172, 122, [some (.inr (.inr 86)), some (.inl x1), some (.inl x2), some (.inl x3), none, none], [.inl (U 87 3), .inl 1, .inr (.inr 122)], (am_sh, am_mm U)) R
      refine eu_iast 122 (n := 22) rfl (by decide) rfl (fun _ => rfl) (by decide) ?_
      show Ev (am_kz N X) ((d + 1), 172, 123, [some (.inr (.inr 86)), some (.inl x1), some (.inl x2), some (.inl x3), none, none], [], (am_sh, am_mm (am_upd U 122 1 (U 87 3)))) R
      refine ev_seg (σ1 := ((d + 1), 172, 125, [some (.inr (.inr 86)), some (.inl x1), some (.inl x2), some (.inl 0), none, none], [], (am_sh, am_mm (am_upd U 122 1 (U 87 3))))) 2 (fun _ => rfl) ?_
      exact h1a1
    · have h1a2 := h1a.2 hc
      subst h1a2
      exact ev_end 2 (fun _ => rfl)
  · have h2 := h.2 (Int.not_le.mp hc)
    refine ev_seg (σ1 := ((d + 1), 172, 84, [some (.inr (.inr 86)), some (.inl x1), some (.inl x2), some (.inl x3), none, none], [.inl x3, .inr (.inr 87), .inl (w32 (5 * x2))], (am_sh, am_mm U))) 6 (fun _ => rfl) ?_
    refine eu_iald 87 (n := 1800) rfl (by decide) rfl (fun _ => rfl) h2.1 ?_
    show Ev (am_kz N X) ((d + 1), 172, 85, [some (.inr (.inr 86)), some (.inl x1), some (.inl x2), some (.inl x3), none, none], [.inl (U 87 x3.toNat), .inl (w32 (5 * x2))], (am_sh, am_mm U)) R
    have h2a := h2.2
    refine ev_seg (σ1 := ((d + 1), 172, 89, [some (.inr (.inr 86)), some (.inl x1), some (.inl x2), some (.inl x3), none, none], [.inl 251, .inl (w32 ((w32 (5 * x2)) + (U 87 x3.toNat)))], (am_sh, am_mm U))) 2 (fun _ => rfl) ?_
    refine ev_irem rfl (by decide) ?_
    show Ev (am_kz N X) ((d + 1), 172, 90, [some (.inr (.inr 86)), some (.inl x1), some (.inl x2), some (.inl x3), none, none], [.inl (Int.tmod (w32 ((w32 (5 * x2)) + (U 87 x3.toNat))) 251)], (am_sh, am_mm U)) R
    refine ev_seg (σ1 := ((d + 1), 172, 69, [some (.inr (.inr 86)), some (.inl x1), some (.inl (Int.tmod (w32 ((w32 (5 * x2)) + (U 87 x3.toNat))) 251)), some (.inl (w32 (x3 + 1))), none, none], [], (am_sh, am_mm U))) 3 (fun _ => rfl) ?_
    exact h2a
set_option maxRecDepth 8000 in
theorem M_comesOn_r125 {N : Nat} {X : Nat → Int} {d : Nat} {x1 x2 x3 : Int} {U : am_U} {R : Option am_V × am_M} (h : (((U 87 3) ≤ x3) → ∃ (r1 : Int) (U1 : am_U), EvK N X (M_areRooms_s0 d 1 U) (rI r1 U1) ∧ (r1 = 0 ∨ r1 = 1) ∧ R = rI r1 U1) ∧ ((x3 < (U 87 3)) → ∃ (r2 : Int) (U2 : am_U), EvK N X (M_fourBytes_s0 d (w32 (4 + (w32 (5 * x3)))) U) (rI r2 U2) ∧ ((r2 = 0) → R = rI 0 U2) ∧ ((r2 ≠ 0) → ((999999999 < r2) → R = rI 0 U2) ∧ ((r2 ≤ 999999999) → ((r2 < (-999999999)) → R = rI 0 U2) ∧ (((-999999999) ≤ r2) → (0 ≤ (w32 (8 + (w32 (5 * x3)))) ∧ (w32 (8 + (w32 (5 * x3)))) < 1800) ∧ (0 ≤ (U2 86 13) ∧ (U2 86 13) < 2) ∧ (((U2 87 ((w32 (8 + (w32 (5 * x3)))).toNat)) ≤ (U2 90 ((U2 86 13).toNat))) → EvK N X (M_comesOn_s195 (d + 1) x1 x2 x3 r2 0 U2) R) ∧ (((U2 90 ((U2 86 13).toNat)) < (U2 87 ((w32 (8 + (w32 (5 * x3)))).toNat))) → R = rI 0 U2)))))) : EvK N X (M_comesOn_s125 (d + 1) x1 x2 x3 U) R := by
  show Ev (am_kz N X) ((d + 1), 172, 125, [some (.inr (.inr 86)), some (.inl x1), some (.inl x2), some (.inl x3), none, none], [], (am_sh, am_mm U)) R
  refine ev_seg (σ1 := ((d + 1), 172, 131, [some (.inr (.inr 86)), some (.inl x1), some (.inl x2), some (.inl x3), none, none], [.inl 3, .inr (.inr 87), .inl x3], (am_sh, am_mm U))) 4 (fun _ => rfl) ?_
  refine eu_iald 87 (n := 1800) rfl (by decide) rfl (fun _ => rfl) (by decide) ?_
  show Ev (am_kz N X) ((d + 1), 172, 132, [some (.inr (.inr 86)), some (.inl x1), some (.inl x2), some (.inl x3), none, none], [.inl (U 87 3), .inl x3], (am_sh, am_mm U)) R
  refine ev_br (P := (U 87 3) ≤ x3) (σ1 := ((d + 1), 172, 260, [some (.inr (.inr 86)), some (.inl x1), some (.inl x2), some (.inl x3), none, none], [], (am_sh, am_mm U))) (σ2 := ((d + 1), 172, 135, [some (.inr (.inr 86)), some (.inl x1), some (.inl x2), some (.inl x3), none, none], [], (am_sh, am_mm U))) 1 (fun _ => rfl) (fun hc => ?_) (fun hc => ?_)
  · have h1 := h.1 hc
    refine ev_seg (σ1 := ((d + 1), 172, 262, [some (.inr (.inr 86)), some (.inl x1), some (.inl x2), some (.inl x3), none, none], [.inl 1, .inr (.inr 86)], (am_sh, am_mm U))) 2 (fun _ => rfl) ?_
    obtain ⟨r1, U1, h1c, h1a⟩ := h1
    refine ev_cal (σc := (M_areRooms_s0 d 1 U)) (fun _ => rfl) h1c ?_
    show Ev (am_kz N X) ((d + 1), 172, 265, [some (.inr (.inr 86)), some (.inl x1), some (.inl x2), some (.inl x3), none, none], [.inl r1], (am_sh, am_mm U1)) R
    rw [h1a.2]
    exact ev_retz rfl rfl h1a.1
  · have h2 := h.2 (Int.not_le.mp hc)
    refine ev_seg (σ1 := ((d + 1), 172, 141, [some (.inr (.inr 86)), some (.inl x1), some (.inl x2), some (.inl x3), none, none], [.inl (w32 (4 + (w32 (5 * x3)))), .inr (.inr 86)], (am_sh, am_mm U))) 6 (fun _ => rfl) ?_
    obtain ⟨r2, U2, h2c, h2a⟩ := h2
    refine ev_cal (σc := (M_fourBytes_s0 d (w32 (4 + (w32 (5 * x3)))) U)) (fun _ => rfl) h2c ?_
    show Ev (am_kz N X) ((d + 1), 172, 144, [some (.inr (.inr 86)), some (.inl x1), some (.inl x2), some (.inl x3), none, none], [.inl r2], (am_sh, am_mm U2)) R
    refine ev_br (P := r2 = 0) (σ1 := ((d + 1), 172, 190, [some (.inr (.inr 86)), some (.inl x1), some (.inl x2), some (.inl x3), some (.inl r2), none], [], (am_sh, am_mm U2))) (σ2 := ((d + 1), 172, 151, [some (.inr (.inr 86)), some (.inl x1), some (.inl x2), some (.inl x3), some (.inl r2), none], [], (am_sh, am_mm U2))) 3 (fun _ => rfl) (fun hc => ?_) (fun hc => ?_)
    · have h2a1 := h2a.1 hc
      subst h2a1
      exact ev_end 2 (fun _ => rfl)
    · have h2a2 := h2a.2 hc
      refine ev_br (P := 999999999 < r2) (σ1 := ((d + 1), 172, 190, [some (.inr (.inr 86)), some (.inl x1), some (.inl x2), some (.inl x3), some (.inl r2), none], [], (am_sh, am_mm U2))) (σ2 := ((d + 1), 172, 159, [some (.inr (.inr 86)), some (.inl x1), some (.inl x2), some (.inl x3), some (.inl r2), none], [], (am_sh, am_mm U2))) 3 (fun _ => rfl) (fun hc => ?_) (fun hc => ?_)
      · have h2a21 := h2a2.1 hc
        subst h2a21
        exact ev_end 2 (fun _ => rfl)
      · have h2a22 := h2a2.2 (Int.not_lt.mp hc)
        refine ev_br (P := r2 < (-999999999)) (σ1 := ((d + 1), 172, 190, [some (.inr (.inr 86)), some (.inl x1), some (.inl x2), some (.inl x3), some (.inl r2), none], [], (am_sh, am_mm U2))) (σ2 := ((d + 1), 172, 167, [some (.inr (.inr 86)), some (.inl x1), some (.inl x2), some (.inl x3), some (.inl r2), none], [], (am_sh, am_mm U2))) 3 (fun _ => rfl) (fun hc => ?_) (fun hc => ?_)
        · have h2a221 := h2a22.1 hc
          subst h2a221
          exact ev_end 2 (fun _ => rfl)
        · have h2a222 := h2a22.2 (Int.not_lt.mp hc)
          refine ev_seg (σ1 := ((d + 1), 172, 177, [some (.inr (.inr 86)), some (.inl x1), some (.inl x2), some (.inl x3), some (.inl r2), none], [.inl (w32 (8 + (w32 (5 * x3)))), .inr (.inr 87)], (am_sh, am_mm U2))) 7 (fun _ => rfl) ?_
          refine eu_iald 87 (n := 1800) rfl (by decide) rfl (fun _ => rfl) h2a222.1 ?_
          show Ev (am_kz N X) ((d + 1), 172, 178, [some (.inr (.inr 86)), some (.inl x1), some (.inl x2), some (.inl x3), some (.inl r2), none], [.inl (U2 87 ((w32 (8 + (w32 (5 * x3)))).toNat))], (am_sh, am_mm U2)) R
          have h2a222a := h2a222.2
          refine ev_seg (σ1 := ((d + 1), 172, 186, [some (.inr (.inr 86)), some (.inl x1), some (.inl x2), some (.inl x3), some (.inl r2), none], [.inl (U2 86 13), .inr (.inr 90), .inl (U2 87 ((w32 (8 + (w32 (5 * x3)))).toNat))], (am_sh, am_mm U2))) 4 (fun _ => rfl) ?_
          refine eu_iald 90 (n := 2) rfl (by decide) rfl (fun _ => rfl) h2a222a.1 ?_
          show Ev (am_kz N X) ((d + 1), 172, 187, [some (.inr (.inr 86)), some (.inl x1), some (.inl x2), some (.inl x3), some (.inl r2), none], [.inl (U2 90 ((U2 86 13).toNat)), .inl (U2 87 ((w32 (8 + (w32 (5 * x3)))).toNat))], (am_sh, am_mm U2)) R
          have h2a222aa := h2a222a.2
          refine ev_br (P := (U2 87 ((w32 (8 + (w32 (5 * x3)))).toNat)) ≤ (U2 90 ((U2 86 13).toNat))) (σ1 := ((d + 1), 172, 192, [some (.inr (.inr 86)), some (.inl x1), some (.inl x2), some (.inl x3), some (.inl r2), none], [], (am_sh, am_mm U2))) (σ2 := ((d + 1), 172, 190, [some (.inr (.inr 86)), some (.inl x1), some (.inl x2), some (.inl x3), some (.inl r2), none], [], (am_sh, am_mm U2))) 1 (fun _ => rfl) (fun hc => ?_) (fun hc => ?_)
          · have h2a222aa1 := h2a222aa.1 hc
            refine ev_seg (σ1 := ((d + 1), 172, 195, [some (.inr (.inr 86)), some (.inl x1), some (.inl x2), some (.inl x3), some (.inl r2), some (.inl 0)], [], (am_sh, am_mm U2))) 2 (fun _ => rfl) ?_
            exact h2a222aa1
          · have h2a222aa2 := h2a222aa.2 (Int.not_le.mp hc)
            subst h2a222aa2
            exact ev_end 2 (fun _ => rfl)
set_option maxRecDepth 8000 in
theorem M_comesOn_r195 {N : Nat} {X : Nat → Int} {d : Nat} {x1 x2 x3 x4 x5 : Int} {U : am_U} {R : Option am_V × am_M} (h : ((x3 ≤ x5) → (0 ≤ (w32 (16 + x3)) ∧ (w32 (16 + x3)) < 352) ∧ (0 ≤ (w32 (8 + (w32 (5 * x3)))) ∧ (w32 (8 + (w32 (5 * x3)))) < 1800) ∧ EvK N X (M_comesOn_s125 (d + 1) x1 x2 (w32 (x3 + 1)) (am_upd (am_upd U 123 ((w32 (16 + x3)).toNat) x4) 124 ((w32 (16 + x3)).toNat) (w32 ((U 87 ((w32 (8 + (w32 (5 * x3)))).toNat)) - 1)))) R) ∧ ((x5 < x3) → ∃ (r1 : Int) (U1 : am_U), EvK N X (M_numberOf_s0 d 1 x5 U) (rI r1 U1) ∧ ((r1 ≠ x4) → EvK N X (M_comesOn_s195 (d + 1) x1 x2 x3 x4 (w32 (x5 + 1)) U1) R) ∧ ((r1 = x4) → R = rI 0 U1))) : EvK N X (M_comesOn_s195 (d + 1) x1 x2 x3 x4 x5 U) R := by
  show Ev (am_kz N X) ((d + 1), 172, 195, [some (.inr (.inr 86)), some (.inl x1), some (.inl x2), some (.inl x3), some (.inl x4), some (.inl x5)], [], (am_sh, am_mm U)) R
  refine ev_br (P := x3 ≤ x5) (σ1 := ((d + 1), 172, 221, [some (.inr (.inr 86)), some (.inl x1), some (.inl x2), some (.inl x3), some (.inl x4), some (.inl x5)], [], (am_sh, am_mm U))) (σ2 := ((d + 1), 172, 201, [some (.inr (.inr 86)), some (.inl x1), some (.inl x2), some (.inl x3), some (.inl x4), some (.inl x5)], [], (am_sh, am_mm U))) 3 (fun _ => rfl) (fun hc => ?_) (fun hc => ?_)
  · have h1 := h.1 hc
    refine ev_seg (σ1 := ((d + 1), 172, 231, [some (.inr (.inr 86)), some (.inl x1), some (.inl x2), some (.inl x3), some (.inl x4), some (.inl x5)], [.inl x4, .inl (w32 (16 + x3)), .inr (.inr 123)], (am_sh, am_mm U))) 6 (fun _ => rfl) ?_
    refine eu_iast 123 (n := 352) rfl (by decide) rfl (fun _ => rfl) h1.1 ?_
    show Ev (am_kz N X) ((d + 1), 172, 232, [some (.inr (.inr 86)), some (.inl x1), some (.inl x2), some (.inl x3), some (.inl x4), some (.inl x5)], [], (am_sh, am_mm (am_upd U 123 ((w32 (16 + x3)).toNat) x4))) R
    have h1a := h1.2
    refine ev_seg (σ1 := ((d + 1), 172, 250, [some (.inr (.inr 86)), some (.inl x1), some (.inl x2), some (.inl x3), some (.inl x4), some (.inl x5)], [.inl (w32 (8 + (w32 (5 * x3)))), .inr (.inr 87), .inl (w32 (16 + x3)), .inr (.inr 124)], (am_sh, am_mm (am_upd U 123 ((w32 (16 + x3)).toNat) x4)))) 12 (fun _ => rfl) ?_
    refine eu_iald 87 (n := 1800) rfl (by decide) rfl (fun _ => rfl) h1a.1 ?_
    show Ev (am_kz N X) ((d + 1), 172, 251, [some (.inr (.inr 86)), some (.inl x1), some (.inl x2), some (.inl x3), some (.inl x4), some (.inl x5)], [.inl (U 87 ((w32 (8 + (w32 (5 * x3)))).toNat)), .inl (w32 (16 + x3)), .inr (.inr 124)], (am_sh, am_mm (am_upd U 123 ((w32 (16 + x3)).toNat) x4))) R
    have h1aa := h1a.2
    refine ev_seg (σ1 := ((d + 1), 172, 253, [some (.inr (.inr 86)), some (.inl x1), some (.inl x2), some (.inl x3), some (.inl x4), some (.inl x5)], [.inl (w32 ((U 87 ((w32 (8 + (w32 (5 * x3)))).toNat)) - 1)), .inl (w32 (16 + x3)), .inr (.inr 124)], (am_sh, am_mm (am_upd U 123 ((w32 (16 + x3)).toNat) x4)))) 2 (fun _ => rfl) ?_
    refine eu_iast 124 (n := 352) rfl (by decide) rfl (fun _ => rfl) h1.1 ?_
    show Ev (am_kz N X) ((d + 1), 172, 254, [some (.inr (.inr 86)), some (.inl x1), some (.inl x2), some (.inl x3), some (.inl x4), some (.inl x5)], [], (am_sh, am_mm (am_upd (am_upd U 123 ((w32 (16 + x3)).toNat) x4) 124 ((w32 (16 + x3)).toNat) (w32 ((U 87 ((w32 (8 + (w32 (5 * x3)))).toNat)) - 1))))) R
    refine ev_seg (σ1 := ((d + 1), 172, 125, [some (.inr (.inr 86)), some (.inl x1), some (.inl x2), some (.inl (w32 (x3 + 1))), some (.inl x4), some (.inl x5)], [], (am_sh, am_mm (am_upd (am_upd U 123 ((w32 (16 + x3)).toNat) x4) 124 ((w32 (16 + x3)).toNat) (w32 ((U 87 ((w32 (8 + (w32 (5 * x3)))).toNat)) - 1)))))) 2 (fun _ => rfl) ?_
    exact ev_le (L := [some (.inr (.inr 86)), some (.inl x1), some (.inl x2), some (.inl (w32 (x3 + 1))), none, none]) ⟨rfl, ⟨rfl, ⟨rfl, ⟨rfl, trivial⟩⟩⟩⟩ h1aa
  · have h2 := h.2 (Int.not_le.mp hc)
    refine ev_seg (σ1 := ((d + 1), 172, 205, [some (.inr (.inr 86)), some (.inl x1), some (.inl x2), some (.inl x3), some (.inl x4), some (.inl x5)], [.inl x5, .inl 1, .inr (.inr 86)], (am_sh, am_mm U))) 3 (fun _ => rfl) ?_
    obtain ⟨r1, U1, h2c, h2a⟩ := h2
    refine ev_cal (σc := (M_numberOf_s0 d 1 x5 U)) (fun _ => rfl) h2c ?_
    show Ev (am_kz N X) ((d + 1), 172, 208, [some (.inr (.inr 86)), some (.inl x1), some (.inl x2), some (.inl x3), some (.inl x4), some (.inl x5)], [.inl r1], (am_sh, am_mm U1)) R
    refine ev_br (P := ¬ r1 = x4) (σ1 := ((d + 1), 172, 215, [some (.inr (.inr 86)), some (.inl x1), some (.inl x2), some (.inl x3), some (.inl x4), some (.inl x5)], [], (am_sh, am_mm U1))) (σ2 := ((d + 1), 172, 213, [some (.inr (.inr 86)), some (.inl x1), some (.inl x2), some (.inl x3), some (.inl x4), some (.inl x5)], [], (am_sh, am_mm U1))) 2 (fun _ => rfl) (fun hc => ?_) (fun hc => ?_)
    · have h2a1 := h2a.1 hc
      refine ev_seg (σ1 := ((d + 1), 172, 195, [some (.inr (.inr 86)), some (.inl x1), some (.inl x2), some (.inl x3), some (.inl x4), some (.inl (w32 (x5 + 1)))], [], (am_sh, am_mm U1))) 2 (fun _ => rfl) ?_
      exact h2a1
    · have h2a2 := h2a.2 (Decidable.not_not.mp hc)
      subst h2a2
      exact ev_end 2 (fun _ => rfl)
set_option maxRecDepth 8000 in
theorem Tk_cut_r0 {N : Nat} {X : Nat → Int} {d : Nat} {x2 : Int} {U : am_U} {R : Option am_V × am_M} (h : EvK N X (Tk_cut_s20 (d + 1) x2 0 0 (am_upd (am_upd (am_upd U 27 1 0) 27 2 x2) 27 3 (-1))) R) : EvK N X (Tk_cut_s0 (d + 1) x2 U) R := by
  show Ev (am_kz N X) ((d + 1), 174, 0, [some (.inr (.inr 27)), some (.inr (.inr 2)), some (.inl x2), none, none], [], (am_sh, am_mm U)) R
  refine ev_seg (σ1 := ((d + 1), 174, 2, [some (.inr (.inr 27)), some (.inr (.inr 2)), some (.inl x2), none, none], [.inl 0, .inr (.inr 27)], (am_sh, am_mm U))) 2 (fun _ => rfl) ?_
  refine eu_puti 27 (n := 4) rfl (by decide) rfl rfl ?_
  show Ev (am_kz N X) ((d + 1), 174, 5, [some (.inr (.inr 27)), some (.inr (.inr 2)), some (.inl x2), none, none], [], (am_sh, am_mm (am_upd U 27 1 0))) R
  refine ev_seg (σ1 := ((d + 1), 174, 7, [some (.inr (.inr 27)), some (.inr (.inr 2)), some (.inl x2), none, none], [.inl x2, .inr (.inr 27)], (am_sh, am_mm (am_upd U 27 1 0)))) 2 (fun _ => rfl) ?_
  refine eu_puti 27 (n := 4) rfl (by decide) rfl rfl ?_
  show Ev (am_kz N X) ((d + 1), 174, 10, [some (.inr (.inr 27)), some (.inr (.inr 2)), some (.inl x2), none, none], [], (am_sh, am_mm (am_upd (am_upd U 27 1 0) 27 2 x2))) R
  refine ev_seg (σ1 := ((d + 1), 174, 12, [some (.inr (.inr 27)), some (.inr (.inr 2)), some (.inl x2), none, none], [.inl (-1), .inr (.inr 27)], (am_sh, am_mm (am_upd (am_upd U 27 1 0) 27 2 x2)))) 2 (fun _ => rfl) ?_
  refine eu_puti 27 (n := 4) rfl (by decide) rfl rfl ?_
  show Ev (am_kz N X) ((d + 1), 174, 15, [some (.inr (.inr 27)), some (.inr (.inr 2)), some (.inl x2), none, none], [], (am_sh, am_mm (am_upd (am_upd (am_upd U 27 1 0) 27 2 x2) 27 3 (-1)))) R
  refine ev_seg (σ1 := ((d + 1), 174, 20, [some (.inr (.inr 27)), some (.inr (.inr 2)), some (.inl x2), some (.inl 0), some (.inl 0)], [], (am_sh, am_mm (am_upd (am_upd (am_upd U 27 1 0) 27 2 x2) 27 3 (-1))))) 4 (fun _ => rfl) ?_
  exact h
set_option maxRecDepth 8000 in
theorem Tk_cut_r20 {N : Nat} {X : Nat → Int} {d : Nat} {x2 x3 x4 : Int} {U : am_U} {R : Option am_V × am_M} (h : ((x2 ≤ x4) → ∃ U1 : am_U, EvK N X (Tk_put_s0 d 0 0 x2 U) (rV U1) ∧ R = rV U1) ∧ ((x4 < x2) → ((x2 ≤ x3) → ∃ U2 : am_U, EvK N X (Tk_put_s0 d 0 0 x2 U) (rV U2) ∧ R = rV U2) ∧ ((x3 < x2) → ∃ (r3 : Int) (U3 : am_U), EvK N X (Tk_cutOne_s0 d x2 x3 U) (rI r3 U3) ∧ EvK N X (Tk_cut_s20 (d + 1) x2 r3 (w32 (x4 + 1)) U3) R))) : EvK N X (Tk_cut_s20 (d + 1) x2 x3 x4 U) R := by
  show Ev (am_kz N X) ((d + 1), 174, 20, [some (.inr (.inr 27)), some (.inr (.inr 2)), some (.inl x2), some (.inl x3), some (.inl x4)], [], (am_sh, am_mm U)) R
  refine ev_br (P := x2 ≤ x4) (σ1 := ((d + 1), 174, 45, [some (.inr (.inr 27)), some (.inr (.inr 2)), some (.inl x2), some (.inl x3), some (.inl x4)], [], (am_sh, am_mm U))) (σ2 := ((d + 1), 174, 26, [some (.inr (.inr 27)), some (.inr (.inr 2)), some (.inl x2), some (.inl x3), some (.inl x4)], [], (am_sh, am_mm U))) 3 (fun _ => rfl) (fun hc => ?_) (fun hc => ?_)
  · have h1 := h.1 hc
    refine ev_seg (σ1 := ((d + 1), 174, 49, [some (.inr (.inr 27)), some (.inr (.inr 2)), some (.inl x2), some (.inl x3), some (.inl x4)], [.inl x2, .inl 0, .inl 0, .inr (.inr 27)], (am_sh, am_mm U))) 4 (fun _ => rfl) ?_
    obtain ⟨U1, h1c, h1a⟩ := h1
    refine ev_cal (σc := (Tk_put_s0 d 0 0 x2 U)) (fun _ => rfl) h1c ?_
    show Ev (am_kz N X) ((d + 1), 174, 52, [some (.inr (.inr 27)), some (.inr (.inr 2)), some (.inl x2), some (.inl x3), some (.inl x4)], [], (am_sh, am_mm U1)) R
    subst h1a
    exact ev_end 1 (fun _ => rfl)
  · have h2 := h.2 (Int.not_le.mp hc)
    refine ev_br (P := x2 ≤ x3) (σ1 := ((d + 1), 174, 45, [some (.inr (.inr 27)), some (.inr (.inr 2)), some (.inl x2), some (.inl x3), some (.inl x4)], [], (am_sh, am_mm U))) (σ2 := ((d + 1), 174, 31, [some (.inr (.inr 27)), some (.inr (.inr 2)), some (.inl x2), some (.inl x3), some (.inl x4)], [], (am_sh, am_mm U))) 3 (fun _ => rfl) (fun hc => ?_) (fun hc => ?_)
    · have h21 := h2.1 hc
      refine ev_seg (σ1 := ((d + 1), 174, 49, [some (.inr (.inr 27)), some (.inr (.inr 2)), some (.inl x2), some (.inl x3), some (.inl x4)], [.inl x2, .inl 0, .inl 0, .inr (.inr 27)], (am_sh, am_mm U))) 4 (fun _ => rfl) ?_
      obtain ⟨U2, h21c, h21a⟩ := h21
      refine ev_cal (σc := (Tk_put_s0 d 0 0 x2 U)) (fun _ => rfl) h21c ?_
      show Ev (am_kz N X) ((d + 1), 174, 52, [some (.inr (.inr 27)), some (.inr (.inr 2)), some (.inl x2), some (.inl x3), some (.inl x4)], [], (am_sh, am_mm U2)) R
      subst h21a
      exact ev_end 1 (fun _ => rfl)
    · have h22 := h2.2 (Int.not_le.mp hc)
      refine ev_seg (σ1 := ((d + 1), 174, 35, [some (.inr (.inr 27)), some (.inr (.inr 2)), some (.inl x2), some (.inl x3), some (.inl x4)], [.inl x3, .inl x2, .inr (.inr 2), .inr (.inr 27)], (am_sh, am_mm U))) 4 (fun _ => rfl) ?_
      obtain ⟨r3, U3, h22c, h22a⟩ := h22
      refine ev_cal (σc := (Tk_cutOne_s0 d x2 x3 U)) (fun _ => rfl) h22c ?_
      show Ev (am_kz N X) ((d + 1), 174, 38, [some (.inr (.inr 27)), some (.inr (.inr 2)), some (.inl x2), some (.inl x3), some (.inl x4)], [.inl r3], (am_sh, am_mm U3)) R
      refine ev_seg (σ1 := ((d + 1), 174, 20, [some (.inr (.inr 27)), some (.inr (.inr 2)), some (.inl x2), some (.inl r3), some (.inl (w32 (x4 + 1)))], [], (am_sh, am_mm U3))) 3 (fun _ => rfl) ?_
      exact h22a
set_option maxRecDepth 8000 in
theorem Tw_clear_r0 {N : Nat} {X : Nat → Int} {d : Nat} {U : am_U} {R : Option am_V × am_M} (h : R = rV (am_upd (am_upd (am_upd (am_upd (am_upd (am_upd (am_upd (am_upd (am_upd U 31 0 0) 31 1 0) 31 2 0) 31 3 0) 31 4 0) 31 5 0) 31 18 0) 41 8 0) 42 8 0)) : EvK N X (Tw_clear_s0 d U) R := by
  show Ev (am_kz N X) (d, 175, 0, [some (.inr (.inr 31))], [], (am_sh, am_mm U)) R
  refine ev_seg (σ1 := (d, 175, 2, [some (.inr (.inr 31))], [.inl 0, .inr (.inr 31)], (am_sh, am_mm U))) 2 (fun _ => rfl) ?_
  refine eu_puti 31 (n := 19) rfl (by decide) rfl rfl ?_
  show Ev (am_kz N X) (d, 175, 5, [some (.inr (.inr 31))], [], (am_sh, am_mm (am_upd U 31 0 0))) R
  refine ev_seg (σ1 := (d, 175, 7, [some (.inr (.inr 31))], [.inl 0, .inr (.inr 31)], (am_sh, am_mm (am_upd U 31 0 0)))) 2 (fun _ => rfl) ?_
  refine eu_puti 31 (n := 19) rfl (by decide) rfl rfl ?_
  show Ev (am_kz N X) (d, 175, 10, [some (.inr (.inr 31))], [], (am_sh, am_mm (am_upd (am_upd U 31 0 0) 31 1 0))) R
  refine ev_seg (σ1 := (d, 175, 12, [some (.inr (.inr 31))], [.inl 0, .inr (.inr 31)], (am_sh, am_mm (am_upd (am_upd U 31 0 0) 31 1 0)))) 2 (fun _ => rfl) ?_
  refine eu_puti 31 (n := 19) rfl (by decide) rfl rfl ?_
  show Ev (am_kz N X) (d, 175, 15, [some (.inr (.inr 31))], [], (am_sh, am_mm (am_upd (am_upd (am_upd U 31 0 0) 31 1 0) 31 2 0))) R
  refine ev_seg (σ1 := (d, 175, 17, [some (.inr (.inr 31))], [.inl 0, .inr (.inr 31)], (am_sh, am_mm (am_upd (am_upd (am_upd U 31 0 0) 31 1 0) 31 2 0)))) 2 (fun _ => rfl) ?_
  refine eu_puti 31 (n := 19) rfl (by decide) rfl rfl ?_
  show Ev (am_kz N X) (d, 175, 20, [some (.inr (.inr 31))], [], (am_sh, am_mm (am_upd (am_upd (am_upd (am_upd U 31 0 0) 31 1 0) 31 2 0) 31 3 0))) R
  refine ev_seg (σ1 := (d, 175, 22, [some (.inr (.inr 31))], [.inl 0, .inr (.inr 31)], (am_sh, am_mm (am_upd (am_upd (am_upd (am_upd U 31 0 0) 31 1 0) 31 2 0) 31 3 0)))) 2 (fun _ => rfl) ?_
  refine eu_puti 31 (n := 19) rfl (by decide) rfl rfl ?_
  show Ev (am_kz N X) (d, 175, 25, [some (.inr (.inr 31))], [], (am_sh, am_mm (am_upd (am_upd (am_upd (am_upd (am_upd U 31 0 0) 31 1 0) 31 2 0) 31 3 0) 31 4 0))) R
  refine ev_seg (σ1 := (d, 175, 27, [some (.inr (.inr 31))], [.inl 0, .inr (.inr 31)], (am_sh, am_mm (am_upd (am_upd (am_upd (am_upd (am_upd U 31 0 0) 31 1 0) 31 2 0) 31 3 0) 31 4 0)))) 2 (fun _ => rfl) ?_
  refine eu_puti 31 (n := 19) rfl (by decide) rfl rfl ?_
  show Ev (am_kz N X) (d, 175, 30, [some (.inr (.inr 31))], [], (am_sh, am_mm (am_upd (am_upd (am_upd (am_upd (am_upd (am_upd U 31 0 0) 31 1 0) 31 2 0) 31 3 0) 31 4 0) 31 5 0))) R
  refine ev_seg (σ1 := (d, 175, 32, [some (.inr (.inr 31))], [.inl 0, .inr (.inr 31)], (am_sh, am_mm (am_upd (am_upd (am_upd (am_upd (am_upd (am_upd U 31 0 0) 31 1 0) 31 2 0) 31 3 0) 31 4 0) 31 5 0)))) 2 (fun _ => rfl) ?_
  refine eu_puti 31 (n := 19) rfl (by decide) rfl rfl ?_
  show Ev (am_kz N X) (d, 175, 35, [some (.inr (.inr 31))], [], (am_sh, am_mm (am_upd (am_upd (am_upd (am_upd (am_upd (am_upd (am_upd U 31 0 0) 31 1 0) 31 2 0) 31 3 0) 31 4 0) 31 5 0) 31 18 0))) R
  refine ev_seg (σ1 := (d, 175, 42, [some (.inr (.inr 31))], [.inl 0, .inl 8, .inr (.inr 41)], (am_sh, am_mm (am_upd (am_upd (am_upd (am_upd (am_upd (am_upd (am_upd U 31 0 0) 31 1 0) 31 2 0) 31 3 0) 31 4 0) 31 5 0) 31 18 0)))) 4 (fun _ => rfl) ?_
  refine eu_iast 41 (n := 9) rfl (by decide) rfl (fun _ => rfl) (by decide) ?_
  show Ev (am_kz N X) (d, 175, 43, [some (.inr (.inr 31))], [], (am_sh, am_mm (am_upd (am_upd (am_upd (am_upd (am_upd (am_upd (am_upd (am_upd U 31 0 0) 31 1 0) 31 2 0) 31 3 0) 31 4 0) 31 5 0) 31 18 0) 41 8 0))) R
  refine ev_seg (σ1 := (d, 175, 50, [some (.inr (.inr 31))], [.inl 0, .inl 8, .inr (.inr 42)], (am_sh, am_mm (am_upd (am_upd (am_upd (am_upd (am_upd (am_upd (am_upd (am_upd U 31 0 0) 31 1 0) 31 2 0) 31 3 0) 31 4 0) 31 5 0) 31 18 0) 41 8 0)))) 4 (fun _ => rfl) ?_
  refine eu_iast 42 (n := 9) rfl (by decide) rfl (fun _ => rfl) (by decide) ?_
  show Ev (am_kz N X) (d, 175, 51, [some (.inr (.inr 31))], [], (am_sh, am_mm (am_upd (am_upd (am_upd (am_upd (am_upd (am_upd (am_upd (am_upd (am_upd U 31 0 0) 31 1 0) 31 2 0) 31 3 0) 31 4 0) 31 5 0) 31 18 0) 41 8 0) 42 8 0))) R
  subst h
  exact ev_end 1 (fun _ => rfl)
set_option maxRecDepth 8000 in
theorem Fk_clear_21_r0 {N : Nat} {X : Nat → Int} {d : Nat} {U : am_U} {R : Option am_V × am_M} (h : ∃ U1 : am_U, EvK N X (Ar_fill_II_24_s0 d 0 (am_upd (am_upd (am_upd U 21 0 0) 21 1 0) 21 2 0)) (rV U1) ∧ R = rV U1) : EvK N X (Fk_clear_21_s0 (d + 1) U) R := by
  show Ev (am_kz N X) ((d + 1), 176, 0, [some (.inr (.inr 21))], [], (am_sh, am_mm U)) R
  refine ev_seg (σ1 := ((d + 1), 176, 2, [some (.inr (.inr 21))], [.inl 0, .inr (.inr 21)], (am_sh, am_mm U))) 2 (fun _ => rfl) ?_
  refine eu_puti 21 (n := 7) rfl (by decide) rfl rfl ?_
  show Ev (am_kz N X) ((d + 1), 176, 5, [some (.inr (.inr 21))], [], (am_sh, am_mm (am_upd U 21 0 0))) R
  refine ev_seg (σ1 := ((d + 1), 176, 7, [some (.inr (.inr 21))], [.inl 0, .inr (.inr 21)], (am_sh, am_mm (am_upd U 21 0 0)))) 2 (fun _ => rfl) ?_
  refine eu_puti 21 (n := 7) rfl (by decide) rfl rfl ?_
  show Ev (am_kz N X) ((d + 1), 176, 10, [some (.inr (.inr 21))], [], (am_sh, am_mm (am_upd (am_upd U 21 0 0) 21 1 0))) R
  refine ev_seg (σ1 := ((d + 1), 176, 12, [some (.inr (.inr 21))], [.inl 0, .inr (.inr 21)], (am_sh, am_mm (am_upd (am_upd U 21 0 0) 21 1 0)))) 2 (fun _ => rfl) ?_
  refine eu_putz 21 (n := 7) rfl (by decide) rfl rfl (by decide) ?_
  show Ev (am_kz N X) ((d + 1), 176, 15, [some (.inr (.inr 21))], [], (am_sh, am_mm (am_upd (am_upd (am_upd U 21 0 0) 21 1 0) 21 2 0))) R
  refine ev_seg (σ1 := ((d + 1), 176, 20, [some (.inr (.inr 21))], [.inl 0, .inr (.inr 24)], (am_sh, am_mm (am_upd (am_upd (am_upd U 21 0 0) 21 1 0) 21 2 0)))) 3 (fun _ => rfl) ?_
  obtain ⟨U1, hc, ha⟩ := h
  refine ev_cal (σc := (Ar_fill_II_24_s0 d 0 (am_upd (am_upd (am_upd U 21 0 0) 21 1 0) 21 2 0))) (fun _ => rfl) hc ?_
  show Ev (am_kz N X) ((d + 1), 176, 23, [some (.inr (.inr 21))], [], (am_sh, am_mm U1)) R
  subst ha
  exact ev_end 1 (fun _ => rfl)
set_option maxRecDepth 8000 in
theorem Rd_next_r0 {N : Nat} {X : Nat → Int} {d : Nat} {U : am_U} {R : Option am_V × am_M} (h : (((U 27 1) ≤ (w32 ((U 26 6) + 1))) → R = rV U) ∧ (((w32 ((U 26 6) + 1)) < (U 27 1)) → ∃ (r1 : Int) (U1 : am_U), EvK N X (Tk_kindOf_s0 d (w32 ((U 26 6) + 1)) (am_upd U 26 6 (w32 ((U 26 6) + 1)))) (rI r1 U1) ∧ ∃ (r2 : Int) (U2 : am_U), EvK N X (Tk_valueOf_s0 d (U1 26 6) (am_upd U1 26 7 r1)) (rI r2 U2) ∧ ∃ (r3 : Int) (U3 : am_U), EvK N X (Tk_placeOf_s0 d (U2 26 6) (am_upd U2 26 8 r2)) (rI r3 U3) ∧ R = rV (am_upd U3 26 9 r3))) : EvK N X (Rd_next_s0 (d + 1) U) R := by
  show Ev (am_kz N X) ((d + 1), 177, 0, [some (.inr (.inr 26))], [], (am_sh, am_mm U)) R
  refine ev_br (P := (U 27 1) ≤ (w32 ((U 26 6) + 1))) (σ1 := ((d + 1), 177, 71, [some (.inr (.inr 26))], [], (am_sh, am_mm U))) (σ2 := ((d + 1), 177, 16, [some (.inr (.inr 26))], [], (am_sh, am_mm U))) 8 (fun _ => rfl) (fun hc => ?_) (fun hc => ?_)
  · have h1 := h.1 hc
    subst h1
    exact ev_end 1 (fun _ => rfl)
  · have h2 := h.2 (Int.not_le.mp hc)
    refine ev_seg (σ1 := ((d + 1), 177, 23, [some (.inr (.inr 26))], [.inl (w32 ((U 26 6) + 1)), .inr (.inr 26)], (am_sh, am_mm U))) 5 (fun _ => rfl) ?_
    refine eu_puti 26 (n := 12) rfl (by decide) rfl rfl ?_
    show Ev (am_kz N X) ((d + 1), 177, 26, [some (.inr (.inr 26))], [], (am_sh, am_mm (am_upd U 26 6 (w32 ((U 26 6) + 1))))) R
    refine ev_seg (σ1 := ((d + 1), 177, 35, [some (.inr (.inr 26))], [.inl (w32 ((U 26 6) + 1)), .inr (.inr 27), .inr (.inr 26)], (am_sh, am_mm (am_upd U 26 6 (w32 ((U 26 6) + 1)))))) 5 (fun _ => rfl) ?_
    obtain ⟨r1, U1, h2c, h2a⟩ := h2
    refine ev_cal (σc := (Tk_kindOf_s0 d (w32 ((U 26 6) + 1)) (am_upd U 26 6 (w32 ((U 26 6) + 1))))) (fun _ => rfl) h2c ?_
    show Ev (am_kz N X) ((d + 1), 177, 38, [some (.inr (.inr 26))], [.inl r1, .inr (.inr 26)], (am_sh, am_mm U1)) R
    refine eu_puti 26 (n := 12) rfl (by decide) rfl rfl ?_
    show Ev (am_kz N X) ((d + 1), 177, 41, [some (.inr (.inr 26))], [], (am_sh, am_mm (am_upd U1 26 7 r1))) R
    refine ev_seg (σ1 := ((d + 1), 177, 50, [some (.inr (.inr 26))], [.inl (U1 26 6), .inr (.inr 27), .inr (.inr 26)], (am_sh, am_mm (am_upd U1 26 7 r1)))) 5 (fun _ => rfl) ?_
    obtain ⟨r2, U2, h2ac, h2aa⟩ := h2a
    refine ev_cal (σc := (Tk_valueOf_s0 d (U1 26 6) (am_upd U1 26 7 r1))) (fun _ => rfl) h2ac ?_
    show Ev (am_kz N X) ((d + 1), 177, 53, [some (.inr (.inr 26))], [.inl r2, .inr (.inr 26)], (am_sh, am_mm U2)) R
    refine eu_puti 26 (n := 12) rfl (by decide) rfl rfl ?_
    show Ev (am_kz N X) ((d + 1), 177, 56, [some (.inr (.inr 26))], [], (am_sh, am_mm (am_upd U2 26 8 r2))) R
    refine ev_seg (σ1 := ((d + 1), 177, 65, [some (.inr (.inr 26))], [.inl (U2 26 6), .inr (.inr 27), .inr (.inr 26)], (am_sh, am_mm (am_upd U2 26 8 r2)))) 5 (fun _ => rfl) ?_
    obtain ⟨r3, U3, h2aac, h2aaa⟩ := h2aa
    refine ev_cal (σc := (Tk_placeOf_s0 d (U2 26 6) (am_upd U2 26 8 r2))) (fun _ => rfl) h2aac ?_
    show Ev (am_kz N X) ((d + 1), 177, 68, [some (.inr (.inr 26))], [.inl r3, .inr (.inr 26)], (am_sh, am_mm U3)) R
    refine eu_puti 26 (n := 12) rfl (by decide) rfl rfl ?_
    show Ev (am_kz N X) ((d + 1), 177, 71, [some (.inr (.inr 26))], [], (am_sh, am_mm (am_upd U3 26 9 r3))) R
    subst h2aaa
    exact ev_end 1 (fun _ => rfl)
set_option maxRecDepth 8000 in
theorem Rd_readStatement_r0 {N : Nat} {X : Nat → Int} {d : Nat} {U : am_U} {R : Option am_V × am_M} (h : (((U 26 3) < 80) → (((U 26 7) ≠ 1) → EvK N X (Rd_readStatement_s36 (d + 1) (-1) U) R) ∧ (((U 26 7) = 1) → EvK N X (Rd_readStatement_s36 (d + 1) (U 26 8) U) R)) ∧ ((80 ≤ (U 26 3)) → ∃ (r1 : Int) (U1 : am_U), EvK N X (Rd_refuseFor_s0 d 6 (U 26 9) U) (rI r1 U1) ∧ (r1 = 0 ∨ r1 = 1) ∧ R = rI r1 U1)) : EvK N X (Rd_readStatement_s0 (d + 1) U) R := by
  show Ev (am_kz N X) ((d + 1), 178, 0, [some (.inr (.inr 26)), none, none], [], (am_sh, am_mm U)) R
  refine ev_br (P := (U 26 3) < 80) (σ1 := ((d + 1), 178, 20, [some (.inr (.inr 26)), none, none], [], (am_sh, am_mm U))) (σ2 := ((d + 1), 178, 9, [some (.inr (.inr 26)), none, none], [], (am_sh, am_mm U))) 4 (fun _ => rfl) (fun hc => ?_) (fun hc => ?_)
  · have h1 := h.1 hc
    refine ev_br (P := ¬ (U 26 7) = 1) (σ1 := ((d + 1), 178, 35, [some (.inr (.inr 26)), none, none], [], (am_sh, am_mm U))) (σ2 := ((d + 1), 178, 28, [some (.inr (.inr 26)), none, none], [], (am_sh, am_mm U))) 4 (fun _ => rfl) (fun hc => ?_) (fun hc => ?_)
    · have h11 := h1.1 hc
      refine ev_seg (σ1 := ((d + 1), 178, 36, [some (.inr (.inr 26)), none, none], [.inl (-1)], (am_sh, am_mm U))) 1 (fun _ => rfl) ?_
      exact h11
    · have h12 := h1.2 (Decidable.not_not.mp hc)
      refine ev_seg (σ1 := ((d + 1), 178, 36, [some (.inr (.inr 26)), none, none], [.inl (U 26 8)], (am_sh, am_mm U))) 3 (fun _ => rfl) ?_
      exact h12
  · have h2 := h.2 (Int.not_lt.mp hc)
    refine ev_seg (σ1 := ((d + 1), 178, 16, [some (.inr (.inr 26)), none, none], [.inl (U 26 9), .inl 6, .inr (.inr 26)], (am_sh, am_mm U))) 4 (fun _ => rfl) ?_
    obtain ⟨r1, U1, h2c, h2a⟩ := h2
    refine ev_cal (σc := (Rd_refuseFor_s0 d 6 (U 26 9) U)) (fun _ => rfl) h2c ?_
    show Ev (am_kz N X) ((d + 1), 178, 19, [some (.inr (.inr 26)), none, none], [.inl r1], (am_sh, am_mm U1)) R
    rw [h2a.2]
    exact ev_retz rfl rfl h2a.1
set_option maxRecDepth 8000 in
theorem Rd_readStatement_r36 {N : Nat} {X : Nat → Int} {d : Nat} {s0 : Int} {U : am_U} {R : Option am_V × am_M} (h : ∃ (r1 : Int) (U1 : am_U), EvK N X (Rd_isFull_s0 d s0 U) (rI r1 U1) ∧ ((r1 = 0) → (s0 = 0 → ∃ (r2 : Int) (U2 : am_U), EvK N X (Rd_readStreet_s0 d U1) (rI r2 U2) ∧ EvK N X (Rd_readStatement_s261 (d + 1) s0 r2 U2) R) ∧ (s0 = 1 → ∃ (r3 : Int) (U3 : am_U), EvK N X (Rd_readHouse_s0 d U1) (rI r3 U3) ∧ EvK N X (Rd_readStatement_s261 (d + 1) s0 r3 U3) R) ∧ (s0 = 2 → ∃ (r4 : Int) (U4 : am_U), EvK N X (Rd_refuseHere_s0 d U1) (rI r4 U4) ∧ EvK N X (Rd_readStatement_s261 (d + 1) s0 r4 U4) R) ∧ (s0 = 3 → ∃ (r5 : Int) (U5 : am_U), EvK N X (Rd_refuseHere_s0 d U1) (rI r5 U5) ∧ EvK N X (Rd_readStatement_s261 (d + 1) s0 r5 U5) R) ∧ (s0 = 4 → ∃ (r6 : Int) (U6 : am_U), EvK N X (Rd_readLane_s0 d U1) (rI r6 U6) ∧ EvK N X (Rd_readStatement_s261 (d + 1) s0 r6 U6) R) ∧ (s0 = 5 → ∃ (r7 : Int) (U7 : am_U), EvK N X (Rd_readPerson_s0 d U1) (rI r7 U7) ∧ EvK N X (Rd_readStatement_s261 (d + 1) s0 r7 U7) R) ∧ (s0 = 6 → ∃ (r8 : Int) (U8 : am_U), EvK N X (Rd_refuseHere_s0 d U1) (rI r8 U8) ∧ EvK N X (Rd_readStatement_s261 (d + 1) s0 r8 U8) R) ∧ (s0 = 7 → ∃ (r9 : Int) (U9 : am_U), EvK N X (Rd_takeLawKind_s0 d U1) (rI r9 U9) ∧ ((r9 = 0) → EvK N X (Rd_readStatement_s197 (d + 1) s0 U9) R) ∧ ((r9 ≠ 0) → ∃ (r10 : Int) (U10 : am_U), EvK N X (Rd_readTest_s0 d 0 U9) (rI r10 U10) ∧ ((r10 = 0) → EvK N X (Rd_readStatement_s197 (d + 1) s0 U10) R) ∧ ((r10 ≠ 0) → ∃ (r11 : Int) (U11 : am_U), EvK N X (Tw_addLaw_s0 d (U10 26 10) (U10 26 11) U10) (rI r11 U11) ∧ ((r11 = 0) → EvK N X (Rd_readStatement_s197 (d + 1) s0 U11) R) ∧ ((r11 ≠ 0) → EvK N X (Rd_readStatement_s261 (d + 1) s0 1 U11) R)))) ∧ (s0 = 8 → ∃ (r12 : Int) (U12 : am_U), EvK N X (Rd_refuseHere_s0 d U1) (rI r12 U12) ∧ EvK N X (Rd_readStatement_s261 (d + 1) s0 r12 U12) R) ∧ (s0 = 9 → ∃ (r13 : Int) (U13 : am_U), EvK N X (Rd_refuseHere_s0 d U1) (rI r13 U13) ∧ EvK N X (Rd_readStatement_s261 (d + 1) s0 r13 U13) R) ∧ (s0 = 10 → ∃ (r14 : Int) (U14 : am_U), EvK N X (Rd_refuseHere_s0 d U1) (rI r14 U14) ∧ EvK N X (Rd_readStatement_s261 (d + 1) s0 r14 U14) R) ∧ (s0 = 11 → ∃ (r15 : Int) (U15 : am_U), EvK N X (Rd_takeWed_s0 d U1) (rI r15 U15) ∧ ((r15 = 0) → EvK N X (Rd_readStatement_s235 (d + 1) s0 U15) R) ∧ ((r15 ≠ 0) → ∃ (r16 : Int) (U16 : am_U), EvK N X (Rd_readTest_s0 d 0 U15) (rI r16 U16) ∧ ((r16 = 0) → EvK N X (Rd_readStatement_s235 (d + 1) s0 U16) R) ∧ ((r16 ≠ 0) → ∃ (r17 : Int) (U17 : am_U), EvK N X (Tw_addWed_s0 d (U16 26 11) U16) (rI r17 U17) ∧ ((r17 = 0) → EvK N X (Rd_readStatement_s235 (d + 1) s0 U17) R) ∧ ((r17 ≠ 0) → EvK N X (Rd_readStatement_s261 (d + 1) s0 1 U17) R)))) ∧ (s0 = 12 → ∃ (r18 : Int) (U18 : am_U), EvK N X (Rd_readDebt_s0 d U1) (rI r18 U18) ∧ EvK N X (Rd_readStatement_s261 (d + 1) s0 r18 U18) R) ∧ (s0 = 13 → ∃ (r19 : Int) (U19 : am_U), EvK N X (Rd_readFire_s0 d U1) (rI r19 U19) ∧ EvK N X (Rd_readStatement_s261 (d + 1) s0 r19 U19) R) ∧ (¬ s0 = 0 ∧ ¬ s0 = 1 ∧ ¬ s0 = 2 ∧ ¬ s0 = 3 ∧ ¬ s0 = 4 ∧ ¬ s0 = 5 ∧ ¬ s0 = 6 ∧ ¬ s0 = 7 ∧ ¬ s0 = 8 ∧ ¬ s0 = 9 ∧ ¬ s0 = 10 ∧ ¬ s0 = 11 ∧ ¬ s0 = 12 ∧ ¬ s0 = 13 → ∃ (r20 : Int) (U20 : am_U), EvK N X (Rd_refuseHere_s0 d U1) (rI r20 U20) ∧ EvK N X (Rd_readStatement_s261 (d + 1) s0 r20 U20) R)) ∧ ((r1 ≠ 0) → ∃ (r21 : Int) (U21 : am_U), EvK N X (Rd_refuseFor_s0 d 6 (U1 26 9) U1) (rI r21 U21) ∧ (r21 = 0 ∨ r21 = 1) ∧ R = rI r21 U21)) : EvK N X (Rd_readStatement_s36 (d + 1) s0 U) R := by
  show Ev (am_kz N X) ((d + 1), 178, 36, [some (.inr (.inr 26)), none, none], [.inl s0], (am_sh, am_mm U)) R
  refine ev_seg (σ1 := ((d + 1), 178, 39, [some (.inr (.inr 26)), some (.inl s0), none], [.inl s0, .inr (.inr 26)], (am_sh, am_mm U))) 3 (fun _ => rfl) ?_
  obtain ⟨r1, U1, hc, ha⟩ := h
  refine ev_cal (σc := (Rd_isFull_s0 d s0 U)) (fun _ => rfl) hc ?_
  show Ev (am_kz N X) ((d + 1), 178, 42, [some (.inr (.inr 26)), some (.inl s0), none], [.inl r1], (am_sh, am_mm U1)) R
  refine ev_br (P := r1 = 0) (σ1 := ((d + 1), 178, 56, [some (.inr (.inr 26)), some (.inl s0), none], [], (am_sh, am_mm U1))) (σ2 := ((d + 1), 178, 45, [some (.inr (.inr 26)), some (.inl s0), none], [], (am_sh, am_mm U1))) 1 (fun _ => rfl) (fun hc => ?_) (fun hc => ?_)
  · have ha1 := ha.1 hc
    refine ev_seg (σ1 := ((d + 1), 178, 57, [some (.inr (.inr 26)), some (.inl s0), none], [.inl s0], (am_sh, am_mm U1))) 1 (fun _ => rfl) ?_
    by_cases hc : s0 = 0
    · have ha1k0 := ha1.1 hc
      refine ev_sw (off := 71) rfl (by rw [hc]; rfl) (pt := 128) rfl ?_
      refine ev_seg (σ1 := ((d + 1), 178, 129, [some (.inr (.inr 26)), some (.inl s0), none], [.inr (.inr 26)], (am_sh, am_mm U1))) 1 (fun _ => rfl) ?_
      obtain ⟨r2, U2, ha1k0c, ha1k0a⟩ := ha1k0
      refine ev_cal (σc := (Rd_readStreet_s0 d U1)) (fun _ => rfl) ha1k0c ?_
      show Ev (am_kz N X) ((d + 1), 178, 132, [some (.inr (.inr 26)), some (.inl s0), none], [.inl r2], (am_sh, am_mm U2)) R
      refine ev_seg (σ1 := ((d + 1), 178, 261, [some (.inr (.inr 26)), some (.inl s0), some (.inl r2)], [], (am_sh, am_mm U2))) 2 (fun _ => rfl) ?_
      exact ha1k0a
    have nha10 := hc
    clear hc
    by_cases hc : s0 = 1
    · have ha1k1 := ha1.2.1 hc
      refine ev_sw (off := 79) rfl (by rw [hc]; rfl) (pt := 136) rfl ?_
      refine ev_seg (σ1 := ((d + 1), 178, 137, [some (.inr (.inr 26)), some (.inl s0), none], [.inr (.inr 26)], (am_sh, am_mm U1))) 1 (fun _ => rfl) ?_
      obtain ⟨r3, U3, ha1k1c, ha1k1a⟩ := ha1k1
      refine ev_cal (σc := (Rd_readHouse_s0 d U1)) (fun _ => rfl) ha1k1c ?_
      show Ev (am_kz N X) ((d + 1), 178, 140, [some (.inr (.inr 26)), some (.inl s0), none], [.inl r3], (am_sh, am_mm U3)) R
      refine ev_seg (σ1 := ((d + 1), 178, 261, [some (.inr (.inr 26)), some (.inl s0), some (.inl r3)], [], (am_sh, am_mm U3))) 2 (fun _ => rfl) ?_
      exact ha1k1a
    have nha11 := hc
    clear hc
    by_cases hc : s0 = 2
    · have ha1k2 := ha1.2.2.1 hc
      refine ev_sw (off := 199) rfl (by rw [hc]; rfl) (pt := 256) rfl ?_
      refine ev_seg (σ1 := ((d + 1), 178, 257, [some (.inr (.inr 26)), some (.inl s0), none], [.inr (.inr 26)], (am_sh, am_mm U1))) 1 (fun _ => rfl) ?_
      obtain ⟨r4, U4, ha1k2c, ha1k2a⟩ := ha1k2
      refine ev_cal (σc := (Rd_refuseHere_s0 d U1)) (fun _ => rfl) ha1k2c ?_
      show Ev (am_kz N X) ((d + 1), 178, 260, [some (.inr (.inr 26)), some (.inl s0), none], [.inl r4], (am_sh, am_mm U4)) R
      refine ev_seg (σ1 := ((d + 1), 178, 261, [some (.inr (.inr 26)), some (.inl s0), some (.inl r4)], [], (am_sh, am_mm U4))) 1 (fun _ => rfl) ?_
      exact ha1k2a
    have nha12 := hc
    clear hc
    by_cases hc : s0 = 3
    · have ha1k3 := ha1.2.2.2.1 hc
      refine ev_sw (off := 199) rfl (by rw [hc]; rfl) (pt := 256) rfl ?_
      refine ev_seg (σ1 := ((d + 1), 178, 257, [some (.inr (.inr 26)), some (.inl s0), none], [.inr (.inr 26)], (am_sh, am_mm U1))) 1 (fun _ => rfl) ?_
      obtain ⟨r5, U5, ha1k3c, ha1k3a⟩ := ha1k3
      refine ev_cal (σc := (Rd_refuseHere_s0 d U1)) (fun _ => rfl) ha1k3c ?_
      show Ev (am_kz N X) ((d + 1), 178, 260, [some (.inr (.inr 26)), some (.inl s0), none], [.inl r5], (am_sh, am_mm U5)) R
      refine ev_seg (σ1 := ((d + 1), 178, 261, [some (.inr (.inr 26)), some (.inl s0), some (.inl r5)], [], (am_sh, am_mm U5))) 1 (fun _ => rfl) ?_
      exact ha1k3a
    have nha13 := hc
    clear hc
    by_cases hc : s0 = 4
    · have ha1k4 := ha1.2.2.2.2.1 hc
      refine ev_sw (off := 87) rfl (by rw [hc]; rfl) (pt := 144) rfl ?_
      refine ev_seg (σ1 := ((d + 1), 178, 145, [some (.inr (.inr 26)), some (.inl s0), none], [.inr (.inr 26)], (am_sh, am_mm U1))) 1 (fun _ => rfl) ?_
      obtain ⟨r6, U6, ha1k4c, ha1k4a⟩ := ha1k4
      refine ev_cal (σc := (Rd_readLane_s0 d U1)) (fun _ => rfl) ha1k4c ?_
      show Ev (am_kz N X) ((d + 1), 178, 148, [some (.inr (.inr 26)), some (.inl s0), none], [.inl r6], (am_sh, am_mm U6)) R
      refine ev_seg (σ1 := ((d + 1), 178, 261, [some (.inr (.inr 26)), some (.inl s0), some (.inl r6)], [], (am_sh, am_mm U6))) 2 (fun _ => rfl) ?_
      exact ha1k4a
    have nha14 := hc
    clear hc
    by_cases hc : s0 = 5
    · have ha1k5 := ha1.2.2.2.2.2.1 hc
      refine ev_sw (off := 95) rfl (by rw [hc]; rfl) (pt := 152) rfl ?_
      refine ev_seg (σ1 := ((d + 1), 178, 153, [some (.inr (.inr 26)), some (.inl s0), none], [.inr (.inr 26)], (am_sh, am_mm U1))) 1 (fun _ => rfl) ?_
      obtain ⟨r7, U7, ha1k5c, ha1k5a⟩ := ha1k5
      refine ev_cal (σc := (Rd_readPerson_s0 d U1)) (fun _ => rfl) ha1k5c ?_
      show Ev (am_kz N X) ((d + 1), 178, 156, [some (.inr (.inr 26)), some (.inl s0), none], [.inl r7], (am_sh, am_mm U7)) R
      refine ev_seg (σ1 := ((d + 1), 178, 261, [some (.inr (.inr 26)), some (.inl s0), some (.inl r7)], [], (am_sh, am_mm U7))) 2 (fun _ => rfl) ?_
      exact ha1k5a
    have nha15 := hc
    clear hc
    by_cases hc : s0 = 6
    · have ha1k6 := ha1.2.2.2.2.2.2.1 hc
      refine ev_sw (off := 199) rfl (by rw [hc]; rfl) (pt := 256) rfl ?_
      refine ev_seg (σ1 := ((d + 1), 178, 257, [some (.inr (.inr 26)), some (.inl s0), none], [.inr (.inr 26)], (am_sh, am_mm U1))) 1 (fun _ => rfl) ?_
      obtain ⟨r8, U8, ha1k6c, ha1k6a⟩ := ha1k6
      refine ev_cal (σc := (Rd_refuseHere_s0 d U1)) (fun _ => rfl) ha1k6c ?_
      show Ev (am_kz N X) ((d + 1), 178, 260, [some (.inr (.inr 26)), some (.inl s0), none], [.inl r8], (am_sh, am_mm U8)) R
      refine ev_seg (σ1 := ((d + 1), 178, 261, [some (.inr (.inr 26)), some (.inl s0), some (.inl r8)], [], (am_sh, am_mm U8))) 1 (fun _ => rfl) ?_
      exact ha1k6a
    have nha16 := hc
    clear hc
    by_cases hc : s0 = 7
    · have ha1k7 := ha1.2.2.2.2.2.2.2.1 hc
      refine ev_sw (off := 103) rfl (by rw [hc]; rfl) (pt := 160) rfl ?_
      refine ev_seg (σ1 := ((d + 1), 178, 161, [some (.inr (.inr 26)), some (.inl s0), none], [.inr (.inr 26)], (am_sh, am_mm U1))) 1 (fun _ => rfl) ?_
      obtain ⟨r9, U9, ha1k7c, ha1k7a⟩ := ha1k7
      refine ev_cal (σc := (Rd_takeLawKind_s0 d U1)) (fun _ => rfl) ha1k7c ?_
      show Ev (am_kz N X) ((d + 1), 178, 164, [some (.inr (.inr 26)), some (.inl s0), none], [.inl r9], (am_sh, am_mm U9)) R
      refine ev_br (P := r9 = 0) (σ1 := ((d + 1), 178, 197, [some (.inr (.inr 26)), some (.inl s0), none], [], (am_sh, am_mm U9))) (σ2 := ((d + 1), 178, 167, [some (.inr (.inr 26)), some (.inl s0), none], [], (am_sh, am_mm U9))) 1 (fun _ => rfl) (fun hc => ?_) (fun hc => ?_)
      · have ha1k7a1 := ha1k7a.1 hc
        exact ha1k7a1
      · have ha1k7a2 := ha1k7a.2 hc
        refine ev_seg (σ1 := ((d + 1), 178, 169, [some (.inr (.inr 26)), some (.inl s0), none], [.inl 0, .inr (.inr 26)], (am_sh, am_mm U9))) 2 (fun _ => rfl) ?_
        obtain ⟨r10, U10, ha1k7a2c, ha1k7a2a⟩ := ha1k7a2
        refine ev_cal (σc := (Rd_readTest_s0 d 0 U9)) (fun _ => rfl) ha1k7a2c ?_
        show Ev (am_kz N X) ((d + 1), 178, 172, [some (.inr (.inr 26)), some (.inl s0), none], [.inl r10], (am_sh, am_mm U10)) R
        refine ev_br (P := r10 = 0) (σ1 := ((d + 1), 178, 197, [some (.inr (.inr 26)), some (.inl s0), none], [], (am_sh, am_mm U10))) (σ2 := ((d + 1), 178, 175, [some (.inr (.inr 26)), some (.inl s0), none], [], (am_sh, am_mm U10))) 1 (fun _ => rfl) (fun hc => ?_) (fun hc => ?_)
        · have ha1k7a2a1 := ha1k7a2a.1 hc
          exact ha1k7a2a1
        · have ha1k7a2a2 := ha1k7a2a.2 hc
          refine ev_seg (σ1 := ((d + 1), 178, 187, [some (.inr (.inr 26)), some (.inl s0), none], [.inl (U10 26 11), .inl (U10 26 10), .inr (.inr 31)], (am_sh, am_mm U10))) 6 (fun _ => rfl) ?_
          obtain ⟨r11, U11, ha1k7a2a2c, ha1k7a2a2a⟩ := ha1k7a2a2
          refine ev_cal (σc := (Tw_addLaw_s0 d (U10 26 10) (U10 26 11) U10)) (fun _ => rfl) ha1k7a2a2c ?_
          show Ev (am_kz N X) ((d + 1), 178, 190, [some (.inr (.inr 26)), some (.inl s0), none], [.inl r11], (am_sh, am_mm U11)) R
          refine ev_br (P := r11 = 0) (σ1 := ((d + 1), 178, 197, [some (.inr (.inr 26)), some (.inl s0), none], [], (am_sh, am_mm U11))) (σ2 := ((d + 1), 178, 193, [some (.inr (.inr 26)), some (.inl s0), none], [], (am_sh, am_mm U11))) 1 (fun _ => rfl) (fun hc => ?_) (fun hc => ?_)
          · have ha1k7a2a2a1 := ha1k7a2a2a.1 hc
            exact ha1k7a2a2a1
          · have ha1k7a2a2a2 := ha1k7a2a2a.2 hc
            refine ev_seg (σ1 := ((d + 1), 178, 261, [some (.inr (.inr 26)), some (.inl s0), some (.inl 1)], [], (am_sh, am_mm U11))) 4 (fun _ => rfl) ?_
            exact ha1k7a2a2a2
    have nha17 := hc
    clear hc
    by_cases hc : s0 = 8
    · have ha1k8 := ha1.2.2.2.2.2.2.2.2.1 hc
      refine ev_sw (off := 199) rfl (by rw [hc]; rfl) (pt := 256) rfl ?_
      refine ev_seg (σ1 := ((d + 1), 178, 257, [some (.inr (.inr 26)), some (.inl s0), none], [.inr (.inr 26)], (am_sh, am_mm U1))) 1 (fun _ => rfl) ?_
      obtain ⟨r12, U12, ha1k8c, ha1k8a⟩ := ha1k8
      refine ev_cal (σc := (Rd_refuseHere_s0 d U1)) (fun _ => rfl) ha1k8c ?_
      show Ev (am_kz N X) ((d + 1), 178, 260, [some (.inr (.inr 26)), some (.inl s0), none], [.inl r12], (am_sh, am_mm U12)) R
      refine ev_seg (σ1 := ((d + 1), 178, 261, [some (.inr (.inr 26)), some (.inl s0), some (.inl r12)], [], (am_sh, am_mm U12))) 1 (fun _ => rfl) ?_
      exact ha1k8a
    have nha18 := hc
    clear hc
    by_cases hc : s0 = 9
    · have ha1k9 := ha1.2.2.2.2.2.2.2.2.2.1 hc
      refine ev_sw (off := 199) rfl (by rw [hc]; rfl) (pt := 256) rfl ?_
      refine ev_seg (σ1 := ((d + 1), 178, 257, [some (.inr (.inr 26)), some (.inl s0), none], [.inr (.inr 26)], (am_sh, am_mm U1))) 1 (fun _ => rfl) ?_
      obtain ⟨r13, U13, ha1k9c, ha1k9a⟩ := ha1k9
      refine ev_cal (σc := (Rd_refuseHere_s0 d U1)) (fun _ => rfl) ha1k9c ?_
      show Ev (am_kz N X) ((d + 1), 178, 260, [some (.inr (.inr 26)), some (.inl s0), none], [.inl r13], (am_sh, am_mm U13)) R
      refine ev_seg (σ1 := ((d + 1), 178, 261, [some (.inr (.inr 26)), some (.inl s0), some (.inl r13)], [], (am_sh, am_mm U13))) 1 (fun _ => rfl) ?_
      exact ha1k9a
    have nha19 := hc
    clear hc
    by_cases hc : s0 = 10
    · have ha1k10 := ha1.2.2.2.2.2.2.2.2.2.2.1 hc
      refine ev_sw (off := 199) rfl (by rw [hc]; rfl) (pt := 256) rfl ?_
      refine ev_seg (σ1 := ((d + 1), 178, 257, [some (.inr (.inr 26)), some (.inl s0), none], [.inr (.inr 26)], (am_sh, am_mm U1))) 1 (fun _ => rfl) ?_
      obtain ⟨r14, U14, ha1k10c, ha1k10a⟩ := ha1k10
      refine ev_cal (σc := (Rd_refuseHere_s0 d U1)) (fun _ => rfl) ha1k10c ?_
      show Ev (am_kz N X) ((d + 1), 178, 260, [some (.inr (.inr 26)), some (.inl s0), none], [.inl r14], (am_sh, am_mm U14)) R
      refine ev_seg (σ1 := ((d + 1), 178, 261, [some (.inr (.inr 26)), some (.inl s0), some (.inl r14)], [], (am_sh, am_mm U14))) 1 (fun _ => rfl) ?_
      exact ha1k10a
    have nha110 := hc
    clear hc
    by_cases hc : s0 = 11
    · have ha1k11 := ha1.2.2.2.2.2.2.2.2.2.2.2.1 hc
      refine ev_sw (off := 145) rfl (by rw [hc]; rfl) (pt := 202) rfl ?_
      refine ev_seg (σ1 := ((d + 1), 178, 203, [some (.inr (.inr 26)), some (.inl s0), none], [.inr (.inr 26)], (am_sh, am_mm U1))) 1 (fun _ => rfl) ?_
      obtain ⟨r15, U15, ha1k11c, ha1k11a⟩ := ha1k11
      refine ev_cal (σc := (Rd_takeWed_s0 d U1)) (fun _ => rfl) ha1k11c ?_
      show Ev (am_kz N X) ((d + 1), 178, 206, [some (.inr (.inr 26)), some (.inl s0), none], [.inl r15], (am_sh, am_mm U15)) R
      refine ev_br (P := r15 = 0) (σ1 := ((d + 1), 178, 235, [some (.inr (.inr 26)), some (.inl s0), none], [], (am_sh, am_mm U15))) (σ2 := ((d + 1), 178, 209, [some (.inr (.inr 26)), some (.inl s0), none], [], (am_sh, am_mm U15))) 1 (fun _ => rfl) (fun hc => ?_) (fun hc => ?_)
      · have ha1k11a1 := ha1k11a.1 hc
        exact ha1k11a1
      · have ha1k11a2 := ha1k11a.2 hc
        refine ev_seg (σ1 := ((d + 1), 178, 211, [some (.inr (.inr 26)), some (.inl s0), none], [.inl 0, .inr (.inr 26)], (am_sh, am_mm U15))) 2 (fun _ => rfl) ?_
        obtain ⟨r16, U16, ha1k11a2c, ha1k11a2a⟩ := ha1k11a2
        refine ev_cal (σc := (Rd_readTest_s0 d 0 U15)) (fun _ => rfl) ha1k11a2c ?_
        show Ev (am_kz N X) ((d + 1), 178, 214, [some (.inr (.inr 26)), some (.inl s0), none], [.inl r16], (am_sh, am_mm U16)) R
        refine ev_br (P := r16 = 0) (σ1 := ((d + 1), 178, 235, [some (.inr (.inr 26)), some (.inl s0), none], [], (am_sh, am_mm U16))) (σ2 := ((d + 1), 178, 217, [some (.inr (.inr 26)), some (.inl s0), none], [], (am_sh, am_mm U16))) 1 (fun _ => rfl) (fun hc => ?_) (fun hc => ?_)
        · have ha1k11a2a1 := ha1k11a2a.1 hc
          exact ha1k11a2a1
        · have ha1k11a2a2 := ha1k11a2a.2 hc
          refine ev_seg (σ1 := ((d + 1), 178, 225, [some (.inr (.inr 26)), some (.inl s0), none], [.inl (U16 26 11), .inr (.inr 31)], (am_sh, am_mm U16))) 4 (fun _ => rfl) ?_
          obtain ⟨r17, U17, ha1k11a2a2c, ha1k11a2a2a⟩ := ha1k11a2a2
          refine ev_cal (σc := (Tw_addWed_s0 d (U16 26 11) U16)) (fun _ => rfl) ha1k11a2a2c ?_
          show Ev (am_kz N X) ((d + 1), 178, 228, [some (.inr (.inr 26)), some (.inl s0), none], [.inl r17], (am_sh, am_mm U17)) R
          refine ev_br (P := r17 = 0) (σ1 := ((d + 1), 178, 235, [some (.inr (.inr 26)), some (.inl s0), none], [], (am_sh, am_mm U17))) (σ2 := ((d + 1), 178, 231, [some (.inr (.inr 26)), some (.inl s0), none], [], (am_sh, am_mm U17))) 1 (fun _ => rfl) (fun hc => ?_) (fun hc => ?_)
          · have ha1k11a2a2a1 := ha1k11a2a2a.1 hc
            exact ha1k11a2a2a1
          · have ha1k11a2a2a2 := ha1k11a2a2a.2 hc
            refine ev_seg (σ1 := ((d + 1), 178, 261, [some (.inr (.inr 26)), some (.inl s0), some (.inl 1)], [], (am_sh, am_mm U17))) 4 (fun _ => rfl) ?_
            exact ha1k11a2a2a2
    have nha111 := hc
    clear hc
    by_cases hc : s0 = 12
    · have ha1k12 := ha1.2.2.2.2.2.2.2.2.2.2.2.2.1 hc
      refine ev_sw (off := 183) rfl (by rw [hc]; rfl) (pt := 240) rfl ?_
      refine ev_seg (σ1 := ((d + 1), 178, 241, [some (.inr (.inr 26)), some (.inl s0), none], [.inr (.inr 26)], (am_sh, am_mm U1))) 1 (fun _ => rfl) ?_
      obtain ⟨r18, U18, ha1k12c, ha1k12a⟩ := ha1k12
      refine ev_cal (σc := (Rd_readDebt_s0 d U1)) (fun _ => rfl) ha1k12c ?_
      show Ev (am_kz N X) ((d + 1), 178, 244, [some (.inr (.inr 26)), some (.inl s0), none], [.inl r18], (am_sh, am_mm U18)) R
      refine ev_seg (σ1 := ((d + 1), 178, 261, [some (.inr (.inr 26)), some (.inl s0), some (.inl r18)], [], (am_sh, am_mm U18))) 2 (fun _ => rfl) ?_
      exact ha1k12a
    have nha112 := hc
    clear hc
    by_cases hc : s0 = 13
    · have ha1k13 := ha1.2.2.2.2.2.2.2.2.2.2.2.2.2.1 hc
      refine ev_sw (off := 191) rfl (by rw [hc]; rfl) (pt := 248) rfl ?_
      refine ev_seg (σ1 := ((d + 1), 178, 249, [some (.inr (.inr 26)), some (.inl s0), none], [.inr (.inr 26)], (am_sh, am_mm U1))) 1 (fun _ => rfl) ?_
      obtain ⟨r19, U19, ha1k13c, ha1k13a⟩ := ha1k13
      refine ev_cal (σc := (Rd_readFire_s0 d U1)) (fun _ => rfl) ha1k13c ?_
      show Ev (am_kz N X) ((d + 1), 178, 252, [some (.inr (.inr 26)), some (.inl s0), none], [.inl r19], (am_sh, am_mm U19)) R
      refine ev_seg (σ1 := ((d + 1), 178, 261, [some (.inr (.inr 26)), some (.inl s0), some (.inl r19)], [], (am_sh, am_mm U19))) 2 (fun _ => rfl) ?_
      exact ha1k13a
    have nha113 := hc
    clear hc
    have ha1kd := ha1.2.2.2.2.2.2.2.2.2.2.2.2.2.2 ⟨nha10, nha11, nha12, nha13, nha14, nha15, nha16, nha17, nha18, nha19, nha110, nha111, nha112, nha113⟩
    refine ev_sw (off := 199) rfl (if_pos (by omega)) (pt := 256) rfl ?_
    refine ev_seg (σ1 := ((d + 1), 178, 257, [some (.inr (.inr 26)), some (.inl s0), none], [.inr (.inr 26)], (am_sh, am_mm U1))) 1 (fun _ => rfl) ?_
    obtain ⟨r20, U20, ha1kdc, ha1kda⟩ := ha1kd
    refine ev_cal (σc := (Rd_refuseHere_s0 d U1)) (fun _ => rfl) ha1kdc ?_
    show Ev (am_kz N X) ((d + 1), 178, 260, [some (.inr (.inr 26)), some (.inl s0), none], [.inl r20], (am_sh, am_mm U20)) R
    refine ev_seg (σ1 := ((d + 1), 178, 261, [some (.inr (.inr 26)), some (.inl s0), some (.inl r20)], [], (am_sh, am_mm U20))) 1 (fun _ => rfl) ?_
    exact ha1kda
  · have ha2 := ha.2 hc
    refine ev_seg (σ1 := ((d + 1), 178, 52, [some (.inr (.inr 26)), some (.inl s0), none], [.inl (U1 26 9), .inl 6, .inr (.inr 26)], (am_sh, am_mm U1))) 4 (fun _ => rfl) ?_
    obtain ⟨r21, U21, ha2c, ha2a⟩ := ha2
    refine ev_cal (σc := (Rd_refuseFor_s0 d 6 (U1 26 9) U1)) (fun _ => rfl) ha2c ?_
    show Ev (am_kz N X) ((d + 1), 178, 55, [some (.inr (.inr 26)), some (.inl s0), none], [.inl r21], (am_sh, am_mm U21)) R
    rw [ha2a.2]
    exact ev_retz rfl rfl ha2a.1
set_option maxRecDepth 8000 in
theorem Rd_readStatement_r261 {N : Nat} {X : Nat → Int} {d : Nat} {x1 x2 : Int} {U : am_U} {R : Option am_V × am_M} (h : ((x2 = 0) → R = rI 0 U) ∧ ((x2 ≠ 0) → ∃ (r1 : Int) (U1 : am_U), EvK N X (Rd_takeSign_s0 d 59 U) (rI r1 U1) ∧ ((r1 = 0) → R = rI 0 U1) ∧ ((r1 ≠ 0) → R = rI 1 U1))) : EvK N X (Rd_readStatement_s261 (d + 1) x1 x2 U) R := by
  show Ev (am_kz N X) ((d + 1), 178, 261, [some (.inr (.inr 26)), some (.inl x1), some (.inl x2)], [], (am_sh, am_mm U)) R
  refine ev_br (P := x2 = 0) (σ1 := ((d + 1), 178, 278, [some (.inr (.inr 26)), some (.inl x1), some (.inl x2)], [], (am_sh, am_mm U))) (σ2 := ((d + 1), 178, 265, [some (.inr (.inr 26)), some (.inl x1), some (.inl x2)], [], (am_sh, am_mm U))) 2 (fun _ => rfl) (fun hc => ?_) (fun hc => ?_)
  · have h1 := h.1 hc
    subst h1
    exact ev_end 2 (fun _ => rfl)
  · have h2 := h.2 hc
    refine ev_seg (σ1 := ((d + 1), 178, 268, [some (.inr (.inr 26)), some (.inl x1), some (.inl x2)], [.inl 59, .inr (.inr 26)], (am_sh, am_mm U))) 2 (fun _ => rfl) ?_
    obtain ⟨r1, U1, h2c, h2a⟩ := h2
    refine ev_cal (σc := (Rd_takeSign_s0 d 59 U)) (fun _ => rfl) h2c ?_
    show Ev (am_kz N X) ((d + 1), 178, 271, [some (.inr (.inr 26)), some (.inl x1), some (.inl x2)], [.inl r1], (am_sh, am_mm U1)) R
    refine ev_br (P := r1 = 0) (σ1 := ((d + 1), 178, 278, [some (.inr (.inr 26)), some (.inl x1), some (.inl x2)], [], (am_sh, am_mm U1))) (σ2 := ((d + 1), 178, 274, [some (.inr (.inr 26)), some (.inl x1), some (.inl x2)], [], (am_sh, am_mm U1))) 1 (fun _ => rfl) (fun hc => ?_) (fun hc => ?_)
    · have h2a1 := h2a.1 hc
      subst h2a1
      exact ev_end 2 (fun _ => rfl)
    · have h2a2 := h2a.2 hc
      subst h2a2
      exact ev_end 3 (fun _ => rfl)
set_option maxRecDepth 8000 in
theorem Rd_readStatement_r197 {N : Nat} {X : Nat → Int} {d : Nat} {x1 : Int} {U : am_U} {R : Option am_V × am_M} (h : EvK N X (Rd_readStatement_s261 (d + 1) x1 0 U) R) : EvK N X (Rd_readStatement_s197 (d + 1) x1 U) R := by
  show Ev (am_kz N X) ((d + 1), 178, 197, [some (.inr (.inr 26)), some (.inl x1), none], [], (am_sh, am_mm U)) R
  refine ev_seg (σ1 := ((d + 1), 178, 261, [some (.inr (.inr 26)), some (.inl x1), some (.inl 0)], [], (am_sh, am_mm U))) 3 (fun _ => rfl) ?_
  exact h
set_option maxRecDepth 8000 in
theorem Rd_readStatement_r235 {N : Nat} {X : Nat → Int} {d : Nat} {x1 : Int} {U : am_U} {R : Option am_V × am_M} (h : EvK N X (Rd_readStatement_s261 (d + 1) x1 0 U) R) : EvK N X (Rd_readStatement_s235 (d + 1) x1 U) R := by
  show Ev (am_kz N X) ((d + 1), 178, 235, [some (.inr (.inr 26)), some (.inl x1), none], [], (am_sh, am_mm U)) R
  refine ev_seg (σ1 := ((d + 1), 178, 261, [some (.inr (.inr 26)), some (.inl x1), some (.inl 0)], [], (am_sh, am_mm U))) 3 (fun _ => rfl) ?_
  exact h
set_option maxRecDepth 8000 in
theorem Tw_copyRow_32_4_r0 {N : Nat} {X : Nat → Int} {d : Nat} {x2 : Int} {U : am_U} {R : Option am_V × am_M} (h : ((x2 < 0) → R = rV U) ∧ ((0 ≤ x2) → ((4 < x2) → R = rV U) ∧ ((x2 ≤ 4) → ((0 : Int) ≤ 0 ∧ (0 : Int) ≤ 0 ∧ (0 : Int) ≤ x2 ∧ 0 + x2 ≤ 4 ∧ 0 + x2 ≤ 4) ∧ R = rV (am_cpy U 32 4 0 0 x2)))) : EvK N X (Tw_copyRow_32_4_s0 (d + 1) x2 U) R := by
  show Ev (am_kz N X) ((d + 1), 179, 0, [some (.inr (.inr 32)), some (.inr (.inr 4)), some (.inl x2)], [], (am_sh, am_mm U)) R
  refine ev_br (P := x2 < 0) (σ1 := ((d + 1), 179, 24, [some (.inr (.inr 32)), some (.inr (.inr 4)), some (.inl x2)], [], (am_sh, am_mm U))) (σ2 := ((d + 1), 179, 4, [some (.inr (.inr 32)), some (.inr (.inr 4)), some (.inl x2)], [], (am_sh, am_mm U))) 2 (fun _ => rfl) (fun hc => ?_) (fun hc => ?_)
  · have h1 := h.1 hc
    subst h1
    exact ev_end 1 (fun _ => rfl)
  · have h2 := h.2 (Int.not_lt.mp hc)
    refine ev_br (P := 4 < x2) (σ1 := ((d + 1), 179, 24, [some (.inr (.inr 32)), some (.inr (.inr 4)), some (.inl x2)], [], (am_sh, am_mm U))) (σ2 := ((d + 1), 179, 10, [some (.inr (.inr 32)), some (.inr (.inr 4)), some (.inl x2)], [], (am_sh, am_mm U))) 4 (fun _ => rfl) (fun hc => ?_) (fun hc => ?_)
    · have h21 := h2.1 hc
      subst h21
      exact ev_end 1 (fun _ => rfl)
    · have h22 := h2.2 (Int.not_lt.mp hc)
      have h2q := (Int.not_lt.mp hc)
      refine ev_br (P := 4 < x2) (σ1 := ((d + 1), 179, 24, [some (.inr (.inr 32)), some (.inr (.inr 4)), some (.inl x2)], [], (am_sh, am_mm U))) (σ2 := ((d + 1), 179, 16, [some (.inr (.inr 32)), some (.inr (.inr 4)), some (.inl x2)], [], (am_sh, am_mm U))) 4 (fun _ => rfl) (fun hc => absurd h2q (fun h0 => by have h1 := hc; omega)) (fun hc => ?_)
      refine ev_seg (σ1 := ((d + 1), 179, 21, [some (.inr (.inr 32)), some (.inr (.inr 4)), some (.inl x2)], [.inl x2, .inl 0, .inr (.inr 4), .inl 0, .inr (.inr 32)], (am_sh, am_mm U))) 5 (fun _ => rfl) ?_
      refine eu_copy 32 4 (n0 := 4) (n1 := 4) rfl (by decide) (by decide) (by decide) (by decide) rfl rfl (fun _ => rfl) (fun _ => rfl) h22.1 ?_
      show Ev (am_kz N X) ((d + 1), 179, 24, [some (.inr (.inr 32)), some (.inr (.inr 4)), some (.inl x2)], [], (am_sh, am_mm (am_cpy U 32 4 0 0 x2))) R
      have h22a := h22.2
      subst h22a
      exact ev_end 1 (fun _ => rfl)
set_option maxRecDepth 8000 in
theorem Tw_copyRow_33_5_r0 {N : Nat} {X : Nat → Int} {d : Nat} {x2 : Int} {U : am_U} {R : Option am_V × am_M} (h : ((x2 < 0) → R = rV U) ∧ ((0 ≤ x2) → ((12 < x2) → R = rV U) ∧ ((x2 ≤ 12) → ((0 : Int) ≤ 0 ∧ (0 : Int) ≤ 0 ∧ (0 : Int) ≤ x2 ∧ 0 + x2 ≤ 12 ∧ 0 + x2 ≤ 12) ∧ R = rV (am_cpy U 33 5 0 0 x2)))) : EvK N X (Tw_copyRow_33_5_s0 (d + 1) x2 U) R := by
  show Ev (am_kz N X) ((d + 1), 179, 0, [some (.inr (.inr 33)), some (.inr (.inr 5)), some (.inl x2)], [], (am_sh, am_mm U)) R
  refine ev_br (P := x2 < 0) (σ1 := ((d + 1), 179, 24, [some (.inr (.inr 33)), some (.inr (.inr 5)), some (.inl x2)], [], (am_sh, am_mm U))) (σ2 := ((d + 1), 179, 4, [some (.inr (.inr 33)), some (.inr (.inr 5)), some (.inl x2)], [], (am_sh, am_mm U))) 2 (fun _ => rfl) (fun hc => ?_) (fun hc => ?_)
  · have h1 := h.1 hc
    subst h1
    exact ev_end 1 (fun _ => rfl)
  · have h2 := h.2 (Int.not_lt.mp hc)
    refine ev_br (P := 12 < x2) (σ1 := ((d + 1), 179, 24, [some (.inr (.inr 33)), some (.inr (.inr 5)), some (.inl x2)], [], (am_sh, am_mm U))) (σ2 := ((d + 1), 179, 10, [some (.inr (.inr 33)), some (.inr (.inr 5)), some (.inl x2)], [], (am_sh, am_mm U))) 4 (fun _ => rfl) (fun hc => ?_) (fun hc => ?_)
    · have h21 := h2.1 hc
      subst h21
      exact ev_end 1 (fun _ => rfl)
    · have h22 := h2.2 (Int.not_lt.mp hc)
      have h2q := (Int.not_lt.mp hc)
      refine ev_br (P := 12 < x2) (σ1 := ((d + 1), 179, 24, [some (.inr (.inr 33)), some (.inr (.inr 5)), some (.inl x2)], [], (am_sh, am_mm U))) (σ2 := ((d + 1), 179, 16, [some (.inr (.inr 33)), some (.inr (.inr 5)), some (.inl x2)], [], (am_sh, am_mm U))) 4 (fun _ => rfl) (fun hc => absurd h2q (fun h0 => by have h1 := hc; omega)) (fun hc => ?_)
      refine ev_seg (σ1 := ((d + 1), 179, 21, [some (.inr (.inr 33)), some (.inr (.inr 5)), some (.inl x2)], [.inl x2, .inl 0, .inr (.inr 5), .inl 0, .inr (.inr 33)], (am_sh, am_mm U))) 5 (fun _ => rfl) ?_
      refine eu_copy 33 5 (n0 := 12) (n1 := 12) rfl (by decide) (by decide) (by decide) (by decide) rfl rfl (fun _ => rfl) (fun _ => rfl) h22.1 ?_
      show Ev (am_kz N X) ((d + 1), 179, 24, [some (.inr (.inr 33)), some (.inr (.inr 5)), some (.inl x2)], [], (am_sh, am_mm (am_cpy U 33 5 0 0 x2))) R
      have h22a := h22.2
      subst h22a
      exact ev_end 1 (fun _ => rfl)
set_option maxRecDepth 8000 in
theorem Tw_copyRow_34_6_r0 {N : Nat} {X : Nat → Int} {d : Nat} {x2 : Int} {U : am_U} {R : Option am_V × am_M} (h : ((x2 < 0) → R = rV U) ∧ ((0 ≤ x2) → ((12 < x2) → R = rV U) ∧ ((x2 ≤ 12) → ((0 : Int) ≤ 0 ∧ (0 : Int) ≤ 0 ∧ (0 : Int) ≤ x2 ∧ 0 + x2 ≤ 12 ∧ 0 + x2 ≤ 12) ∧ R = rV (am_cpy U 34 6 0 0 x2)))) : EvK N X (Tw_copyRow_34_6_s0 (d + 1) x2 U) R := by
  show Ev (am_kz N X) ((d + 1), 179, 0, [some (.inr (.inr 34)), some (.inr (.inr 6)), some (.inl x2)], [], (am_sh, am_mm U)) R
  refine ev_br (P := x2 < 0) (σ1 := ((d + 1), 179, 24, [some (.inr (.inr 34)), some (.inr (.inr 6)), some (.inl x2)], [], (am_sh, am_mm U))) (σ2 := ((d + 1), 179, 4, [some (.inr (.inr 34)), some (.inr (.inr 6)), some (.inl x2)], [], (am_sh, am_mm U))) 2 (fun _ => rfl) (fun hc => ?_) (fun hc => ?_)
  · have h1 := h.1 hc
    subst h1
    exact ev_end 1 (fun _ => rfl)
  · have h2 := h.2 (Int.not_lt.mp hc)
    refine ev_br (P := 12 < x2) (σ1 := ((d + 1), 179, 24, [some (.inr (.inr 34)), some (.inr (.inr 6)), some (.inl x2)], [], (am_sh, am_mm U))) (σ2 := ((d + 1), 179, 10, [some (.inr (.inr 34)), some (.inr (.inr 6)), some (.inl x2)], [], (am_sh, am_mm U))) 4 (fun _ => rfl) (fun hc => ?_) (fun hc => ?_)
    · have h21 := h2.1 hc
      subst h21
      exact ev_end 1 (fun _ => rfl)
    · have h22 := h2.2 (Int.not_lt.mp hc)
      have h2q := (Int.not_lt.mp hc)
      refine ev_br (P := 12 < x2) (σ1 := ((d + 1), 179, 24, [some (.inr (.inr 34)), some (.inr (.inr 6)), some (.inl x2)], [], (am_sh, am_mm U))) (σ2 := ((d + 1), 179, 16, [some (.inr (.inr 34)), some (.inr (.inr 6)), some (.inl x2)], [], (am_sh, am_mm U))) 4 (fun _ => rfl) (fun hc => absurd h2q (fun h0 => by have h1 := hc; omega)) (fun hc => ?_)
      refine ev_seg (σ1 := ((d + 1), 179, 21, [some (.inr (.inr 34)), some (.inr (.inr 6)), some (.inl x2)], [.inl x2, .inl 0, .inr (.inr 6), .inl 0, .inr (.inr 34)], (am_sh, am_mm U))) 5 (fun _ => rfl) ?_
      refine eu_copy 34 6 (n0 := 12) (n1 := 12) rfl (by decide) (by decide) (by decide) (by decide) rfl rfl (fun _ => rfl) (fun _ => rfl) h22.1 ?_
      show Ev (am_kz N X) ((d + 1), 179, 24, [some (.inr (.inr 34)), some (.inr (.inr 6)), some (.inl x2)], [], (am_sh, am_mm (am_cpy U 34 6 0 0 x2))) R
      have h22a := h22.2
      subst h22a
      exact ev_end 1 (fun _ => rfl)
set_option maxRecDepth 8000 in
theorem Tw_copyRow_35_7_r0 {N : Nat} {X : Nat → Int} {d : Nat} {x2 : Int} {U : am_U} {R : Option am_V × am_M} (h : ((x2 < 0) → R = rV U) ∧ ((0 ≤ x2) → ((12 < x2) → R = rV U) ∧ ((x2 ≤ 12) → ((0 : Int) ≤ 0 ∧ (0 : Int) ≤ 0 ∧ (0 : Int) ≤ x2 ∧ 0 + x2 ≤ 12 ∧ 0 + x2 ≤ 12) ∧ R = rV (am_cpy U 35 7 0 0 x2)))) : EvK N X (Tw_copyRow_35_7_s0 (d + 1) x2 U) R := by
  show Ev (am_kz N X) ((d + 1), 179, 0, [some (.inr (.inr 35)), some (.inr (.inr 7)), some (.inl x2)], [], (am_sh, am_mm U)) R
  refine ev_br (P := x2 < 0) (σ1 := ((d + 1), 179, 24, [some (.inr (.inr 35)), some (.inr (.inr 7)), some (.inl x2)], [], (am_sh, am_mm U))) (σ2 := ((d + 1), 179, 4, [some (.inr (.inr 35)), some (.inr (.inr 7)), some (.inl x2)], [], (am_sh, am_mm U))) 2 (fun _ => rfl) (fun hc => ?_) (fun hc => ?_)
  · have h1 := h.1 hc
    subst h1
    exact ev_end 1 (fun _ => rfl)
  · have h2 := h.2 (Int.not_lt.mp hc)
    refine ev_br (P := 12 < x2) (σ1 := ((d + 1), 179, 24, [some (.inr (.inr 35)), some (.inr (.inr 7)), some (.inl x2)], [], (am_sh, am_mm U))) (σ2 := ((d + 1), 179, 10, [some (.inr (.inr 35)), some (.inr (.inr 7)), some (.inl x2)], [], (am_sh, am_mm U))) 4 (fun _ => rfl) (fun hc => ?_) (fun hc => ?_)
    · have h21 := h2.1 hc
      subst h21
      exact ev_end 1 (fun _ => rfl)
    · have h22 := h2.2 (Int.not_lt.mp hc)
      have h2q := (Int.not_lt.mp hc)
      refine ev_br (P := 12 < x2) (σ1 := ((d + 1), 179, 24, [some (.inr (.inr 35)), some (.inr (.inr 7)), some (.inl x2)], [], (am_sh, am_mm U))) (σ2 := ((d + 1), 179, 16, [some (.inr (.inr 35)), some (.inr (.inr 7)), some (.inl x2)], [], (am_sh, am_mm U))) 4 (fun _ => rfl) (fun hc => absurd h2q (fun h0 => by have h1 := hc; omega)) (fun hc => ?_)
      refine ev_seg (σ1 := ((d + 1), 179, 21, [some (.inr (.inr 35)), some (.inr (.inr 7)), some (.inl x2)], [.inl x2, .inl 0, .inr (.inr 7), .inl 0, .inr (.inr 35)], (am_sh, am_mm U))) 5 (fun _ => rfl) ?_
      refine eu_copy 35 7 (n0 := 12) (n1 := 12) rfl (by decide) (by decide) (by decide) (by decide) rfl rfl (fun _ => rfl) (fun _ => rfl) h22.1 ?_
      show Ev (am_kz N X) ((d + 1), 179, 24, [some (.inr (.inr 35)), some (.inr (.inr 7)), some (.inl x2)], [], (am_sh, am_mm (am_cpy U 35 7 0 0 x2))) R
      have h22a := h22.2
      subst h22a
      exact ev_end 1 (fun _ => rfl)
set_option maxRecDepth 8000 in
theorem Tw_copyRow_36_8_r0 {N : Nat} {X : Nat → Int} {d : Nat} {x2 : Int} {U : am_U} {R : Option am_V × am_M} (h : ((x2 < 0) → R = rV U) ∧ ((0 ≤ x2) → ((12 < x2) → R = rV U) ∧ ((x2 ≤ 12) → ((0 : Int) ≤ 0 ∧ (0 : Int) ≤ 0 ∧ (0 : Int) ≤ x2 ∧ 0 + x2 ≤ 12 ∧ 0 + x2 ≤ 12) ∧ R = rV (am_cpy U 36 8 0 0 x2)))) : EvK N X (Tw_copyRow_36_8_s0 (d + 1) x2 U) R := by
  show Ev (am_kz N X) ((d + 1), 179, 0, [some (.inr (.inr 36)), some (.inr (.inr 8)), some (.inl x2)], [], (am_sh, am_mm U)) R
  refine ev_br (P := x2 < 0) (σ1 := ((d + 1), 179, 24, [some (.inr (.inr 36)), some (.inr (.inr 8)), some (.inl x2)], [], (am_sh, am_mm U))) (σ2 := ((d + 1), 179, 4, [some (.inr (.inr 36)), some (.inr (.inr 8)), some (.inl x2)], [], (am_sh, am_mm U))) 2 (fun _ => rfl) (fun hc => ?_) (fun hc => ?_)
  · have h1 := h.1 hc
    subst h1
    exact ev_end 1 (fun _ => rfl)
  · have h2 := h.2 (Int.not_lt.mp hc)
    refine ev_br (P := 12 < x2) (σ1 := ((d + 1), 179, 24, [some (.inr (.inr 36)), some (.inr (.inr 8)), some (.inl x2)], [], (am_sh, am_mm U))) (σ2 := ((d + 1), 179, 10, [some (.inr (.inr 36)), some (.inr (.inr 8)), some (.inl x2)], [], (am_sh, am_mm U))) 4 (fun _ => rfl) (fun hc => ?_) (fun hc => ?_)
    · have h21 := h2.1 hc
      subst h21
      exact ev_end 1 (fun _ => rfl)
    · have h22 := h2.2 (Int.not_lt.mp hc)
      have h2q := (Int.not_lt.mp hc)
      refine ev_br (P := 12 < x2) (σ1 := ((d + 1), 179, 24, [some (.inr (.inr 36)), some (.inr (.inr 8)), some (.inl x2)], [], (am_sh, am_mm U))) (σ2 := ((d + 1), 179, 16, [some (.inr (.inr 36)), some (.inr (.inr 8)), some (.inl x2)], [], (am_sh, am_mm U))) 4 (fun _ => rfl) (fun hc => absurd h2q (fun h0 => by have h1 := hc; omega)) (fun hc => ?_)
      refine ev_seg (σ1 := ((d + 1), 179, 21, [some (.inr (.inr 36)), some (.inr (.inr 8)), some (.inl x2)], [.inl x2, .inl 0, .inr (.inr 8), .inl 0, .inr (.inr 36)], (am_sh, am_mm U))) 5 (fun _ => rfl) ?_
      refine eu_copy 36 8 (n0 := 12) (n1 := 12) rfl (by decide) (by decide) (by decide) (by decide) rfl rfl (fun _ => rfl) (fun _ => rfl) h22.1 ?_
      show Ev (am_kz N X) ((d + 1), 179, 24, [some (.inr (.inr 36)), some (.inr (.inr 8)), some (.inl x2)], [], (am_sh, am_mm (am_cpy U 36 8 0 0 x2))) R
      have h22a := h22.2
      subst h22a
      exact ev_end 1 (fun _ => rfl)
set_option maxRecDepth 8000 in
theorem Tw_copyRow_37_9_r0 {N : Nat} {X : Nat → Int} {d : Nat} {x2 : Int} {U : am_U} {R : Option am_V × am_M} (h : ((x2 < 0) → R = rV U) ∧ ((0 ≤ x2) → ((12 < x2) → R = rV U) ∧ ((x2 ≤ 12) → ((0 : Int) ≤ 0 ∧ (0 : Int) ≤ 0 ∧ (0 : Int) ≤ x2 ∧ 0 + x2 ≤ 12 ∧ 0 + x2 ≤ 12) ∧ R = rV (am_cpy U 37 9 0 0 x2)))) : EvK N X (Tw_copyRow_37_9_s0 (d + 1) x2 U) R := by
  show Ev (am_kz N X) ((d + 1), 179, 0, [some (.inr (.inr 37)), some (.inr (.inr 9)), some (.inl x2)], [], (am_sh, am_mm U)) R
  refine ev_br (P := x2 < 0) (σ1 := ((d + 1), 179, 24, [some (.inr (.inr 37)), some (.inr (.inr 9)), some (.inl x2)], [], (am_sh, am_mm U))) (σ2 := ((d + 1), 179, 4, [some (.inr (.inr 37)), some (.inr (.inr 9)), some (.inl x2)], [], (am_sh, am_mm U))) 2 (fun _ => rfl) (fun hc => ?_) (fun hc => ?_)
  · have h1 := h.1 hc
    subst h1
    exact ev_end 1 (fun _ => rfl)
  · have h2 := h.2 (Int.not_lt.mp hc)
    refine ev_br (P := 12 < x2) (σ1 := ((d + 1), 179, 24, [some (.inr (.inr 37)), some (.inr (.inr 9)), some (.inl x2)], [], (am_sh, am_mm U))) (σ2 := ((d + 1), 179, 10, [some (.inr (.inr 37)), some (.inr (.inr 9)), some (.inl x2)], [], (am_sh, am_mm U))) 4 (fun _ => rfl) (fun hc => ?_) (fun hc => ?_)
    · have h21 := h2.1 hc
      subst h21
      exact ev_end 1 (fun _ => rfl)
    · have h22 := h2.2 (Int.not_lt.mp hc)
      have h2q := (Int.not_lt.mp hc)
      refine ev_br (P := 12 < x2) (σ1 := ((d + 1), 179, 24, [some (.inr (.inr 37)), some (.inr (.inr 9)), some (.inl x2)], [], (am_sh, am_mm U))) (σ2 := ((d + 1), 179, 16, [some (.inr (.inr 37)), some (.inr (.inr 9)), some (.inl x2)], [], (am_sh, am_mm U))) 4 (fun _ => rfl) (fun hc => absurd h2q (fun h0 => by have h1 := hc; omega)) (fun hc => ?_)
      refine ev_seg (σ1 := ((d + 1), 179, 21, [some (.inr (.inr 37)), some (.inr (.inr 9)), some (.inl x2)], [.inl x2, .inl 0, .inr (.inr 9), .inl 0, .inr (.inr 37)], (am_sh, am_mm U))) 5 (fun _ => rfl) ?_
      refine eu_copy 37 9 (n0 := 12) (n1 := 12) rfl (by decide) (by decide) (by decide) (by decide) rfl rfl (fun _ => rfl) (fun _ => rfl) h22.1 ?_
      show Ev (am_kz N X) ((d + 1), 179, 24, [some (.inr (.inr 37)), some (.inr (.inr 9)), some (.inl x2)], [], (am_sh, am_mm (am_cpy U 37 9 0 0 x2))) R
      have h22a := h22.2
      subst h22a
      exact ev_end 1 (fun _ => rfl)
set_option maxRecDepth 8000 in
theorem Tw_copyRow_38_10_r0 {N : Nat} {X : Nat → Int} {d : Nat} {x2 : Int} {U : am_U} {R : Option am_V × am_M} (h : ((x2 < 0) → R = rV U) ∧ ((0 ≤ x2) → ((12 < x2) → R = rV U) ∧ ((x2 ≤ 12) → ((0 : Int) ≤ 0 ∧ (0 : Int) ≤ 0 ∧ (0 : Int) ≤ x2 ∧ 0 + x2 ≤ 12 ∧ 0 + x2 ≤ 12) ∧ R = rV (am_cpy U 38 10 0 0 x2)))) : EvK N X (Tw_copyRow_38_10_s0 (d + 1) x2 U) R := by
  show Ev (am_kz N X) ((d + 1), 179, 0, [some (.inr (.inr 38)), some (.inr (.inr 10)), some (.inl x2)], [], (am_sh, am_mm U)) R
  refine ev_br (P := x2 < 0) (σ1 := ((d + 1), 179, 24, [some (.inr (.inr 38)), some (.inr (.inr 10)), some (.inl x2)], [], (am_sh, am_mm U))) (σ2 := ((d + 1), 179, 4, [some (.inr (.inr 38)), some (.inr (.inr 10)), some (.inl x2)], [], (am_sh, am_mm U))) 2 (fun _ => rfl) (fun hc => ?_) (fun hc => ?_)
  · have h1 := h.1 hc
    subst h1
    exact ev_end 1 (fun _ => rfl)
  · have h2 := h.2 (Int.not_lt.mp hc)
    refine ev_br (P := 12 < x2) (σ1 := ((d + 1), 179, 24, [some (.inr (.inr 38)), some (.inr (.inr 10)), some (.inl x2)], [], (am_sh, am_mm U))) (σ2 := ((d + 1), 179, 10, [some (.inr (.inr 38)), some (.inr (.inr 10)), some (.inl x2)], [], (am_sh, am_mm U))) 4 (fun _ => rfl) (fun hc => ?_) (fun hc => ?_)
    · have h21 := h2.1 hc
      subst h21
      exact ev_end 1 (fun _ => rfl)
    · have h22 := h2.2 (Int.not_lt.mp hc)
      have h2q := (Int.not_lt.mp hc)
      refine ev_br (P := 12 < x2) (σ1 := ((d + 1), 179, 24, [some (.inr (.inr 38)), some (.inr (.inr 10)), some (.inl x2)], [], (am_sh, am_mm U))) (σ2 := ((d + 1), 179, 16, [some (.inr (.inr 38)), some (.inr (.inr 10)), some (.inl x2)], [], (am_sh, am_mm U))) 4 (fun _ => rfl) (fun hc => absurd h2q (fun h0 => by have h1 := hc; omega)) (fun hc => ?_)
      refine ev_seg (σ1 := ((d + 1), 179, 21, [some (.inr (.inr 38)), some (.inr (.inr 10)), some (.inl x2)], [.inl x2, .inl 0, .inr (.inr 10), .inl 0, .inr (.inr 38)], (am_sh, am_mm U))) 5 (fun _ => rfl) ?_
      refine eu_copy 38 10 (n0 := 12) (n1 := 12) rfl (by decide) (by decide) (by decide) (by decide) rfl rfl (fun _ => rfl) (fun _ => rfl) h22.1 ?_
      show Ev (am_kz N X) ((d + 1), 179, 24, [some (.inr (.inr 38)), some (.inr (.inr 10)), some (.inl x2)], [], (am_sh, am_mm (am_cpy U 38 10 0 0 x2))) R
      have h22a := h22.2
      subst h22a
      exact ev_end 1 (fun _ => rfl)
set_option maxRecDepth 8000 in
theorem Tw_copyRow_40_12_r0 {N : Nat} {X : Nat → Int} {d : Nat} {x2 : Int} {U : am_U} {R : Option am_V × am_M} (h : ((x2 < 0) → R = rV U) ∧ ((0 ≤ x2) → ((8 < x2) → R = rV U) ∧ ((x2 ≤ 8) → ((0 : Int) ≤ 0 ∧ (0 : Int) ≤ 0 ∧ (0 : Int) ≤ x2 ∧ 0 + x2 ≤ 8 ∧ 0 + x2 ≤ 8) ∧ R = rV (am_cpy U 40 12 0 0 x2)))) : EvK N X (Tw_copyRow_40_12_s0 (d + 1) x2 U) R := by
  show Ev (am_kz N X) ((d + 1), 179, 0, [some (.inr (.inr 40)), some (.inr (.inr 12)), some (.inl x2)], [], (am_sh, am_mm U)) R
  refine ev_br (P := x2 < 0) (σ1 := ((d + 1), 179, 24, [some (.inr (.inr 40)), some (.inr (.inr 12)), some (.inl x2)], [], (am_sh, am_mm U))) (σ2 := ((d + 1), 179, 4, [some (.inr (.inr 40)), some (.inr (.inr 12)), some (.inl x2)], [], (am_sh, am_mm U))) 2 (fun _ => rfl) (fun hc => ?_) (fun hc => ?_)
  · have h1 := h.1 hc
    subst h1
    exact ev_end 1 (fun _ => rfl)
  · have h2 := h.2 (Int.not_lt.mp hc)
    refine ev_br (P := 8 < x2) (σ1 := ((d + 1), 179, 24, [some (.inr (.inr 40)), some (.inr (.inr 12)), some (.inl x2)], [], (am_sh, am_mm U))) (σ2 := ((d + 1), 179, 10, [some (.inr (.inr 40)), some (.inr (.inr 12)), some (.inl x2)], [], (am_sh, am_mm U))) 4 (fun _ => rfl) (fun hc => ?_) (fun hc => ?_)
    · have h21 := h2.1 hc
      subst h21
      exact ev_end 1 (fun _ => rfl)
    · have h22 := h2.2 (Int.not_lt.mp hc)
      have h2q := (Int.not_lt.mp hc)
      refine ev_br (P := 8 < x2) (σ1 := ((d + 1), 179, 24, [some (.inr (.inr 40)), some (.inr (.inr 12)), some (.inl x2)], [], (am_sh, am_mm U))) (σ2 := ((d + 1), 179, 16, [some (.inr (.inr 40)), some (.inr (.inr 12)), some (.inl x2)], [], (am_sh, am_mm U))) 4 (fun _ => rfl) (fun hc => absurd h2q (fun h0 => by have h1 := hc; omega)) (fun hc => ?_)
      refine ev_seg (σ1 := ((d + 1), 179, 21, [some (.inr (.inr 40)), some (.inr (.inr 12)), some (.inl x2)], [.inl x2, .inl 0, .inr (.inr 12), .inl 0, .inr (.inr 40)], (am_sh, am_mm U))) 5 (fun _ => rfl) ?_
      refine eu_copy 40 12 (n0 := 8) (n1 := 8) rfl (by decide) (by decide) (by decide) (by decide) rfl rfl (fun _ => rfl) (fun _ => rfl) h22.1 ?_
      show Ev (am_kz N X) ((d + 1), 179, 24, [some (.inr (.inr 40)), some (.inr (.inr 12)), some (.inl x2)], [], (am_sh, am_mm (am_cpy U 40 12 0 0 x2))) R
      have h22a := h22.2
      subst h22a
      exact ev_end 1 (fun _ => rfl)
set_option maxRecDepth 8000 in
theorem Tw_copyRow_41_13_r0 {N : Nat} {X : Nat → Int} {d : Nat} {x2 : Int} {U : am_U} {R : Option am_V × am_M} (h : ((x2 < 0) → R = rV U) ∧ ((0 ≤ x2) → ((9 < x2) → R = rV U) ∧ ((x2 ≤ 9) → ((0 : Int) ≤ 0 ∧ (0 : Int) ≤ 0 ∧ (0 : Int) ≤ x2 ∧ 0 + x2 ≤ 9 ∧ 0 + x2 ≤ 9) ∧ R = rV (am_cpy U 41 13 0 0 x2)))) : EvK N X (Tw_copyRow_41_13_s0 (d + 1) x2 U) R := by
  show Ev (am_kz N X) ((d + 1), 179, 0, [some (.inr (.inr 41)), some (.inr (.inr 13)), some (.inl x2)], [], (am_sh, am_mm U)) R
  refine ev_br (P := x2 < 0) (σ1 := ((d + 1), 179, 24, [some (.inr (.inr 41)), some (.inr (.inr 13)), some (.inl x2)], [], (am_sh, am_mm U))) (σ2 := ((d + 1), 179, 4, [some (.inr (.inr 41)), some (.inr (.inr 13)), some (.inl x2)], [], (am_sh, am_mm U))) 2 (fun _ => rfl) (fun hc => ?_) (fun hc => ?_)
  · have h1 := h.1 hc
    subst h1
    exact ev_end 1 (fun _ => rfl)
  · have h2 := h.2 (Int.not_lt.mp hc)
    refine ev_br (P := 9 < x2) (σ1 := ((d + 1), 179, 24, [some (.inr (.inr 41)), some (.inr (.inr 13)), some (.inl x2)], [], (am_sh, am_mm U))) (σ2 := ((d + 1), 179, 10, [some (.inr (.inr 41)), some (.inr (.inr 13)), some (.inl x2)], [], (am_sh, am_mm U))) 4 (fun _ => rfl) (fun hc => ?_) (fun hc => ?_)
    · have h21 := h2.1 hc
      subst h21
      exact ev_end 1 (fun _ => rfl)
    · have h22 := h2.2 (Int.not_lt.mp hc)
      have h2q := (Int.not_lt.mp hc)
      refine ev_br (P := 9 < x2) (σ1 := ((d + 1), 179, 24, [some (.inr (.inr 41)), some (.inr (.inr 13)), some (.inl x2)], [], (am_sh, am_mm U))) (σ2 := ((d + 1), 179, 16, [some (.inr (.inr 41)), some (.inr (.inr 13)), some (.inl x2)], [], (am_sh, am_mm U))) 4 (fun _ => rfl) (fun hc => absurd h2q (fun h0 => by have h1 := hc; omega)) (fun hc => ?_)
      refine ev_seg (σ1 := ((d + 1), 179, 21, [some (.inr (.inr 41)), some (.inr (.inr 13)), some (.inl x2)], [.inl x2, .inl 0, .inr (.inr 13), .inl 0, .inr (.inr 41)], (am_sh, am_mm U))) 5 (fun _ => rfl) ?_
      refine eu_copy 41 13 (n0 := 9) (n1 := 9) rfl (by decide) (by decide) (by decide) (by decide) rfl rfl (fun _ => rfl) (fun _ => rfl) h22.1 ?_
      show Ev (am_kz N X) ((d + 1), 179, 24, [some (.inr (.inr 41)), some (.inr (.inr 13)), some (.inl x2)], [], (am_sh, am_mm (am_cpy U 41 13 0 0 x2))) R
      have h22a := h22.2
      subst h22a
      exact ev_end 1 (fun _ => rfl)
set_option maxRecDepth 8000 in
theorem Tw_copyRow_42_14_r0 {N : Nat} {X : Nat → Int} {d : Nat} {x2 : Int} {U : am_U} {R : Option am_V × am_M} (h : ((x2 < 0) → R = rV U) ∧ ((0 ≤ x2) → ((9 < x2) → R = rV U) ∧ ((x2 ≤ 9) → ((0 : Int) ≤ 0 ∧ (0 : Int) ≤ 0 ∧ (0 : Int) ≤ x2 ∧ 0 + x2 ≤ 9 ∧ 0 + x2 ≤ 9) ∧ R = rV (am_cpy U 42 14 0 0 x2)))) : EvK N X (Tw_copyRow_42_14_s0 (d + 1) x2 U) R := by
  show Ev (am_kz N X) ((d + 1), 179, 0, [some (.inr (.inr 42)), some (.inr (.inr 14)), some (.inl x2)], [], (am_sh, am_mm U)) R
  refine ev_br (P := x2 < 0) (σ1 := ((d + 1), 179, 24, [some (.inr (.inr 42)), some (.inr (.inr 14)), some (.inl x2)], [], (am_sh, am_mm U))) (σ2 := ((d + 1), 179, 4, [some (.inr (.inr 42)), some (.inr (.inr 14)), some (.inl x2)], [], (am_sh, am_mm U))) 2 (fun _ => rfl) (fun hc => ?_) (fun hc => ?_)
  · have h1 := h.1 hc
    subst h1
    exact ev_end 1 (fun _ => rfl)
  · have h2 := h.2 (Int.not_lt.mp hc)
    refine ev_br (P := 9 < x2) (σ1 := ((d + 1), 179, 24, [some (.inr (.inr 42)), some (.inr (.inr 14)), some (.inl x2)], [], (am_sh, am_mm U))) (σ2 := ((d + 1), 179, 10, [some (.inr (.inr 42)), some (.inr (.inr 14)), some (.inl x2)], [], (am_sh, am_mm U))) 4 (fun _ => rfl) (fun hc => ?_) (fun hc => ?_)
    · have h21 := h2.1 hc
      subst h21
      exact ev_end 1 (fun _ => rfl)
    · have h22 := h2.2 (Int.not_lt.mp hc)
      have h2q := (Int.not_lt.mp hc)
      refine ev_br (P := 9 < x2) (σ1 := ((d + 1), 179, 24, [some (.inr (.inr 42)), some (.inr (.inr 14)), some (.inl x2)], [], (am_sh, am_mm U))) (σ2 := ((d + 1), 179, 16, [some (.inr (.inr 42)), some (.inr (.inr 14)), some (.inl x2)], [], (am_sh, am_mm U))) 4 (fun _ => rfl) (fun hc => absurd h2q (fun h0 => by have h1 := hc; omega)) (fun hc => ?_)
      refine ev_seg (σ1 := ((d + 1), 179, 21, [some (.inr (.inr 42)), some (.inr (.inr 14)), some (.inl x2)], [.inl x2, .inl 0, .inr (.inr 14), .inl 0, .inr (.inr 42)], (am_sh, am_mm U))) 5 (fun _ => rfl) ?_
      refine eu_copy 42 14 (n0 := 9) (n1 := 9) rfl (by decide) (by decide) (by decide) (by decide) rfl rfl (fun _ => rfl) (fun _ => rfl) h22.1 ?_
      show Ev (am_kz N X) ((d + 1), 179, 24, [some (.inr (.inr 42)), some (.inr (.inr 14)), some (.inl x2)], [], (am_sh, am_mm (am_cpy U 42 14 0 0 x2))) R
      have h22a := h22.2
      subst h22a
      exact ev_end 1 (fun _ => rfl)
set_option maxRecDepth 8000 in
theorem Tw_copyRow_43_15_r0 {N : Nat} {X : Nat → Int} {d : Nat} {x2 : Int} {U : am_U} {R : Option am_V × am_M} (h : ((x2 < 0) → R = rV U) ∧ ((0 ≤ x2) → ((1600 < x2) → R = rV U) ∧ ((x2 ≤ 1600) → ((0 : Int) ≤ 0 ∧ (0 : Int) ≤ 0 ∧ (0 : Int) ≤ x2 ∧ 0 + x2 ≤ 1600 ∧ 0 + x2 ≤ 1600) ∧ R = rV (am_cpy U 43 15 0 0 x2)))) : EvK N X (Tw_copyRow_43_15_s0 (d + 1) x2 U) R := by
  show Ev (am_kz N X) ((d + 1), 179, 0, [some (.inr (.inr 43)), some (.inr (.inr 15)), some (.inl x2)], [], (am_sh, am_mm U)) R
  refine ev_br (P := x2 < 0) (σ1 := ((d + 1), 179, 24, [some (.inr (.inr 43)), some (.inr (.inr 15)), some (.inl x2)], [], (am_sh, am_mm U))) (σ2 := ((d + 1), 179, 4, [some (.inr (.inr 43)), some (.inr (.inr 15)), some (.inl x2)], [], (am_sh, am_mm U))) 2 (fun _ => rfl) (fun hc => ?_) (fun hc => ?_)
  · have h1 := h.1 hc
    subst h1
    exact ev_end 1 (fun _ => rfl)
  · have h2 := h.2 (Int.not_lt.mp hc)
    refine ev_br (P := 1600 < x2) (σ1 := ((d + 1), 179, 24, [some (.inr (.inr 43)), some (.inr (.inr 15)), some (.inl x2)], [], (am_sh, am_mm U))) (σ2 := ((d + 1), 179, 10, [some (.inr (.inr 43)), some (.inr (.inr 15)), some (.inl x2)], [], (am_sh, am_mm U))) 4 (fun _ => rfl) (fun hc => ?_) (fun hc => ?_)
    · have h21 := h2.1 hc
      subst h21
      exact ev_end 1 (fun _ => rfl)
    · have h22 := h2.2 (Int.not_lt.mp hc)
      have h2q := (Int.not_lt.mp hc)
      refine ev_br (P := 1600 < x2) (σ1 := ((d + 1), 179, 24, [some (.inr (.inr 43)), some (.inr (.inr 15)), some (.inl x2)], [], (am_sh, am_mm U))) (σ2 := ((d + 1), 179, 16, [some (.inr (.inr 43)), some (.inr (.inr 15)), some (.inl x2)], [], (am_sh, am_mm U))) 4 (fun _ => rfl) (fun hc => absurd h2q (fun h0 => by have h1 := hc; omega)) (fun hc => ?_)
      refine ev_seg (σ1 := ((d + 1), 179, 21, [some (.inr (.inr 43)), some (.inr (.inr 15)), some (.inl x2)], [.inl x2, .inl 0, .inr (.inr 15), .inl 0, .inr (.inr 43)], (am_sh, am_mm U))) 5 (fun _ => rfl) ?_
      refine eu_copy 43 15 (n0 := 1600) (n1 := 1600) rfl (by decide) (by decide) (by decide) (by decide) rfl rfl (fun _ => rfl) (fun _ => rfl) h22.1 ?_
      show Ev (am_kz N X) ((d + 1), 179, 24, [some (.inr (.inr 43)), some (.inr (.inr 15)), some (.inl x2)], [], (am_sh, am_mm (am_cpy U 43 15 0 0 x2))) R
      have h22a := h22.2
      subst h22a
      exact ev_end 1 (fun _ => rfl)
set_option maxRecDepth 8000 in
theorem Fk_clear_16_r0 {N : Nat} {X : Nat → Int} {d : Nat} {U : am_U} {R : Option am_V × am_M} (h : ∃ U1 : am_U, EvK N X (Ar_fill_II_19_s0 d 0 (am_upd (am_upd (am_upd U 16 0 0) 16 1 0) 16 2 0)) (rV U1) ∧ R = rV U1) : EvK N X (Fk_clear_16_s0 (d + 1) U) R := by
  show Ev (am_kz N X) ((d + 1), 176, 0, [some (.inr (.inr 16))], [], (am_sh, am_mm U)) R
  refine ev_seg (σ1 := ((d + 1), 176, 2, [some (.inr (.inr 16))], [.inl 0, .inr (.inr 16)], (am_sh, am_mm U))) 2 (fun _ => rfl) ?_
  refine eu_puti 16 (n := 7) rfl (by decide) rfl rfl ?_
  show Ev (am_kz N X) ((d + 1), 176, 5, [some (.inr (.inr 16))], [], (am_sh, am_mm (am_upd U 16 0 0))) R
  refine ev_seg (σ1 := ((d + 1), 176, 7, [some (.inr (.inr 16))], [.inl 0, .inr (.inr 16)], (am_sh, am_mm (am_upd U 16 0 0)))) 2 (fun _ => rfl) ?_
  refine eu_puti 16 (n := 7) rfl (by decide) rfl rfl ?_
  show Ev (am_kz N X) ((d + 1), 176, 10, [some (.inr (.inr 16))], [], (am_sh, am_mm (am_upd (am_upd U 16 0 0) 16 1 0))) R
  refine ev_seg (σ1 := ((d + 1), 176, 12, [some (.inr (.inr 16))], [.inl 0, .inr (.inr 16)], (am_sh, am_mm (am_upd (am_upd U 16 0 0) 16 1 0)))) 2 (fun _ => rfl) ?_
  refine eu_putz 16 (n := 7) rfl (by decide) rfl rfl (by decide) ?_
  show Ev (am_kz N X) ((d + 1), 176, 15, [some (.inr (.inr 16))], [], (am_sh, am_mm (am_upd (am_upd (am_upd U 16 0 0) 16 1 0) 16 2 0))) R
  refine ev_seg (σ1 := ((d + 1), 176, 20, [some (.inr (.inr 16))], [.inl 0, .inr (.inr 19)], (am_sh, am_mm (am_upd (am_upd (am_upd U 16 0 0) 16 1 0) 16 2 0)))) 3 (fun _ => rfl) ?_
  obtain ⟨U1, hc, ha⟩ := h
  refine ev_cal (σc := (Ar_fill_II_19_s0 d 0 (am_upd (am_upd (am_upd U 16 0 0) 16 1 0) 16 2 0))) (fun _ => rfl) hc ?_
  show Ev (am_kz N X) ((d + 1), 176, 23, [some (.inr (.inr 16))], [], (am_sh, am_mm U1)) R
  subst ha
  exact ev_end 1 (fun _ => rfl)
set_option maxRecDepth 8000 in
theorem Fk_add_16_r0 {N : Nat} {X : Nat → Int} {d : Nat} {x1 x2 : Int} {U : am_U} {R : Option am_V × am_M} (h : (((U 16 0) < 16) → (0 ≤ (U 16 0) ∧ (U 16 0) < 16) ∧ (((U 17 ((U 16 0).toNat)) = x1) → ∃ U1 : am_U, EvK N X (Fk_settle_16_s0 d (w32 ((w32 ((U 16 0) + 1)) - 1)) x2 (am_upd (am_upd U 18 ((U 16 0).toNat) (-1)) 16 0 (w32 ((U 16 0) + 1)))) (rV U1) ∧ R = rV U1) ∧ (((U 17 ((U 16 0).toNat)) ≠ x1) → ∃ U2 : am_U, EvK N X (Fk_settle_16_s0 d (w32 ((w32 ((U 16 0) + 1)) - 1)) x2 (am_upd (am_upd (am_upd (am_upd U 17 ((U 16 0).toNat) x1) 20 ((U 16 0).toNat) (-1)) 18 ((U 16 0).toNat) (-1)) 16 0 (w32 ((U 16 0) + 1)))) (rV U2) ∧ R = rV U2)) ∧ ((16 ≤ (U 16 0)) → R = rV U)) : EvK N X (Fk_add_16_s0 (d + 1) x1 x2 U) R := by
  show Ev (am_kz N X) ((d + 1), 180, 0, [some (.inr (.inr 16)), some (.inl x1), some (.inl x2)], [], (am_sh, am_mm U)) R
  refine ev_br (P := (U 16 0) < 16) (σ1 := ((d + 1), 180, 10, [some (.inr (.inr 16)), some (.inl x1), some (.inl x2)], [], (am_sh, am_mm U))) (σ2 := ((d + 1), 180, 9, [some (.inr (.inr 16)), some (.inl x1), some (.inl x2)], [], (am_sh, am_mm U))) 4 (fun _ => rfl) (fun hc => ?_) (fun hc => ?_)
  · have h1 := h.1 hc
    refine ev_seg (σ1 := ((d + 1), 180, 18, [some (.inr (.inr 16)), some (.inl x1), some (.inl x2)], [.inl (U 16 0), .inr (.inr 17)], (am_sh, am_mm U))) 4 (fun _ => rfl) ?_
    refine eu_iald 17 (n := 16) rfl (by decide) rfl (fun _ => rfl) h1.1 ?_
    show Ev (am_kz N X) ((d + 1), 180, 19, [some (.inr (.inr 16)), some (.inl x1), some (.inl x2)], [.inl (U 17 ((U 16 0).toNat))], (am_sh, am_mm U)) R
    have h1a := h1.2
    refine ev_br (P := (U 17 ((U 16 0).toNat)) = x1) (σ1 := ((d + 1), 180, 45, [some (.inr (.inr 16)), some (.inl x1), some (.inl x2)], [], (am_sh, am_mm U))) (σ2 := ((d + 1), 180, 23, [some (.inr (.inr 16)), some (.inl x1), some (.inl x2)], [], (am_sh, am_mm U))) 2 (fun _ => rfl) (fun hc => ?_) (fun hc => ?_)
    · have h1a1 := h1a.1 hc
      refine ev_seg (σ1 := ((d + 1), 180, 54, [some (.inr (.inr 16)), some (.inl x1), some (.inl x2)], [.inl (-1), .inl (U 16 0), .inr (.inr 18)], (am_sh, am_mm U))) 5 (fun _ => rfl) ?_
      refine eu_iast 18 (n := 16) rfl (by decide) rfl (fun _ => rfl) h1.1 ?_
      show Ev (am_kz N X) ((d + 1), 180, 55, [some (.inr (.inr 16)), some (.inl x1), some (.inl x2)], [], (am_sh, am_mm (am_upd U 18 ((U 16 0).toNat) (-1)))) R
      refine ev_seg (σ1 := ((d + 1), 180, 62, [some (.inr (.inr 16)), some (.inl x1), some (.inl x2)], [.inl (w32 ((U 16 0) + 1)), .inr (.inr 16)], (am_sh, am_mm (am_upd U 18 ((U 16 0).toNat) (-1))))) 5 (fun _ => rfl) ?_
      refine eu_puti 16 (n := 7) rfl (by decide) rfl rfl ?_
      show Ev (am_kz N X) ((d + 1), 180, 65, [some (.inr (.inr 16)), some (.inl x1), some (.inl x2)], [], (am_sh, am_mm (am_upd (am_upd U 18 ((U 16 0).toNat) (-1)) 16 0 (w32 ((U 16 0) + 1))))) R
      refine ev_seg (σ1 := ((d + 1), 180, 73, [some (.inr (.inr 16)), some (.inl x1), some (.inl x2)], [.inl x2, .inl (w32 ((w32 ((U 16 0) + 1)) - 1)), .inr (.inr 16)], (am_sh, am_mm (am_upd (am_upd U 18 ((U 16 0).toNat) (-1)) 16 0 (w32 ((U 16 0) + 1)))))) 6 (fun _ => rfl) ?_
      obtain ⟨U1, h1a1c, h1a1a⟩ := h1a1
      refine ev_cal (σc := (Fk_settle_16_s0 d (w32 ((w32 ((U 16 0) + 1)) - 1)) x2 (am_upd (am_upd U 18 ((U 16 0).toNat) (-1)) 16 0 (w32 ((U 16 0) + 1))))) (fun _ => rfl) h1a1c ?_
      show Ev (am_kz N X) ((d + 1), 180, 76, [some (.inr (.inr 16)), some (.inl x1), some (.inl x2)], [], (am_sh, am_mm U1)) R
      subst h1a1a
      exact ev_end 1 (fun _ => rfl)
    · have h1a2 := h1a.2 hc
      refine ev_seg (σ1 := ((d + 1), 180, 32, [some (.inr (.inr 16)), some (.inl x1), some (.inl x2)], [.inl x1, .inl (U 16 0), .inr (.inr 17)], (am_sh, am_mm U))) 5 (fun _ => rfl) ?_
      refine eu_iast 17 (n := 16) rfl (by decide) rfl (fun _ => rfl) h1.1 ?_
      show Ev (am_kz N X) ((d + 1), 180, 33, [some (.inr (.inr 16)), some (.inl x1), some (.inl x2)], [], (am_sh, am_mm (am_upd U 17 ((U 16 0).toNat) x1))) R
      refine ev_seg (σ1 := ((d + 1), 180, 44, [some (.inr (.inr 16)), some (.inl x1), some (.inl x2)], [.inr (.inl (-1)), .inl (U 16 0), .inr (.inr 20)], (am_sh, am_mm (am_upd U 17 ((U 16 0).toNat) x1)))) 5 (fun _ => rfl) ?_
      refine eu_last 20 (n := 16) rfl (by decide) rfl (fun _ => rfl) h1.1 ?_
      show Ev (am_kz N X) ((d + 1), 180, 45, [some (.inr (.inr 16)), some (.inl x1), some (.inl x2)], [], (am_sh, am_mm (am_upd (am_upd U 17 ((U 16 0).toNat) x1) 20 ((U 16 0).toNat) (-1)))) R
      refine ev_seg (σ1 := ((d + 1), 180, 54, [some (.inr (.inr 16)), some (.inl x1), some (.inl x2)], [.inl (-1), .inl (U 16 0), .inr (.inr 18)], (am_sh, am_mm (am_upd (am_upd U 17 ((U 16 0).toNat) x1) 20 ((U 16 0).toNat) (-1))))) 5 (fun _ => rfl) ?_
      refine eu_iast 18 (n := 16) rfl (by decide) rfl (fun _ => rfl) h1.1 ?_
      show Ev (am_kz N X) ((d + 1), 180, 55, [some (.inr (.inr 16)), some (.inl x1), some (.inl x2)], [], (am_sh, am_mm (am_upd (am_upd (am_upd U 17 ((U 16 0).toNat) x1) 20 ((U 16 0).toNat) (-1)) 18 ((U 16 0).toNat) (-1)))) R
      refine ev_seg (σ1 := ((d + 1), 180, 62, [some (.inr (.inr 16)), some (.inl x1), some (.inl x2)], [.inl (w32 ((U 16 0) + 1)), .inr (.inr 16)], (am_sh, am_mm (am_upd (am_upd (am_upd U 17 ((U 16 0).toNat) x1) 20 ((U 16 0).toNat) (-1)) 18 ((U 16 0).toNat) (-1))))) 5 (fun _ => rfl) ?_
      refine eu_puti 16 (n := 7) rfl (by decide) rfl rfl ?_
      show Ev (am_kz N X) ((d + 1), 180, 65, [some (.inr (.inr 16)), some (.inl x1), some (.inl x2)], [], (am_sh, am_mm (am_upd (am_upd (am_upd (am_upd U 17 ((U 16 0).toNat) x1) 20 ((U 16 0).toNat) (-1)) 18 ((U 16 0).toNat) (-1)) 16 0 (w32 ((U 16 0) + 1))))) R
      refine ev_seg (σ1 := ((d + 1), 180, 73, [some (.inr (.inr 16)), some (.inl x1), some (.inl x2)], [.inl x2, .inl (w32 ((w32 ((U 16 0) + 1)) - 1)), .inr (.inr 16)], (am_sh, am_mm (am_upd (am_upd (am_upd (am_upd U 17 ((U 16 0).toNat) x1) 20 ((U 16 0).toNat) (-1)) 18 ((U 16 0).toNat) (-1)) 16 0 (w32 ((U 16 0) + 1)))))) 6 (fun _ => rfl) ?_
      obtain ⟨U2, h1a2c, h1a2a⟩ := h1a2
      refine ev_cal (σc := (Fk_settle_16_s0 d (w32 ((w32 ((U 16 0) + 1)) - 1)) x2 (am_upd (am_upd (am_upd (am_upd U 17 ((U 16 0).toNat) x1) 20 ((U 16 0).toNat) (-1)) 18 ((U 16 0).toNat) (-1)) 16 0 (w32 ((U 16 0) + 1))))) (fun _ => rfl) h1a2c ?_
      show Ev (am_kz N X) ((d + 1), 180, 76, [some (.inr (.inr 16)), some (.inl x1), some (.inl x2)], [], (am_sh, am_mm U2)) R
      subst h1a2a
      exact ev_end 1 (fun _ => rfl)
  · have h2 := h.2 (Int.not_lt.mp hc)
    subst h2
    exact ev_end 1 (fun _ => rfl)
set_option maxRecDepth 8000 in
theorem Jg_forget_r0 {N : Nat} {X : Nat → Int} {d : Nat} {U : am_U} {R : Option am_V × am_M} (h : R = rV (am_upd U 45 5 0)) : EvK N X (Jg_forget_s0 d U) R := by
  show Ev (am_kz N X) (d, 181, 0, [some (.inr (.inr 45))], [], (am_sh, am_mm U)) R
  refine ev_seg (σ1 := (d, 181, 2, [some (.inr (.inr 45))], [.inl 0, .inr (.inr 45)], (am_sh, am_mm U))) 2 (fun _ => rfl) ?_
  refine eu_putz 45 (n := 6) rfl (by decide) rfl rfl (by decide) ?_
  show Ev (am_kz N X) (d, 181, 5, [some (.inr (.inr 45))], [], (am_sh, am_mm (am_upd U 45 5 0))) R
  subst h
  exact ev_end 1 (fun _ => rfl)
set_option maxRecDepth 8000 in
theorem Pl_forget_r0 {N : Nat} {X : Nat → Int} {d : Nat} {U : am_U} {R : Option am_V × am_M} (h : R = rV (am_upd U 48 9 0)) : EvK N X (Pl_forget_s0 d U) R := by
  show Ev (am_kz N X) (d, 182, 0, [some (.inr (.inr 48))], [], (am_sh, am_mm U)) R
  refine ev_seg (σ1 := (d, 182, 2, [some (.inr (.inr 48))], [.inl 0, .inr (.inr 48)], (am_sh, am_mm U))) 2 (fun _ => rfl) ?_
  refine eu_putz 48 (n := 10) rfl (by decide) rfl rfl (by decide) ?_
  show Ev (am_kz N X) (d, 182, 5, [some (.inr (.inr 48))], [], (am_sh, am_mm (am_upd U 48 9 0))) R
  subst h
  exact ev_end 1 (fun _ => rfl)
set_option maxRecDepth 8000 in
theorem Cp_forget_r0 {N : Nat} {X : Nat → Int} {d : Nat} {U : am_U} {R : Option am_V × am_M} (h : R = rV (am_upd U 52 8 0)) : EvK N X (Cp_forget_s0 d U) R := by
  show Ev (am_kz N X) (d, 183, 0, [some (.inr (.inr 52))], [], (am_sh, am_mm U)) R
  refine ev_seg (σ1 := (d, 183, 2, [some (.inr (.inr 52))], [.inl 0, .inr (.inr 52)], (am_sh, am_mm U))) 2 (fun _ => rfl) ?_
  refine eu_putz 52 (n := 9) rfl (by decide) rfl rfl (by decide) ?_
  show Ev (am_kz N X) (d, 183, 5, [some (.inr (.inr 52))], [], (am_sh, am_mm (am_upd U 52 8 0))) R
  subst h
  exact ev_end 1 (fun _ => rfl)
set_option maxRecDepth 8000 in
theorem M_isLetter_r0 {N : Nat} {X : Nat → Int} {d : Nat} {x0 : Int} {U : am_U} {R : Option am_V × am_M} (h : ((x0 < 97) → R = rI 0 U) ∧ ((97 ≤ x0) → ((122 < x0) → R = rI 0 U) ∧ ((x0 ≤ 122) → R = rI 1 U))) : EvK N X (M_isLetter_s0 d x0 U) R := by
  show Ev (am_kz N X) (d, 184, 0, [some (.inl x0)], [], (am_sh, am_mm U)) R
  refine ev_br (P := x0 < 97) (σ1 := (d, 184, 16, [some (.inl x0)], [], (am_sh, am_mm U))) (σ2 := (d, 184, 6, [some (.inl x0)], [], (am_sh, am_mm U))) 3 (fun _ => rfl) (fun hc => ?_) (fun hc => ?_)
  · have h1 := h.1 hc
    subst h1
    exact ev_end 2 (fun _ => rfl)
  · have h2 := h.2 (Int.not_lt.mp hc)
    refine ev_br (P := 122 < x0) (σ1 := (d, 184, 16, [some (.inl x0)], [], (am_sh, am_mm U))) (σ2 := (d, 184, 12, [some (.inl x0)], [], (am_sh, am_mm U))) 3 (fun _ => rfl) (fun hc => ?_) (fun hc => ?_)
    · have h21 := h2.1 hc
      subst h21
      exact ev_end 2 (fun _ => rfl)
    · have h22 := h2.2 (Int.not_lt.mp hc)
      subst h22
      exact ev_end 3 (fun _ => rfl)
set_option maxRecDepth 8000 in
theorem M_isDigit_r0 {N : Nat} {X : Nat → Int} {d : Nat} {x0 : Int} {U : am_U} {R : Option am_V × am_M} (h : ((x0 < 48) → R = rI 0 U) ∧ ((48 ≤ x0) → ((57 < x0) → R = rI 0 U) ∧ ((x0 ≤ 57) → R = rI 1 U))) : EvK N X (M_isDigit_s0 d x0 U) R := by
  show Ev (am_kz N X) (d, 185, 0, [some (.inl x0)], [], (am_sh, am_mm U)) R
  refine ev_br (P := x0 < 48) (σ1 := (d, 185, 16, [some (.inl x0)], [], (am_sh, am_mm U))) (σ2 := (d, 185, 6, [some (.inl x0)], [], (am_sh, am_mm U))) 3 (fun _ => rfl) (fun hc => ?_) (fun hc => ?_)
  · have h1 := h.1 hc
    subst h1
    exact ev_end 2 (fun _ => rfl)
  · have h2 := h.2 (Int.not_lt.mp hc)
    refine ev_br (P := 57 < x0) (σ1 := (d, 185, 16, [some (.inl x0)], [], (am_sh, am_mm U))) (σ2 := (d, 185, 12, [some (.inl x0)], [], (am_sh, am_mm U))) 3 (fun _ => rfl) (fun hc => ?_) (fun hc => ?_)
    · have h21 := h2.1 hc
      subst h21
      exact ev_end 2 (fun _ => rfl)
    · have h22 := h2.2 (Int.not_lt.mp hc)
      subst h22
      exact ev_end 3 (fun _ => rfl)
set_option maxRecDepth 8000 in
theorem M_lex_r0 {N : Nat} {X : Nat → Int} {d : Nat} {U : am_U} {R : Option am_V × am_M} (h : (((U 86 12) = (-1)) → R = rV U) ∧ (((U 86 12) ≠ (-1)) → ∃ U1 : am_U, EvK N X (M_blame_s0 d 1 (U 86 12) U) (rV U1) ∧ R = rV U1)) : EvK N X (M_lex_s0 (d + 1) U) R := by
  show Ev (am_kz N X) ((d + 1), 186, 0, [some (.inr (.inr 86))], [], (am_sh, am_mm U)) R
  refine ev_br (P := (U 86 12) = (-1)) (σ1 := ((d + 1), 186, 17, [some (.inr (.inr 86))], [], (am_sh, am_mm U))) (σ2 := ((d + 1), 186, 8, [some (.inr (.inr 86))], [], (am_sh, am_mm U))) 4 (fun _ => rfl) (fun hc => ?_) (fun hc => ?_)
  · have h1 := h.1 hc
    subst h1
    exact ev_end 1 (fun _ => rfl)
  · have h2 := h.2 hc
    refine ev_seg (σ1 := ((d + 1), 186, 14, [some (.inr (.inr 86))], [.inl (U 86 12), .inl 1, .inr (.inr 86)], (am_sh, am_mm U))) 4 (fun _ => rfl) ?_
    obtain ⟨U1, h2c, h2a⟩ := h2
    refine ev_cal (σc := (M_blame_s0 d 1 (U 86 12) U)) (fun _ => rfl) h2c ?_
    show Ev (am_kz N X) ((d + 1), 186, 17, [some (.inr (.inr 86))], [], (am_sh, am_mm U1)) R
    subst h2a
    exact ev_end 1 (fun _ => rfl)
set_option maxRecDepth 8000 in
theorem M_isWord_r0 {N : Nat} {X : Nat → Int} {d : Nat} {x1 : Int} {U : am_U} {R : Option am_V × am_M} (h : (((U 86 3) ≠ 1) → R = rI 0 U) ∧ (((U 86 3) = 1) → (((U 86 7) ≠ x1) → R = rI 0 U) ∧ (((U 86 7) = x1) → R = rI 1 U))) : EvK N X (M_isWord_s0 d x1 U) R := by
  show Ev (am_kz N X) (d, 187, 0, [some (.inr (.inr 86)), some (.inr (.inl x1)), none], [], (am_sh, am_mm U)) R
  refine ev_br (P := ¬ (U 86 3) = 1) (σ1 := (d, 187, 21, [some (.inr (.inr 86)), some (.inr (.inl x1)), none], [], (am_sh, am_mm U))) (σ2 := (d, 187, 8, [some (.inr (.inr 86)), some (.inr (.inl x1)), none], [], (am_sh, am_mm U))) 4 (fun _ => rfl) (fun hc => ?_) (fun hc => ?_)
  · have h1 := h.1 hc
    subst h1
    exact ev_end 2 (fun _ => rfl)
  · have h2 := h.2 (Decidable.not_not.mp hc)
    refine ev_br (P := ¬ (am_lcmp (U 86 7) x1) = 0) (σ1 := (d, 187, 21, [some (.inr (.inr 86)), some (.inr (.inl x1)), none], [], (am_sh, am_mm U))) (σ2 := (d, 187, 17, [some (.inr (.inr 86)), some (.inr (.inl x1)), none], [], (am_sh, am_mm U))) 5 (fun _ => rfl) (fun hc => ?_) (fun hc => ?_)
    · have h21 := h2.1 ((am_lc_ne (U 86 7) x1).mp hc)
      subst h21
      exact ev_end 2 (fun _ => rfl)
    · have h22 := h2.2 ((am_lcn_ne (U 86 7) x1).mp hc)
      subst h22
      exact ev_end 3 (fun _ => rfl)
set_option maxRecDepth 8000 in
theorem M_blame_r0 {N : Nat} {X : Nat → Int} {d : Nat} {x1 x2 : Int} {U : am_U} {R : Option am_V × am_M} (h : (((U 86 8) ≤ 0) → R = rV (am_upd (am_upd U 86 8 x1) 86 9 x2)) ∧ ((0 < (U 86 8)) → R = rV U)) : EvK N X (M_blame_s0 d x1 x2 U) R := by
  show Ev (am_kz N X) (d, 196, 0, [some (.inr (.inr 86)), some (.inl x1), some (.inl x2)], [], (am_sh, am_mm U)) R
  refine ev_br (P := (U 86 8) ≤ 0) (σ1 := (d, 196, 8, [some (.inr (.inr 86)), some (.inl x1), some (.inl x2)], [], (am_sh, am_mm U))) (σ2 := (d, 196, 7, [some (.inr (.inr 86)), some (.inl x1), some (.inl x2)], [], (am_sh, am_mm U))) 3 (fun _ => rfl) (fun hc => ?_) (fun hc => ?_)
  · have h1 := h.1 hc
    refine ev_seg (σ1 := (d, 196, 10, [some (.inr (.inr 86)), some (.inl x1), some (.inl x2)], [.inl x1, .inr (.inr 86)], (am_sh, am_mm U))) 2 (fun _ => rfl) ?_
    refine eu_puti 86 (n := 90) rfl (by decide) rfl rfl ?_
    show Ev (am_kz N X) (d, 196, 13, [some (.inr (.inr 86)), some (.inl x1), some (.inl x2)], [], (am_sh, am_mm (am_upd U 86 8 x1))) R
    refine ev_seg (σ1 := (d, 196, 15, [some (.inr (.inr 86)), some (.inl x1), some (.inl x2)], [.inl x2, .inr (.inr 86)], (am_sh, am_mm (am_upd U 86 8 x1)))) 2 (fun _ => rfl) ?_
    refine eu_puti 86 (n := 90) rfl (by decide) rfl rfl ?_
    show Ev (am_kz N X) (d, 196, 18, [some (.inr (.inr 86)), some (.inl x1), some (.inl x2)], [], (am_sh, am_mm (am_upd (am_upd U 86 8 x1) 86 9 x2))) R
    subst h1
    exact ev_end 1 (fun _ => rfl)
  · have h2 := h.2 (Int.not_le.mp hc)
    subst h2
    exact ev_end 1 (fun _ => rfl)
set_option maxRecDepth 8000 in
theorem M_burning_r0 {N : Nat} {X : Nat → Int} {d : Nat} {U : am_U} {R : Option am_V × am_M} (h : ∃ (r1 : Int) (U1 : am_U), EvK N X (M_counts_s0 d 0 U) (rI r1 U1) ∧ ((r1 ≠ 0) → ∃ (r2 : Int) (U2 : am_U), EvK N X (M_numeral_s0 d 0 100 U1) (rI r2 U2) ∧ (((U2 86 8) ≠ 0) → R = rV U2) ∧ (((U2 86 8) = 0) → (0 ≤ (U2 86 40) ∧ (U2 86 40) < 2) ∧ R = rV (am_upd U2 110 ((U2 86 40).toNat) r2))) ∧ ((r1 = 0) → R = rV U1)) : EvK N X (M_burning_s0 (d + 1) U) R := by
  show Ev (am_kz N X) ((d + 1), 195, 0, [some (.inr (.inr 86)), none], [], (am_sh, am_mm U)) R
  refine ev_seg (σ1 := ((d + 1), 195, 2, [some (.inr (.inr 86)), none], [.inl 0, .inr (.inr 86)], (am_sh, am_mm U))) 2 (fun _ => rfl) ?_
  obtain ⟨r1, U1, hc, ha⟩ := h
  refine ev_cal (σc := (M_counts_s0 d 0 U)) (fun _ => rfl) hc ?_
  show Ev (am_kz N X) ((d + 1), 195, 5, [some (.inr (.inr 86)), none], [.inl r1], (am_sh, am_mm U1)) R
  refine ev_br (P := ¬ r1 = 0) (σ1 := ((d + 1), 195, 9, [some (.inr (.inr 86)), none], [], (am_sh, am_mm U1))) (σ2 := ((d + 1), 195, 8, [some (.inr (.inr 86)), none], [], (am_sh, am_mm U1))) 1 (fun _ => rfl) (fun hc => ?_) (fun hc => ?_)
  · have ha1 := ha.1 hc
    refine ev_seg (σ1 := ((d + 1), 195, 13, [some (.inr (.inr 86)), none], [.inl 100, .inl 0, .inr (.inr 86)], (am_sh, am_mm U1))) 3 (fun _ => rfl) ?_
    obtain ⟨r2, U2, ha1c, ha1a⟩ := ha1
    refine ev_cal (σc := (M_numeral_s0 d 0 100 U1)) (fun _ => rfl) ha1c ?_
    show Ev (am_kz N X) ((d + 1), 195, 16, [some (.inr (.inr 86)), none], [.inl r2], (am_sh, am_mm U2)) R
    refine ev_br (P := ¬ (U2 86 8) = 0) (σ1 := ((d + 1), 195, 34, [some (.inr (.inr 86)), some (.inl r2)], [], (am_sh, am_mm U2))) (σ2 := ((d + 1), 195, 24, [some (.inr (.inr 86)), some (.inl r2)], [], (am_sh, am_mm U2))) 4 (fun _ => rfl) (fun hc => ?_) (fun hc => ?_)
    · have ha1a1 := ha1a.1 hc
      subst ha1a1
      exact ev_end 1 (fun _ => rfl)
    · have ha1a2 := ha1a.2 (Decidable.not_not.mp hc)
      refine ev_seg (σ1 := ((d + 1), 195, 33, [some (.inr (.inr 86)), some (.inl r2)], [.inl r2, .inl (U2 86 40), .inr (.inr 110)], (am_sh, am_mm U2))) 5 (fun _ => rfl) ?_
      refine eu_iast 110 (n := 2) rfl (by decide) rfl (fun _ => rfl) ha1a2.1 ?_
      show Ev (am_kz N X) ((d + 1), 195, 34, [some (.inr (.inr 86)), some (.inl r2)], [], (am_sh, am_mm (am_upd U2 110 ((U2 86 40).toNat) r2))) R
      have ha1a2a := ha1a2.2
      subst ha1a2a
      exact ev_end 1 (fun _ => rfl)
  · have ha2 := ha.2 (Decidable.not_not.mp hc)
    subst ha2
    exact ev_end 1 (fun _ => rfl)
set_option maxRecDepth 8000 in
theorem M_owing_r0 {N : Nat} {X : Nat → Int} {d : Nat} {U : am_U} {R : Option am_V × am_M} (h : (0 ≤ (U 86 40) ∧ (U 86 40) < 2) ∧ (((U 106 ((U 86 40).toNat)) ≠ 16) → ∃ (r1 : Int) (U1 : am_U), EvK N X (M_counts_s0 d 0 U) (rI r1 U1) ∧ ((r1 ≠ 0) → (0 ≤ (U1 86 40) ∧ (U1 86 40) < 2) ∧ ∃ (r2 : Int) (U2 : am_U), EvK N X (M_asked_s0 d 1 U1) (rI r2 U2) ∧ (0 ≤ (w32 ((w32 (16 * (U1 86 40))) + (U1 106 ((U1 86 40).toNat)))) ∧ (w32 ((w32 (16 * (U1 86 40))) + (U1 106 ((U1 86 40).toNat)))) < 32) ∧ ∃ (r3 : Int) (U3 : am_U), EvK N X (M_looked_s0 d 1 (am_upd U2 107 ((w32 ((w32 (16 * (U1 86 40))) + (U1 106 ((U1 86 40).toNat)))).toNat) r2)) (rI r3 U3) ∧ (((U3 86 8) ≠ 0) → (((U3 86 8) ≤ 0) → ∃ U4 : am_U, EvK N X (M_ahead_s0 d (am_upd U3 108 ((w32 ((w32 (16 * (U1 86 40))) + (U1 106 ((U1 86 40).toNat)))).toNat) r3)) (rV U4) ∧ ∃ (r5 : Int) (U5 : am_U), EvK N X (M_numeral_s0 d 1 9999 U4) (rI r5 U5) ∧ (((U5 86 8) ≠ 0) → R = rV (am_upd U5 109 ((w32 ((w32 (16 * (U1 86 40))) + (U1 106 ((U1 86 40).toNat)))).toNat) r5)) ∧ (((U5 86 8) = 0) → (0 ≤ (U5 86 40) ∧ (U5 86 40) < 2) ∧ R = rV (am_upd (am_upd U5 109 ((w32 ((w32 (16 * (U1 86 40))) + (U1 106 ((U1 86 40).toNat)))).toNat) r5) 106 ((U5 86 40).toNat) (w32 ((U5 106 ((U5 86 40).toNat)) + 1))))) ∧ ((0 < (U3 86 8)) → R = rV (am_upd U3 108 ((w32 ((w32 (16 * (U1 86 40))) + (U1 106 ((U1 86 40).toNat)))).toNat) r3))) ∧ (((U3 86 8) = 0) → (((U3 107 ((w32 ((w32 (16 * (U1 86 40))) + (U1 106 ((U1 86 40).toNat)))).toNat)) ≠ ((am_upd U3 108 ((w32 ((w32 (16 * (U1 86 40))) + (U1 106 ((U1 86 40).toNat)))).toNat) r3) 108 ((w32 ((w32 (16 * (U1 86 40))) + (U1 106 ((U1 86 40).toNat)))).toNat))) → (((U3 86 8) ≤ 0) → ∃ U6 : am_U, EvK N X (M_ahead_s0 d (am_upd U3 108 ((w32 ((w32 (16 * (U1 86 40))) + (U1 106 ((U1 86 40).toNat)))).toNat) r3)) (rV U6) ∧ ∃ (r7 : Int) (U7 : am_U), EvK N X (M_numeral_s0 d 1 9999 U6) (rI r7 U7) ∧ (((U7 86 8) ≠ 0) → R = rV (am_upd U7 109 ((w32 ((w32 (16 * (U1 86 40))) + (U1 106 ((U1 86 40).toNat)))).toNat) r7)) ∧ (((U7 86 8) = 0) → (0 ≤ (U7 86 40) ∧ (U7 86 40) < 2) ∧ R = rV (am_upd (am_upd U7 109 ((w32 ((w32 (16 * (U1 86 40))) + (U1 106 ((U1 86 40).toNat)))).toNat) r7) 106 ((U7 86 40).toNat) (w32 ((U7 106 ((U7 86 40).toNat)) + 1))))) ∧ ((0 < (U3 86 8)) → R = rV (am_upd U3 108 ((w32 ((w32 (16 * (U1 86 40))) + (U1 106 ((U1 86 40).toNat)))).toNat) r3))) ∧ (((U3 107 ((w32 ((w32 (16 * (U1 86 40))) + (U1 106 ((U1 86 40).toNat)))).toNat)) = ((am_upd U3 108 ((w32 ((w32 (16 * (U1 86 40))) + (U1 106 ((U1 86 40).toNat)))).toNat) r3) 108 ((w32 ((w32 (16 * (U1 86 40))) + (U1 106 ((U1 86 40).toNat)))).toNat))) → ∃ U8 : am_U, EvK N X (M_blame_s0 d 3 (U3 86 4) (am_upd U3 108 ((w32 ((w32 (16 * (U1 86 40))) + (U1 106 ((U1 86 40).toNat)))).toNat) r3)) (rV U8) ∧ (((U8 86 8) ≤ 0) → ∃ U9 : am_U, EvK N X (M_ahead_s0 d U8) (rV U9) ∧ ∃ (r10 : Int) (U10 : am_U), EvK N X (M_numeral_s0 d 1 9999 U9) (rI r10 U10) ∧ (((U10 86 8) ≠ 0) → R = rV (am_upd U10 109 ((w32 ((w32 (16 * (U1 86 40))) + (U1 106 ((U1 86 40).toNat)))).toNat) r10)) ∧ (((U10 86 8) = 0) → (0 ≤ (U10 86 40) ∧ (U10 86 40) < 2) ∧ R = rV (am_upd (am_upd U10 109 ((w32 ((w32 (16 * (U1 86 40))) + (U1 106 ((U1 86 40).toNat)))).toNat) r10) 106 ((U10 86 40).toNat) (w32 ((U10 106 ((U10 86 40).toNat)) + 1))))) ∧ ((0 < (U8 86 8)) → R = rV U8)))) ∧ ((r1 = 0) → R = rV U1)) ∧ (((U 106 ((U 86 40).toNat)) = 16) → ∃ (r11 : Int) (U11 : am_U), EvK N X (M_counts_s0 d 1 U) (rI r11 U11) ∧ ((r11 ≠ 0) → (0 ≤ (U11 86 40) ∧ (U11 86 40) < 2) ∧ ∃ (r12 : Int) (U12 : am_U), EvK N X (M_asked_s0 d 1 U11) (rI r12 U12) ∧ (0 ≤ (w32 ((w32 (16 * (U11 86 40))) + (U11 106 ((U11 86 40).toNat)))) ∧ (w32 ((w32 (16 * (U11 86 40))) + (U11 106 ((U11 86 40).toNat)))) < 32) ∧ ∃ (r13 : Int) (U13 : am_U), EvK N X (M_looked_s0 d 1 (am_upd U12 107 ((w32 ((w32 (16 * (U11 86 40))) + (U11 106 ((U11 86 40).toNat)))).toNat) r12)) (rI r13 U13) ∧ (((U13 86 8) ≠ 0) → (((U13 86 8) ≤ 0) → ∃ U14 : am_U, EvK N X (M_ahead_s0 d (am_upd U13 108 ((w32 ((w32 (16 * (U11 86 40))) + (U11 106 ((U11 86 40).toNat)))).toNat) r13)) (rV U14) ∧ ∃ (r15 : Int) (U15 : am_U), EvK N X (M_numeral_s0 d 1 9999 U14) (rI r15 U15) ∧ (((U15 86 8) ≠ 0) → R = rV (am_upd U15 109 ((w32 ((w32 (16 * (U11 86 40))) + (U11 106 ((U11 86 40).toNat)))).toNat) r15)) ∧ (((U15 86 8) = 0) → (0 ≤ (U15 86 40) ∧ (U15 86 40) < 2) ∧ R = rV (am_upd (am_upd U15 109 ((w32 ((w32 (16 * (U11 86 40))) + (U11 106 ((U11 86 40).toNat)))).toNat) r15) 106 ((U15 86 40).toNat) (w32 ((U15 106 ((U15 86 40).toNat)) + 1))))) ∧ ((0 < (U13 86 8)) → R = rV (am_upd U13 108 ((w32 ((w32 (16 * (U11 86 40))) + (U11 106 ((U11 86 40).toNat)))).toNat) r13))) ∧ (((U13 86 8) = 0) → (((U13 107 ((w32 ((w32 (16 * (U11 86 40))) + (U11 106 ((U11 86 40).toNat)))).toNat)) ≠ ((am_upd U13 108 ((w32 ((w32 (16 * (U11 86 40))) + (U11 106 ((U11 86 40).toNat)))).toNat) r13) 108 ((w32 ((w32 (16 * (U11 86 40))) + (U11 106 ((U11 86 40).toNat)))).toNat))) → (((U13 86 8) ≤ 0) → ∃ U16 : am_U, EvK N X (M_ahead_s0 d (am_upd U13 108 ((w32 ((w32 (16 * (U11 86 40))) + (U11 106 ((U11 86 40).toNat)))).toNat) r13)) (rV U16) ∧ ∃ (r17 : Int) (U17 : am_U), EvK N X (M_numeral_s0 d 1 9999 U16) (rI r17 U17) ∧ (((U17 86 8) ≠ 0) → R = rV (am_upd U17 109 ((w32 ((w32 (16 * (U11 86 40))) + (U11 106 ((U11 86 40).toNat)))).toNat) r17)) ∧ (((U17 86 8) = 0) → (0 ≤ (U17 86 40) ∧ (U17 86 40) < 2) ∧ R = rV (am_upd (am_upd U17 109 ((w32 ((w32 (16 * (U11 86 40))) + (U11 106 ((U11 86 40).toNat)))).toNat) r17) 106 ((U17 86 40).toNat) (w32 ((U17 106 ((U17 86 40).toNat)) + 1))))) ∧ ((0 < (U13 86 8)) → R = rV (am_upd U13 108 ((w32 ((w32 (16 * (U11 86 40))) + (U11 106 ((U11 86 40).toNat)))).toNat) r13))) ∧ (((U13 107 ((w32 ((w32 (16 * (U11 86 40))) + (U11 106 ((U11 86 40).toNat)))).toNat)) = ((am_upd U13 108 ((w32 ((w32 (16 * (U11 86 40))) + (U11 106 ((U11 86 40).toNat)))).toNat) r13) 108 ((w32 ((w32 (16 * (U11 86 40))) + (U11 106 ((U11 86 40).toNat)))).toNat))) → ∃ U18 : am_U, EvK N X (M_blame_s0 d 3 (U13 86 4) (am_upd U13 108 ((w32 ((w32 (16 * (U11 86 40))) + (U11 106 ((U11 86 40).toNat)))).toNat) r13)) (rV U18) ∧ (((U18 86 8) ≤ 0) → ∃ U19 : am_U, EvK N X (M_ahead_s0 d U18) (rV U19) ∧ ∃ (r20 : Int) (U20 : am_U), EvK N X (M_numeral_s0 d 1 9999 U19) (rI r20 U20) ∧ (((U20 86 8) ≠ 0) → R = rV (am_upd U20 109 ((w32 ((w32 (16 * (U11 86 40))) + (U11 106 ((U11 86 40).toNat)))).toNat) r20)) ∧ (((U20 86 8) = 0) → (0 ≤ (U20 86 40) ∧ (U20 86 40) < 2) ∧ R = rV (am_upd (am_upd U20 109 ((w32 ((w32 (16 * (U11 86 40))) + (U11 106 ((U11 86 40).toNat)))).toNat) r20) 106 ((U20 86 40).toNat) (w32 ((U20 106 ((U20 86 40).toNat)) + 1))))) ∧ ((0 < (U18 86 8)) → R = rV U18)))) ∧ ((r11 = 0) → R = rV U11))) : EvK N X (M_owing_s0 (d + 1) U) R := by
  show Ev (am_kz N X) ((d + 1), 194, 0, [some (.inr (.inr 86)), none], [], (am_sh, am_mm U)) R
  refine ev_seg (σ1 := ((d + 1), 194, 9, [some (.inr (.inr 86)), none], [.inl (U 86 40), .inr (.inr 106), .inr (.inr 86)], (am_sh, am_mm U))) 5 (fun _ => rfl) ?_
  refine eu_iald 106 (n := 2) rfl (by decide) rfl (fun _ => rfl) h.1 ?_
  show Ev (am_kz N X) ((d + 1), 194, 10, [some (.inr (.inr 86)), none], [.inl (U 106 ((U 86 40).toNat)), .inr (.inr 86)], (am_sh, am_mm U)) R
  have ha := h.2
  refine ev_br (P := ¬ (U 106 ((U 86 40).toNat)) = 16) (σ1 := ((d + 1), 194, 19, [some (.inr (.inr 86)), none], [.inr (.inr 86)], (am_sh, am_mm U))) (σ2 := ((d + 1), 194, 15, [some (.inr (.inr 86)), none], [.inr (.inr 86)], (am_sh, am_mm U))) 2 (fun _ => rfl) (fun hc => ?_) (fun hc => ?_)
  · have ha1 := ha.1 hc
    refine ev_seg (σ1 := ((d + 1), 194, 20, [some (.inr (.inr 86)), none], [.inl 0, .inr (.inr 86)], (am_sh, am_mm U))) 1 (fun _ => rfl) ?_
    obtain ⟨r1, U1, ha1c, ha1a⟩ := ha1
    refine ev_cal (σc := (M_counts_s0 d 0 U)) (fun _ => rfl) ha1c ?_
    show Ev (am_kz N X) ((d + 1), 194, 23, [some (.inr (.inr 86)), none], [.inl r1], (am_sh, am_mm U1)) R
    refine ev_br (P := ¬ r1 = 0) (σ1 := ((d + 1), 194, 27, [some (.inr (.inr 86)), none], [], (am_sh, am_mm U1))) (σ2 := ((d + 1), 194, 26, [some (.inr (.inr 86)), none], [], (am_sh, am_mm U1))) 1 (fun _ => rfl) (fun hc => ?_) (fun hc => ?_)
    · have ha1a1 := ha1a.1 hc
      refine ev_seg (σ1 := ((d + 1), 194, 42, [some (.inr (.inr 86)), none], [.inl (U1 86 40), .inr (.inr 106), .inl (w32 (16 * (U1 86 40)))], (am_sh, am_mm U1))) 8 (fun _ => rfl) ?_
      refine eu_iald 106 (n := 2) rfl (by decide) rfl (fun _ => rfl) ha1a1.1 ?_
      show Ev (am_kz N X) ((d + 1), 194, 43, [some (.inr (.inr 86)), none], [.inl (U1 106 ((U1 86 40).toNat)), .inl (w32 (16 * (U1 86 40)))], (am_sh, am_mm U1)) R
      have ha1a1a := ha1a1.2
      refine ev_seg (σ1 := ((d + 1), 194, 52, [some (.inr (.inr 86)), some (.inl (w32 ((w32 (16 * (U1 86 40))) + (U1 106 ((U1 86 40).toNat)))))], [.inl 1, .inr (.inr 86), .inl (w32 ((w32 (16 * (U1 86 40))) + (U1 106 ((U1 86 40).toNat)))), .inr (.inr 107)], (am_sh, am_mm U1))) 7 (fun _ => rfl) ?_
      obtain ⟨r2, U2, ha1a1ac, ha1a1aa⟩ := ha1a1a
      refine ev_cal (σc := (M_asked_s0 d 1 U1)) (fun _ => rfl) ha1a1ac ?_
      show Ev (am_kz N X) ((d + 1), 194, 55, [some (.inr (.inr 86)), some (.inl (w32 ((w32 (16 * (U1 86 40))) + (U1 106 ((U1 86 40).toNat)))))], [.inl r2, .inl (w32 ((w32 (16 * (U1 86 40))) + (U1 106 ((U1 86 40).toNat)))), .inr (.inr 107)], (am_sh, am_mm U2)) R
      refine eu_iast 107 (n := 32) rfl (by decide) rfl (fun _ => rfl) ha1a1aa.1 ?_
      show Ev (am_kz N X) ((d + 1), 194, 56, [some (.inr (.inr 86)), some (.inl (w32 ((w32 (16 * (U1 86 40))) + (U1 106 ((U1 86 40).toNat)))))], [], (am_sh, am_mm (am_upd U2 107 ((w32 ((w32 (16 * (U1 86 40))) + (U1 106 ((U1 86 40).toNat)))).toNat) r2))) R
      have ha1a1aaa := ha1a1aa.2
      refine ev_seg (σ1 := ((d + 1), 194, 63, [some (.inr (.inr 86)), some (.inl (w32 ((w32 (16 * (U1 86 40))) + (U1 106 ((U1 86 40).toNat)))))], [.inl 1, .inr (.inr 86), .inl (w32 ((w32 (16 * (U1 86 40))) + (U1 106 ((U1 86 40).toNat)))), .inr (.inr 108)], (am_sh, am_mm (am_upd U2 107 ((w32 ((w32 (16 * (U1 86 40))) + (U1 106 ((U1 86 40).toNat)))).toNat) r2)))) 5 (fun _ => rfl) ?_
      obtain ⟨r3, U3, ha1a1aaac, ha1a1aaaa⟩ := ha1a1aaa
      refine ev_cal (σc := (M_looked_s0 d 1 (am_upd U2 107 ((w32 ((w32 (16 * (U1 86 40))) + (U1 106 ((U1 86 40).toNat)))).toNat) r2))) (fun _ => rfl) ha1a1aaac ?_
      show Ev (am_kz N X) ((d + 1), 194, 66, [some (.inr (.inr 86)), some (.inl (w32 ((w32 (16 * (U1 86 40))) + (U1 106 ((U1 86 40).toNat)))))], [.inl r3, .inl (w32 ((w32 (16 * (U1 86 40))) + (U1 106 ((U1 86 40).toNat)))), .inr (.inr 108)], (am_sh, am_mm U3)) R
      refine eu_iast 108 (n := 32) rfl (by decide) rfl (fun _ => rfl) ha1a1aa.1 ?_
      show Ev (am_kz N X) ((d + 1), 194, 67, [some (.inr (.inr 86)), some (.inl (w32 ((w32 (16 * (U1 86 40))) + (U1 106 ((U1 86 40).toNat)))))], [], (am_sh, am_mm (am_upd U3 108 ((w32 ((w32 (16 * (U1 86 40))) + (U1 106 ((U1 86 40).toNat)))).toNat) r3))) R
      refine ev_br (P := ¬ (U3 86 8) = 0) (σ1 := ((d + 1), 194, 98, [some (.inr (.inr 86)), some (.inl (w32 ((w32 (16 * (U1 86 40))) + (U1 106 ((U1 86 40).toNat)))))], [], (am_sh, am_mm (am_upd U3 108 ((w32 ((w32 (16 * (U1 86 40))) + (U1 106 ((U1 86 40).toNat)))).toNat) r3)))) (σ2 := ((d + 1), 194, 74, [some (.inr (.inr 86)), some (.inl (w32 ((w32 (16 * (U1 86 40))) + (U1 106 ((U1 86 40).toNat)))))], [], (am_sh, am_mm (am_upd U3 108 ((w32 ((w32 (16 * (U1 86 40))) + (U1 106 ((U1 86 40).toNat)))).toNat) r3)))) 3 (fun _ => rfl) (fun hc => ?_) (fun hc => ?_)
      · have ha1a1aaaa1 := ha1a1aaaa.1 hc
        refine ev_br (P := (U3 86 8) ≤ 0) (σ1 := ((d + 1), 194, 106, [some (.inr (.inr 86)), some (.inl (w32 ((w32 (16 * (U1 86 40))) + (U1 106 ((U1 86 40).toNat)))))], [], (am_sh, am_mm (am_upd U3 108 ((w32 ((w32 (16 * (U1 86 40))) + (U1 106 ((U1 86 40).toNat)))).toNat) r3)))) (σ2 := ((d + 1), 194, 105, [some (.inr (.inr 86)), some (.inl (w32 ((w32 (16 * (U1 86 40))) + (U1 106 ((U1 86 40).toNat)))))], [], (am_sh, am_mm (am_upd U3 108 ((w32 ((w32 (16 * (U1 86 40))) + (U1 106 ((U1 86 40).toNat)))).toNat) r3)))) 3 (fun _ => rfl) (fun hc => ?_) (fun hc => ?_)
        · have ha1a1aaaa11 := ha1a1aaaa1.1 hc
          refine ev_seg (σ1 := ((d + 1), 194, 107, [some (.inr (.inr 86)), some (.inl (w32 ((w32 (16 * (U1 86 40))) + (U1 106 ((U1 86 40).toNat)))))], [.inr (.inr 86)], (am_sh, am_mm (am_upd U3 108 ((w32 ((w32 (16 * (U1 86 40))) + (U1 106 ((U1 86 40).toNat)))).toNat) r3)))) 1 (fun _ => rfl) ?_
          obtain ⟨U4, ha1a1aaaa11c, ha1a1aaaa11a⟩ := ha1a1aaaa11
          refine ev_cal (σc := (M_ahead_s0 d (am_upd U3 108 ((w32 ((w32 (16 * (U1 86 40))) + (U1 106 ((U1 86 40).toNat)))).toNat) r3))) (fun _ => rfl) ha1a1aaaa11c ?_
          show Ev (am_kz N X) ((d + 1), 194, 110, [some (.inr (.inr 86)), some (.inl (w32 ((w32 (16 * (U1 86 40))) + (U1 106 ((U1 86 40).toNat)))))], [], (am_sh, am_mm U4)) R
          refine ev_seg (σ1 := ((d + 1), 194, 120, [some (.inr (.inr 86)), some (.inl (w32 ((w32 (16 * (U1 86 40))) + (U1 106 ((U1 86 40).toNat)))))], [.inl 9999, .inl 1, .inr (.inr 86), .inl (w32 ((w32 (16 * (U1 86 40))) + (U1 106 ((U1 86 40).toNat)))), .inr (.inr 109)], (am_sh, am_mm U4))) 6 (fun _ => rfl) ?_
          obtain ⟨r5, U5, ha1a1aaaa11ac, ha1a1aaaa11aa⟩ := ha1a1aaaa11a
          refine ev_cal (σc := (M_numeral_s0 d 1 9999 U4)) (fun _ => rfl) ha1a1aaaa11ac ?_
          show Ev (am_kz N X) ((d + 1), 194, 123, [some (.inr (.inr 86)), some (.inl (w32 ((w32 (16 * (U1 86 40))) + (U1 106 ((U1 86 40).toNat)))))], [.inl r5, .inl (w32 ((w32 (16 * (U1 86 40))) + (U1 106 ((U1 86 40).toNat)))), .inr (.inr 109)], (am_sh, am_mm U5)) R
          refine eu_iast 109 (n := 32) rfl (by decide) rfl (fun _ => rfl) ha1a1aa.1 ?_
          show Ev (am_kz N X) ((d + 1), 194, 124, [some (.inr (.inr 86)), some (.inl (w32 ((w32 (16 * (U1 86 40))) + (U1 106 ((U1 86 40).toNat)))))], [], (am_sh, am_mm (am_upd U5 109 ((w32 ((w32 (16 * (U1 86 40))) + (U1 106 ((U1 86 40).toNat)))).toNat) r5))) R
          refine ev_br (P := ¬ (U5 86 8) = 0) (σ1 := ((d + 1), 194, 144, [some (.inr (.inr 86)), some (.inl (w32 ((w32 (16 * (U1 86 40))) + (U1 106 ((U1 86 40).toNat)))))], [], (am_sh, am_mm (am_upd U5 109 ((w32 ((w32 (16 * (U1 86 40))) + (U1 106 ((U1 86 40).toNat)))).toNat) r5)))) (σ2 := ((d + 1), 194, 131, [some (.inr (.inr 86)), some (.inl (w32 ((w32 (16 * (U1 86 40))) + (U1 106 ((U1 86 40).toNat)))))], [], (am_sh, am_mm (am_upd U5 109 ((w32 ((w32 (16 * (U1 86 40))) + (U1 106 ((U1 86 40).toNat)))).toNat) r5)))) 3 (fun _ => rfl) (fun hc => ?_) (fun hc => ?_)
          · have ha1a1aaaa11aa1 := ha1a1aaaa11aa.1 hc
            subst ha1a1aaaa11aa1
            exact ev_end 1 (fun _ => rfl)
          · have ha1a1aaaa11aa2 := ha1a1aaaa11aa.2 (Decidable.not_not.mp hc)
            refine ev_seg (σ1 := ((d + 1), 194, 140, [some (.inr (.inr 86)), some (.inl (w32 ((w32 (16 * (U1 86 40))) + (U1 106 ((U1 86 40).toNat)))))], [.inl (U5 86 40), .inr (.inr 106), .inl (U5 86 40), .inr (.inr 106)], (am_sh, am_mm (am_upd U5 109 ((w32 ((w32 (16 * (U1 86 40))) + (U1 106 ((U1 86 40).toNat)))).toNat) r5)))) 5 (fun _ => rfl) ?_
            refine eu_iald 106 (n := 2) rfl (by decide) rfl (fun _ => rfl) ha1a1aaaa11aa2.1 ?_
            show Ev (am_kz N X) ((d + 1), 194, 141, [some (.inr (.inr 86)), some (.inl (w32 ((w32 (16 * (U1 86 40))) + (U1 106 ((U1 86 40).toNat)))))], [.inl (U5 106 ((U5 86 40).toNat)), .inl (U5 86 40), .inr (.inr 106)], (am_sh, am_mm (am_upd U5 109 ((w32 ((w32 (16 * (U1 86 40))) + (U1 106 ((U1 86 40).toNat)))).toNat) r5))) R
            have ha1a1aaaa11aa2a := ha1a1aaaa11aa2.2
            refine ev_seg (σ1 := ((d + 1), 194, 143, [some (.inr (.inr 86)), some (.inl (w32 ((w32 (16 * (U1 86 40))) + (U1 106 ((U1 86 40).toNat)))))], [.inl (w32 ((U5 106 ((U5 86 40).toNat)) + 1)), .inl (U5 86 40), .inr (.inr 106)], (am_sh, am_mm (am_upd U5 109 ((w32 ((w32 (16 * (U1 86 40))) + (U1 106 ((U1 86 40).toNat)))).toNat) r5)))) 2 (fun _ => rfl) ?_
            refine eu_iast 106 (n := 2) rfl (by decide) rfl (fun _ => rfl) ha1a1aaaa11aa2.1 ?_
            show Ev (am_kz N X) ((d + 1), 194, 144, [some (.inr (.inr 86)), some (.inl (w32 ((w32 (16 * (U1 86 40))) + (U1 106 ((U1 86 40).toNat)))))], [], (am_sh, am_mm (am_upd (am_upd U5 109 ((w32 ((w32 (16 * (U1 86 40))) + (U1 106 ((U1 86 40).toNat)))).toNat) r5) 106 ((U5 86 40).toNat) (w32 ((U5 106 ((U5 86 40).toNat)) + 1))))) R
            subst ha1a1aaaa11aa2a
            exact ev_end 1 (fun _ => rfl)
        · have ha1a1aaaa12 := ha1a1aaaa1.2 (Int.not_le.mp hc)
          subst ha1a1aaaa12
          exact ev_end 1 (fun _ => rfl)
      · have ha1a1aaaa2 := ha1a1aaaa.2 (Decidable.not_not.mp hc)
        refine ev_seg (σ1 := ((d + 1), 194, 79, [some (.inr (.inr 86)), some (.inl (w32 ((w32 (16 * (U1 86 40))) + (U1 106 ((U1 86 40).toNat)))))], [.inl (w32 ((w32 (16 * (U1 86 40))) + (U1 106 ((U1 86 40).toNat)))), .inr (.inr 107)], (am_sh, am_mm (am_upd U3 108 ((w32 ((w32 (16 * (U1 86 40))) + (U1 106 ((U1 86 40).toNat)))).toNat) r3)))) 3 (fun _ => rfl) ?_
        refine eu_iald 107 (n := 32) rfl (by decide) rfl (fun _ => rfl) ha1a1aa.1 ?_
        show Ev (am_kz N X) ((d + 1), 194, 80, [some (.inr (.inr 86)), some (.inl (w32 ((w32 (16 * (U1 86 40))) + (U1 106 ((U1 86 40).toNat)))))], [.inl (U3 107 ((w32 ((w32 (16 * (U1 86 40))) + (U1 106 ((U1 86 40).toNat)))).toNat))], (am_sh, am_mm (am_upd U3 108 ((w32 ((w32 (16 * (U1 86 40))) + (U1 106 ((U1 86 40).toNat)))).toNat) r3))) R
        refine ev_seg (σ1 := ((d + 1), 194, 85, [some (.inr (.inr 86)), some (.inl (w32 ((w32 (16 * (U1 86 40))) + (U1 106 ((U1 86 40).toNat)))))], [.inl (w32 ((w32 (16 * (U1 86 40))) + (U1 106 ((U1 86 40).toNat)))), .inr (.inr 108), .inl (U3 107 ((w32 ((w32 (16 * (U1 86 40))) + (U1 106 ((U1 86 40).toNat)))).toNat))], (am_sh, am_mm (am_upd U3 108 ((w32 ((w32 (16 * (U1 86 40))) + (U1 106 ((U1 86 40).toNat)))).toNat) r3)))) 3 (fun _ => rfl) ?_
        refine eu_iald 108 (n := 32) rfl (by decide) rfl (fun _ => rfl) ha1a1aa.1 ?_
        show Ev (am_kz N X) ((d + 1), 194, 86, [some (.inr (.inr 86)), some (.inl (w32 ((w32 (16 * (U1 86 40))) + (U1 106 ((U1 86 40).toNat)))))], [.inl ((am_upd U3 108 ((w32 ((w32 (16 * (U1 86 40))) + (U1 106 ((U1 86 40).toNat)))).toNat) r3) 108 ((w32 ((w32 (16 * (U1 86 40))) + (U1 106 ((U1 86 40).toNat)))).toNat)), .inl (U3 107 ((w32 ((w32 (16 * (U1 86 40))) + (U1 106 ((U1 86 40).toNat)))).toNat))], (am_sh, am_mm (am_upd U3 108 ((w32 ((w32 (16 * (U1 86 40))) + (U1 106 ((U1 86 40).toNat)))).toNat) r3))) R
        refine ev_br (P := ¬ (U3 107 ((w32 ((w32 (16 * (U1 86 40))) + (U1 106 ((U1 86 40).toNat)))).toNat)) = ((am_upd U3 108 ((w32 ((w32 (16 * (U1 86 40))) + (U1 106 ((U1 86 40).toNat)))).toNat) r3) 108 ((w32 ((w32 (16 * (U1 86 40))) + (U1 106 ((U1 86 40).toNat)))).toNat))) (σ1 := ((d + 1), 194, 98, [some (.inr (.inr 86)), some (.inl (w32 ((w32 (16 * (U1 86 40))) + (U1 106 ((U1 86 40).toNat)))))], [], (am_sh, am_mm (am_upd U3 108 ((w32 ((w32 (16 * (U1 86 40))) + (U1 106 ((U1 86 40).toNat)))).toNat) r3)))) (σ2 := ((d + 1), 194, 89, [some (.inr (.inr 86)), some (.inl (w32 ((w32 (16 * (U1 86 40))) + (U1 106 ((U1 86 40).toNat)))))], [], (am_sh, am_mm (am_upd U3 108 ((w32 ((w32 (16 * (U1 86 40))) + (U1 106 ((U1 86 40).toNat)))).toNat) r3)))) 1 (fun _ => rfl) (fun hc => ?_) (fun hc => ?_)
        · have ha1a1aaaa21 := ha1a1aaaa2.1 hc
          refine ev_br (P := (U3 86 8) ≤ 0) (σ1 := ((d + 1), 194, 106, [some (.inr (.inr 86)), some (.inl (w32 ((w32 (16 * (U1 86 40))) + (U1 106 ((U1 86 40).toNat)))))], [], (am_sh, am_mm (am_upd U3 108 ((w32 ((w32 (16 * (U1 86 40))) + (U1 106 ((U1 86 40).toNat)))).toNat) r3)))) (σ2 := ((d + 1), 194, 105, [some (.inr (.inr 86)), some (.inl (w32 ((w32 (16 * (U1 86 40))) + (U1 106 ((U1 86 40).toNat)))))], [], (am_sh, am_mm (am_upd U3 108 ((w32 ((w32 (16 * (U1 86 40))) + (U1 106 ((U1 86 40).toNat)))).toNat) r3)))) 3 (fun _ => rfl) (fun hc => ?_) (fun hc => ?_)
          · have ha1a1aaaa211 := ha1a1aaaa21.1 hc
            refine ev_seg (σ1 := ((d + 1), 194, 107, [some (.inr (.inr 86)), some (.inl (w32 ((w32 (16 * (U1 86 40))) + (U1 106 ((U1 86 40).toNat)))))], [.inr (.inr 86)], (am_sh, am_mm (am_upd U3 108 ((w32 ((w32 (16 * (U1 86 40))) + (U1 106 ((U1 86 40).toNat)))).toNat) r3)))) 1 (fun _ => rfl) ?_
            obtain ⟨U6, ha1a1aaaa211c, ha1a1aaaa211a⟩ := ha1a1aaaa211
            refine ev_cal (σc := (M_ahead_s0 d (am_upd U3 108 ((w32 ((w32 (16 * (U1 86 40))) + (U1 106 ((U1 86 40).toNat)))).toNat) r3))) (fun _ => rfl) ha1a1aaaa211c ?_
            show Ev (am_kz N X) ((d + 1), 194, 110, [some (.inr (.inr 86)), some (.inl (w32 ((w32 (16 * (U1 86 40))) + (U1 106 ((U1 86 40).toNat)))))], [], (am_sh, am_mm U6)) R
            refine ev_seg (σ1 := ((d + 1), 194, 120, [some (.inr (.inr 86)), some (.inl (w32 ((w32 (16 * (U1 86 40))) + (U1 106 ((U1 86 40).toNat)))))], [.inl 9999, .inl 1, .inr (.inr 86), .inl (w32 ((w32 (16 * (U1 86 40))) + (U1 106 ((U1 86 40).toNat)))), .inr (.inr 109)], (am_sh, am_mm U6))) 6 (fun _ => rfl) ?_
            obtain ⟨r7, U7, ha1a1aaaa211ac, ha1a1aaaa211aa⟩ := ha1a1aaaa211a
            refine ev_cal (σc := (M_numeral_s0 d 1 9999 U6)) (fun _ => rfl) ha1a1aaaa211ac ?_
            show Ev (am_kz N X) ((d + 1), 194, 123, [some (.inr (.inr 86)), some (.inl (w32 ((w32 (16 * (U1 86 40))) + (U1 106 ((U1 86 40).toNat)))))], [.inl r7, .inl (w32 ((w32 (16 * (U1 86 40))) + (U1 106 ((U1 86 40).toNat)))), .inr (.inr 109)], (am_sh, am_mm U7)) R
            refine eu_iast 109 (n := 32) rfl (by decide) rfl (fun _ => rfl) ha1a1aa.1 ?_
            show Ev (am_kz N X) ((d + 1), 194, 124, [some (.inr (.inr 86)), some (.inl (w32 ((w32 (16 * (U1 86 40))) + (U1 106 ((U1 86 40).toNat)))))], [], (am_sh, am_mm (am_upd U7 109 ((w32 ((w32 (16 * (U1 86 40))) + (U1 106 ((U1 86 40).toNat)))).toNat) r7))) R
            refine ev_br (P := ¬ (U7 86 8) = 0) (σ1 := ((d + 1), 194, 144, [some (.inr (.inr 86)), some (.inl (w32 ((w32 (16 * (U1 86 40))) + (U1 106 ((U1 86 40).toNat)))))], [], (am_sh, am_mm (am_upd U7 109 ((w32 ((w32 (16 * (U1 86 40))) + (U1 106 ((U1 86 40).toNat)))).toNat) r7)))) (σ2 := ((d + 1), 194, 131, [some (.inr (.inr 86)), some (.inl (w32 ((w32 (16 * (U1 86 40))) + (U1 106 ((U1 86 40).toNat)))))], [], (am_sh, am_mm (am_upd U7 109 ((w32 ((w32 (16 * (U1 86 40))) + (U1 106 ((U1 86 40).toNat)))).toNat) r7)))) 3 (fun _ => rfl) (fun hc => ?_) (fun hc => ?_)
            · have ha1a1aaaa211aa1 := ha1a1aaaa211aa.1 hc
              subst ha1a1aaaa211aa1
              exact ev_end 1 (fun _ => rfl)
            · have ha1a1aaaa211aa2 := ha1a1aaaa211aa.2 (Decidable.not_not.mp hc)
              refine ev_seg (σ1 := ((d + 1), 194, 140, [some (.inr (.inr 86)), some (.inl (w32 ((w32 (16 * (U1 86 40))) + (U1 106 ((U1 86 40).toNat)))))], [.inl (U7 86 40), .inr (.inr 106), .inl (U7 86 40), .inr (.inr 106)], (am_sh, am_mm (am_upd U7 109 ((w32 ((w32 (16 * (U1 86 40))) + (U1 106 ((U1 86 40).toNat)))).toNat) r7)))) 5 (fun _ => rfl) ?_
              refine eu_iald 106 (n := 2) rfl (by decide) rfl (fun _ => rfl) ha1a1aaaa211aa2.1 ?_
              show Ev (am_kz N X) ((d + 1), 194, 141, [some (.inr (.inr 86)), some (.inl (w32 ((w32 (16 * (U1 86 40))) + (U1 106 ((U1 86 40).toNat)))))], [.inl (U7 106 ((U7 86 40).toNat)), .inl (U7 86 40), .inr (.inr 106)], (am_sh, am_mm (am_upd U7 109 ((w32 ((w32 (16 * (U1 86 40))) + (U1 106 ((U1 86 40).toNat)))).toNat) r7))) R
              have ha1a1aaaa211aa2a := ha1a1aaaa211aa2.2
              refine ev_seg (σ1 := ((d + 1), 194, 143, [some (.inr (.inr 86)), some (.inl (w32 ((w32 (16 * (U1 86 40))) + (U1 106 ((U1 86 40).toNat)))))], [.inl (w32 ((U7 106 ((U7 86 40).toNat)) + 1)), .inl (U7 86 40), .inr (.inr 106)], (am_sh, am_mm (am_upd U7 109 ((w32 ((w32 (16 * (U1 86 40))) + (U1 106 ((U1 86 40).toNat)))).toNat) r7)))) 2 (fun _ => rfl) ?_
              refine eu_iast 106 (n := 2) rfl (by decide) rfl (fun _ => rfl) ha1a1aaaa211aa2.1 ?_
              show Ev (am_kz N X) ((d + 1), 194, 144, [some (.inr (.inr 86)), some (.inl (w32 ((w32 (16 * (U1 86 40))) + (U1 106 ((U1 86 40).toNat)))))], [], (am_sh, am_mm (am_upd (am_upd U7 109 ((w32 ((w32 (16 * (U1 86 40))) + (U1 106 ((U1 86 40).toNat)))).toNat) r7) 106 ((U7 86 40).toNat) (w32 ((U7 106 ((U7 86 40).toNat)) + 1))))) R
              subst ha1a1aaaa211aa2a
              exact ev_end 1 (fun _ => rfl)
          · have ha1a1aaaa212 := ha1a1aaaa21.2 (Int.not_le.mp hc)
            subst ha1a1aaaa212
            exact ev_end 1 (fun _ => rfl)
        · have ha1a1aaaa22 := ha1a1aaaa2.2 (Decidable.not_not.mp hc)
          refine ev_seg (σ1 := ((d + 1), 194, 95, [some (.inr (.inr 86)), some (.inl (w32 ((w32 (16 * (U1 86 40))) + (U1 106 ((U1 86 40).toNat)))))], [.inl (U3 86 4), .inl 3, .inr (.inr 86)], (am_sh, am_mm (am_upd U3 108 ((w32 ((w32 (16 * (U1 86 40))) + (U1 106 ((U1 86 40).toNat)))).toNat) r3)))) 4 (fun _ => rfl) ?_
          obtain ⟨U8, ha1a1aaaa22c, ha1a1aaaa22a⟩ := ha1a1aaaa22
          refine ev_cal (σc := (M_blame_s0 d 3 (U3 86 4) (am_upd U3 108 ((w32 ((w32 (16 * (U1 86 40))) + (U1 106 ((U1 86 40).toNat)))).toNat) r3))) (fun _ => rfl) ha1a1aaaa22c ?_
          show Ev (am_kz N X) ((d + 1), 194, 98, [some (.inr (.inr 86)), some (.inl (w32 ((w32 (16 * (U1 86 40))) + (U1 106 ((U1 86 40).toNat)))))], [], (am_sh, am_mm U8)) R
          refine ev_br (P := (U8 86 8) ≤ 0) (σ1 := ((d + 1), 194, 106, [some (.inr (.inr 86)), some (.inl (w32 ((w32 (16 * (U1 86 40))) + (U1 106 ((U1 86 40).toNat)))))], [], (am_sh, am_mm U8))) (σ2 := ((d + 1), 194, 105, [some (.inr (.inr 86)), some (.inl (w32 ((w32 (16 * (U1 86 40))) + (U1 106 ((U1 86 40).toNat)))))], [], (am_sh, am_mm U8))) 3 (fun _ => rfl) (fun hc => ?_) (fun hc => ?_)
          · have ha1a1aaaa22a1 := ha1a1aaaa22a.1 hc
            refine ev_seg (σ1 := ((d + 1), 194, 107, [some (.inr (.inr 86)), some (.inl (w32 ((w32 (16 * (U1 86 40))) + (U1 106 ((U1 86 40).toNat)))))], [.inr (.inr 86)], (am_sh, am_mm U8))) 1 (fun _ => rfl) ?_
            obtain ⟨U9, ha1a1aaaa22a1c, ha1a1aaaa22a1a⟩ := ha1a1aaaa22a1
            refine ev_cal (σc := (M_ahead_s0 d U8)) (fun _ => rfl) ha1a1aaaa22a1c ?_
            show Ev (am_kz N X) ((d + 1), 194, 110, [some (.inr (.inr 86)), some (.inl (w32 ((w32 (16 * (U1 86 40))) + (U1 106 ((U1 86 40).toNat)))))], [], (am_sh, am_mm U9)) R
            refine ev_seg (σ1 := ((d + 1), 194, 120, [some (.inr (.inr 86)), some (.inl (w32 ((w32 (16 * (U1 86 40))) + (U1 106 ((U1 86 40).toNat)))))], [.inl 9999, .inl 1, .inr (.inr 86), .inl (w32 ((w32 (16 * (U1 86 40))) + (U1 106 ((U1 86 40).toNat)))), .inr (.inr 109)], (am_sh, am_mm U9))) 6 (fun _ => rfl) ?_
            obtain ⟨r10, U10, ha1a1aaaa22a1ac, ha1a1aaaa22a1aa⟩ := ha1a1aaaa22a1a
            refine ev_cal (σc := (M_numeral_s0 d 1 9999 U9)) (fun _ => rfl) ha1a1aaaa22a1ac ?_
            show Ev (am_kz N X) ((d + 1), 194, 123, [some (.inr (.inr 86)), some (.inl (w32 ((w32 (16 * (U1 86 40))) + (U1 106 ((U1 86 40).toNat)))))], [.inl r10, .inl (w32 ((w32 (16 * (U1 86 40))) + (U1 106 ((U1 86 40).toNat)))), .inr (.inr 109)], (am_sh, am_mm U10)) R
            refine eu_iast 109 (n := 32) rfl (by decide) rfl (fun _ => rfl) ha1a1aa.1 ?_
            show Ev (am_kz N X) ((d + 1), 194, 124, [some (.inr (.inr 86)), some (.inl (w32 ((w32 (16 * (U1 86 40))) + (U1 106 ((U1 86 40).toNat)))))], [], (am_sh, am_mm (am_upd U10 109 ((w32 ((w32 (16 * (U1 86 40))) + (U1 106 ((U1 86 40).toNat)))).toNat) r10))) R
            refine ev_br (P := ¬ (U10 86 8) = 0) (σ1 := ((d + 1), 194, 144, [some (.inr (.inr 86)), some (.inl (w32 ((w32 (16 * (U1 86 40))) + (U1 106 ((U1 86 40).toNat)))))], [], (am_sh, am_mm (am_upd U10 109 ((w32 ((w32 (16 * (U1 86 40))) + (U1 106 ((U1 86 40).toNat)))).toNat) r10)))) (σ2 := ((d + 1), 194, 131, [some (.inr (.inr 86)), some (.inl (w32 ((w32 (16 * (U1 86 40))) + (U1 106 ((U1 86 40).toNat)))))], [], (am_sh, am_mm (am_upd U10 109 ((w32 ((w32 (16 * (U1 86 40))) + (U1 106 ((U1 86 40).toNat)))).toNat) r10)))) 3 (fun _ => rfl) (fun hc => ?_) (fun hc => ?_)
            · have ha1a1aaaa22a1aa1 := ha1a1aaaa22a1aa.1 hc
              subst ha1a1aaaa22a1aa1
              exact ev_end 1 (fun _ => rfl)
            · have ha1a1aaaa22a1aa2 := ha1a1aaaa22a1aa.2 (Decidable.not_not.mp hc)
              refine ev_seg (σ1 := ((d + 1), 194, 140, [some (.inr (.inr 86)), some (.inl (w32 ((w32 (16 * (U1 86 40))) + (U1 106 ((U1 86 40).toNat)))))], [.inl (U10 86 40), .inr (.inr 106), .inl (U10 86 40), .inr (.inr 106)], (am_sh, am_mm (am_upd U10 109 ((w32 ((w32 (16 * (U1 86 40))) + (U1 106 ((U1 86 40).toNat)))).toNat) r10)))) 5 (fun _ => rfl) ?_
              refine eu_iald 106 (n := 2) rfl (by decide) rfl (fun _ => rfl) ha1a1aaaa22a1aa2.1 ?_
              show Ev (am_kz N X) ((d + 1), 194, 141, [some (.inr (.inr 86)), some (.inl (w32 ((w32 (16 * (U1 86 40))) + (U1 106 ((U1 86 40).toNat)))))], [.inl (U10 106 ((U10 86 40).toNat)), .inl (U10 86 40), .inr (.inr 106)], (am_sh, am_mm (am_upd U10 109 ((w32 ((w32 (16 * (U1 86 40))) + (U1 106 ((U1 86 40).toNat)))).toNat) r10))) R
              have ha1a1aaaa22a1aa2a := ha1a1aaaa22a1aa2.2
              refine ev_seg (σ1 := ((d + 1), 194, 143, [some (.inr (.inr 86)), some (.inl (w32 ((w32 (16 * (U1 86 40))) + (U1 106 ((U1 86 40).toNat)))))], [.inl (w32 ((U10 106 ((U10 86 40).toNat)) + 1)), .inl (U10 86 40), .inr (.inr 106)], (am_sh, am_mm (am_upd U10 109 ((w32 ((w32 (16 * (U1 86 40))) + (U1 106 ((U1 86 40).toNat)))).toNat) r10)))) 2 (fun _ => rfl) ?_
              refine eu_iast 106 (n := 2) rfl (by decide) rfl (fun _ => rfl) ha1a1aaaa22a1aa2.1 ?_
              show Ev (am_kz N X) ((d + 1), 194, 144, [some (.inr (.inr 86)), some (.inl (w32 ((w32 (16 * (U1 86 40))) + (U1 106 ((U1 86 40).toNat)))))], [], (am_sh, am_mm (am_upd (am_upd U10 109 ((w32 ((w32 (16 * (U1 86 40))) + (U1 106 ((U1 86 40).toNat)))).toNat) r10) 106 ((U10 86 40).toNat) (w32 ((U10 106 ((U10 86 40).toNat)) + 1))))) R
              subst ha1a1aaaa22a1aa2a
              exact ev_end 1 (fun _ => rfl)
          · have ha1a1aaaa22a2 := ha1a1aaaa22a.2 (Int.not_le.mp hc)
            subst ha1a1aaaa22a2
            exact ev_end 1 (fun _ => rfl)
    · have ha1a2 := ha1a.2 (Decidable.not_not.mp hc)
      subst ha1a2
      exact ev_end 1 (fun _ => rfl)
  · have ha2 := ha.2 (Decidable.not_not.mp hc)
    refine ev_seg (σ1 := ((d + 1), 194, 20, [some (.inr (.inr 86)), none], [.inl 1, .inr (.inr 86)], (am_sh, am_mm U))) 2 (fun _ => rfl) ?_
    obtain ⟨r11, U11, ha2c, ha2a⟩ := ha2
    refine ev_cal (σc := (M_counts_s0 d 1 U)) (fun _ => rfl) ha2c ?_
    show Ev (am_kz N X) ((d + 1), 194, 23, [some (.inr (.inr 86)), none], [.inl r11], (am_sh, am_mm U11)) R
    refine ev_br (P := ¬ r11 = 0) (σ1 := ((d + 1), 194, 27, [some (.inr (.inr 86)), none], [], (am_sh, am_mm U11))) (σ2 := ((d + 1), 194, 26, [some (.inr (.inr 86)), none], [], (am_sh, am_mm U11))) 1 (fun _ => rfl) (fun hc => ?_) (fun hc => ?_)
    · have ha2a1 := ha2a.1 hc
      refine ev_seg (σ1 := ((d + 1), 194, 42, [some (.inr (.inr 86)), none], [.inl (U11 86 40), .inr (.inr 106), .inl (w32 (16 * (U11 86 40)))], (am_sh, am_mm U11))) 8 (fun _ => rfl) ?_
      refine eu_iald 106 (n := 2) rfl (by decide) rfl (fun _ => rfl) ha2a1.1 ?_
      show Ev (am_kz N X) ((d + 1), 194, 43, [some (.inr (.inr 86)), none], [.inl (U11 106 ((U11 86 40).toNat)), .inl (w32 (16 * (U11 86 40)))], (am_sh, am_mm U11)) R
      have ha2a1a := ha2a1.2
      refine ev_seg (σ1 := ((d + 1), 194, 52, [some (.inr (.inr 86)), some (.inl (w32 ((w32 (16 * (U11 86 40))) + (U11 106 ((U11 86 40).toNat)))))], [.inl 1, .inr (.inr 86), .inl (w32 ((w32 (16 * (U11 86 40))) + (U11 106 ((U11 86 40).toNat)))), .inr (.inr 107)], (am_sh, am_mm U11))) 7 (fun _ => rfl) ?_
      obtain ⟨r12, U12, ha2a1ac, ha2a1aa⟩ := ha2a1a
      refine ev_cal (σc := (M_asked_s0 d 1 U11)) (fun _ => rfl) ha2a1ac ?_
      show Ev (am_kz N X) ((d + 1), 194, 55, [some (.inr (.inr 86)), some (.inl (w32 ((w32 (16 * (U11 86 40))) + (U11 106 ((U11 86 40).toNat)))))], [.inl r12, .inl (w32 ((w32 (16 * (U11 86 40))) + (U11 106 ((U11 86 40).toNat)))), .inr (.inr 107)], (am_sh, am_mm U12)) R
      refine eu_iast 107 (n := 32) rfl (by decide) rfl (fun _ => rfl) ha2a1aa.1 ?_
      show Ev (am_kz N X) ((d + 1), 194, 56, [some (.inr (.inr 86)), some (.inl (w32 ((w32 (16 * (U11 86 40))) + (U11 106 ((U11 86 40).toNat)))))], [], (am_sh, am_mm (am_upd U12 107 ((w32 ((w32 (16 * (U11 86 40))) + (U11 106 ((U11 86 40).toNat)))).toNat) r12))) R
      have ha2a1aaa := ha2a1aa.2
      refine ev_seg (σ1 := ((d + 1), 194, 63, [some (.inr (.inr 86)), some (.inl (w32 ((w32 (16 * (U11 86 40))) + (U11 106 ((U11 86 40).toNat)))))], [.inl 1, .inr (.inr 86), .inl (w32 ((w32 (16 * (U11 86 40))) + (U11 106 ((U11 86 40).toNat)))), .inr (.inr 108)], (am_sh, am_mm (am_upd U12 107 ((w32 ((w32 (16 * (U11 86 40))) + (U11 106 ((U11 86 40).toNat)))).toNat) r12)))) 5 (fun _ => rfl) ?_
      obtain ⟨r13, U13, ha2a1aaac, ha2a1aaaa⟩ := ha2a1aaa
      refine ev_cal (σc := (M_looked_s0 d 1 (am_upd U12 107 ((w32 ((w32 (16 * (U11 86 40))) + (U11 106 ((U11 86 40).toNat)))).toNat) r12))) (fun _ => rfl) ha2a1aaac ?_
      show Ev (am_kz N X) ((d + 1), 194, 66, [some (.inr (.inr 86)), some (.inl (w32 ((w32 (16 * (U11 86 40))) + (U11 106 ((U11 86 40).toNat)))))], [.inl r13, .inl (w32 ((w32 (16 * (U11 86 40))) + (U11 106 ((U11 86 40).toNat)))), .inr (.inr 108)], (am_sh, am_mm U13)) R
      refine eu_iast 108 (n := 32) rfl (by decide) rfl (fun _ => rfl) ha2a1aa.1 ?_
      show Ev (am_kz N X) ((d + 1), 194, 67, [some (.inr (.inr 86)), some (.inl (w32 ((w32 (16 * (U11 86 40))) + (U11 106 ((U11 86 40).toNat)))))], [], (am_sh, am_mm (am_upd U13 108 ((w32 ((w32 (16 * (U11 86 40))) + (U11 106 ((U11 86 40).toNat)))).toNat) r13))) R
      refine ev_br (P := ¬ (U13 86 8) = 0) (σ1 := ((d + 1), 194, 98, [some (.inr (.inr 86)), some (.inl (w32 ((w32 (16 * (U11 86 40))) + (U11 106 ((U11 86 40).toNat)))))], [], (am_sh, am_mm (am_upd U13 108 ((w32 ((w32 (16 * (U11 86 40))) + (U11 106 ((U11 86 40).toNat)))).toNat) r13)))) (σ2 := ((d + 1), 194, 74, [some (.inr (.inr 86)), some (.inl (w32 ((w32 (16 * (U11 86 40))) + (U11 106 ((U11 86 40).toNat)))))], [], (am_sh, am_mm (am_upd U13 108 ((w32 ((w32 (16 * (U11 86 40))) + (U11 106 ((U11 86 40).toNat)))).toNat) r13)))) 3 (fun _ => rfl) (fun hc => ?_) (fun hc => ?_)
      · have ha2a1aaaa1 := ha2a1aaaa.1 hc
        refine ev_br (P := (U13 86 8) ≤ 0) (σ1 := ((d + 1), 194, 106, [some (.inr (.inr 86)), some (.inl (w32 ((w32 (16 * (U11 86 40))) + (U11 106 ((U11 86 40).toNat)))))], [], (am_sh, am_mm (am_upd U13 108 ((w32 ((w32 (16 * (U11 86 40))) + (U11 106 ((U11 86 40).toNat)))).toNat) r13)))) (σ2 := ((d + 1), 194, 105, [some (.inr (.inr 86)), some (.inl (w32 ((w32 (16 * (U11 86 40))) + (U11 106 ((U11 86 40).toNat)))))], [], (am_sh, am_mm (am_upd U13 108 ((w32 ((w32 (16 * (U11 86 40))) + (U11 106 ((U11 86 40).toNat)))).toNat) r13)))) 3 (fun _ => rfl) (fun hc => ?_) (fun hc => ?_)
        · have ha2a1aaaa11 := ha2a1aaaa1.1 hc
          refine ev_seg (σ1 := ((d + 1), 194, 107, [some (.inr (.inr 86)), some (.inl (w32 ((w32 (16 * (U11 86 40))) + (U11 106 ((U11 86 40).toNat)))))], [.inr (.inr 86)], (am_sh, am_mm (am_upd U13 108 ((w32 ((w32 (16 * (U11 86 40))) + (U11 106 ((U11 86 40).toNat)))).toNat) r13)))) 1 (fun _ => rfl) ?_
          obtain ⟨U14, ha2a1aaaa11c, ha2a1aaaa11a⟩ := ha2a1aaaa11
          refine ev_cal (σc := (M_ahead_s0 d (am_upd U13 108 ((w32 ((w32 (16 * (U11 86 40))) + (U11 106 ((U11 86 40).toNat)))).toNat) r13))) (fun _ => rfl) ha2a1aaaa11c ?_
          show Ev (am_kz N X) ((d + 1), 194, 110, [some (.inr (.inr 86)), some (.inl (w32 ((w32 (16 * (U11 86 40))) + (U11 106 ((U11 86 40).toNat)))))], [], (am_sh, am_mm U14)) R
          refine ev_seg (σ1 := ((d + 1), 194, 120, [some (.inr (.inr 86)), some (.inl (w32 ((w32 (16 * (U11 86 40))) + (U11 106 ((U11 86 40).toNat)))))], [.inl 9999, .inl 1, .inr (.inr 86), .inl (w32 ((w32 (16 * (U11 86 40))) + (U11 106 ((U11 86 40).toNat)))), .inr (.inr 109)], (am_sh, am_mm U14))) 6 (fun _ => rfl) ?_
          obtain ⟨r15, U15, ha2a1aaaa11ac, ha2a1aaaa11aa⟩ := ha2a1aaaa11a
          refine ev_cal (σc := (M_numeral_s0 d 1 9999 U14)) (fun _ => rfl) ha2a1aaaa11ac ?_
          show Ev (am_kz N X) ((d + 1), 194, 123, [some (.inr (.inr 86)), some (.inl (w32 ((w32 (16 * (U11 86 40))) + (U11 106 ((U11 86 40).toNat)))))], [.inl r15, .inl (w32 ((w32 (16 * (U11 86 40))) + (U11 106 ((U11 86 40).toNat)))), .inr (.inr 109)], (am_sh, am_mm U15)) R
          refine eu_iast 109 (n := 32) rfl (by decide) rfl (fun _ => rfl) ha2a1aa.1 ?_
          show Ev (am_kz N X) ((d + 1), 194, 124, [some (.inr (.inr 86)), some (.inl (w32 ((w32 (16 * (U11 86 40))) + (U11 106 ((U11 86 40).toNat)))))], [], (am_sh, am_mm (am_upd U15 109 ((w32 ((w32 (16 * (U11 86 40))) + (U11 106 ((U11 86 40).toNat)))).toNat) r15))) R
          refine ev_br (P := ¬ (U15 86 8) = 0) (σ1 := ((d + 1), 194, 144, [some (.inr (.inr 86)), some (.inl (w32 ((w32 (16 * (U11 86 40))) + (U11 106 ((U11 86 40).toNat)))))], [], (am_sh, am_mm (am_upd U15 109 ((w32 ((w32 (16 * (U11 86 40))) + (U11 106 ((U11 86 40).toNat)))).toNat) r15)))) (σ2 := ((d + 1), 194, 131, [some (.inr (.inr 86)), some (.inl (w32 ((w32 (16 * (U11 86 40))) + (U11 106 ((U11 86 40).toNat)))))], [], (am_sh, am_mm (am_upd U15 109 ((w32 ((w32 (16 * (U11 86 40))) + (U11 106 ((U11 86 40).toNat)))).toNat) r15)))) 3 (fun _ => rfl) (fun hc => ?_) (fun hc => ?_)
          · have ha2a1aaaa11aa1 := ha2a1aaaa11aa.1 hc
            subst ha2a1aaaa11aa1
            exact ev_end 1 (fun _ => rfl)
          · have ha2a1aaaa11aa2 := ha2a1aaaa11aa.2 (Decidable.not_not.mp hc)
            refine ev_seg (σ1 := ((d + 1), 194, 140, [some (.inr (.inr 86)), some (.inl (w32 ((w32 (16 * (U11 86 40))) + (U11 106 ((U11 86 40).toNat)))))], [.inl (U15 86 40), .inr (.inr 106), .inl (U15 86 40), .inr (.inr 106)], (am_sh, am_mm (am_upd U15 109 ((w32 ((w32 (16 * (U11 86 40))) + (U11 106 ((U11 86 40).toNat)))).toNat) r15)))) 5 (fun _ => rfl) ?_
            refine eu_iald 106 (n := 2) rfl (by decide) rfl (fun _ => rfl) ha2a1aaaa11aa2.1 ?_
            show Ev (am_kz N X) ((d + 1), 194, 141, [some (.inr (.inr 86)), some (.inl (w32 ((w32 (16 * (U11 86 40))) + (U11 106 ((U11 86 40).toNat)))))], [.inl (U15 106 ((U15 86 40).toNat)), .inl (U15 86 40), .inr (.inr 106)], (am_sh, am_mm (am_upd U15 109 ((w32 ((w32 (16 * (U11 86 40))) + (U11 106 ((U11 86 40).toNat)))).toNat) r15))) R
            have ha2a1aaaa11aa2a := ha2a1aaaa11aa2.2
            refine ev_seg (σ1 := ((d + 1), 194, 143, [some (.inr (.inr 86)), some (.inl (w32 ((w32 (16 * (U11 86 40))) + (U11 106 ((U11 86 40).toNat)))))], [.inl (w32 ((U15 106 ((U15 86 40).toNat)) + 1)), .inl (U15 86 40), .inr (.inr 106)], (am_sh, am_mm (am_upd U15 109 ((w32 ((w32 (16 * (U11 86 40))) + (U11 106 ((U11 86 40).toNat)))).toNat) r15)))) 2 (fun _ => rfl) ?_
            refine eu_iast 106 (n := 2) rfl (by decide) rfl (fun _ => rfl) ha2a1aaaa11aa2.1 ?_
            show Ev (am_kz N X) ((d + 1), 194, 144, [some (.inr (.inr 86)), some (.inl (w32 ((w32 (16 * (U11 86 40))) + (U11 106 ((U11 86 40).toNat)))))], [], (am_sh, am_mm (am_upd (am_upd U15 109 ((w32 ((w32 (16 * (U11 86 40))) + (U11 106 ((U11 86 40).toNat)))).toNat) r15) 106 ((U15 86 40).toNat) (w32 ((U15 106 ((U15 86 40).toNat)) + 1))))) R
            subst ha2a1aaaa11aa2a
            exact ev_end 1 (fun _ => rfl)
        · have ha2a1aaaa12 := ha2a1aaaa1.2 (Int.not_le.mp hc)
          subst ha2a1aaaa12
          exact ev_end 1 (fun _ => rfl)
      · have ha2a1aaaa2 := ha2a1aaaa.2 (Decidable.not_not.mp hc)
        refine ev_seg (σ1 := ((d + 1), 194, 79, [some (.inr (.inr 86)), some (.inl (w32 ((w32 (16 * (U11 86 40))) + (U11 106 ((U11 86 40).toNat)))))], [.inl (w32 ((w32 (16 * (U11 86 40))) + (U11 106 ((U11 86 40).toNat)))), .inr (.inr 107)], (am_sh, am_mm (am_upd U13 108 ((w32 ((w32 (16 * (U11 86 40))) + (U11 106 ((U11 86 40).toNat)))).toNat) r13)))) 3 (fun _ => rfl) ?_
        refine eu_iald 107 (n := 32) rfl (by decide) rfl (fun _ => rfl) ha2a1aa.1 ?_
        show Ev (am_kz N X) ((d + 1), 194, 80, [some (.inr (.inr 86)), some (.inl (w32 ((w32 (16 * (U11 86 40))) + (U11 106 ((U11 86 40).toNat)))))], [.inl (U13 107 ((w32 ((w32 (16 * (U11 86 40))) + (U11 106 ((U11 86 40).toNat)))).toNat))], (am_sh, am_mm (am_upd U13 108 ((w32 ((w32 (16 * (U11 86 40))) + (U11 106 ((U11 86 40).toNat)))).toNat) r13))) R
        refine ev_seg (σ1 := ((d + 1), 194, 85, [some (.inr (.inr 86)), some (.inl (w32 ((w32 (16 * (U11 86 40))) + (U11 106 ((U11 86 40).toNat)))))], [.inl (w32 ((w32 (16 * (U11 86 40))) + (U11 106 ((U11 86 40).toNat)))), .inr (.inr 108), .inl (U13 107 ((w32 ((w32 (16 * (U11 86 40))) + (U11 106 ((U11 86 40).toNat)))).toNat))], (am_sh, am_mm (am_upd U13 108 ((w32 ((w32 (16 * (U11 86 40))) + (U11 106 ((U11 86 40).toNat)))).toNat) r13)))) 3 (fun _ => rfl) ?_
        refine eu_iald 108 (n := 32) rfl (by decide) rfl (fun _ => rfl) ha2a1aa.1 ?_
        show Ev (am_kz N X) ((d + 1), 194, 86, [some (.inr (.inr 86)), some (.inl (w32 ((w32 (16 * (U11 86 40))) + (U11 106 ((U11 86 40).toNat)))))], [.inl ((am_upd U13 108 ((w32 ((w32 (16 * (U11 86 40))) + (U11 106 ((U11 86 40).toNat)))).toNat) r13) 108 ((w32 ((w32 (16 * (U11 86 40))) + (U11 106 ((U11 86 40).toNat)))).toNat)), .inl (U13 107 ((w32 ((w32 (16 * (U11 86 40))) + (U11 106 ((U11 86 40).toNat)))).toNat))], (am_sh, am_mm (am_upd U13 108 ((w32 ((w32 (16 * (U11 86 40))) + (U11 106 ((U11 86 40).toNat)))).toNat) r13))) R
        refine ev_br (P := ¬ (U13 107 ((w32 ((w32 (16 * (U11 86 40))) + (U11 106 ((U11 86 40).toNat)))).toNat)) = ((am_upd U13 108 ((w32 ((w32 (16 * (U11 86 40))) + (U11 106 ((U11 86 40).toNat)))).toNat) r13) 108 ((w32 ((w32 (16 * (U11 86 40))) + (U11 106 ((U11 86 40).toNat)))).toNat))) (σ1 := ((d + 1), 194, 98, [some (.inr (.inr 86)), some (.inl (w32 ((w32 (16 * (U11 86 40))) + (U11 106 ((U11 86 40).toNat)))))], [], (am_sh, am_mm (am_upd U13 108 ((w32 ((w32 (16 * (U11 86 40))) + (U11 106 ((U11 86 40).toNat)))).toNat) r13)))) (σ2 := ((d + 1), 194, 89, [some (.inr (.inr 86)), some (.inl (w32 ((w32 (16 * (U11 86 40))) + (U11 106 ((U11 86 40).toNat)))))], [], (am_sh, am_mm (am_upd U13 108 ((w32 ((w32 (16 * (U11 86 40))) + (U11 106 ((U11 86 40).toNat)))).toNat) r13)))) 1 (fun _ => rfl) (fun hc => ?_) (fun hc => ?_)
        · have ha2a1aaaa21 := ha2a1aaaa2.1 hc
          refine ev_br (P := (U13 86 8) ≤ 0) (σ1 := ((d + 1), 194, 106, [some (.inr (.inr 86)), some (.inl (w32 ((w32 (16 * (U11 86 40))) + (U11 106 ((U11 86 40).toNat)))))], [], (am_sh, am_mm (am_upd U13 108 ((w32 ((w32 (16 * (U11 86 40))) + (U11 106 ((U11 86 40).toNat)))).toNat) r13)))) (σ2 := ((d + 1), 194, 105, [some (.inr (.inr 86)), some (.inl (w32 ((w32 (16 * (U11 86 40))) + (U11 106 ((U11 86 40).toNat)))))], [], (am_sh, am_mm (am_upd U13 108 ((w32 ((w32 (16 * (U11 86 40))) + (U11 106 ((U11 86 40).toNat)))).toNat) r13)))) 3 (fun _ => rfl) (fun hc => ?_) (fun hc => ?_)
          · have ha2a1aaaa211 := ha2a1aaaa21.1 hc
            refine ev_seg (σ1 := ((d + 1), 194, 107, [some (.inr (.inr 86)), some (.inl (w32 ((w32 (16 * (U11 86 40))) + (U11 106 ((U11 86 40).toNat)))))], [.inr (.inr 86)], (am_sh, am_mm (am_upd U13 108 ((w32 ((w32 (16 * (U11 86 40))) + (U11 106 ((U11 86 40).toNat)))).toNat) r13)))) 1 (fun _ => rfl) ?_
            obtain ⟨U16, ha2a1aaaa211c, ha2a1aaaa211a⟩ := ha2a1aaaa211
            refine ev_cal (σc := (M_ahead_s0 d (am_upd U13 108 ((w32 ((w32 (16 * (U11 86 40))) + (U11 106 ((U11 86 40).toNat)))).toNat) r13))) (fun _ => rfl) ha2a1aaaa211c ?_
            show Ev (am_kz N X) ((d + 1), 194, 110, [some (.inr (.inr 86)), some (.inl (w32 ((w32 (16 * (U11 86 40))) + (U11 106 ((U11 86 40).toNat)))))], [], (am_sh, am_mm U16)) R
            refine ev_seg (σ1 := ((d + 1), 194, 120, [some (.inr (.inr 86)), some (.inl (w32 ((w32 (16 * (U11 86 40))) + (U11 106 ((U11 86 40).toNat)))))], [.inl 9999, .inl 1, .inr (.inr 86), .inl (w32 ((w32 (16 * (U11 86 40))) + (U11 106 ((U11 86 40).toNat)))), .inr (.inr 109)], (am_sh, am_mm U16))) 6 (fun _ => rfl) ?_
            obtain ⟨r17, U17, ha2a1aaaa211ac, ha2a1aaaa211aa⟩ := ha2a1aaaa211a
            refine ev_cal (σc := (M_numeral_s0 d 1 9999 U16)) (fun _ => rfl) ha2a1aaaa211ac ?_
            show Ev (am_kz N X) ((d + 1), 194, 123, [some (.inr (.inr 86)), some (.inl (w32 ((w32 (16 * (U11 86 40))) + (U11 106 ((U11 86 40).toNat)))))], [.inl r17, .inl (w32 ((w32 (16 * (U11 86 40))) + (U11 106 ((U11 86 40).toNat)))), .inr (.inr 109)], (am_sh, am_mm U17)) R
            refine eu_iast 109 (n := 32) rfl (by decide) rfl (fun _ => rfl) ha2a1aa.1 ?_
            show Ev (am_kz N X) ((d + 1), 194, 124, [some (.inr (.inr 86)), some (.inl (w32 ((w32 (16 * (U11 86 40))) + (U11 106 ((U11 86 40).toNat)))))], [], (am_sh, am_mm (am_upd U17 109 ((w32 ((w32 (16 * (U11 86 40))) + (U11 106 ((U11 86 40).toNat)))).toNat) r17))) R
            refine ev_br (P := ¬ (U17 86 8) = 0) (σ1 := ((d + 1), 194, 144, [some (.inr (.inr 86)), some (.inl (w32 ((w32 (16 * (U11 86 40))) + (U11 106 ((U11 86 40).toNat)))))], [], (am_sh, am_mm (am_upd U17 109 ((w32 ((w32 (16 * (U11 86 40))) + (U11 106 ((U11 86 40).toNat)))).toNat) r17)))) (σ2 := ((d + 1), 194, 131, [some (.inr (.inr 86)), some (.inl (w32 ((w32 (16 * (U11 86 40))) + (U11 106 ((U11 86 40).toNat)))))], [], (am_sh, am_mm (am_upd U17 109 ((w32 ((w32 (16 * (U11 86 40))) + (U11 106 ((U11 86 40).toNat)))).toNat) r17)))) 3 (fun _ => rfl) (fun hc => ?_) (fun hc => ?_)
            · have ha2a1aaaa211aa1 := ha2a1aaaa211aa.1 hc
              subst ha2a1aaaa211aa1
              exact ev_end 1 (fun _ => rfl)
            · have ha2a1aaaa211aa2 := ha2a1aaaa211aa.2 (Decidable.not_not.mp hc)
              refine ev_seg (σ1 := ((d + 1), 194, 140, [some (.inr (.inr 86)), some (.inl (w32 ((w32 (16 * (U11 86 40))) + (U11 106 ((U11 86 40).toNat)))))], [.inl (U17 86 40), .inr (.inr 106), .inl (U17 86 40), .inr (.inr 106)], (am_sh, am_mm (am_upd U17 109 ((w32 ((w32 (16 * (U11 86 40))) + (U11 106 ((U11 86 40).toNat)))).toNat) r17)))) 5 (fun _ => rfl) ?_
              refine eu_iald 106 (n := 2) rfl (by decide) rfl (fun _ => rfl) ha2a1aaaa211aa2.1 ?_
              show Ev (am_kz N X) ((d + 1), 194, 141, [some (.inr (.inr 86)), some (.inl (w32 ((w32 (16 * (U11 86 40))) + (U11 106 ((U11 86 40).toNat)))))], [.inl (U17 106 ((U17 86 40).toNat)), .inl (U17 86 40), .inr (.inr 106)], (am_sh, am_mm (am_upd U17 109 ((w32 ((w32 (16 * (U11 86 40))) + (U11 106 ((U11 86 40).toNat)))).toNat) r17))) R
              have ha2a1aaaa211aa2a := ha2a1aaaa211aa2.2
              refine ev_seg (σ1 := ((d + 1), 194, 143, [some (.inr (.inr 86)), some (.inl (w32 ((w32 (16 * (U11 86 40))) + (U11 106 ((U11 86 40).toNat)))))], [.inl (w32 ((U17 106 ((U17 86 40).toNat)) + 1)), .inl (U17 86 40), .inr (.inr 106)], (am_sh, am_mm (am_upd U17 109 ((w32 ((w32 (16 * (U11 86 40))) + (U11 106 ((U11 86 40).toNat)))).toNat) r17)))) 2 (fun _ => rfl) ?_
              refine eu_iast 106 (n := 2) rfl (by decide) rfl (fun _ => rfl) ha2a1aaaa211aa2.1 ?_
              show Ev (am_kz N X) ((d + 1), 194, 144, [some (.inr (.inr 86)), some (.inl (w32 ((w32 (16 * (U11 86 40))) + (U11 106 ((U11 86 40).toNat)))))], [], (am_sh, am_mm (am_upd (am_upd U17 109 ((w32 ((w32 (16 * (U11 86 40))) + (U11 106 ((U11 86 40).toNat)))).toNat) r17) 106 ((U17 86 40).toNat) (w32 ((U17 106 ((U17 86 40).toNat)) + 1))))) R
              subst ha2a1aaaa211aa2a
              exact ev_end 1 (fun _ => rfl)
          · have ha2a1aaaa212 := ha2a1aaaa21.2 (Int.not_le.mp hc)
            subst ha2a1aaaa212
            exact ev_end 1 (fun _ => rfl)
        · have ha2a1aaaa22 := ha2a1aaaa2.2 (Decidable.not_not.mp hc)
          refine ev_seg (σ1 := ((d + 1), 194, 95, [some (.inr (.inr 86)), some (.inl (w32 ((w32 (16 * (U11 86 40))) + (U11 106 ((U11 86 40).toNat)))))], [.inl (U13 86 4), .inl 3, .inr (.inr 86)], (am_sh, am_mm (am_upd U13 108 ((w32 ((w32 (16 * (U11 86 40))) + (U11 106 ((U11 86 40).toNat)))).toNat) r13)))) 4 (fun _ => rfl) ?_
          obtain ⟨U18, ha2a1aaaa22c, ha2a1aaaa22a⟩ := ha2a1aaaa22
          refine ev_cal (σc := (M_blame_s0 d 3 (U13 86 4) (am_upd U13 108 ((w32 ((w32 (16 * (U11 86 40))) + (U11 106 ((U11 86 40).toNat)))).toNat) r13))) (fun _ => rfl) ha2a1aaaa22c ?_
          show Ev (am_kz N X) ((d + 1), 194, 98, [some (.inr (.inr 86)), some (.inl (w32 ((w32 (16 * (U11 86 40))) + (U11 106 ((U11 86 40).toNat)))))], [], (am_sh, am_mm U18)) R
          refine ev_br (P := (U18 86 8) ≤ 0) (σ1 := ((d + 1), 194, 106, [some (.inr (.inr 86)), some (.inl (w32 ((w32 (16 * (U11 86 40))) + (U11 106 ((U11 86 40).toNat)))))], [], (am_sh, am_mm U18))) (σ2 := ((d + 1), 194, 105, [some (.inr (.inr 86)), some (.inl (w32 ((w32 (16 * (U11 86 40))) + (U11 106 ((U11 86 40).toNat)))))], [], (am_sh, am_mm U18))) 3 (fun _ => rfl) (fun hc => ?_) (fun hc => ?_)
          · have ha2a1aaaa22a1 := ha2a1aaaa22a.1 hc
            refine ev_seg (σ1 := ((d + 1), 194, 107, [some (.inr (.inr 86)), some (.inl (w32 ((w32 (16 * (U11 86 40))) + (U11 106 ((U11 86 40).toNat)))))], [.inr (.inr 86)], (am_sh, am_mm U18))) 1 (fun _ => rfl) ?_
            obtain ⟨U19, ha2a1aaaa22a1c, ha2a1aaaa22a1a⟩ := ha2a1aaaa22a1
            refine ev_cal (σc := (M_ahead_s0 d U18)) (fun _ => rfl) ha2a1aaaa22a1c ?_
            show Ev (am_kz N X) ((d + 1), 194, 110, [some (.inr (.inr 86)), some (.inl (w32 ((w32 (16 * (U11 86 40))) + (U11 106 ((U11 86 40).toNat)))))], [], (am_sh, am_mm U19)) R
            refine ev_seg (σ1 := ((d + 1), 194, 120, [some (.inr (.inr 86)), some (.inl (w32 ((w32 (16 * (U11 86 40))) + (U11 106 ((U11 86 40).toNat)))))], [.inl 9999, .inl 1, .inr (.inr 86), .inl (w32 ((w32 (16 * (U11 86 40))) + (U11 106 ((U11 86 40).toNat)))), .inr (.inr 109)], (am_sh, am_mm U19))) 6 (fun _ => rfl) ?_
            obtain ⟨r20, U20, ha2a1aaaa22a1ac, ha2a1aaaa22a1aa⟩ := ha2a1aaaa22a1a
            refine ev_cal (σc := (M_numeral_s0 d 1 9999 U19)) (fun _ => rfl) ha2a1aaaa22a1ac ?_
            show Ev (am_kz N X) ((d + 1), 194, 123, [some (.inr (.inr 86)), some (.inl (w32 ((w32 (16 * (U11 86 40))) + (U11 106 ((U11 86 40).toNat)))))], [.inl r20, .inl (w32 ((w32 (16 * (U11 86 40))) + (U11 106 ((U11 86 40).toNat)))), .inr (.inr 109)], (am_sh, am_mm U20)) R
            refine eu_iast 109 (n := 32) rfl (by decide) rfl (fun _ => rfl) ha2a1aa.1 ?_
            show Ev (am_kz N X) ((d + 1), 194, 124, [some (.inr (.inr 86)), some (.inl (w32 ((w32 (16 * (U11 86 40))) + (U11 106 ((U11 86 40).toNat)))))], [], (am_sh, am_mm (am_upd U20 109 ((w32 ((w32 (16 * (U11 86 40))) + (U11 106 ((U11 86 40).toNat)))).toNat) r20))) R
            refine ev_br (P := ¬ (U20 86 8) = 0) (σ1 := ((d + 1), 194, 144, [some (.inr (.inr 86)), some (.inl (w32 ((w32 (16 * (U11 86 40))) + (U11 106 ((U11 86 40).toNat)))))], [], (am_sh, am_mm (am_upd U20 109 ((w32 ((w32 (16 * (U11 86 40))) + (U11 106 ((U11 86 40).toNat)))).toNat) r20)))) (σ2 := ((d + 1), 194, 131, [some (.inr (.inr 86)), some (.inl (w32 ((w32 (16 * (U11 86 40))) + (U11 106 ((U11 86 40).toNat)))))], [], (am_sh, am_mm (am_upd U20 109 ((w32 ((w32 (16 * (U11 86 40))) + (U11 106 ((U11 86 40).toNat)))).toNat) r20)))) 3 (fun _ => rfl) (fun hc => ?_) (fun hc => ?_)
            · have ha2a1aaaa22a1aa1 := ha2a1aaaa22a1aa.1 hc
              subst ha2a1aaaa22a1aa1
              exact ev_end 1 (fun _ => rfl)
            · have ha2a1aaaa22a1aa2 := ha2a1aaaa22a1aa.2 (Decidable.not_not.mp hc)
              refine ev_seg (σ1 := ((d + 1), 194, 140, [some (.inr (.inr 86)), some (.inl (w32 ((w32 (16 * (U11 86 40))) + (U11 106 ((U11 86 40).toNat)))))], [.inl (U20 86 40), .inr (.inr 106), .inl (U20 86 40), .inr (.inr 106)], (am_sh, am_mm (am_upd U20 109 ((w32 ((w32 (16 * (U11 86 40))) + (U11 106 ((U11 86 40).toNat)))).toNat) r20)))) 5 (fun _ => rfl) ?_
              refine eu_iald 106 (n := 2) rfl (by decide) rfl (fun _ => rfl) ha2a1aaaa22a1aa2.1 ?_
              show Ev (am_kz N X) ((d + 1), 194, 141, [some (.inr (.inr 86)), some (.inl (w32 ((w32 (16 * (U11 86 40))) + (U11 106 ((U11 86 40).toNat)))))], [.inl (U20 106 ((U20 86 40).toNat)), .inl (U20 86 40), .inr (.inr 106)], (am_sh, am_mm (am_upd U20 109 ((w32 ((w32 (16 * (U11 86 40))) + (U11 106 ((U11 86 40).toNat)))).toNat) r20))) R
              have ha2a1aaaa22a1aa2a := ha2a1aaaa22a1aa2.2
              refine ev_seg (σ1 := ((d + 1), 194, 143, [some (.inr (.inr 86)), some (.inl (w32 ((w32 (16 * (U11 86 40))) + (U11 106 ((U11 86 40).toNat)))))], [.inl (w32 ((U20 106 ((U20 86 40).toNat)) + 1)), .inl (U20 86 40), .inr (.inr 106)], (am_sh, am_mm (am_upd U20 109 ((w32 ((w32 (16 * (U11 86 40))) + (U11 106 ((U11 86 40).toNat)))).toNat) r20)))) 2 (fun _ => rfl) ?_
              refine eu_iast 106 (n := 2) rfl (by decide) rfl (fun _ => rfl) ha2a1aaaa22a1aa2.1 ?_
              show Ev (am_kz N X) ((d + 1), 194, 144, [some (.inr (.inr 86)), some (.inl (w32 ((w32 (16 * (U11 86 40))) + (U11 106 ((U11 86 40).toNat)))))], [], (am_sh, am_mm (am_upd (am_upd U20 109 ((w32 ((w32 (16 * (U11 86 40))) + (U11 106 ((U11 86 40).toNat)))).toNat) r20) 106 ((U20 86 40).toNat) (w32 ((U20 106 ((U20 86 40).toNat)) + 1))))) R
              subst ha2a1aaaa22a1aa2a
              exact ev_end 1 (fun _ => rfl)
          · have ha2a1aaaa22a2 := ha2a1aaaa22a.2 (Int.not_le.mp hc)
            subst ha2a1aaaa22a2
            exact ev_end 1 (fun _ => rfl)
    · have ha2a2 := ha2a.2 (Decidable.not_not.mp hc)
      subst ha2a2
      exact ev_end 1 (fun _ => rfl)
set_option maxRecDepth 8000 in
theorem M_wedding_r0 {N : Nat} {X : Nat → Int} {d : Nat} {U : am_U} {R : Option am_V × am_M} (h : (0 ≤ (U 86 40) ∧ (U 86 40) < 2) ∧ (((U 104 ((U 86 40).toNat)) = (-1)) → ∃ (r1 : Int) (U1 : am_U), EvK N X (M_counts_s0 d 0 U) (rI r1 U1) ∧ ((r1 ≠ 0) → (0 ≤ (U1 86 40) ∧ (U1 86 40) < 2) ∧ ∃ U2 : am_U, EvK N X (M_reads_s0 d 1 (am_upd U1 104 ((U1 86 40).toNat) (U1 86 39))) (rV U2) ∧ (0 ≤ (U2 86 40) ∧ (U2 86 40) < 2) ∧ R = rV (am_upd U2 105 ((U2 86 40).toNat) (U2 86 39))) ∧ ((r1 = 0) → R = rV U1)) ∧ (((U 104 ((U 86 40).toNat)) ≠ (-1)) → ∃ (r3 : Int) (U3 : am_U), EvK N X (M_counts_s0 d 1 U) (rI r3 U3) ∧ ((r3 ≠ 0) → (0 ≤ (U3 86 40) ∧ (U3 86 40) < 2) ∧ ∃ U4 : am_U, EvK N X (M_reads_s0 d 1 (am_upd U3 104 ((U3 86 40).toNat) (U3 86 39))) (rV U4) ∧ (0 ≤ (U4 86 40) ∧ (U4 86 40) < 2) ∧ R = rV (am_upd U4 105 ((U4 86 40).toNat) (U4 86 39))) ∧ ((r3 = 0) → R = rV U3))) : EvK N X (M_wedding_s0 (d + 1) U) R := by
  show Ev (am_kz N X) ((d + 1), 193, 0, [some (.inr (.inr 86))], [], (am_sh, am_mm U)) R
  refine ev_seg (σ1 := ((d + 1), 193, 9, [some (.inr (.inr 86))], [.inl (U 86 40), .inr (.inr 104), .inr (.inr 86)], (am_sh, am_mm U))) 5 (fun _ => rfl) ?_
  refine eu_iald 104 (n := 2) rfl (by decide) rfl (fun _ => rfl) h.1 ?_
  show Ev (am_kz N X) ((d + 1), 193, 10, [some (.inr (.inr 86))], [.inl (U 104 ((U 86 40).toNat)), .inr (.inr 86)], (am_sh, am_mm U)) R
  have ha := h.2
  refine ev_br (P := (U 104 ((U 86 40).toNat)) = (-1)) (σ1 := ((d + 1), 193, 18, [some (.inr (.inr 86))], [.inr (.inr 86)], (am_sh, am_mm U))) (σ2 := ((d + 1), 193, 14, [some (.inr (.inr 86))], [.inr (.inr 86)], (am_sh, am_mm U))) 2 (fun _ => rfl) (fun hc => ?_) (fun hc => ?_)
  · have ha1 := ha.1 hc
    refine ev_seg (σ1 := ((d + 1), 193, 19, [some (.inr (.inr 86))], [.inl 0, .inr (.inr 86)], (am_sh, am_mm U))) 1 (fun _ => rfl) ?_
    obtain ⟨r1, U1, ha1c, ha1a⟩ := ha1
    refine ev_cal (σc := (M_counts_s0 d 0 U)) (fun _ => rfl) ha1c ?_
    show Ev (am_kz N X) ((d + 1), 193, 22, [some (.inr (.inr 86))], [.inl r1], (am_sh, am_mm U1)) R
    refine ev_br (P := ¬ r1 = 0) (σ1 := ((d + 1), 193, 26, [some (.inr (.inr 86))], [], (am_sh, am_mm U1))) (σ2 := ((d + 1), 193, 25, [some (.inr (.inr 86))], [], (am_sh, am_mm U1))) 1 (fun _ => rfl) (fun hc => ?_) (fun hc => ?_)
    · have ha1a1 := ha1a.1 hc
      refine ev_seg (σ1 := ((d + 1), 193, 38, [some (.inr (.inr 86))], [.inl (U1 86 39), .inl (U1 86 40), .inr (.inr 104)], (am_sh, am_mm U1))) 6 (fun _ => rfl) ?_
      refine eu_iast 104 (n := 2) rfl (by decide) rfl (fun _ => rfl) ha1a1.1 ?_
      show Ev (am_kz N X) ((d + 1), 193, 39, [some (.inr (.inr 86))], [], (am_sh, am_mm (am_upd U1 104 ((U1 86 40).toNat) (U1 86 39)))) R
      have ha1a1a := ha1a1.2
      refine ev_seg (σ1 := ((d + 1), 193, 41, [some (.inr (.inr 86))], [.inl 1, .inr (.inr 86)], (am_sh, am_mm (am_upd U1 104 ((U1 86 40).toNat) (U1 86 39))))) 2 (fun _ => rfl) ?_
      obtain ⟨U2, ha1a1ac, ha1a1aa⟩ := ha1a1a
      refine ev_cal (σc := (M_reads_s0 d 1 (am_upd U1 104 ((U1 86 40).toNat) (U1 86 39)))) (fun _ => rfl) ha1a1ac ?_
      show Ev (am_kz N X) ((d + 1), 193, 44, [some (.inr (.inr 86))], [], (am_sh, am_mm U2)) R
      refine ev_seg (σ1 := ((d + 1), 193, 56, [some (.inr (.inr 86))], [.inl (U2 86 39), .inl (U2 86 40), .inr (.inr 105)], (am_sh, am_mm U2))) 6 (fun _ => rfl) ?_
      refine eu_iast 105 (n := 2) rfl (by decide) rfl (fun _ => rfl) ha1a1aa.1 ?_
      show Ev (am_kz N X) ((d + 1), 193, 57, [some (.inr (.inr 86))], [], (am_sh, am_mm (am_upd U2 105 ((U2 86 40).toNat) (U2 86 39)))) R
      have ha1a1aaa := ha1a1aa.2
      subst ha1a1aaa
      exact ev_end 1 (fun _ => rfl)
    · have ha1a2 := ha1a.2 (Decidable.not_not.mp hc)
      subst ha1a2
      exact ev_end 1 (fun _ => rfl)
  · have ha2 := ha.2 hc
    refine ev_seg (σ1 := ((d + 1), 193, 19, [some (.inr (.inr 86))], [.inl 1, .inr (.inr 86)], (am_sh, am_mm U))) 2 (fun _ => rfl) ?_
    obtain ⟨r3, U3, ha2c, ha2a⟩ := ha2
    refine ev_cal (σc := (M_counts_s0 d 1 U)) (fun _ => rfl) ha2c ?_
    show Ev (am_kz N X) ((d + 1), 193, 22, [some (.inr (.inr 86))], [.inl r3], (am_sh, am_mm U3)) R
    refine ev_br (P := ¬ r3 = 0) (σ1 := ((d + 1), 193, 26, [some (.inr (.inr 86))], [], (am_sh, am_mm U3))) (σ2 := ((d + 1), 193, 25, [some (.inr (.inr 86))], [], (am_sh, am_mm U3))) 1 (fun _ => rfl) (fun hc => ?_) (fun hc => ?_)
    · have ha2a1 := ha2a.1 hc
      refine ev_seg (σ1 := ((d + 1), 193, 38, [some (.inr (.inr 86))], [.inl (U3 86 39), .inl (U3 86 40), .inr (.inr 104)], (am_sh, am_mm U3))) 6 (fun _ => rfl) ?_
      refine eu_iast 104 (n := 2) rfl (by decide) rfl (fun _ => rfl) ha2a1.1 ?_
      show Ev (am_kz N X) ((d + 1), 193, 39, [some (.inr (.inr 86))], [], (am_sh, am_mm (am_upd U3 104 ((U3 86 40).toNat) (U3 86 39)))) R
      have ha2a1a := ha2a1.2
      refine ev_seg (σ1 := ((d + 1), 193, 41, [some (.inr (.inr 86))], [.inl 1, .inr (.inr 86)], (am_sh, am_mm (am_upd U3 104 ((U3 86 40).toNat) (U3 86 39))))) 2 (fun _ => rfl) ?_
      obtain ⟨U4, ha2a1ac, ha2a1aa⟩ := ha2a1a
      refine ev_cal (σc := (M_reads_s0 d 1 (am_upd U3 104 ((U3 86 40).toNat) (U3 86 39)))) (fun _ => rfl) ha2a1ac ?_
      show Ev (am_kz N X) ((d + 1), 193, 44, [some (.inr (.inr 86))], [], (am_sh, am_mm U4)) R
      refine ev_seg (σ1 := ((d + 1), 193, 56, [some (.inr (.inr 86))], [.inl (U4 86 39), .inl (U4 86 40), .inr (.inr 105)], (am_sh, am_mm U4))) 6 (fun _ => rfl) ?_
      refine eu_iast 105 (n := 2) rfl (by decide) rfl (fun _ => rfl) ha2a1aa.1 ?_
      show Ev (am_kz N X) ((d + 1), 193, 57, [some (.inr (.inr 86))], [], (am_sh, am_mm (am_upd U4 105 ((U4 86 40).toNat) (U4 86 39)))) R
      have ha2a1aaa := ha2a1aa.2
      subst ha2a1aaa
      exact ev_end 1 (fun _ => rfl)
    · have ha2a2 := ha2a.2 (Decidable.not_not.mp hc)
      subst ha2a2
      exact ev_end 1 (fun _ => rfl)
set_option maxRecDepth 8000 in
theorem M_lawing_r0 {N : Nat} {X : Nat → Int} {d : Nat} {U : am_U} {R : Option am_V × am_M} (h : (0 ≤ (U 86 40) ∧ (U 86 40) < 2) ∧ (((U 100 ((U 86 40).toNat)) ≠ 8) → ∃ (r1 : Int) (U1 : am_U), EvK N X (M_counts_s0 d 0 U) (rI r1 U1) ∧ ((r1 ≠ 0) → (0 ≤ (U1 86 40) ∧ (U1 86 40) < 2) ∧ ∃ U2 : am_U, EvK N X (M_lex_s0 d U1) (rV U2) ∧ (((U2 86 8) ≤ 0) → ∃ (r3 : Int) (U3 : am_U), EvK N X (M_isWord_s0 d 1700881256 U2) (rI r3 U3) ∧ ((r3 = 0) → ∃ (r4 : Int) (U4 : am_U), EvK N X (M_isWord_s0 d 108187867505765 U3) (rI r4 U4) ∧ ((r4 = 0) → ∃ (r5 : Int) (U5 : am_U), EvK N X (M_isWord_s0 d 131294808271214 U4) (rI r5 U5) ∧ ((r5 = 0) → EvK N X (M_lawing_s105 (d + 1) (w32 ((w32 (8 * (U1 86 40))) + (U1 100 ((U1 86 40).toNat)))) (w32 ((w32 (8 * (U1 86 40))) + (U1 100 ((U1 86 40).toNat)))) (-1) U5) R) ∧ ((r5 ≠ 0) → EvK N X (M_lawing_s105 (d + 1) (w32 ((w32 (8 * (U1 86 40))) + (U1 100 ((U1 86 40).toNat)))) (w32 ((w32 (8 * (U1 86 40))) + (U1 100 ((U1 86 40).toNat)))) 2 U5) R)) ∧ ((r4 ≠ 0) → EvK N X (M_lawing_s105 (d + 1) (w32 ((w32 (8 * (U1 86 40))) + (U1 100 ((U1 86 40).toNat)))) (w32 ((w32 (8 * (U1 86 40))) + (U1 100 ((U1 86 40).toNat)))) 1 U4) R)) ∧ ((r3 ≠ 0) → EvK N X (M_lawing_s105 (d + 1) (w32 ((w32 (8 * (U1 86 40))) + (U1 100 ((U1 86 40).toNat)))) (w32 ((w32 (8 * (U1 86 40))) + (U1 100 ((U1 86 40).toNat)))) 0 U3) R)) ∧ ((0 < (U2 86 8)) → R = rV U2)) ∧ ((r1 = 0) → R = rV U1)) ∧ (((U 100 ((U 86 40).toNat)) = 8) → ∃ (r6 : Int) (U6 : am_U), EvK N X (M_counts_s0 d 1 U) (rI r6 U6) ∧ ((r6 ≠ 0) → (0 ≤ (U6 86 40) ∧ (U6 86 40) < 2) ∧ ∃ U7 : am_U, EvK N X (M_lex_s0 d U6) (rV U7) ∧ (((U7 86 8) ≤ 0) → ∃ (r8 : Int) (U8 : am_U), EvK N X (M_isWord_s0 d 1700881256 U7) (rI r8 U8) ∧ ((r8 = 0) → ∃ (r9 : Int) (U9 : am_U), EvK N X (M_isWord_s0 d 108187867505765 U8) (rI r9 U9) ∧ ((r9 = 0) → ∃ (r10 : Int) (U10 : am_U), EvK N X (M_isWord_s0 d 131294808271214 U9) (rI r10 U10) ∧ ((r10 = 0) → EvK N X (M_lawing_s105 (d + 1) (w32 ((w32 (8 * (U6 86 40))) + (U6 100 ((U6 86 40).toNat)))) (w32 ((w32 (8 * (U6 86 40))) + (U6 100 ((U6 86 40).toNat)))) (-1) U10) R) ∧ ((r10 ≠ 0) → EvK N X (M_lawing_s105 (d + 1) (w32 ((w32 (8 * (U6 86 40))) + (U6 100 ((U6 86 40).toNat)))) (w32 ((w32 (8 * (U6 86 40))) + (U6 100 ((U6 86 40).toNat)))) 2 U10) R)) ∧ ((r9 ≠ 0) → EvK N X (M_lawing_s105 (d + 1) (w32 ((w32 (8 * (U6 86 40))) + (U6 100 ((U6 86 40).toNat)))) (w32 ((w32 (8 * (U6 86 40))) + (U6 100 ((U6 86 40).toNat)))) 1 U9) R)) ∧ ((r8 ≠ 0) → EvK N X (M_lawing_s105 (d + 1) (w32 ((w32 (8 * (U6 86 40))) + (U6 100 ((U6 86 40).toNat)))) (w32 ((w32 (8 * (U6 86 40))) + (U6 100 ((U6 86 40).toNat)))) 0 U8) R)) ∧ ((0 < (U7 86 8)) → R = rV U7)) ∧ ((r6 = 0) → R = rV U6))) : EvK N X (M_lawing_s0 (d + 1) U) R := by
  show Ev (am_kz N X) ((d + 1), 192, 0, [some (.inr (.inr 86)), none], [], (am_sh, am_mm U)) R
  refine ev_seg (σ1 := ((d + 1), 192, 9, [some (.inr (.inr 86)), none], [.inl (U 86 40), .inr (.inr 100), .inr (.inr 86)], (am_sh, am_mm U))) 5 (fun _ => rfl) ?_
  refine eu_iald 100 (n := 2) rfl (by decide) rfl (fun _ => rfl) h.1 ?_
  show Ev (am_kz N X) ((d + 1), 192, 10, [some (.inr (.inr 86)), none], [.inl (U 100 ((U 86 40).toNat)), .inr (.inr 86)], (am_sh, am_mm U)) R
  have ha := h.2
  refine ev_br (P := ¬ (U 100 ((U 86 40).toNat)) = 8) (σ1 := ((d + 1), 192, 19, [some (.inr (.inr 86)), none], [.inr (.inr 86)], (am_sh, am_mm U))) (σ2 := ((d + 1), 192, 15, [some (.inr (.inr 86)), none], [.inr (.inr 86)], (am_sh, am_mm U))) 2 (fun _ => rfl) (fun hc => ?_) (fun hc => ?_)
  · have ha1 := ha.1 hc
    refine ev_seg (σ1 := ((d + 1), 192, 20, [some (.inr (.inr 86)), none], [.inl 0, .inr (.inr 86)], (am_sh, am_mm U))) 1 (fun _ => rfl) ?_
    obtain ⟨r1, U1, ha1c, ha1a⟩ := ha1
    refine ev_cal (σc := (M_counts_s0 d 0 U)) (fun _ => rfl) ha1c ?_
    show Ev (am_kz N X) ((d + 1), 192, 23, [some (.inr (.inr 86)), none], [.inl r1], (am_sh, am_mm U1)) R
    refine ev_br (P := ¬ r1 = 0) (σ1 := ((d + 1), 192, 27, [some (.inr (.inr 86)), none], [], (am_sh, am_mm U1))) (σ2 := ((d + 1), 192, 26, [some (.inr (.inr 86)), none], [], (am_sh, am_mm U1))) 1 (fun _ => rfl) (fun hc => ?_) (fun hc => ?_)
    · have ha1a1 := ha1a.1 hc
      refine ev_seg (σ1 := ((d + 1), 192, 42, [some (.inr (.inr 86)), none], [.inl (U1 86 40), .inr (.inr 100), .inl (w32 (8 * (U1 86 40)))], (am_sh, am_mm U1))) 8 (fun _ => rfl) ?_
      refine eu_iald 100 (n := 2) rfl (by decide) rfl (fun _ => rfl) ha1a1.1 ?_
      show Ev (am_kz N X) ((d + 1), 192, 43, [some (.inr (.inr 86)), none], [.inl (U1 100 ((U1 86 40).toNat)), .inl (w32 (8 * (U1 86 40)))], (am_sh, am_mm U1)) R
      have ha1a1a := ha1a1.2
      refine ev_seg (σ1 := ((d + 1), 192, 46, [some (.inr (.inr 86)), some (.inl (w32 ((w32 (8 * (U1 86 40))) + (U1 100 ((U1 86 40).toNat)))))], [.inr (.inr 86)], (am_sh, am_mm U1))) 3 (fun _ => rfl) ?_
      obtain ⟨U2, ha1a1ac, ha1a1aa⟩ := ha1a1a
      refine ev_cal (σc := (M_lex_s0 d U1)) (fun _ => rfl) ha1a1ac ?_
      show Ev (am_kz N X) ((d + 1), 192, 49, [some (.inr (.inr 86)), some (.inl (w32 ((w32 (8 * (U1 86 40))) + (U1 100 ((U1 86 40).toNat)))))], [], (am_sh, am_mm U2)) R
      refine ev_br (P := (U2 86 8) ≤ 0) (σ1 := ((d + 1), 192, 57, [some (.inr (.inr 86)), some (.inl (w32 ((w32 (8 * (U1 86 40))) + (U1 100 ((U1 86 40).toNat)))))], [], (am_sh, am_mm U2))) (σ2 := ((d + 1), 192, 56, [some (.inr (.inr 86)), some (.inl (w32 ((w32 (8 * (U1 86 40))) + (U1 100 ((U1 86 40).toNat)))))], [], (am_sh, am_mm U2))) 3 (fun _ => rfl) (fun hc => ?_) (fun hc => ?_)
      · have ha1a1aa1 := ha1a1aa.1 hc
        refine ev_seg (σ1 := ((d + 1), 192, 66, [some (.inr (.inr 86)), some (.inl (w32 ((w32 (8 * (U1 86 40))) + (U1 100 ((U1 86 40).toNat)))))], [.inr (.inl 1700881256), .inr (.inr 86), .inl (w32 ((w32 (8 * (U1 86 40))) + (U1 100 ((U1 86 40).toNat)))), .inr (.inr 101)], (am_sh, am_mm U2))) 5 (fun _ => rfl) ?_
        obtain ⟨r3, U3, ha1a1aa1c, ha1a1aa1a⟩ := ha1a1aa1
        refine ev_cal (σc := (M_isWord_s0 d 1700881256 U2)) (fun _ => rfl) ha1a1aa1c ?_
        show Ev (am_kz N X) ((d + 1), 192, 69, [some (.inr (.inr 86)), some (.inl (w32 ((w32 (8 * (U1 86 40))) + (U1 100 ((U1 86 40).toNat)))))], [.inl r3, .inl (w32 ((w32 (8 * (U1 86 40))) + (U1 100 ((U1 86 40).toNat)))), .inr (.inr 101)], (am_sh, am_mm U3)) R
        refine ev_br (P := r3 = 0) (σ1 := ((d + 1), 192, 76, [some (.inr (.inr 86)), some (.inl (w32 ((w32 (8 * (U1 86 40))) + (U1 100 ((U1 86 40).toNat)))))], [.inl (w32 ((w32 (8 * (U1 86 40))) + (U1 100 ((U1 86 40).toNat)))), .inr (.inr 101)], (am_sh, am_mm U3))) (σ2 := ((d + 1), 192, 72, [some (.inr (.inr 86)), some (.inl (w32 ((w32 (8 * (U1 86 40))) + (U1 100 ((U1 86 40).toNat)))))], [.inl (w32 ((w32 (8 * (U1 86 40))) + (U1 100 ((U1 86 40).toNat)))), .inr (.inr 101)], (am_sh, am_mm U3))) 1 (fun _ => rfl) (fun hc => ?_) (fun hc => ?_)
        · have ha1a1aa1a1 := ha1a1aa1a.1 hc
          refine ev_seg (σ1 := ((d + 1), 192, 80, [some (.inr (.inr 86)), some (.inl (w32 ((w32 (8 * (U1 86 40))) + (U1 100 ((U1 86 40).toNat)))))], [.inr (.inl 108187867505765), .inr (.inr 86), .inl (w32 ((w32 (8 * (U1 86 40))) + (U1 100 ((U1 86 40).toNat)))), .inr (.inr 101)], (am_sh, am_mm U3))) 2 (fun _ => rfl) ?_
          obtain ⟨r4, U4, ha1a1aa1a1c, ha1a1aa1a1a⟩ := ha1a1aa1a1
          refine ev_cal (σc := (M_isWord_s0 d 108187867505765 U3)) (fun _ => rfl) ha1a1aa1a1c ?_
          show Ev (am_kz N X) ((d + 1), 192, 83, [some (.inr (.inr 86)), some (.inl (w32 ((w32 (8 * (U1 86 40))) + (U1 100 ((U1 86 40).toNat)))))], [.inl r4, .inl (w32 ((w32 (8 * (U1 86 40))) + (U1 100 ((U1 86 40).toNat)))), .inr (.inr 101)], (am_sh, am_mm U4)) R
          refine ev_br (P := r4 = 0) (σ1 := ((d + 1), 192, 90, [some (.inr (.inr 86)), some (.inl (w32 ((w32 (8 * (U1 86 40))) + (U1 100 ((U1 86 40).toNat)))))], [.inl (w32 ((w32 (8 * (U1 86 40))) + (U1 100 ((U1 86 40).toNat)))), .inr (.inr 101)], (am_sh, am_mm U4))) (σ2 := ((d + 1), 192, 86, [some (.inr (.inr 86)), some (.inl (w32 ((w32 (8 * (U1 86 40))) + (U1 100 ((U1 86 40).toNat)))))], [.inl (w32 ((w32 (8 * (U1 86 40))) + (U1 100 ((U1 86 40).toNat)))), .inr (.inr 101)], (am_sh, am_mm U4))) 1 (fun _ => rfl) (fun hc => ?_) (fun hc => ?_)
          · have ha1a1aa1a1a1 := ha1a1aa1a1a.1 hc
            refine ev_seg (σ1 := ((d + 1), 192, 94, [some (.inr (.inr 86)), some (.inl (w32 ((w32 (8 * (U1 86 40))) + (U1 100 ((U1 86 40).toNat)))))], [.inr (.inl 131294808271214), .inr (.inr 86), .inl (w32 ((w32 (8 * (U1 86 40))) + (U1 100 ((U1 86 40).toNat)))), .inr (.inr 101)], (am_sh, am_mm U4))) 2 (fun _ => rfl) ?_
            obtain ⟨r5, U5, ha1a1aa1a1a1c, ha1a1aa1a1a1a⟩ := ha1a1aa1a1a1
            refine ev_cal (σc := (M_isWord_s0 d 131294808271214 U4)) (fun _ => rfl) ha1a1aa1a1a1c ?_
            show Ev (am_kz N X) ((d + 1), 192, 97, [some (.inr (.inr 86)), some (.inl (w32 ((w32 (8 * (U1 86 40))) + (U1 100 ((U1 86 40).toNat)))))], [.inl r5, .inl (w32 ((w32 (8 * (U1 86 40))) + (U1 100 ((U1 86 40).toNat)))), .inr (.inr 101)], (am_sh, am_mm U5)) R
            refine ev_br (P := r5 = 0) (σ1 := ((d + 1), 192, 104, [some (.inr (.inr 86)), some (.inl (w32 ((w32 (8 * (U1 86 40))) + (U1 100 ((U1 86 40).toNat)))))], [.inl (w32 ((w32 (8 * (U1 86 40))) + (U1 100 ((U1 86 40).toNat)))), .inr (.inr 101)], (am_sh, am_mm U5))) (σ2 := ((d + 1), 192, 100, [some (.inr (.inr 86)), some (.inl (w32 ((w32 (8 * (U1 86 40))) + (U1 100 ((U1 86 40).toNat)))))], [.inl (w32 ((w32 (8 * (U1 86 40))) + (U1 100 ((U1 86 40).toNat)))), .inr (.inr 101)], (am_sh, am_mm U5))) 1 (fun _ => rfl) (fun hc => ?_) (fun hc => ?_)
            · have ha1a1aa1a1a1a1 := ha1a1aa1a1a1a.1 hc
              refine ev_seg (σ1 := ((d + 1), 192, 105, [some (.inr (.inr 86)), some (.inl (w32 ((w32 (8 * (U1 86 40))) + (U1 100 ((U1 86 40).toNat)))))], [.inl (-1), .inl (w32 ((w32 (8 * (U1 86 40))) + (U1 100 ((U1 86 40).toNat)))), .inr (.inr 101)], (am_sh, am_mm U5))) 1 (fun _ => rfl) ?_
              exact ha1a1aa1a1a1a1
            · have ha1a1aa1a1a1a2 := ha1a1aa1a1a1a.2 hc
              refine ev_seg (σ1 := ((d + 1), 192, 105, [some (.inr (.inr 86)), some (.inl (w32 ((w32 (8 * (U1 86 40))) + (U1 100 ((U1 86 40).toNat)))))], [.inl 2, .inl (w32 ((w32 (8 * (U1 86 40))) + (U1 100 ((U1 86 40).toNat)))), .inr (.inr 101)], (am_sh, am_mm U5))) 2 (fun _ => rfl) ?_
              exact ha1a1aa1a1a1a2
          · have ha1a1aa1a1a2 := ha1a1aa1a1a.2 hc
            refine ev_seg (σ1 := ((d + 1), 192, 105, [some (.inr (.inr 86)), some (.inl (w32 ((w32 (8 * (U1 86 40))) + (U1 100 ((U1 86 40).toNat)))))], [.inl 1, .inl (w32 ((w32 (8 * (U1 86 40))) + (U1 100 ((U1 86 40).toNat)))), .inr (.inr 101)], (am_sh, am_mm U4))) 2 (fun _ => rfl) ?_
            exact ha1a1aa1a1a2
        · have ha1a1aa1a2 := ha1a1aa1a.2 hc
          refine ev_seg (σ1 := ((d + 1), 192, 105, [some (.inr (.inr 86)), some (.inl (w32 ((w32 (8 * (U1 86 40))) + (U1 100 ((U1 86 40).toNat)))))], [.inl 0, .inl (w32 ((w32 (8 * (U1 86 40))) + (U1 100 ((U1 86 40).toNat)))), .inr (.inr 101)], (am_sh, am_mm U3))) 2 (fun _ => rfl) ?_
          exact ha1a1aa1a2
      · have ha1a1aa2 := ha1a1aa.2 (Int.not_le.mp hc)
        subst ha1a1aa2
        exact ev_end 1 (fun _ => rfl)
    · have ha1a2 := ha1a.2 (Decidable.not_not.mp hc)
      subst ha1a2
      exact ev_end 1 (fun _ => rfl)
  · have ha2 := ha.2 (Decidable.not_not.mp hc)
    refine ev_seg (σ1 := ((d + 1), 192, 20, [some (.inr (.inr 86)), none], [.inl 1, .inr (.inr 86)], (am_sh, am_mm U))) 2 (fun _ => rfl) ?_
    obtain ⟨r6, U6, ha2c, ha2a⟩ := ha2
    refine ev_cal (σc := (M_counts_s0 d 1 U)) (fun _ => rfl) ha2c ?_
    show Ev (am_kz N X) ((d + 1), 192, 23, [some (.inr (.inr 86)), none], [.inl r6], (am_sh, am_mm U6)) R
    refine ev_br (P := ¬ r6 = 0) (σ1 := ((d + 1), 192, 27, [some (.inr (.inr 86)), none], [], (am_sh, am_mm U6))) (σ2 := ((d + 1), 192, 26, [some (.inr (.inr 86)), none], [], (am_sh, am_mm U6))) 1 (fun _ => rfl) (fun hc => ?_) (fun hc => ?_)
    · have ha2a1 := ha2a.1 hc
      refine ev_seg (σ1 := ((d + 1), 192, 42, [some (.inr (.inr 86)), none], [.inl (U6 86 40), .inr (.inr 100), .inl (w32 (8 * (U6 86 40)))], (am_sh, am_mm U6))) 8 (fun _ => rfl) ?_
      refine eu_iald 100 (n := 2) rfl (by decide) rfl (fun _ => rfl) ha2a1.1 ?_
      show Ev (am_kz N X) ((d + 1), 192, 43, [some (.inr (.inr 86)), none], [.inl (U6 100 ((U6 86 40).toNat)), .inl (w32 (8 * (U6 86 40)))], (am_sh, am_mm U6)) R
      have ha2a1a := ha2a1.2
      refine ev_seg (σ1 := ((d + 1), 192, 46, [some (.inr (.inr 86)), some (.inl (w32 ((w32 (8 * (U6 86 40))) + (U6 100 ((U6 86 40).toNat)))))], [.inr (.inr 86)], (am_sh, am_mm U6))) 3 (fun _ => rfl) ?_
      obtain ⟨U7, ha2a1ac, ha2a1aa⟩ := ha2a1a
      refine ev_cal (σc := (M_lex_s0 d U6)) (fun _ => rfl) ha2a1ac ?_
      show Ev (am_kz N X) ((d + 1), 192, 49, [some (.inr (.inr 86)), some (.inl (w32 ((w32 (8 * (U6 86 40))) + (U6 100 ((U6 86 40).toNat)))))], [], (am_sh, am_mm U7)) R
      refine ev_br (P := (U7 86 8) ≤ 0) (σ1 := ((d + 1), 192, 57, [some (.inr (.inr 86)), some (.inl (w32 ((w32 (8 * (U6 86 40))) + (U6 100 ((U6 86 40).toNat)))))], [], (am_sh, am_mm U7))) (σ2 := ((d + 1), 192, 56, [some (.inr (.inr 86)), some (.inl (w32 ((w32 (8 * (U6 86 40))) + (U6 100 ((U6 86 40).toNat)))))], [], (am_sh, am_mm U7))) 3 (fun _ => rfl) (fun hc => ?_) (fun hc => ?_)
      · have ha2a1aa1 := ha2a1aa.1 hc
        refine ev_seg (σ1 := ((d + 1), 192, 66, [some (.inr (.inr 86)), some (.inl (w32 ((w32 (8 * (U6 86 40))) + (U6 100 ((U6 86 40).toNat)))))], [.inr (.inl 1700881256), .inr (.inr 86), .inl (w32 ((w32 (8 * (U6 86 40))) + (U6 100 ((U6 86 40).toNat)))), .inr (.inr 101)], (am_sh, am_mm U7))) 5 (fun _ => rfl) ?_
        obtain ⟨r8, U8, ha2a1aa1c, ha2a1aa1a⟩ := ha2a1aa1
        refine ev_cal (σc := (M_isWord_s0 d 1700881256 U7)) (fun _ => rfl) ha2a1aa1c ?_
        show Ev (am_kz N X) ((d + 1), 192, 69, [some (.inr (.inr 86)), some (.inl (w32 ((w32 (8 * (U6 86 40))) + (U6 100 ((U6 86 40).toNat)))))], [.inl r8, .inl (w32 ((w32 (8 * (U6 86 40))) + (U6 100 ((U6 86 40).toNat)))), .inr (.inr 101)], (am_sh, am_mm U8)) R
        refine ev_br (P := r8 = 0) (σ1 := ((d + 1), 192, 76, [some (.inr (.inr 86)), some (.inl (w32 ((w32 (8 * (U6 86 40))) + (U6 100 ((U6 86 40).toNat)))))], [.inl (w32 ((w32 (8 * (U6 86 40))) + (U6 100 ((U6 86 40).toNat)))), .inr (.inr 101)], (am_sh, am_mm U8))) (σ2 := ((d + 1), 192, 72, [some (.inr (.inr 86)), some (.inl (w32 ((w32 (8 * (U6 86 40))) + (U6 100 ((U6 86 40).toNat)))))], [.inl (w32 ((w32 (8 * (U6 86 40))) + (U6 100 ((U6 86 40).toNat)))), .inr (.inr 101)], (am_sh, am_mm U8))) 1 (fun _ => rfl) (fun hc => ?_) (fun hc => ?_)
        · have ha2a1aa1a1 := ha2a1aa1a.1 hc
          refine ev_seg (σ1 := ((d + 1), 192, 80, [some (.inr (.inr 86)), some (.inl (w32 ((w32 (8 * (U6 86 40))) + (U6 100 ((U6 86 40).toNat)))))], [.inr (.inl 108187867505765), .inr (.inr 86), .inl (w32 ((w32 (8 * (U6 86 40))) + (U6 100 ((U6 86 40).toNat)))), .inr (.inr 101)], (am_sh, am_mm U8))) 2 (fun _ => rfl) ?_
          obtain ⟨r9, U9, ha2a1aa1a1c, ha2a1aa1a1a⟩ := ha2a1aa1a1
          refine ev_cal (σc := (M_isWord_s0 d 108187867505765 U8)) (fun _ => rfl) ha2a1aa1a1c ?_
          show Ev (am_kz N X) ((d + 1), 192, 83, [some (.inr (.inr 86)), some (.inl (w32 ((w32 (8 * (U6 86 40))) + (U6 100 ((U6 86 40).toNat)))))], [.inl r9, .inl (w32 ((w32 (8 * (U6 86 40))) + (U6 100 ((U6 86 40).toNat)))), .inr (.inr 101)], (am_sh, am_mm U9)) R
          refine ev_br (P := r9 = 0) (σ1 := ((d + 1), 192, 90, [some (.inr (.inr 86)), some (.inl (w32 ((w32 (8 * (U6 86 40))) + (U6 100 ((U6 86 40).toNat)))))], [.inl (w32 ((w32 (8 * (U6 86 40))) + (U6 100 ((U6 86 40).toNat)))), .inr (.inr 101)], (am_sh, am_mm U9))) (σ2 := ((d + 1), 192, 86, [some (.inr (.inr 86)), some (.inl (w32 ((w32 (8 * (U6 86 40))) + (U6 100 ((U6 86 40).toNat)))))], [.inl (w32 ((w32 (8 * (U6 86 40))) + (U6 100 ((U6 86 40).toNat)))), .inr (.inr 101)], (am_sh, am_mm U9))) 1 (fun _ => rfl) (fun hc => ?_) (fun hc => ?_)
          · have ha2a1aa1a1a1 := ha2a1aa1a1a.1 hc
            refine ev_seg (σ1 := ((d + 1), 192, 94, [some (.inr (.inr 86)), some (.inl (w32 ((w32 (8 * (U6 86 40))) + (U6 100 ((U6 86 40).toNat)))))], [.inr (.inl 131294808271214), .inr (.inr 86), .inl (w32 ((w32 (8 * (U6 86 40))) + (U6 100 ((U6 86 40).toNat)))), .inr (.inr 101)], (am_sh, am_mm U9))) 2 (fun _ => rfl) ?_
            obtain ⟨r10, U10, ha2a1aa1a1a1c, ha2a1aa1a1a1a⟩ := ha2a1aa1a1a1
            refine ev_cal (σc := (M_isWord_s0 d 131294808271214 U9)) (fun _ => rfl) ha2a1aa1a1a1c ?_
            show Ev (am_kz N X) ((d + 1), 192, 97, [some (.inr (.inr 86)), some (.inl (w32 ((w32 (8 * (U6 86 40))) + (U6 100 ((U6 86 40).toNat)))))], [.inl r10, .inl (w32 ((w32 (8 * (U6 86 40))) + (U6 100 ((U6 86 40).toNat)))), .inr (.inr 101)], (am_sh, am_mm U10)) R
            refine ev_br (P := r10 = 0) (σ1 := ((d + 1), 192, 104, [some (.inr (.inr 86)), some (.inl (w32 ((w32 (8 * (U6 86 40))) + (U6 100 ((U6 86 40).toNat)))))], [.inl (w32 ((w32 (8 * (U6 86 40))) + (U6 100 ((U6 86 40).toNat)))), .inr (.inr 101)], (am_sh, am_mm U10))) (σ2 := ((d + 1), 192, 100, [some (.inr (.inr 86)), some (.inl (w32 ((w32 (8 * (U6 86 40))) + (U6 100 ((U6 86 40).toNat)))))], [.inl (w32 ((w32 (8 * (U6 86 40))) + (U6 100 ((U6 86 40).toNat)))), .inr (.inr 101)], (am_sh, am_mm U10))) 1 (fun _ => rfl) (fun hc => ?_) (fun hc => ?_)
            · have ha2a1aa1a1a1a1 := ha2a1aa1a1a1a.1 hc
              refine ev_seg (σ1 := ((d + 1), 192, 105, [some (.inr (.inr 86)), some (.inl (w32 ((w32 (8 * (U6 86 40))) + (U6 100 ((U6 86 40).toNat)))))], [.inl (-1), .inl (w32 ((w32 (8 * (U6 86 40))) + (U6 100 ((U6 86 40).toNat)))), .inr (.inr 101)], (am_sh, am_mm U10))) 1 (fun _ => rfl) ?_
              exact ha2a1aa1a1a1a1
            · have ha2a1aa1a1a1a2 := ha2a1aa1a1a1a.2 hc
              refine ev_seg (σ1 := ((d + 1), 192, 105, [some (.inr (.inr 86)), some (.inl (w32 ((w32 (8 * (U6 86 40))) + (U6 100 ((U6 86 40).toNat)))))], [.inl 2, .inl (w32 ((w32 (8 * (U6 86 40))) + (U6 100 ((U6 86 40).toNat)))), .inr (.inr 101)], (am_sh, am_mm U10))) 2 (fun _ => rfl) ?_
              exact ha2a1aa1a1a1a2
          · have ha2a1aa1a1a2 := ha2a1aa1a1a.2 hc
            refine ev_seg (σ1 := ((d + 1), 192, 105, [some (.inr (.inr 86)), some (.inl (w32 ((w32 (8 * (U6 86 40))) + (U6 100 ((U6 86 40).toNat)))))], [.inl 1, .inl (w32 ((w32 (8 * (U6 86 40))) + (U6 100 ((U6 86 40).toNat)))), .inr (.inr 101)], (am_sh, am_mm U9))) 2 (fun _ => rfl) ?_
            exact ha2a1aa1a1a2
        · have ha2a1aa1a2 := ha2a1aa1a.2 hc
          refine ev_seg (σ1 := ((d + 1), 192, 105, [some (.inr (.inr 86)), some (.inl (w32 ((w32 (8 * (U6 86 40))) + (U6 100 ((U6 86 40).toNat)))))], [.inl 0, .inl (w32 ((w32 (8 * (U6 86 40))) + (U6 100 ((U6 86 40).toNat)))), .inr (.inr 101)], (am_sh, am_mm U8))) 2 (fun _ => rfl) ?_
          exact ha2a1aa1a2
      · have ha2a1aa2 := ha2a1aa.2 (Int.not_le.mp hc)
        subst ha2a1aa2
        exact ev_end 1 (fun _ => rfl)
    · have ha2a2 := ha2a.2 (Decidable.not_not.mp hc)
      subst ha2a2
      exact ev_end 1 (fun _ => rfl)
set_option maxRecDepth 8000 in
theorem M_lawing_r105 {N : Nat} {X : Nat → Int} {d : Nat} {x1 s1 s2 : Int} {U : am_U} {R : Option am_V × am_M} (h : (0 ≤ s1 ∧ s1 < 16) ∧ (0 ≤ x1 ∧ x1 < 16) ∧ ((((am_upd U 101 s1.toNat s2) 101 x1.toNat) ≠ (-1)) → (((U 86 8) ≤ 0) → ∃ U1 : am_U, EvK N X (M_ahead_s0 d (am_upd U 101 s1.toNat s2)) (rV U1) ∧ ∃ U2 : am_U, EvK N X (M_reads_s0 d 1 (am_upd U1 102 x1.toNat (U1 86 39))) (rV U2) ∧ (((U2 86 8) ≠ 0) → R = rV (am_upd U2 103 x1.toNat (U2 86 39))) ∧ (((U2 86 8) = 0) → (0 ≤ (U2 86 40) ∧ (U2 86 40) < 2) ∧ R = rV (am_upd (am_upd U2 103 x1.toNat (U2 86 39)) 100 ((U2 86 40).toNat) (w32 ((U2 100 ((U2 86 40).toNat)) + 1))))) ∧ ((0 < (U 86 8)) → R = rV (am_upd U 101 s1.toNat s2))) ∧ ((((am_upd U 101 s1.toNat s2) 101 x1.toNat) = (-1)) → ∃ U3 : am_U, EvK N X (M_blame_s0 d 1 (U 86 4) (am_upd U 101 s1.toNat s2)) (rV U3) ∧ (((U3 86 8) ≤ 0) → ∃ U4 : am_U, EvK N X (M_ahead_s0 d U3) (rV U4) ∧ ∃ U5 : am_U, EvK N X (M_reads_s0 d 1 (am_upd U4 102 x1.toNat (U4 86 39))) (rV U5) ∧ (((U5 86 8) ≠ 0) → R = rV (am_upd U5 103 x1.toNat (U5 86 39))) ∧ (((U5 86 8) = 0) → (0 ≤ (U5 86 40) ∧ (U5 86 40) < 2) ∧ R = rV (am_upd (am_upd U5 103 x1.toNat (U5 86 39)) 100 ((U5 86 40).toNat) (w32 ((U5 100 ((U5 86 40).toNat)) + 1))))) ∧ ((0 < (U3 86 8)) → R = rV U3))) : EvK N X (M_lawing_s105 (d + 1) x1 s1 s2 U) R := by
  show Ev (am_kz N X) ((d + 1), 192, 105, [some (.inr (.inr 86)), some (.inl x1)], [.inl s2, .inl s1, .inr (.inr 101)], (am_sh, am_mm U)) R
  refine eu_iast 101 (n := 16) rfl (by decide) rfl (fun _ => rfl) h.1 ?_
  show Ev (am_kz N X) ((d + 1), 192, 106, [some (.inr (.inr 86)), some (.inl x1)], [], (am_sh, am_mm (am_upd U 101 s1.toNat s2))) R
  have ha := h.2
  refine ev_seg (σ1 := ((d + 1), 192, 111, [some (.inr (.inr 86)), some (.inl x1)], [.inl x1, .inr (.inr 101)], (am_sh, am_mm (am_upd U 101 s1.toNat s2)))) 3 (fun _ => rfl) ?_
  refine eu_iald 101 (n := 16) rfl (by decide) rfl (fun _ => rfl) ha.1 ?_
  show Ev (am_kz N X) ((d + 1), 192, 112, [some (.inr (.inr 86)), some (.inl x1)], [.inl ((am_upd U 101 s1.toNat s2) 101 x1.toNat)], (am_sh, am_mm (am_upd U 101 s1.toNat s2))) R
  have haa := ha.2
  refine ev_br (P := ¬ ((am_upd U 101 s1.toNat s2) 101 x1.toNat) = (-1)) (σ1 := ((d + 1), 192, 125, [some (.inr (.inr 86)), some (.inl x1)], [], (am_sh, am_mm (am_upd U 101 s1.toNat s2)))) (σ2 := ((d + 1), 192, 116, [some (.inr (.inr 86)), some (.inl x1)], [], (am_sh, am_mm (am_upd U 101 s1.toNat s2)))) 2 (fun _ => rfl) (fun hc => ?_) (fun hc => ?_)
  · have haa1 := haa.1 hc
    refine ev_br (P := (U 86 8) ≤ 0) (σ1 := ((d + 1), 192, 133, [some (.inr (.inr 86)), some (.inl x1)], [], (am_sh, am_mm (am_upd U 101 s1.toNat s2)))) (σ2 := ((d + 1), 192, 132, [some (.inr (.inr 86)), some (.inl x1)], [], (am_sh, am_mm (am_upd U 101 s1.toNat s2)))) 3 (fun _ => rfl) (fun hc => ?_) (fun hc => ?_)
    · have haa11 := haa1.1 hc
      refine ev_seg (σ1 := ((d + 1), 192, 134, [some (.inr (.inr 86)), some (.inl x1)], [.inr (.inr 86)], (am_sh, am_mm (am_upd U 101 s1.toNat s2)))) 1 (fun _ => rfl) ?_
      obtain ⟨U1, haa11c, haa11a⟩ := haa11
      refine ev_cal (σc := (M_ahead_s0 d (am_upd U 101 s1.toNat s2))) (fun _ => rfl) haa11c ?_
      show Ev (am_kz N X) ((d + 1), 192, 137, [some (.inr (.inr 86)), some (.inl x1)], [], (am_sh, am_mm U1)) R
      refine ev_seg (σ1 := ((d + 1), 192, 146, [some (.inr (.inr 86)), some (.inl x1)], [.inl (U1 86 39), .inl x1, .inr (.inr 102)], (am_sh, am_mm U1))) 5 (fun _ => rfl) ?_
      refine eu_iast 102 (n := 16) rfl (by decide) rfl (fun _ => rfl) ha.1 ?_
      show Ev (am_kz N X) ((d + 1), 192, 147, [some (.inr (.inr 86)), some (.inl x1)], [], (am_sh, am_mm (am_upd U1 102 x1.toNat (U1 86 39)))) R
      refine ev_seg (σ1 := ((d + 1), 192, 149, [some (.inr (.inr 86)), some (.inl x1)], [.inl 1, .inr (.inr 86)], (am_sh, am_mm (am_upd U1 102 x1.toNat (U1 86 39))))) 2 (fun _ => rfl) ?_
      obtain ⟨U2, haa11ac, haa11aa⟩ := haa11a
      refine ev_cal (σc := (M_reads_s0 d 1 (am_upd U1 102 x1.toNat (U1 86 39)))) (fun _ => rfl) haa11ac ?_
      show Ev (am_kz N X) ((d + 1), 192, 152, [some (.inr (.inr 86)), some (.inl x1)], [], (am_sh, am_mm U2)) R
      refine ev_seg (σ1 := ((d + 1), 192, 161, [some (.inr (.inr 86)), some (.inl x1)], [.inl (U2 86 39), .inl x1, .inr (.inr 103)], (am_sh, am_mm U2))) 5 (fun _ => rfl) ?_
      refine eu_iast 103 (n := 16) rfl (by decide) rfl (fun _ => rfl) ha.1 ?_
      show Ev (am_kz N X) ((d + 1), 192, 162, [some (.inr (.inr 86)), some (.inl x1)], [], (am_sh, am_mm (am_upd U2 103 x1.toNat (U2 86 39)))) R
      refine ev_br (P := ¬ (U2 86 8) = 0) (σ1 := ((d + 1), 192, 182, [some (.inr (.inr 86)), some (.inl x1)], [], (am_sh, am_mm (am_upd U2 103 x1.toNat (U2 86 39))))) (σ2 := ((d + 1), 192, 169, [some (.inr (.inr 86)), some (.inl x1)], [], (am_sh, am_mm (am_upd U2 103 x1.toNat (U2 86 39))))) 3 (fun _ => rfl) (fun hc => ?_) (fun hc => ?_)
      · have haa11aa1 := haa11aa.1 hc
        subst haa11aa1
        exact ev_end 1 (fun _ => rfl)
      · have haa11aa2 := haa11aa.2 (Decidable.not_not.mp hc)
        refine ev_seg (σ1 := ((d + 1), 192, 178, [some (.inr (.inr 86)), some (.inl x1)], [.inl (U2 86 40), .inr (.inr 100), .inl (U2 86 40), .inr (.inr 100)], (am_sh, am_mm (am_upd U2 103 x1.toNat (U2 86 39))))) 5 (fun _ => rfl) ?_
        refine eu_iald 100 (n := 2) rfl (by decide) rfl (fun _ => rfl) haa11aa2.1 ?_
        show Ev (am_kz N X) ((d + 1), 192, 179, [some (.inr (.inr 86)), some (.inl x1)], [.inl (U2 100 ((U2 86 40).toNat)), .inl (U2 86 40), .inr (.inr 100)], (am_sh, am_mm (am_upd U2 103 x1.toNat (U2 86 39)))) R
        have haa11aa2a := haa11aa2.2
        refine ev_seg (σ1 := ((d + 1), 192, 181, [some (.inr (.inr 86)), some (.inl x1)], [.inl (w32 ((U2 100 ((U2 86 40).toNat)) + 1)), .inl (U2 86 40), .inr (.inr 100)], (am_sh, am_mm (am_upd U2 103 x1.toNat (U2 86 39))))) 2 (fun _ => rfl) ?_
        refine eu_iast 100 (n := 2) rfl (by decide) rfl (fun _ => rfl) haa11aa2.1 ?_
        show Ev (am_kz N X) ((d + 1), 192, 182, [some (.inr (.inr 86)), some (.inl x1)], [], (am_sh, am_mm (am_upd (am_upd U2 103 x1.toNat (U2 86 39)) 100 ((U2 86 40).toNat) (w32 ((U2 100 ((U2 86 40).toNat)) + 1))))) R
        subst haa11aa2a
        exact ev_end 1 (fun _ => rfl)
    · have haa12 := haa1.2 (Int.not_le.mp hc)
      subst haa12
      exact ev_end 1 (fun _ => rfl)
  · have haa2 := haa.2 (Decidable.not_not.mp hc)
    refine ev_seg (σ1 := ((d + 1), 192, 122, [some (.inr (.inr 86)), some (.inl x1)], [.inl (U 86 4), .inl 1, .inr (.inr 86)], (am_sh, am_mm (am_upd U 101 s1.toNat s2)))) 4 (fun _ => rfl) ?_
    obtain ⟨U3, haa2c, haa2a⟩ := haa2
    refine ev_cal (σc := (M_blame_s0 d 1 (U 86 4) (am_upd U 101 s1.toNat s2))) (fun _ => rfl) haa2c ?_
    show Ev (am_kz N X) ((d + 1), 192, 125, [some (.inr (.inr 86)), some (.inl x1)], [], (am_sh, am_mm U3)) R
    refine ev_br (P := (U3 86 8) ≤ 0) (σ1 := ((d + 1), 192, 133, [some (.inr (.inr 86)), some (.inl x1)], [], (am_sh, am_mm U3))) (σ2 := ((d + 1), 192, 132, [some (.inr (.inr 86)), some (.inl x1)], [], (am_sh, am_mm U3))) 3 (fun _ => rfl) (fun hc => ?_) (fun hc => ?_)
    · have haa2a1 := haa2a.1 hc
      refine ev_seg (σ1 := ((d + 1), 192, 134, [some (.inr (.inr 86)), some (.inl x1)], [.inr (.inr 86)], (am_sh, am_mm U3))) 1 (fun _ => rfl) ?_
      obtain ⟨U4, haa2a1c, haa2a1a⟩ := haa2a1
      refine ev_cal (σc := (M_ahead_s0 d U3)) (fun _ => rfl) haa2a1c ?_
      show Ev (am_kz N X) ((d + 1), 192, 137, [some (.inr (.inr 86)), some (.inl x1)], [], (am_sh, am_mm U4)) R
      refine ev_seg (σ1 := ((d + 1), 192, 146, [some (.inr (.inr 86)), some (.inl x1)], [.inl (U4 86 39), .inl x1, .inr (.inr 102)], (am_sh, am_mm U4))) 5 (fun _ => rfl) ?_
      refine eu_iast 102 (n := 16) rfl (by decide) rfl (fun _ => rfl) ha.1 ?_
      show Ev (am_kz N X) ((d + 1), 192, 147, [some (.inr (.inr 86)), some (.inl x1)], [], (am_sh, am_mm (am_upd U4 102 x1.toNat (U4 86 39)))) R
      refine ev_seg (σ1 := ((d + 1), 192, 149, [some (.inr (.inr 86)), some (.inl x1)], [.inl 1, .inr (.inr 86)], (am_sh, am_mm (am_upd U4 102 x1.toNat (U4 86 39))))) 2 (fun _ => rfl) ?_
      obtain ⟨U5, haa2a1ac, haa2a1aa⟩ := haa2a1a
      refine ev_cal (σc := (M_reads_s0 d 1 (am_upd U4 102 x1.toNat (U4 86 39)))) (fun _ => rfl) haa2a1ac ?_
      show Ev (am_kz N X) ((d + 1), 192, 152, [some (.inr (.inr 86)), some (.inl x1)], [], (am_sh, am_mm U5)) R
      refine ev_seg (σ1 := ((d + 1), 192, 161, [some (.inr (.inr 86)), some (.inl x1)], [.inl (U5 86 39), .inl x1, .inr (.inr 103)], (am_sh, am_mm U5))) 5 (fun _ => rfl) ?_
      refine eu_iast 103 (n := 16) rfl (by decide) rfl (fun _ => rfl) ha.1 ?_
      show Ev (am_kz N X) ((d + 1), 192, 162, [some (.inr (.inr 86)), some (.inl x1)], [], (am_sh, am_mm (am_upd U5 103 x1.toNat (U5 86 39)))) R
      refine ev_br (P := ¬ (U5 86 8) = 0) (σ1 := ((d + 1), 192, 182, [some (.inr (.inr 86)), some (.inl x1)], [], (am_sh, am_mm (am_upd U5 103 x1.toNat (U5 86 39))))) (σ2 := ((d + 1), 192, 169, [some (.inr (.inr 86)), some (.inl x1)], [], (am_sh, am_mm (am_upd U5 103 x1.toNat (U5 86 39))))) 3 (fun _ => rfl) (fun hc => ?_) (fun hc => ?_)
      · have haa2a1aa1 := haa2a1aa.1 hc
        subst haa2a1aa1
        exact ev_end 1 (fun _ => rfl)
      · have haa2a1aa2 := haa2a1aa.2 (Decidable.not_not.mp hc)
        refine ev_seg (σ1 := ((d + 1), 192, 178, [some (.inr (.inr 86)), some (.inl x1)], [.inl (U5 86 40), .inr (.inr 100), .inl (U5 86 40), .inr (.inr 100)], (am_sh, am_mm (am_upd U5 103 x1.toNat (U5 86 39))))) 5 (fun _ => rfl) ?_
        refine eu_iald 100 (n := 2) rfl (by decide) rfl (fun _ => rfl) haa2a1aa2.1 ?_
        show Ev (am_kz N X) ((d + 1), 192, 179, [some (.inr (.inr 86)), some (.inl x1)], [.inl (U5 100 ((U5 86 40).toNat)), .inl (U5 86 40), .inr (.inr 100)], (am_sh, am_mm (am_upd U5 103 x1.toNat (U5 86 39)))) R
        have haa2a1aa2a := haa2a1aa2.2
        refine ev_seg (σ1 := ((d + 1), 192, 181, [some (.inr (.inr 86)), some (.inl x1)], [.inl (w32 ((U5 100 ((U5 86 40).toNat)) + 1)), .inl (U5 86 40), .inr (.inr 100)], (am_sh, am_mm (am_upd U5 103 x1.toNat (U5 86 39))))) 2 (fun _ => rfl) ?_
        refine eu_iast 100 (n := 2) rfl (by decide) rfl (fun _ => rfl) haa2a1aa2.1 ?_
        show Ev (am_kz N X) ((d + 1), 192, 182, [some (.inr (.inr 86)), some (.inl x1)], [], (am_sh, am_mm (am_upd (am_upd U5 103 x1.toNat (U5 86 39)) 100 ((U5 86 40).toNat) (w32 ((U5 100 ((U5 86 40).toNat)) + 1))))) R
        subst haa2a1aa2a
        exact ev_end 1 (fun _ => rfl)
    · have haa2a2 := haa2a.2 (Int.not_le.mp hc)
      subst haa2a2
      exact ev_end 1 (fun _ => rfl)
set_option maxRecDepth 8000 in
theorem M_numbering_r0 {N : Nat} {X : Nat → Int} {d : Nat} {U : am_U} {R : Option am_V × am_M} (h : (0 ≤ (U 86 40) ∧ (U 86 40) < 2) ∧ (((U 97 ((U 86 40).toNat)) ≠ 16) → EvK N X (M_numbering_s20 (d + 1) 0 U) R) ∧ (((U 97 ((U 86 40).toNat)) = 16) → EvK N X (M_numbering_s20 (d + 1) 1 U) R)) : EvK N X (M_numbering_s0 (d + 1) U) R := by
  show Ev (am_kz N X) ((d + 1), 191, 0, [some (.inr (.inr 86)), none, none, none, none, none, none], [], (am_sh, am_mm U)) R
  refine ev_seg (σ1 := ((d + 1), 191, 9, [some (.inr (.inr 86)), none, none, none, none, none, none], [.inl (U 86 40), .inr (.inr 97), .inr (.inr 86)], (am_sh, am_mm U))) 5 (fun _ => rfl) ?_
  refine eu_iald 97 (n := 2) rfl (by decide) rfl (fun _ => rfl) h.1 ?_
  show Ev (am_kz N X) ((d + 1), 191, 10, [some (.inr (.inr 86)), none, none, none, none, none, none], [.inl (U 97 ((U 86 40).toNat)), .inr (.inr 86)], (am_sh, am_mm U)) R
  have ha := h.2
  refine ev_br (P := ¬ (U 97 ((U 86 40).toNat)) = 16) (σ1 := ((d + 1), 191, 19, [some (.inr (.inr 86)), none, none, none, none, none, none], [.inr (.inr 86)], (am_sh, am_mm U))) (σ2 := ((d + 1), 191, 15, [some (.inr (.inr 86)), none, none, none, none, none, none], [.inr (.inr 86)], (am_sh, am_mm U))) 2 (fun _ => rfl) (fun hc => ?_) (fun hc => ?_)
  · have ha1 := ha.1 hc
    refine ev_seg (σ1 := ((d + 1), 191, 20, [some (.inr (.inr 86)), none, none, none, none, none, none], [.inl 0, .inr (.inr 86)], (am_sh, am_mm U))) 1 (fun _ => rfl) ?_
    exact ha1
  · have ha2 := ha.2 (Decidable.not_not.mp hc)
    refine ev_seg (σ1 := ((d + 1), 191, 20, [some (.inr (.inr 86)), none, none, none, none, none, none], [.inl 1, .inr (.inr 86)], (am_sh, am_mm U))) 2 (fun _ => rfl) ?_
    exact ha2
set_option maxRecDepth 8000 in
theorem M_numbering_r20 {N : Nat} {X : Nat → Int} {d : Nat} {s1 : Int} {U : am_U} {R : Option am_V × am_M} (h : ∃ (r1 : Int) (U1 : am_U), EvK N X (M_counts_s0 d s1 U) (rI r1 U1) ∧ ((r1 ≠ 0) → (0 ≤ (U1 86 40) ∧ (U1 86 40) < 2) ∧ ∃ U2 : am_U, EvK N X (M_lex_s0 d U1) (rV U2) ∧ (((U2 86 8) ≠ 0) → ∃ U3 : am_U, EvK N X (M_lex_s0 d U2) (rV U3) ∧ (((U3 86 8) ≠ 0) → EvK N X (M_numbering_s112 (d + 1) (w32 ((w32 (16 * (U1 86 40))) + (U1 97 ((U1 86 40).toNat)))) 0 (U2 86 4) U3) R) ∧ (((U3 86 8) = 0) → (((U3 86 3) = 2) → EvK N X (M_numbering_s112 (d + 1) (w32 ((w32 (16 * (U1 86 40))) + (U1 97 ((U1 86 40).toNat)))) 0 (U2 86 4) U3) R) ∧ (((U3 86 3) ≠ 2) → ∃ U4 : am_U, EvK N X (M_blame_s0 d 1 (U3 86 4) U3) (rV U4) ∧ EvK N X (M_numbering_s112 (d + 1) (w32 ((w32 (16 * (U1 86 40))) + (U1 97 ((U1 86 40).toNat)))) 0 (U2 86 4) U4) R))) ∧ (((U2 86 8) = 0) → ∃ (r5 : Int) (U5 : am_U), EvK N X (M_isSign_s0 d 45 U2) (rI r5 U5) ∧ ((r5 = 0) → ∃ U6 : am_U, EvK N X (M_lex_s0 d U5) (rV U6) ∧ (((U6 86 8) ≠ 0) → EvK N X (M_numbering_s112 (d + 1) (w32 ((w32 (16 * (U1 86 40))) + (U1 97 ((U1 86 40).toNat)))) 0 (U5 86 4) U6) R) ∧ (((U6 86 8) = 0) → (((U6 86 3) = 2) → EvK N X (M_numbering_s112 (d + 1) (w32 ((w32 (16 * (U1 86 40))) + (U1 97 ((U1 86 40).toNat)))) 0 (U5 86 4) U6) R) ∧ (((U6 86 3) ≠ 2) → ∃ U7 : am_U, EvK N X (M_blame_s0 d 1 (U6 86 4) U6) (rV U7) ∧ EvK N X (M_numbering_s112 (d + 1) (w32 ((w32 (16 * (U1 86 40))) + (U1 97 ((U1 86 40).toNat)))) 0 (U5 86 4) U7) R))) ∧ ((r5 ≠ 0) → ∃ U8 : am_U, EvK N X (M_ahead_s0 d U5) (rV U8) ∧ ∃ U9 : am_U, EvK N X (M_lex_s0 d U8) (rV U9) ∧ (((U9 86 8) ≠ 0) → EvK N X (M_numbering_s112 (d + 1) (w32 ((w32 (16 * (U1 86 40))) + (U1 97 ((U1 86 40).toNat)))) 1 (U5 86 4) U9) R) ∧ (((U9 86 8) = 0) → (((U9 86 3) = 2) → EvK N X (M_numbering_s112 (d + 1) (w32 ((w32 (16 * (U1 86 40))) + (U1 97 ((U1 86 40).toNat)))) 1 (U5 86 4) U9) R) ∧ (((U9 86 3) ≠ 2) → ∃ U10 : am_U, EvK N X (M_blame_s0 d 1 (U9 86 4) U9) (rV U10) ∧ EvK N X (M_numbering_s112 (d + 1) (w32 ((w32 (16 * (U1 86 40))) + (U1 97 ((U1 86 40).toNat)))) 1 (U5 86 4) U10) R))))) ∧ ((r1 = 0) → R = rV U1)) : EvK N X (M_numbering_s20 (d + 1) s1 U) R := by
  show Ev (am_kz N X) ((d + 1), 191, 20, [some (.inr (.inr 86)), none, none, none, none, none, none], [.inl s1, .inr (.inr 86)], (am_sh, am_mm U)) R
  obtain ⟨r1, U1, hc, ha⟩ := h
  refine ev_cal (σc := (M_counts_s0 d s1 U)) (fun _ => rfl) hc ?_
  show Ev (am_kz N X) ((d + 1), 191, 23, [some (.inr (.inr 86)), none, none, none, none, none, none], [.inl r1], (am_sh, am_mm U1)) R
  refine ev_br (P := ¬ r1 = 0) (σ1 := ((d + 1), 191, 27, [some (.inr (.inr 86)), none, none, none, none, none, none], [], (am_sh, am_mm U1))) (σ2 := ((d + 1), 191, 26, [some (.inr (.inr 86)), none, none, none, none, none, none], [], (am_sh, am_mm U1))) 1 (fun _ => rfl) (fun hc => ?_) (fun hc => ?_)
  · have ha1 := ha.1 hc
    refine ev_seg (σ1 := ((d + 1), 191, 42, [some (.inr (.inr 86)), none, none, none, none, none, none], [.inl (U1 86 40), .inr (.inr 97), .inl (w32 (16 * (U1 86 40)))], (am_sh, am_mm U1))) 8 (fun _ => rfl) ?_
    refine eu_iald 97 (n := 2) rfl (by decide) rfl (fun _ => rfl) ha1.1 ?_
    show Ev (am_kz N X) ((d + 1), 191, 43, [some (.inr (.inr 86)), none, none, none, none, none, none], [.inl (U1 97 ((U1 86 40).toNat)), .inl (w32 (16 * (U1 86 40)))], (am_sh, am_mm U1)) R
    have ha1a := ha1.2
    refine ev_seg (σ1 := ((d + 1), 191, 46, [some (.inr (.inr 86)), some (.inl (w32 ((w32 (16 * (U1 86 40))) + (U1 97 ((U1 86 40).toNat))))), none, none, none, none, none], [.inr (.inr 86)], (am_sh, am_mm U1))) 3 (fun _ => rfl) ?_
    obtain ⟨U2, ha1ac, ha1aa⟩ := ha1a
    refine ev_cal (σc := (M_lex_s0 d U1)) (fun _ => rfl) ha1ac ?_
    show Ev (am_kz N X) ((d + 1), 191, 49, [some (.inr (.inr 86)), some (.inl (w32 ((w32 (16 * (U1 86 40))) + (U1 97 ((U1 86 40).toNat))))), none, none, none, none, none], [], (am_sh, am_mm U2)) R
    refine ev_br (P := ¬ (U2 86 8) = 0) (σ1 := ((d + 1), 191, 69, [some (.inr (.inr 86)), some (.inl (w32 ((w32 (16 * (U1 86 40))) + (U1 97 ((U1 86 40).toNat))))), none, none, none, none, none], [], (am_sh, am_mm U2))) (σ2 := ((d + 1), 191, 56, [some (.inr (.inr 86)), some (.inl (w32 ((w32 (16 * (U1 86 40))) + (U1 97 ((U1 86 40).toNat))))), none, none, none, none, none], [], (am_sh, am_mm U2))) 3 (fun _ => rfl) (fun hc => ?_) (fun hc => ?_)
    · have ha1aa1 := ha1aa.1 hc
      refine ev_seg (σ1 := ((d + 1), 191, 85, [some (.inr (.inr 86)), some (.inl (w32 ((w32 (16 * (U1 86 40))) + (U1 97 ((U1 86 40).toNat))))), some (.inl 0), some (.inl (U2 86 4)), none, none, none], [.inr (.inr 86)], (am_sh, am_mm U2))) 8 (fun _ => rfl) ?_
      obtain ⟨U3, ha1aa1c, ha1aa1a⟩ := ha1aa1
      refine ev_cal (σc := (M_lex_s0 d U2)) (fun _ => rfl) ha1aa1c ?_
      show Ev (am_kz N X) ((d + 1), 191, 88, [some (.inr (.inr 86)), some (.inl (w32 ((w32 (16 * (U1 86 40))) + (U1 97 ((U1 86 40).toNat))))), some (.inl 0), some (.inl (U2 86 4)), none, none, none], [], (am_sh, am_mm U3)) R
      refine ev_br (P := ¬ (U3 86 8) = 0) (σ1 := ((d + 1), 191, 112, [some (.inr (.inr 86)), some (.inl (w32 ((w32 (16 * (U1 86 40))) + (U1 97 ((U1 86 40).toNat))))), some (.inl 0), some (.inl (U2 86 4)), none, none, none], [], (am_sh, am_mm U3))) (σ2 := ((d + 1), 191, 95, [some (.inr (.inr 86)), some (.inl (w32 ((w32 (16 * (U1 86 40))) + (U1 97 ((U1 86 40).toNat))))), some (.inl 0), some (.inl (U2 86 4)), none, none, none], [], (am_sh, am_mm U3))) 3 (fun _ => rfl) (fun hc => ?_) (fun hc => ?_)
      · have ha1aa1a1 := ha1aa1a.1 hc
        exact ha1aa1a1
      · have ha1aa1a2 := ha1aa1a.2 (Decidable.not_not.mp hc)
        refine ev_br (P := (U3 86 3) = 2) (σ1 := ((d + 1), 191, 112, [some (.inr (.inr 86)), some (.inl (w32 ((w32 (16 * (U1 86 40))) + (U1 97 ((U1 86 40).toNat))))), some (.inl 0), some (.inl (U2 86 4)), none, none, none], [], (am_sh, am_mm U3))) (σ2 := ((d + 1), 191, 103, [some (.inr (.inr 86)), some (.inl (w32 ((w32 (16 * (U1 86 40))) + (U1 97 ((U1 86 40).toNat))))), some (.inl 0), some (.inl (U2 86 4)), none, none, none], [], (am_sh, am_mm U3))) 4 (fun _ => rfl) (fun hc => ?_) (fun hc => ?_)
        · have ha1aa1a21 := ha1aa1a2.1 hc
          exact ha1aa1a21
        · have ha1aa1a22 := ha1aa1a2.2 hc
          refine ev_seg (σ1 := ((d + 1), 191, 109, [some (.inr (.inr 86)), some (.inl (w32 ((w32 (16 * (U1 86 40))) + (U1 97 ((U1 86 40).toNat))))), some (.inl 0), some (.inl (U2 86 4)), none, none, none], [.inl (U3 86 4), .inl 1, .inr (.inr 86)], (am_sh, am_mm U3))) 4 (fun _ => rfl) ?_
          obtain ⟨U4, ha1aa1a22c, ha1aa1a22a⟩ := ha1aa1a22
          refine ev_cal (σc := (M_blame_s0 d 1 (U3 86 4) U3)) (fun _ => rfl) ha1aa1a22c ?_
          show Ev (am_kz N X) ((d + 1), 191, 112, [some (.inr (.inr 86)), some (.inl (w32 ((w32 (16 * (U1 86 40))) + (U1 97 ((U1 86 40).toNat))))), some (.inl 0), some (.inl (U2 86 4)), none, none, none], [], (am_sh, am_mm U4)) R
          exact ha1aa1a22a
    · have ha1aa2 := ha1aa.2 (Decidable.not_not.mp hc)
      refine ev_seg (σ1 := ((d + 1), 191, 59, [some (.inr (.inr 86)), some (.inl (w32 ((w32 (16 * (U1 86 40))) + (U1 97 ((U1 86 40).toNat))))), none, none, none, none, none], [.inl 45, .inr (.inr 86)], (am_sh, am_mm U2))) 2 (fun _ => rfl) ?_
      obtain ⟨r5, U5, ha1aa2c, ha1aa2a⟩ := ha1aa2
      refine ev_cal (σc := (M_isSign_s0 d 45 U2)) (fun _ => rfl) ha1aa2c ?_
      show Ev (am_kz N X) ((d + 1), 191, 62, [some (.inr (.inr 86)), some (.inl (w32 ((w32 (16 * (U1 86 40))) + (U1 97 ((U1 86 40).toNat))))), none, none, none, none, none], [.inl r5], (am_sh, am_mm U5)) R
      refine ev_br (P := r5 = 0) (σ1 := ((d + 1), 191, 69, [some (.inr (.inr 86)), some (.inl (w32 ((w32 (16 * (U1 86 40))) + (U1 97 ((U1 86 40).toNat))))), none, none, none, none, none], [], (am_sh, am_mm U5))) (σ2 := ((d + 1), 191, 65, [some (.inr (.inr 86)), some (.inl (w32 ((w32 (16 * (U1 86 40))) + (U1 97 ((U1 86 40).toNat))))), none, none, none, none, none], [], (am_sh, am_mm U5))) 1 (fun _ => rfl) (fun hc => ?_) (fun hc => ?_)
      · have ha1aa2a1 := ha1aa2a.1 hc
        refine ev_seg (σ1 := ((d + 1), 191, 85, [some (.inr (.inr 86)), some (.inl (w32 ((w32 (16 * (U1 86 40))) + (U1 97 ((U1 86 40).toNat))))), some (.inl 0), some (.inl (U5 86 4)), none, none, none], [.inr (.inr 86)], (am_sh, am_mm U5))) 8 (fun _ => rfl) ?_
        obtain ⟨U6, ha1aa2a1c, ha1aa2a1a⟩ := ha1aa2a1
        refine ev_cal (σc := (M_lex_s0 d U5)) (fun _ => rfl) ha1aa2a1c ?_
        show Ev (am_kz N X) ((d + 1), 191, 88, [some (.inr (.inr 86)), some (.inl (w32 ((w32 (16 * (U1 86 40))) + (U1 97 ((U1 86 40).toNat))))), some (.inl 0), some (.inl (U5 86 4)), none, none, none], [], (am_sh, am_mm U6)) R
        refine ev_br (P := ¬ (U6 86 8) = 0) (σ1 := ((d + 1), 191, 112, [some (.inr (.inr 86)), some (.inl (w32 ((w32 (16 * (U1 86 40))) + (U1 97 ((U1 86 40).toNat))))), some (.inl 0), some (.inl (U5 86 4)), none, none, none], [], (am_sh, am_mm U6))) (σ2 := ((d + 1), 191, 95, [some (.inr (.inr 86)), some (.inl (w32 ((w32 (16 * (U1 86 40))) + (U1 97 ((U1 86 40).toNat))))), some (.inl 0), some (.inl (U5 86 4)), none, none, none], [], (am_sh, am_mm U6))) 3 (fun _ => rfl) (fun hc => ?_) (fun hc => ?_)
        · have ha1aa2a1a1 := ha1aa2a1a.1 hc
          exact ha1aa2a1a1
        · have ha1aa2a1a2 := ha1aa2a1a.2 (Decidable.not_not.mp hc)
          refine ev_br (P := (U6 86 3) = 2) (σ1 := ((d + 1), 191, 112, [some (.inr (.inr 86)), some (.inl (w32 ((w32 (16 * (U1 86 40))) + (U1 97 ((U1 86 40).toNat))))), some (.inl 0), some (.inl (U5 86 4)), none, none, none], [], (am_sh, am_mm U6))) (σ2 := ((d + 1), 191, 103, [some (.inr (.inr 86)), some (.inl (w32 ((w32 (16 * (U1 86 40))) + (U1 97 ((U1 86 40).toNat))))), some (.inl 0), some (.inl (U5 86 4)), none, none, none], [], (am_sh, am_mm U6))) 4 (fun _ => rfl) (fun hc => ?_) (fun hc => ?_)
          · have ha1aa2a1a21 := ha1aa2a1a2.1 hc
            exact ha1aa2a1a21
          · have ha1aa2a1a22 := ha1aa2a1a2.2 hc
            refine ev_seg (σ1 := ((d + 1), 191, 109, [some (.inr (.inr 86)), some (.inl (w32 ((w32 (16 * (U1 86 40))) + (U1 97 ((U1 86 40).toNat))))), some (.inl 0), some (.inl (U5 86 4)), none, none, none], [.inl (U6 86 4), .inl 1, .inr (.inr 86)], (am_sh, am_mm U6))) 4 (fun _ => rfl) ?_
            obtain ⟨U7, ha1aa2a1a22c, ha1aa2a1a22a⟩ := ha1aa2a1a22
            refine ev_cal (σc := (M_blame_s0 d 1 (U6 86 4) U6)) (fun _ => rfl) ha1aa2a1a22c ?_
            show Ev (am_kz N X) ((d + 1), 191, 112, [some (.inr (.inr 86)), some (.inl (w32 ((w32 (16 * (U1 86 40))) + (U1 97 ((U1 86 40).toNat))))), some (.inl 0), some (.inl (U5 86 4)), none, none, none], [], (am_sh, am_mm U7)) R
            exact ha1aa2a1a22a
      · have ha1aa2a2 := ha1aa2a.2 hc
        refine ev_seg (σ1 := ((d + 1), 191, 81, [some (.inr (.inr 86)), some (.inl (w32 ((w32 (16 * (U1 86 40))) + (U1 97 ((U1 86 40).toNat))))), some (.inl 1), some (.inl (U5 86 4)), none, none, none], [.inr (.inr 86)], (am_sh, am_mm U5))) 9 (fun _ => rfl) ?_
        obtain ⟨U8, ha1aa2a2c, ha1aa2a2a⟩ := ha1aa2a2
        refine ev_cal (σc := (M_ahead_s0 d U5)) (fun _ => rfl) ha1aa2a2c ?_
        show Ev (am_kz N X) ((d + 1), 191, 84, [some (.inr (.inr 86)), some (.inl (w32 ((w32 (16 * (U1 86 40))) + (U1 97 ((U1 86 40).toNat))))), some (.inl 1), some (.inl (U5 86 4)), none, none, none], [], (am_sh, am_mm U8)) R
        refine ev_seg (σ1 := ((d + 1), 191, 85, [some (.inr (.inr 86)), some (.inl (w32 ((w32 (16 * (U1 86 40))) + (U1 97 ((U1 86 40).toNat))))), some (.inl 1), some (.inl (U5 86 4)), none, none, none], [.inr (.inr 86)], (am_sh, am_mm U8))) 1 (fun _ => rfl) ?_
        obtain ⟨U9, ha1aa2a2ac, ha1aa2a2aa⟩ := ha1aa2a2a
        refine ev_cal (σc := (M_lex_s0 d U8)) (fun _ => rfl) ha1aa2a2ac ?_
        show Ev (am_kz N X) ((d + 1), 191, 88, [some (.inr (.inr 86)), some (.inl (w32 ((w32 (16 * (U1 86 40))) + (U1 97 ((U1 86 40).toNat))))), some (.inl 1), some (.inl (U5 86 4)), none, none, none], [], (am_sh, am_mm U9)) R
        refine ev_br (P := ¬ (U9 86 8) = 0) (σ1 := ((d + 1), 191, 112, [some (.inr (.inr 86)), some (.inl (w32 ((w32 (16 * (U1 86 40))) + (U1 97 ((U1 86 40).toNat))))), some (.inl 1), some (.inl (U5 86 4)), none, none, none], [], (am_sh, am_mm U9))) (σ2 := ((d + 1), 191, 95, [some (.inr (.inr 86)), some (.inl (w32 ((w32 (16 * (U1 86 40))) + (U1 97 ((U1 86 40).toNat))))), some (.inl 1), some (.inl (U5 86 4)), none, none, none], [], (am_sh, am_mm U9))) 3 (fun _ => rfl) (fun hc => ?_) (fun hc => ?_)
        · have ha1aa2a2aa1 := ha1aa2a2aa.1 hc
          exact ha1aa2a2aa1
        · have ha1aa2a2aa2 := ha1aa2a2aa.2 (Decidable.not_not.mp hc)
          refine ev_br (P := (U9 86 3) = 2) (σ1 := ((d + 1), 191, 112, [some (.inr (.inr 86)), some (.inl (w32 ((w32 (16 * (U1 86 40))) + (U1 97 ((U1 86 40).toNat))))), some (.inl 1), some (.inl (U5 86 4)), none, none, none], [], (am_sh, am_mm U9))) (σ2 := ((d + 1), 191, 103, [some (.inr (.inr 86)), some (.inl (w32 ((w32 (16 * (U1 86 40))) + (U1 97 ((U1 86 40).toNat))))), some (.inl 1), some (.inl (U5 86 4)), none, none, none], [], (am_sh, am_mm U9))) 4 (fun _ => rfl) (fun hc => ?_) (fun hc => ?_)
          · have ha1aa2a2aa21 := ha1aa2a2aa2.1 hc
            exact ha1aa2a2aa21
          · have ha1aa2a2aa22 := ha1aa2a2aa2.2 hc
            refine ev_seg (σ1 := ((d + 1), 191, 109, [some (.inr (.inr 86)), some (.inl (w32 ((w32 (16 * (U1 86 40))) + (U1 97 ((U1 86 40).toNat))))), some (.inl 1), some (.inl (U5 86 4)), none, none, none], [.inl (U9 86 4), .inl 1, .inr (.inr 86)], (am_sh, am_mm U9))) 4 (fun _ => rfl) ?_
            obtain ⟨U10, ha1aa2a2aa22c, ha1aa2a2aa22a⟩ := ha1aa2a2aa22
            refine ev_cal (σc := (M_blame_s0 d 1 (U9 86 4) U9)) (fun _ => rfl) ha1aa2a2aa22c ?_
            show Ev (am_kz N X) ((d + 1), 191, 112, [some (.inr (.inr 86)), some (.inl (w32 ((w32 (16 * (U1 86 40))) + (U1 97 ((U1 86 40).toNat))))), some (.inl 1), some (.inl (U5 86 4)), none, none, none], [], (am_sh, am_mm U10)) R
            exact ha1aa2a2aa22a
  · have ha2 := ha.2 (Decidable.not_not.mp hc)
    subst ha2
    exact ev_end 1 (fun _ => rfl)
set_option maxRecDepth 8000 in
theorem M_numbering_r112 {N : Nat} {X : Nat → Int} {d : Nat} {x1 x2 x3 : Int} {U : am_U} {R : Option am_V × am_M} (h : (((U 86 8) ≤ 0) → ((x2 = 0) → (((U 86 6) ≠ 0) → EvK N X (M_numbering_s153 (d + 1) x1 x2 x3 (U 86 6) 0 0 U) R) ∧ (((U 86 6) = 0) → EvK N X (M_numbering_s153 (d + 1) x1 x2 x3 (U 86 6) 1 0 U) R)) ∧ ((x2 ≠ 0) → (((w32 (-(U 86 6))) ≠ 0) → EvK N X (M_numbering_s153 (d + 1) x1 x2 x3 (w32 (-(U 86 6))) 0 0 U) R) ∧ (((w32 (-(U 86 6))) = 0) → EvK N X (M_numbering_s153 (d + 1) x1 x2 x3 (w32 (-(U 86 6))) 1 0 U) R))) ∧ ((0 < (U 86 8)) → R = rV U)) : EvK N X (M_numbering_s112 (d + 1) x1 x2 x3 U) R := by
  show Ev (am_kz N X) ((d + 1), 191, 112, [some (.inr (.inr 86)), some (.inl x1), some (.inl x2), some (.inl x3), none, none, none], [], (am_sh, am_mm U)) R
  refine ev_br (P := (U 86 8) ≤ 0) (σ1 := ((d + 1), 191, 120, [some (.inr (.inr 86)), some (.inl x1), some (.inl x2), some (.inl x3), none, none, none], [], (am_sh, am_mm U))) (σ2 := ((d + 1), 191, 119, [some (.inr (.inr 86)), some (.inl x1), some (.inl x2), some (.inl x3), none, none, none], [], (am_sh, am_mm U))) 3 (fun _ => rfl) (fun hc => ?_) (fun hc => ?_)
  · have h1 := h.1 hc
    refine ev_br (P := x2 = 0) (σ1 := ((d + 1), 191, 132, [some (.inr (.inr 86)), some (.inl x1), some (.inl x2), some (.inl x3), none, none, none], [], (am_sh, am_mm U))) (σ2 := ((d + 1), 191, 124, [some (.inr (.inr 86)), some (.inl x1), some (.inl x2), some (.inl x3), none, none, none], [], (am_sh, am_mm U))) 2 (fun _ => rfl) (fun hc => ?_) (fun hc => ?_)
    · have h11 := h1.1 hc
      refine ev_br (P := ¬ (U 86 6) = 0) (σ1 := ((d + 1), 191, 147, [some (.inr (.inr 86)), some (.inl x1), some (.inl x2), some (.inl x3), some (.inl (U 86 6)), none, none], [], (am_sh, am_mm U))) (σ2 := ((d + 1), 191, 143, [some (.inr (.inr 86)), some (.inl x1), some (.inl x2), some (.inl x3), some (.inl (U 86 6)), none, none], [], (am_sh, am_mm U))) 5 (fun _ => rfl) (fun hc => ?_) (fun hc => ?_)
      · have h111 := h11.1 hc
        refine ev_seg (σ1 := ((d + 1), 191, 153, [some (.inr (.inr 86)), some (.inl x1), some (.inl x2), some (.inl x3), some (.inl (U 86 6)), some (.inl 0), some (.inl 0)], [], (am_sh, am_mm U))) 4 (fun _ => rfl) ?_
        exact h111
      · have h112 := h11.2 (Decidable.not_not.mp hc)
        refine ev_seg (σ1 := ((d + 1), 191, 153, [some (.inr (.inr 86)), some (.inl x1), some (.inl x2), some (.inl x3), some (.inl (U 86 6)), some (.inl 1), some (.inl 0)], [], (am_sh, am_mm U))) 5 (fun _ => rfl) ?_
        exact h112
    · have h12 := h1.2 hc
      refine ev_br (P := ¬ (w32 (-(U 86 6))) = 0) (σ1 := ((d + 1), 191, 147, [some (.inr (.inr 86)), some (.inl x1), some (.inl x2), some (.inl x3), some (.inl (w32 (-(U 86 6)))), none, none], [], (am_sh, am_mm U))) (σ2 := ((d + 1), 191, 143, [some (.inr (.inr 86)), some (.inl x1), some (.inl x2), some (.inl x3), some (.inl (w32 (-(U 86 6)))), none, none], [], (am_sh, am_mm U))) 7 (fun _ => rfl) (fun hc => ?_) (fun hc => ?_)
      · have h121 := h12.1 hc
        refine ev_seg (σ1 := ((d + 1), 191, 153, [some (.inr (.inr 86)), some (.inl x1), some (.inl x2), some (.inl x3), some (.inl (w32 (-(U 86 6)))), some (.inl 0), some (.inl 0)], [], (am_sh, am_mm U))) 4 (fun _ => rfl) ?_
        exact h121
      · have h122 := h12.2 (Decidable.not_not.mp hc)
        refine ev_seg (σ1 := ((d + 1), 191, 153, [some (.inr (.inr 86)), some (.inl x1), some (.inl x2), some (.inl x3), some (.inl (w32 (-(U 86 6)))), some (.inl 1), some (.inl 0)], [], (am_sh, am_mm U))) 5 (fun _ => rfl) ?_
        exact h122
  · have h2 := h.2 (Int.not_le.mp hc)
    subst h2
    exact ev_end 1 (fun _ => rfl)
set_option maxRecDepth 8000 in
theorem M_numbering_r153 {N : Nat} {X : Nat → Int} {d : Nat} {x1 x2 x3 x4 x5 x6 : Int} {U : am_U} {R : Option am_V × am_M} (h : (0 ≤ (U 86 40) ∧ (U 86 40) < 2) ∧ (((U 97 ((U 86 40).toNat)) ≤ x6) → ((x5 = 0) → (((U 86 8) ≤ 0) → ∃ U1 : am_U, EvK N X (M_ahead_s0 d U) (rV U1) ∧ (0 ≤ x1 ∧ x1 < 32) ∧ (((U1 86 12) ≠ (-1)) → EvK N X (M_numbering_s342 (d + 1) x1 x2 x3 x4 x5 x6 (am_upd (am_upd U1 98 x1.toNat x4) 99 x1.toNat (-1))) R) ∧ (((U1 86 12) = (-1)) → ∃ (r2 : Int) (U2 : am_U), EvK N X (M_isWord_s0 d 26990 (am_upd (am_upd U1 98 x1.toNat x4) 99 x1.toNat (-1))) (rI r2 U2) ∧ ((r2 = 0) → EvK N X (M_numbering_s342 (d + 1) x1 x2 x3 x4 x5 x6 U2) R) ∧ ((r2 ≠ 0) → ∃ U3 : am_U, EvK N X (M_ahead_s0 d U2) (rV U3) ∧ ∃ (r4 : Int) (U4 : am_U), EvK N X (M_looked_s0 d 1 U3) (rI r4 U4) ∧ (((U4 86 8) ≠ 0) → EvK N X (M_numbering_s323 (d + 1) x1 x2 x3 x4 x5 r4 U4) R) ∧ (((U4 86 8) = 0) → ∃ (r5 : Int) (U5 : am_U), EvK N X (M_livingTold_s0 d r4 U4) (rI r5 U5) ∧ (0 ≤ (w32 ((w32 (12 * (U5 86 40))) + r4)) ∧ (w32 ((w32 (12 * (U5 86 40))) + r4)) < 24) ∧ ((r5 ≠ (U5 93 ((w32 ((w32 (12 * (U5 86 40))) + r4)).toNat))) → EvK N X (M_numbering_s323 (d + 1) x1 x2 x3 x4 x5 r4 U5) R) ∧ ((r5 = (U5 93 ((w32 ((w32 (12 * (U5 86 40))) + r4)).toNat))) → ∃ U6 : am_U, EvK N X (M_blame_s0 d 3 (U5 86 4) U5) (rV U6) ∧ EvK N X (M_numbering_s323 (d + 1) x1 x2 x3 x4 x5 r4 U6) R))))) ∧ ((0 < (U 86 8)) → R = rV U)) ∧ ((x5 ≠ 0) → ((x2 = 0) → ∃ U7 : am_U, EvK N X (M_blame_s0 d 4 (U 86 4) U) (rV U7) ∧ (((U7 86 8) ≤ 0) → ∃ U8 : am_U, EvK N X (M_ahead_s0 d U7) (rV U8) ∧ (0 ≤ x1 ∧ x1 < 32) ∧ (((U8 86 12) ≠ (-1)) → EvK N X (M_numbering_s342 (d + 1) x1 x2 x3 x4 x5 x6 (am_upd (am_upd U8 98 x1.toNat x4) 99 x1.toNat (-1))) R) ∧ (((U8 86 12) = (-1)) → ∃ (r9 : Int) (U9 : am_U), EvK N X (M_isWord_s0 d 26990 (am_upd (am_upd U8 98 x1.toNat x4) 99 x1.toNat (-1))) (rI r9 U9) ∧ ((r9 = 0) → EvK N X (M_numbering_s342 (d + 1) x1 x2 x3 x4 x5 x6 U9) R) ∧ ((r9 ≠ 0) → ∃ U10 : am_U, EvK N X (M_ahead_s0 d U9) (rV U10) ∧ ∃ (r11 : Int) (U11 : am_U), EvK N X (M_looked_s0 d 1 U10) (rI r11 U11) ∧ (((U11 86 8) ≠ 0) → EvK N X (M_numbering_s323 (d + 1) x1 x2 x3 x4 x5 r11 U11) R) ∧ (((U11 86 8) = 0) → ∃ (r12 : Int) (U12 : am_U), EvK N X (M_livingTold_s0 d r11 U11) (rI r12 U12) ∧ (0 ≤ (w32 ((w32 (12 * (U12 86 40))) + r11)) ∧ (w32 ((w32 (12 * (U12 86 40))) + r11)) < 24) ∧ ((r12 ≠ (U12 93 ((w32 ((w32 (12 * (U12 86 40))) + r11)).toNat))) → EvK N X (M_numbering_s323 (d + 1) x1 x2 x3 x4 x5 r11 U12) R) ∧ ((r12 = (U12 93 ((w32 ((w32 (12 * (U12 86 40))) + r11)).toNat))) → ∃ U13 : am_U, EvK N X (M_blame_s0 d 3 (U12 86 4) U12) (rV U13) ∧ EvK N X (M_numbering_s323 (d + 1) x1 x2 x3 x4 x5 r11 U13) R))))) ∧ ((0 < (U7 86 8)) → R = rV U7)) ∧ ((x2 ≠ 0) → ∃ U14 : am_U, EvK N X (M_blame_s0 d 4 x3 U) (rV U14) ∧ (((U14 86 8) ≤ 0) → ∃ U15 : am_U, EvK N X (M_ahead_s0 d U14) (rV U15) ∧ (0 ≤ x1 ∧ x1 < 32) ∧ (((U15 86 12) ≠ (-1)) → EvK N X (M_numbering_s342 (d + 1) x1 x2 x3 x4 x5 x6 (am_upd (am_upd U15 98 x1.toNat x4) 99 x1.toNat (-1))) R) ∧ (((U15 86 12) = (-1)) → ∃ (r16 : Int) (U16 : am_U), EvK N X (M_isWord_s0 d 26990 (am_upd (am_upd U15 98 x1.toNat x4) 99 x1.toNat (-1))) (rI r16 U16) ∧ ((r16 = 0) → EvK N X (M_numbering_s342 (d + 1) x1 x2 x3 x4 x5 x6 U16) R) ∧ ((r16 ≠ 0) → ∃ U17 : am_U, EvK N X (M_ahead_s0 d U16) (rV U17) ∧ ∃ (r18 : Int) (U18 : am_U), EvK N X (M_looked_s0 d 1 U17) (rI r18 U18) ∧ (((U18 86 8) ≠ 0) → EvK N X (M_numbering_s323 (d + 1) x1 x2 x3 x4 x5 r18 U18) R) ∧ (((U18 86 8) = 0) → ∃ (r19 : Int) (U19 : am_U), EvK N X (M_livingTold_s0 d r18 U18) (rI r19 U19) ∧ (0 ≤ (w32 ((w32 (12 * (U19 86 40))) + r18)) ∧ (w32 ((w32 (12 * (U19 86 40))) + r18)) < 24) ∧ ((r19 ≠ (U19 93 ((w32 ((w32 (12 * (U19 86 40))) + r18)).toNat))) → EvK N X (M_numbering_s323 (d + 1) x1 x2 x3 x4 x5 r18 U19) R) ∧ ((r19 = (U19 93 ((w32 ((w32 (12 * (U19 86 40))) + r18)).toNat))) → ∃ U20 : am_U, EvK N X (M_blame_s0 d 3 (U19 86 4) U19) (rV U20) ∧ EvK N X (M_numbering_s323 (d + 1) x1 x2 x3 x4 x5 r18 U20) R))))) ∧ ((0 < (U14 86 8)) → R = rV U14)))) ∧ ((x6 < (U 97 ((U 86 40).toNat))) → ((x5 ≠ 0) → EvK N X (M_numbering_s153 (d + 1) x1 x2 x3 x4 1 (w32 (x6 + 1)) U) R) ∧ ((x5 = 0) → (0 ≤ (w32 ((w32 (16 * (U 86 40))) + x6)) ∧ (w32 ((w32 (16 * (U 86 40))) + x6)) < 32) ∧ (((U 98 ((w32 ((w32 (16 * (U 86 40))) + x6)).toNat)) ≠ x4) → EvK N X (M_numbering_s153 (d + 1) x1 x2 x3 x4 0 (w32 (x6 + 1)) U) R) ∧ (((U 98 ((w32 ((w32 (16 * (U 86 40))) + x6)).toNat)) = x4) → EvK N X (M_numbering_s153 (d + 1) x1 x2 x3 x4 1 (w32 (x6 + 1)) U) R)))) : EvK N X (M_numbering_s153 (d + 1) x1 x2 x3 x4 x5 x6 U) R := by
  show Ev (am_kz N X) ((d + 1), 191, 153, [some (.inr (.inr 86)), some (.inl x1), some (.inl x2), some (.inl x3), some (.inl x4), some (.inl x5), some (.inl x6)], [], (am_sh, am_mm U)) R
  refine ev_seg (σ1 := ((d + 1), 191, 163, [some (.inr (.inr 86)), some (.inl x1), some (.inl x2), some (.inl x3), some (.inl x4), some (.inl x5), some (.inl x6)], [.inl (U 86 40), .inr (.inr 97), .inl x6], (am_sh, am_mm U))) 5 (fun _ => rfl) ?_
  refine eu_iald 97 (n := 2) rfl (by decide) rfl (fun _ => rfl) h.1 ?_
  show Ev (am_kz N X) ((d + 1), 191, 164, [some (.inr (.inr 86)), some (.inl x1), some (.inl x2), some (.inl x3), some (.inl x4), some (.inl x5), some (.inl x6)], [.inl (U 97 ((U 86 40).toNat)), .inl x6], (am_sh, am_mm U)) R
  have ha := h.2
  refine ev_br (P := (U 97 ((U 86 40).toNat)) ≤ x6) (σ1 := ((d + 1), 191, 205, [some (.inr (.inr 86)), some (.inl x1), some (.inl x2), some (.inl x3), some (.inl x4), some (.inl x5), some (.inl x6)], [], (am_sh, am_mm U))) (σ2 := ((d + 1), 191, 167, [some (.inr (.inr 86)), some (.inl x1), some (.inl x2), some (.inl x3), some (.inl x4), some (.inl x5), some (.inl x6)], [], (am_sh, am_mm U))) 1 (fun _ => rfl) (fun hc => ?_) (fun hc => ?_)
  · have ha1 := ha.1 hc
    refine ev_br (P := x5 = 0) (σ1 := ((d + 1), 191, 227, [some (.inr (.inr 86)), some (.inl x1), some (.inl x2), some (.inl x3), some (.inl x4), some (.inl x5), some (.inl x6)], [], (am_sh, am_mm U))) (σ2 := ((d + 1), 191, 210, [some (.inr (.inr 86)), some (.inl x1), some (.inl x2), some (.inl x3), some (.inl x4), some (.inl x5), some (.inl x6)], [], (am_sh, am_mm U))) 2 (fun _ => rfl) (fun hc => ?_) (fun hc => ?_)
    · have ha11 := ha1.1 hc
      refine ev_br (P := (U 86 8) ≤ 0) (σ1 := ((d + 1), 191, 235, [some (.inr (.inr 86)), some (.inl x1), some (.inl x2), some (.inl x3), some (.inl x4), some (.inl x5), some (.inl x6)], [], (am_sh, am_mm U))) (σ2 := ((d + 1), 191, 234, [some (.inr (.inr 86)), some (.inl x1), some (.inl x2), some (.inl x3), some (.inl x4), some (.inl x5), some (.inl x6)], [], (am_sh, am_mm U))) 3 (fun _ => rfl) (fun hc => ?_) (fun hc => ?_)
      · have ha111 := ha11.1 hc
        refine ev_seg (σ1 := ((d + 1), 191, 236, [some (.inr (.inr 86)), some (.inl x1), some (.inl x2), some (.inl x3), some (.inl x4), some (.inl x5), some (.inl x6)], [.inr (.inr 86)], (am_sh, am_mm U))) 1 (fun _ => rfl) ?_
        obtain ⟨U1, ha111c, ha111a⟩ := ha111
        refine ev_cal (σc := (M_ahead_s0 d U)) (fun _ => rfl) ha111c ?_
        show Ev (am_kz N X) ((d + 1), 191, 239, [some (.inr (.inr 86)), some (.inl x1), some (.inl x2), some (.inl x3), some (.inl x4), some (.inl x5), some (.inl x6)], [], (am_sh, am_mm U1)) R
        refine ev_seg (σ1 := ((d + 1), 191, 246, [some (.inr (.inr 86)), some (.inl x1), some (.inl x2), some (.inl x3), some (.inl x4), some (.inl x5), some (.inl x6)], [.inl x4, .inl x1, .inr (.inr 98)], (am_sh, am_mm U1))) 4 (fun _ => rfl) ?_
        refine eu_iast 98 (n := 32) rfl (by decide) rfl (fun _ => rfl) ha111a.1 ?_
        show Ev (am_kz N X) ((d + 1), 191, 247, [some (.inr (.inr 86)), some (.inl x1), some (.inl x2), some (.inl x3), some (.inl x4), some (.inl x5), some (.inl x6)], [], (am_sh, am_mm (am_upd U1 98 x1.toNat x4))) R
        have ha111aa := ha111a.2
        refine ev_seg (σ1 := ((d + 1), 191, 253, [some (.inr (.inr 86)), some (.inl x1), some (.inl x2), some (.inl x3), some (.inl x4), some (.inl x5), some (.inl x6)], [.inl (-1), .inl x1, .inr (.inr 99)], (am_sh, am_mm (am_upd U1 98 x1.toNat x4)))) 4 (fun _ => rfl) ?_
        refine eu_iast 99 (n := 32) rfl (by decide) rfl (fun _ => rfl) ha111a.1 ?_
        show Ev (am_kz N X) ((d + 1), 191, 254, [some (.inr (.inr 86)), some (.inl x1), some (.inl x2), some (.inl x3), some (.inl x4), some (.inl x5), some (.inl x6)], [], (am_sh, am_mm (am_upd (am_upd U1 98 x1.toNat x4) 99 x1.toNat (-1)))) R
        refine ev_br (P := ¬ (U1 86 12) = (-1)) (σ1 := ((d + 1), 191, 342, [some (.inr (.inr 86)), some (.inl x1), some (.inl x2), some (.inl x3), some (.inl x4), some (.inl x5), some (.inl x6)], [], (am_sh, am_mm (am_upd (am_upd U1 98 x1.toNat x4) 99 x1.toNat (-1))))) (σ2 := ((d + 1), 191, 262, [some (.inr (.inr 86)), some (.inl x1), some (.inl x2), some (.inl x3), some (.inl x4), some (.inl x5), some (.inl x6)], [], (am_sh, am_mm (am_upd (am_upd U1 98 x1.toNat x4) 99 x1.toNat (-1))))) 4 (fun _ => rfl) (fun hc => ?_) (fun hc => ?_)
        · have ha111aa1 := ha111aa.1 hc
          exact ha111aa1
        · have ha111aa2 := ha111aa.2 (Decidable.not_not.mp hc)
          refine ev_seg (σ1 := ((d + 1), 191, 266, [some (.inr (.inr 86)), some (.inl x1), some (.inl x2), some (.inl x3), some (.inl x4), some (.inl x5), some (.inl x6)], [.inr (.inl 26990), .inr (.inr 86)], (am_sh, am_mm (am_upd (am_upd U1 98 x1.toNat x4) 99 x1.toNat (-1))))) 2 (fun _ => rfl) ?_
          obtain ⟨r2, U2, ha111aa2c, ha111aa2a⟩ := ha111aa2
          refine ev_cal (σc := (M_isWord_s0 d 26990 (am_upd (am_upd U1 98 x1.toNat x4) 99 x1.toNat (-1)))) (fun _ => rfl) ha111aa2c ?_
          show Ev (am_kz N X) ((d + 1), 191, 269, [some (.inr (.inr 86)), some (.inl x1), some (.inl x2), some (.inl x3), some (.inl x4), some (.inl x5), some (.inl x6)], [.inl r2], (am_sh, am_mm U2)) R
          refine ev_br (P := r2 = 0) (σ1 := ((d + 1), 191, 342, [some (.inr (.inr 86)), some (.inl x1), some (.inl x2), some (.inl x3), some (.inl x4), some (.inl x5), some (.inl x6)], [], (am_sh, am_mm U2))) (σ2 := ((d + 1), 191, 272, [some (.inr (.inr 86)), some (.inl x1), some (.inl x2), some (.inl x3), some (.inl x4), some (.inl x5), some (.inl x6)], [], (am_sh, am_mm U2))) 1 (fun _ => rfl) (fun hc => ?_) (fun hc => ?_)
          · have ha111aa2a1 := ha111aa2a.1 hc
            exact ha111aa2a1
          · have ha111aa2a2 := ha111aa2a.2 hc
            refine ev_seg (σ1 := ((d + 1), 191, 273, [some (.inr (.inr 86)), some (.inl x1), some (.inl x2), some (.inl x3), some (.inl x4), some (.inl x5), some (.inl x6)], [.inr (.inr 86)], (am_sh, am_mm U2))) 1 (fun _ => rfl) ?_
            obtain ⟨U3, ha111aa2a2c, ha111aa2a2a⟩ := ha111aa2a2
            refine ev_cal (σc := (M_ahead_s0 d U2)) (fun _ => rfl) ha111aa2a2c ?_
            show Ev (am_kz N X) ((d + 1), 191, 276, [some (.inr (.inr 86)), some (.inl x1), some (.inl x2), some (.inl x3), some (.inl x4), some (.inl x5), some (.inl x6)], [], (am_sh, am_mm U3)) R
            refine ev_seg (σ1 := ((d + 1), 191, 278, [some (.inr (.inr 86)), some (.inl x1), some (.inl x2), some (.inl x3), some (.inl x4), some (.inl x5), some (.inl x6)], [.inl 1, .inr (.inr 86)], (am_sh, am_mm U3))) 2 (fun _ => rfl) ?_
            obtain ⟨r4, U4, ha111aa2a2ac, ha111aa2a2aa⟩ := ha111aa2a2a
            refine ev_cal (σc := (M_looked_s0 d 1 U3)) (fun _ => rfl) ha111aa2a2ac ?_
            show Ev (am_kz N X) ((d + 1), 191, 281, [some (.inr (.inr 86)), some (.inl x1), some (.inl x2), some (.inl x3), some (.inl x4), some (.inl x5), some (.inl x6)], [.inl r4], (am_sh, am_mm U4)) R
            refine ev_br (P := ¬ (U4 86 8) = 0) (σ1 := ((d + 1), 191, 323, [some (.inr (.inr 86)), some (.inl x1), some (.inl x2), some (.inl x3), some (.inl x4), some (.inl x5), some (.inl r4)], [], (am_sh, am_mm U4))) (σ2 := ((d + 1), 191, 290, [some (.inr (.inr 86)), some (.inl x1), some (.inl x2), some (.inl x3), some (.inl x4), some (.inl x5), some (.inl r4)], [], (am_sh, am_mm U4))) 4 (fun _ => rfl) (fun hc => ?_) (fun hc => ?_)
            · have ha111aa2a2aa1 := ha111aa2a2aa.1 hc
              exact ha111aa2a2aa1
            · have ha111aa2a2aa2 := ha111aa2a2aa.2 (Decidable.not_not.mp hc)
              refine ev_seg (σ1 := ((d + 1), 191, 293, [some (.inr (.inr 86)), some (.inl x1), some (.inl x2), some (.inl x3), some (.inl x4), some (.inl x5), some (.inl r4)], [.inl r4, .inr (.inr 86)], (am_sh, am_mm U4))) 2 (fun _ => rfl) ?_
              obtain ⟨r5, U5, ha111aa2a2aa2c, ha111aa2a2aa2a⟩ := ha111aa2a2aa2
              refine ev_cal (σc := (M_livingTold_s0 d r4 U4)) (fun _ => rfl) ha111aa2a2aa2c ?_
              show Ev (am_kz N X) ((d + 1), 191, 296, [some (.inr (.inr 86)), some (.inl x1), some (.inl x2), some (.inl x3), some (.inl x4), some (.inl x5), some (.inl r4)], [.inl r5], (am_sh, am_mm U5)) R
              refine ev_seg (σ1 := ((d + 1), 191, 310, [some (.inr (.inr 86)), some (.inl x1), some (.inl x2), some (.inl x3), some (.inl x4), some (.inl x5), some (.inl r4)], [.inl (w32 ((w32 (12 * (U5 86 40))) + r4)), .inr (.inr 93), .inl r5], (am_sh, am_mm U5))) 8 (fun _ => rfl) ?_
              refine eu_iald 93 (n := 24) rfl (by decide) rfl (fun _ => rfl) ha111aa2a2aa2a.1 ?_
              show Ev (am_kz N X) ((d + 1), 191, 311, [some (.inr (.inr 86)), some (.inl x1), some (.inl x2), some (.inl x3), some (.inl x4), some (.inl x5), some (.inl r4)], [.inl (U5 93 ((w32 ((w32 (12 * (U5 86 40))) + r4)).toNat)), .inl r5], (am_sh, am_mm U5)) R
              have ha111aa2a2aa2aa := ha111aa2a2aa2a.2
              refine ev_br (P := ¬ r5 = (U5 93 ((w32 ((w32 (12 * (U5 86 40))) + r4)).toNat))) (σ1 := ((d + 1), 191, 323, [some (.inr (.inr 86)), some (.inl x1), some (.inl x2), some (.inl x3), some (.inl x4), some (.inl x5), some (.inl r4)], [], (am_sh, am_mm U5))) (σ2 := ((d + 1), 191, 314, [some (.inr (.inr 86)), some (.inl x1), some (.inl x2), some (.inl x3), some (.inl x4), some (.inl x5), some (.inl r4)], [], (am_sh, am_mm U5))) 1 (fun _ => rfl) (fun hc => ?_) (fun hc => ?_)
              · have ha111aa2a2aa2aa1 := ha111aa2a2aa2aa.1 hc
                exact ha111aa2a2aa2aa1
              · have ha111aa2a2aa2aa2 := ha111aa2a2aa2aa.2 (Decidable.not_not.mp hc)
                refine ev_seg (σ1 := ((d + 1), 191, 320, [some (.inr (.inr 86)), some (.inl x1), some (.inl x2), some (.inl x3), some (.inl x4), some (.inl x5), some (.inl r4)], [.inl (U5 86 4), .inl 3, .inr (.inr 86)], (am_sh, am_mm U5))) 4 (fun _ => rfl) ?_
                obtain ⟨U6, ha111aa2a2aa2aa2c, ha111aa2a2aa2aa2a⟩ := ha111aa2a2aa2aa2
                refine ev_cal (σc := (M_blame_s0 d 3 (U5 86 4) U5)) (fun _ => rfl) ha111aa2a2aa2aa2c ?_
                show Ev (am_kz N X) ((d + 1), 191, 323, [some (.inr (.inr 86)), some (.inl x1), some (.inl x2), some (.inl x3), some (.inl x4), some (.inl x5), some (.inl r4)], [], (am_sh, am_mm U6)) R
                exact ha111aa2a2aa2aa2a
      · have ha112 := ha11.2 (Int.not_le.mp hc)
        subst ha112
        exact ev_end 1 (fun _ => rfl)
    · have ha12 := ha1.2 hc
      refine ev_br (P := x2 = 0) (σ1 := ((d + 1), 191, 220, [some (.inr (.inr 86)), some (.inl x1), some (.inl x2), some (.inl x3), some (.inl x4), some (.inl x5), some (.inl x6)], [.inl 4, .inr (.inr 86)], (am_sh, am_mm U))) (σ2 := ((d + 1), 191, 216, [some (.inr (.inr 86)), some (.inl x1), some (.inl x2), some (.inl x3), some (.inl x4), some (.inl x5), some (.inl x6)], [.inl 4, .inr (.inr 86)], (am_sh, am_mm U))) 4 (fun _ => rfl) (fun hc => ?_) (fun hc => ?_)
      · have ha121 := ha12.1 hc
        refine ev_seg (σ1 := ((d + 1), 191, 224, [some (.inr (.inr 86)), some (.inl x1), some (.inl x2), some (.inl x3), some (.inl x4), some (.inl x5), some (.inl x6)], [.inl (U 86 4), .inl 4, .inr (.inr 86)], (am_sh, am_mm U))) 2 (fun _ => rfl) ?_
        obtain ⟨U7, ha121c, ha121a⟩ := ha121
        refine ev_cal (σc := (M_blame_s0 d 4 (U 86 4) U)) (fun _ => rfl) ha121c ?_
        show Ev (am_kz N X) ((d + 1), 191, 227, [some (.inr (.inr 86)), some (.inl x1), some (.inl x2), some (.inl x3), some (.inl x4), some (.inl x5), some (.inl x6)], [], (am_sh, am_mm U7)) R
        refine ev_br (P := (U7 86 8) ≤ 0) (σ1 := ((d + 1), 191, 235, [some (.inr (.inr 86)), some (.inl x1), some (.inl x2), some (.inl x3), some (.inl x4), some (.inl x5), some (.inl x6)], [], (am_sh, am_mm U7))) (σ2 := ((d + 1), 191, 234, [some (.inr (.inr 86)), some (.inl x1), some (.inl x2), some (.inl x3), some (.inl x4), some (.inl x5), some (.inl x6)], [], (am_sh, am_mm U7))) 3 (fun _ => rfl) (fun hc => ?_) (fun hc => ?_)
        · have ha121a1 := ha121a.1 hc
          refine ev_seg (σ1 := ((d + 1), 191, 236, [some (.inr (.inr 86)), some (.inl x1), some (.inl x2), some (.inl x3), some (.inl x4), some (.inl x5), some (.inl x6)], [.inr (.inr 86)], (am_sh, am_mm U7))) 1 (fun _ => rfl) ?_
          obtain ⟨U8, ha121a1c, ha121a1a⟩ := ha121a1
          refine ev_cal (σc := (M_ahead_s0 d U7)) (fun _ => rfl) ha121a1c ?_
          show Ev (am_kz N X) ((d + 1), 191, 239, [some (.inr (.inr 86)), some (.inl x1), some (.inl x2), some (.inl x3), some (.inl x4), some (.inl x5), some (.inl x6)], [], (am_sh, am_mm U8)) R
          refine ev_seg (σ1 := ((d + 1), 191, 246, [some (.inr (.inr 86)), some (.inl x1), some (.inl x2), some (.inl x3), some (.inl x4), some (.inl x5), some (.inl x6)], [.inl x4, .inl x1, .inr (.inr 98)], (am_sh, am_mm U8))) 4 (fun _ => rfl) ?_
          refine eu_iast 98 (n := 32) rfl (by decide) rfl (fun _ => rfl) ha121a1a.1 ?_
          show Ev (am_kz N X) ((d + 1), 191, 247, [some (.inr (.inr 86)), some (.inl x1), some (.inl x2), some (.inl x3), some (.inl x4), some (.inl x5), some (.inl x6)], [], (am_sh, am_mm (am_upd U8 98 x1.toNat x4))) R
          have ha121a1aa := ha121a1a.2
          refine ev_seg (σ1 := ((d + 1), 191, 253, [some (.inr (.inr 86)), some (.inl x1), some (.inl x2), some (.inl x3), some (.inl x4), some (.inl x5), some (.inl x6)], [.inl (-1), .inl x1, .inr (.inr 99)], (am_sh, am_mm (am_upd U8 98 x1.toNat x4)))) 4 (fun _ => rfl) ?_
          refine eu_iast 99 (n := 32) rfl (by decide) rfl (fun _ => rfl) ha121a1a.1 ?_
          show Ev (am_kz N X) ((d + 1), 191, 254, [some (.inr (.inr 86)), some (.inl x1), some (.inl x2), some (.inl x3), some (.inl x4), some (.inl x5), some (.inl x6)], [], (am_sh, am_mm (am_upd (am_upd U8 98 x1.toNat x4) 99 x1.toNat (-1)))) R
          refine ev_br (P := ¬ (U8 86 12) = (-1)) (σ1 := ((d + 1), 191, 342, [some (.inr (.inr 86)), some (.inl x1), some (.inl x2), some (.inl x3), some (.inl x4), some (.inl x5), some (.inl x6)], [], (am_sh, am_mm (am_upd (am_upd U8 98 x1.toNat x4) 99 x1.toNat (-1))))) (σ2 := ((d + 1), 191, 262, [some (.inr (.inr 86)), some (.inl x1), some (.inl x2), some (.inl x3), some (.inl x4), some (.inl x5), some (.inl x6)], [], (am_sh, am_mm (am_upd (am_upd U8 98 x1.toNat x4) 99 x1.toNat (-1))))) 4 (fun _ => rfl) (fun hc => ?_) (fun hc => ?_)
          · have ha121a1aa1 := ha121a1aa.1 hc
            exact ha121a1aa1
          · have ha121a1aa2 := ha121a1aa.2 (Decidable.not_not.mp hc)
            refine ev_seg (σ1 := ((d + 1), 191, 266, [some (.inr (.inr 86)), some (.inl x1), some (.inl x2), some (.inl x3), some (.inl x4), some (.inl x5), some (.inl x6)], [.inr (.inl 26990), .inr (.inr 86)], (am_sh, am_mm (am_upd (am_upd U8 98 x1.toNat x4) 99 x1.toNat (-1))))) 2 (fun _ => rfl) ?_
            obtain ⟨r9, U9, ha121a1aa2c, ha121a1aa2a⟩ := ha121a1aa2
            refine ev_cal (σc := (M_isWord_s0 d 26990 (am_upd (am_upd U8 98 x1.toNat x4) 99 x1.toNat (-1)))) (fun _ => rfl) ha121a1aa2c ?_
            show Ev (am_kz N X) ((d + 1), 191, 269, [some (.inr (.inr 86)), some (.inl x1), some (.inl x2), some (.inl x3), some (.inl x4), some (.inl x5), some (.inl x6)], [.inl r9], (am_sh, am_mm U9)) R
            refine ev_br (P := r9 = 0) (σ1 := ((d + 1), 191, 342, [some (.inr (.inr 86)), some (.inl x1), some (.inl x2), some (.inl x3), some (.inl x4), some (.inl x5), some (.inl x6)], [], (am_sh, am_mm U9))) (σ2 := ((d + 1), 191, 272, [some (.inr (.inr 86)), some (.inl x1), some (.inl x2), some (.inl x3), some (.inl x4), some (.inl x5), some (.inl x6)], [], (am_sh, am_mm U9))) 1 (fun _ => rfl) (fun hc => ?_) (fun hc => ?_)
            · have ha121a1aa2a1 := ha121a1aa2a.1 hc
              exact ha121a1aa2a1
            · have ha121a1aa2a2 := ha121a1aa2a.2 hc
              refine ev_seg (σ1 := ((d + 1), 191, 273, [some (.inr (.inr 86)), some (.inl x1), some (.inl x2), some (.inl x3), some (.inl x4), some (.inl x5), some (.inl x6)], [.inr (.inr 86)], (am_sh, am_mm U9))) 1 (fun _ => rfl) ?_
              obtain ⟨U10, ha121a1aa2a2c, ha121a1aa2a2a⟩ := ha121a1aa2a2
              refine ev_cal (σc := (M_ahead_s0 d U9)) (fun _ => rfl) ha121a1aa2a2c ?_
              show Ev (am_kz N X) ((d + 1), 191, 276, [some (.inr (.inr 86)), some (.inl x1), some (.inl x2), some (.inl x3), some (.inl x4), some (.inl x5), some (.inl x6)], [], (am_sh, am_mm U10)) R
              refine ev_seg (σ1 := ((d + 1), 191, 278, [some (.inr (.inr 86)), some (.inl x1), some (.inl x2), some (.inl x3), some (.inl x4), some (.inl x5), some (.inl x6)], [.inl 1, .inr (.inr 86)], (am_sh, am_mm U10))) 2 (fun _ => rfl) ?_
              obtain ⟨r11, U11, ha121a1aa2a2ac, ha121a1aa2a2aa⟩ := ha121a1aa2a2a
              refine ev_cal (σc := (M_looked_s0 d 1 U10)) (fun _ => rfl) ha121a1aa2a2ac ?_
              show Ev (am_kz N X) ((d + 1), 191, 281, [some (.inr (.inr 86)), some (.inl x1), some (.inl x2), some (.inl x3), some (.inl x4), some (.inl x5), some (.inl x6)], [.inl r11], (am_sh, am_mm U11)) R
              refine ev_br (P := ¬ (U11 86 8) = 0) (σ1 := ((d + 1), 191, 323, [some (.inr (.inr 86)), some (.inl x1), some (.inl x2), some (.inl x3), some (.inl x4), some (.inl x5), some (.inl r11)], [], (am_sh, am_mm U11))) (σ2 := ((d + 1), 191, 290, [some (.inr (.inr 86)), some (.inl x1), some (.inl x2), some (.inl x3), some (.inl x4), some (.inl x5), some (.inl r11)], [], (am_sh, am_mm U11))) 4 (fun _ => rfl) (fun hc => ?_) (fun hc => ?_)
              · have ha121a1aa2a2aa1 := ha121a1aa2a2aa.1 hc
                exact ha121a1aa2a2aa1
              · have ha121a1aa2a2aa2 := ha121a1aa2a2aa.2 (Decidable.not_not.mp hc)
                refine ev_seg (σ1 := ((d + 1), 191, 293, [some (.inr (.inr 86)), some (.inl x1), some (.inl x2), some (.inl x3), some (.inl x4), some (.inl x5), some (.inl r11)], [.inl r11, .inr (.inr 86)], (am_sh, am_mm U11))) 2 (fun _ => rfl) ?_
                obtain ⟨r12, U12, ha121a1aa2a2aa2c, ha121a1aa2a2aa2a⟩ := ha121a1aa2a2aa2
                refine ev_cal (σc := (M_livingTold_s0 d r11 U11)) (fun _ => rfl) ha121a1aa2a2aa2c ?_
                show Ev (am_kz N X) ((d + 1), 191, 296, [some (.inr (.inr 86)), some (.inl x1), some (.inl x2), some (.inl x3), some (.inl x4), some (.inl x5), some (.inl r11)], [.inl r12], (am_sh, am_mm U12)) R
                refine ev_seg (σ1 := ((d + 1), 191, 310, [some (.inr (.inr 86)), some (.inl x1), some (.inl x2), some (.inl x3), some (.inl x4), some (.inl x5), some (.inl r11)], [.inl (w32 ((w32 (12 * (U12 86 40))) + r11)), .inr (.inr 93), .inl r12], (am_sh, am_mm U12))) 8 (fun _ => rfl) ?_
                refine eu_iald 93 (n := 24) rfl (by decide) rfl (fun _ => rfl) ha121a1aa2a2aa2a.1 ?_
                show Ev (am_kz N X) ((d + 1), 191, 311, [some (.inr (.inr 86)), some (.inl x1), some (.inl x2), some (.inl x3), some (.inl x4), some (.inl x5), some (.inl r11)], [.inl (U12 93 ((w32 ((w32 (12 * (U12 86 40))) + r11)).toNat)), .inl r12], (am_sh, am_mm U12)) R
                have ha121a1aa2a2aa2aa := ha121a1aa2a2aa2a.2
                refine ev_br (P := ¬ r12 = (U12 93 ((w32 ((w32 (12 * (U12 86 40))) + r11)).toNat))) (σ1 := ((d + 1), 191, 323, [some (.inr (.inr 86)), some (.inl x1), some (.inl x2), some (.inl x3), some (.inl x4), some (.inl x5), some (.inl r11)], [], (am_sh, am_mm U12))) (σ2 := ((d + 1), 191, 314, [some (.inr (.inr 86)), some (.inl x1), some (.inl x2), some (.inl x3), some (.inl x4), some (.inl x5), some (.inl r11)], [], (am_sh, am_mm U12))) 1 (fun _ => rfl) (fun hc => ?_) (fun hc => ?_)
                · have ha121a1aa2a2aa2aa1 := ha121a1aa2a2aa2aa.1 hc
                  exact ha121a1aa2a2aa2aa1
                · have ha121a1aa2a2aa2aa2 := ha121a1aa2a2aa2aa.2 (Decidable.not_not.mp hc)
                  refine ev_seg (σ1 := ((d + 1), 191, 320, [some (.inr (.inr 86)), some (.inl x1), some (.inl x2), some (.inl x3), some (.inl x4), some (.inl x5), some (.inl r11)], [.inl (U12 86 4), .inl 3, .inr (.inr 86)], (am_sh, am_mm U12))) 4 (fun _ => rfl) ?_
                  obtain ⟨U13, ha121a1aa2a2aa2aa2c, ha121a1aa2a2aa2aa2a⟩ := ha121a1aa2a2aa2aa2
                  refine ev_cal (σc := (M_blame_s0 d 3 (U12 86 4) U12)) (fun _ => rfl) ha121a1aa2a2aa2aa2c ?_
                  show Ev (am_kz N X) ((d + 1), 191, 323, [some (.inr (.inr 86)), some (.inl x1), some (.inl x2), some (.inl x3), some (.inl x4), some (.inl x5), some (.inl r11)], [], (am_sh, am_mm U13)) R
                  exact ha121a1aa2a2aa2aa2a
        · have ha121a2 := ha121a.2 (Int.not_le.mp hc)
          subst ha121a2
          exact ev_end 1 (fun _ => rfl)
      · have ha122 := ha12.2 hc
        refine ev_seg (σ1 := ((d + 1), 191, 224, [some (.inr (.inr 86)), some (.inl x1), some (.inl x2), some (.inl x3), some (.inl x4), some (.inl x5), some (.inl x6)], [.inl x3, .inl 4, .inr (.inr 86)], (am_sh, am_mm U))) 2 (fun _ => rfl) ?_
        obtain ⟨U14, ha122c, ha122a⟩ := ha122
        refine ev_cal (σc := (M_blame_s0 d 4 x3 U)) (fun _ => rfl) ha122c ?_
        show Ev (am_kz N X) ((d + 1), 191, 227, [some (.inr (.inr 86)), some (.inl x1), some (.inl x2), some (.inl x3), some (.inl x4), some (.inl x5), some (.inl x6)], [], (am_sh, am_mm U14)) R
        refine ev_br (P := (U14 86 8) ≤ 0) (σ1 := ((d + 1), 191, 235, [some (.inr (.inr 86)), some (.inl x1), some (.inl x2), some (.inl x3), some (.inl x4), some (.inl x5), some (.inl x6)], [], (am_sh, am_mm U14))) (σ2 := ((d + 1), 191, 234, [some (.inr (.inr 86)), some (.inl x1), some (.inl x2), some (.inl x3), some (.inl x4), some (.inl x5), some (.inl x6)], [], (am_sh, am_mm U14))) 3 (fun _ => rfl) (fun hc => ?_) (fun hc => ?_)
        · have ha122a1 := ha122a.1 hc
          refine ev_seg (σ1 := ((d + 1), 191, 236, [some (.inr (.inr 86)), some (.inl x1), some (.inl x2), some (.inl x3), some (.inl x4), some (.inl x5), some (.inl x6)], [.inr (.inr 86)], (am_sh, am_mm U14))) 1 (fun _ => rfl) ?_
          obtain ⟨U15, ha122a1c, ha122a1a⟩ := ha122a1
          refine ev_cal (σc := (M_ahead_s0 d U14)) (fun _ => rfl) ha122a1c ?_
          show Ev (am_kz N X) ((d + 1), 191, 239, [some (.inr (.inr 86)), some (.inl x1), some (.inl x2), some (.inl x3), some (.inl x4), some (.inl x5), some (.inl x6)], [], (am_sh, am_mm U15)) R
          refine ev_seg (σ1 := ((d + 1), 191, 246, [some (.inr (.inr 86)), some (.inl x1), some (.inl x2), some (.inl x3), some (.inl x4), some (.inl x5), some (.inl x6)], [.inl x4, .inl x1, .inr (.inr 98)], (am_sh, am_mm U15))) 4 (fun _ => rfl) ?_
          refine eu_iast 98 (n := 32) rfl (by decide) rfl (fun _ => rfl) ha122a1a.1 ?_
          show Ev (am_kz N X) ((d + 1), 191, 247, [some (.inr (.inr 86)), some (.inl x1), some (.inl x2), some (.inl x3), some (.inl x4), some (.inl x5), some (.inl x6)], [], (am_sh, am_mm (am_upd U15 98 x1.toNat x4))) R
          have ha122a1aa := ha122a1a.2
          refine ev_seg (σ1 := ((d + 1), 191, 253, [some (.inr (.inr 86)), some (.inl x1), some (.inl x2), some (.inl x3), some (.inl x4), some (.inl x5), some (.inl x6)], [.inl (-1), .inl x1, .inr (.inr 99)], (am_sh, am_mm (am_upd U15 98 x1.toNat x4)))) 4 (fun _ => rfl) ?_
          refine eu_iast 99 (n := 32) rfl (by decide) rfl (fun _ => rfl) ha122a1a.1 ?_
          show Ev (am_kz N X) ((d + 1), 191, 254, [some (.inr (.inr 86)), some (.inl x1), some (.inl x2), some (.inl x3), some (.inl x4), some (.inl x5), some (.inl x6)], [], (am_sh, am_mm (am_upd (am_upd U15 98 x1.toNat x4) 99 x1.toNat (-1)))) R
          refine ev_br (P := ¬ (U15 86 12) = (-1)) (σ1 := ((d + 1), 191, 342, [some (.inr (.inr 86)), some (.inl x1), some (.inl x2), some (.inl x3), some (.inl x4), some (.inl x5), some (.inl x6)], [], (am_sh, am_mm (am_upd (am_upd U15 98 x1.toNat x4) 99 x1.toNat (-1))))) (σ2 := ((d + 1), 191, 262, [some (.inr (.inr 86)), some (.inl x1), some (.inl x2), some (.inl x3), some (.inl x4), some (.inl x5), some (.inl x6)], [], (am_sh, am_mm (am_upd (am_upd U15 98 x1.toNat x4) 99 x1.toNat (-1))))) 4 (fun _ => rfl) (fun hc => ?_) (fun hc => ?_)
          · have ha122a1aa1 := ha122a1aa.1 hc
            exact ha122a1aa1
          · have ha122a1aa2 := ha122a1aa.2 (Decidable.not_not.mp hc)
            refine ev_seg (σ1 := ((d + 1), 191, 266, [some (.inr (.inr 86)), some (.inl x1), some (.inl x2), some (.inl x3), some (.inl x4), some (.inl x5), some (.inl x6)], [.inr (.inl 26990), .inr (.inr 86)], (am_sh, am_mm (am_upd (am_upd U15 98 x1.toNat x4) 99 x1.toNat (-1))))) 2 (fun _ => rfl) ?_
            obtain ⟨r16, U16, ha122a1aa2c, ha122a1aa2a⟩ := ha122a1aa2
            refine ev_cal (σc := (M_isWord_s0 d 26990 (am_upd (am_upd U15 98 x1.toNat x4) 99 x1.toNat (-1)))) (fun _ => rfl) ha122a1aa2c ?_
            show Ev (am_kz N X) ((d + 1), 191, 269, [some (.inr (.inr 86)), some (.inl x1), some (.inl x2), some (.inl x3), some (.inl x4), some (.inl x5), some (.inl x6)], [.inl r16], (am_sh, am_mm U16)) R
            refine ev_br (P := r16 = 0) (σ1 := ((d + 1), 191, 342, [some (.inr (.inr 86)), some (.inl x1), some (.inl x2), some (.inl x3), some (.inl x4), some (.inl x5), some (.inl x6)], [], (am_sh, am_mm U16))) (σ2 := ((d + 1), 191, 272, [some (.inr (.inr 86)), some (.inl x1), some (.inl x2), some (.inl x3), some (.inl x4), some (.inl x5), some (.inl x6)], [], (am_sh, am_mm U16))) 1 (fun _ => rfl) (fun hc => ?_) (fun hc => ?_)
            · have ha122a1aa2a1 := ha122a1aa2a.1 hc
              exact ha122a1aa2a1
            · have ha122a1aa2a2 := ha122a1aa2a.2 hc
              refine ev_seg (σ1 := ((d + 1), 191, 273, [some (.inr (.inr 86)), some (.inl x1), some (.inl x2), some (.inl x3), some (.inl x4), some (.inl x5), some (.inl x6)], [.inr (.inr 86)], (am_sh, am_mm U16))) 1 (fun _ => rfl) ?_
              obtain ⟨U17, ha122a1aa2a2c, ha122a1aa2a2a⟩ := ha122a1aa2a2
              refine ev_cal (σc := (M_ahead_s0 d U16)) (fun _ => rfl) ha122a1aa2a2c ?_
              show Ev (am_kz N X) ((d + 1), 191, 276, [some (.inr (.inr 86)), some (.inl x1), some (.inl x2), some (.inl x3), some (.inl x4), some (.inl x5), some (.inl x6)], [], (am_sh, am_mm U17)) R
              refine ev_seg (σ1 := ((d + 1), 191, 278, [some (.inr (.inr 86)), some (.inl x1), some (.inl x2), some (.inl x3), some (.inl x4), some (.inl x5), some (.inl x6)], [.inl 1, .inr (.inr 86)], (am_sh, am_mm U17))) 2 (fun _ => rfl) ?_
              obtain ⟨r18, U18, ha122a1aa2a2ac, ha122a1aa2a2aa⟩ := ha122a1aa2a2a
              refine ev_cal (σc := (M_looked_s0 d 1 U17)) (fun _ => rfl) ha122a1aa2a2ac ?_
              show Ev (am_kz N X) ((d + 1), 191, 281, [some (.inr (.inr 86)), some (.inl x1), some (.inl x2), some (.inl x3), some (.inl x4), some (.inl x5), some (.inl x6)], [.inl r18], (am_sh, am_mm U18)) R
              refine ev_br (P := ¬ (U18 86 8) = 0) (σ1 := ((d + 1), 191, 323, [some (.inr (.inr 86)), some (.inl x1), some (.inl x2), some (.inl x3), some (.inl x4), some (.inl x5), some (.inl r18)], [], (am_sh, am_mm U18))) (σ2 := ((d + 1), 191, 290, [some (.inr (.inr 86)), some (.inl x1), some (.inl x2), some (.inl x3), some (.inl x4), some (.inl x5), some (.inl r18)], [], (am_sh, am_mm U18))) 4 (fun _ => rfl) (fun hc => ?_) (fun hc => ?_)
              · have ha122a1aa2a2aa1 := ha122a1aa2a2aa.1 hc
                exact ha122a1aa2a2aa1
              · have ha122a1aa2a2aa2 := ha122a1aa2a2aa.2 (Decidable.not_not.mp hc)
                refine ev_seg (σ1 := ((d + 1), 191, 293, [some (.inr (.inr 86)), some (.inl x1), some (.inl x2), some (.inl x3), some (.inl x4), some (.inl x5), some (.inl r18)], [.inl r18, .inr (.inr 86)], (am_sh, am_mm U18))) 2 (fun _ => rfl) ?_
                obtain ⟨r19, U19, ha122a1aa2a2aa2c, ha122a1aa2a2aa2a⟩ := ha122a1aa2a2aa2
                refine ev_cal (σc := (M_livingTold_s0 d r18 U18)) (fun _ => rfl) ha122a1aa2a2aa2c ?_
                show Ev (am_kz N X) ((d + 1), 191, 296, [some (.inr (.inr 86)), some (.inl x1), some (.inl x2), some (.inl x3), some (.inl x4), some (.inl x5), some (.inl r18)], [.inl r19], (am_sh, am_mm U19)) R
                refine ev_seg (σ1 := ((d + 1), 191, 310, [some (.inr (.inr 86)), some (.inl x1), some (.inl x2), some (.inl x3), some (.inl x4), some (.inl x5), some (.inl r18)], [.inl (w32 ((w32 (12 * (U19 86 40))) + r18)), .inr (.inr 93), .inl r19], (am_sh, am_mm U19))) 8 (fun _ => rfl) ?_
                refine eu_iald 93 (n := 24) rfl (by decide) rfl (fun _ => rfl) ha122a1aa2a2aa2a.1 ?_
                show Ev (am_kz N X) ((d + 1), 191, 311, [some (.inr (.inr 86)), some (.inl x1), some (.inl x2), some (.inl x3), some (.inl x4), some (.inl x5), some (.inl r18)], [.inl (U19 93 ((w32 ((w32 (12 * (U19 86 40))) + r18)).toNat)), .inl r19], (am_sh, am_mm U19)) R
                have ha122a1aa2a2aa2aa := ha122a1aa2a2aa2a.2
                refine ev_br (P := ¬ r19 = (U19 93 ((w32 ((w32 (12 * (U19 86 40))) + r18)).toNat))) (σ1 := ((d + 1), 191, 323, [some (.inr (.inr 86)), some (.inl x1), some (.inl x2), some (.inl x3), some (.inl x4), some (.inl x5), some (.inl r18)], [], (am_sh, am_mm U19))) (σ2 := ((d + 1), 191, 314, [some (.inr (.inr 86)), some (.inl x1), some (.inl x2), some (.inl x3), some (.inl x4), some (.inl x5), some (.inl r18)], [], (am_sh, am_mm U19))) 1 (fun _ => rfl) (fun hc => ?_) (fun hc => ?_)
                · have ha122a1aa2a2aa2aa1 := ha122a1aa2a2aa2aa.1 hc
                  exact ha122a1aa2a2aa2aa1
                · have ha122a1aa2a2aa2aa2 := ha122a1aa2a2aa2aa.2 (Decidable.not_not.mp hc)
                  refine ev_seg (σ1 := ((d + 1), 191, 320, [some (.inr (.inr 86)), some (.inl x1), some (.inl x2), some (.inl x3), some (.inl x4), some (.inl x5), some (.inl r18)], [.inl (U19 86 4), .inl 3, .inr (.inr 86)], (am_sh, am_mm U19))) 4 (fun _ => rfl) ?_
                  obtain ⟨U20, ha122a1aa2a2aa2aa2c, ha122a1aa2a2aa2aa2a⟩ := ha122a1aa2a2aa2aa2
                  refine ev_cal (σc := (M_blame_s0 d 3 (U19 86 4) U19)) (fun _ => rfl) ha122a1aa2a2aa2aa2c ?_
                  show Ev (am_kz N X) ((d + 1), 191, 323, [some (.inr (.inr 86)), some (.inl x1), some (.inl x2), some (.inl x3), some (.inl x4), some (.inl x5), some (.inl r18)], [], (am_sh, am_mm U20)) R
                  exact ha122a1aa2a2aa2aa2a
        · have ha122a2 := ha122a.2 (Int.not_le.mp hc)
          subst ha122a2
          exact ev_end 1 (fun _ => rfl)
  · have ha2 := ha.2 (Int.not_le.mp hc)
    refine ev_br (P := ¬ x5 = 0) (σ1 := ((d + 1), 191, 192, [some (.inr (.inr 86)), some (.inl x1), some (.inl x2), some (.inl x3), some (.inl x4), some (.inl x5), some (.inl x6)], [], (am_sh, am_mm U))) (σ2 := ((d + 1), 191, 172, [some (.inr (.inr 86)), some (.inl x1), some (.inl x2), some (.inl x3), some (.inl x4), some (.inl x5), some (.inl x6)], [], (am_sh, am_mm U))) 2 (fun _ => rfl) (fun hc => ?_) (fun hc => ?_)
    · have ha21 := ha2.1 hc
      refine ev_seg (σ1 := ((d + 1), 191, 153, [some (.inr (.inr 86)), some (.inl x1), some (.inl x2), some (.inl x3), some (.inl x4), some (.inl 1), some (.inl (w32 (x6 + 1)))], [], (am_sh, am_mm U))) 5 (fun _ => rfl) ?_
      exact ha21
    · have ha22 := ha2.2 (Decidable.not_not.mp hc)
      refine ev_seg (σ1 := ((d + 1), 191, 186, [some (.inr (.inr 86)), some (.inl x1), some (.inl x2), some (.inl x3), some (.inl x4), some (.inl x5), some (.inl x6)], [.inl (w32 ((w32 (16 * (U 86 40))) + x6)), .inr (.inr 98)], (am_sh, am_mm U))) 8 (fun _ => rfl) ?_
      refine eu_iald 98 (n := 32) rfl (by decide) rfl (fun _ => rfl) ha22.1 ?_
      show Ev (am_kz N X) ((d + 1), 191, 187, [some (.inr (.inr 86)), some (.inl x1), some (.inl x2), some (.inl x3), some (.inl x4), some (.inl x5), some (.inl x6)], [.inl (U 98 ((w32 ((w32 (16 * (U 86 40))) + x6)).toNat))], (am_sh, am_mm U)) R
      have ha22a := ha22.2
      refine ev_br (P := ¬ (U 98 ((w32 ((w32 (16 * (U 86 40))) + x6)).toNat)) = x4) (σ1 := ((d + 1), 191, 196, [some (.inr (.inr 86)), some (.inl x1), some (.inl x2), some (.inl x3), some (.inl x4), some (.inl x5), some (.inl x6)], [], (am_sh, am_mm U))) (σ2 := ((d + 1), 191, 192, [some (.inr (.inr 86)), some (.inl x1), some (.inl x2), some (.inl x3), some (.inl x4), some (.inl x5), some (.inl x6)], [], (am_sh, am_mm U))) 2 (fun _ => rfl) (fun hc => ?_) (fun hc => ?_)
      · have ha22a1 := ha22a.1 hc
        refine ev_seg (σ1 := ((d + 1), 191, 153, [some (.inr (.inr 86)), some (.inl x1), some (.inl x2), some (.inl x3), some (.inl x4), some (.inl 0), some (.inl (w32 (x6 + 1)))], [], (am_sh, am_mm U))) 4 (fun _ => rfl) ?_
        exact ha22a1
      · have ha22a2 := ha22a.2 (Decidable.not_not.mp hc)
        refine ev_seg (σ1 := ((d + 1), 191, 153, [some (.inr (.inr 86)), some (.inl x1), some (.inl x2), some (.inl x3), some (.inl x4), some (.inl 1), some (.inl (w32 (x6 + 1)))], [], (am_sh, am_mm U))) 5 (fun _ => rfl) ?_
        exact ha22a2
set_option maxRecDepth 8000 in
theorem M_numbering_r342 {N : Nat} {X : Nat → Int} {d : Nat} {x1 x2 x3 x4 x5 x6 : Int} {U : am_U} {R : Option am_V × am_M} (h : (((U 86 8) ≠ 0) → R = rV U) ∧ (((U 86 8) = 0) → (0 ≤ (U 86 40) ∧ (U 86 40) < 2) ∧ R = rV (am_upd U 97 ((U 86 40).toNat) (w32 ((U 97 ((U 86 40).toNat)) + 1))))) : EvK N X (M_numbering_s342 (d + 1) x1 x2 x3 x4 x5 x6 U) R := by
  show Ev (am_kz N X) ((d + 1), 191, 342, [some (.inr (.inr 86)), some (.inl x1), some (.inl x2), some (.inl x3), some (.inl x4), some (.inl x5), some (.inl x6)], [], (am_sh, am_mm U)) R
  refine ev_br (P := ¬ (U 86 8) = 0) (σ1 := ((d + 1), 191, 362, [some (.inr (.inr 86)), some (.inl x1), some (.inl x2), some (.inl x3), some (.inl x4), some (.inl x5), some (.inl x6)], [], (am_sh, am_mm U))) (σ2 := ((d + 1), 191, 349, [some (.inr (.inr 86)), some (.inl x1), some (.inl x2), some (.inl x3), some (.inl x4), some (.inl x5), some (.inl x6)], [], (am_sh, am_mm U))) 3 (fun _ => rfl) (fun hc => ?_) (fun hc => ?_)
  · have h1 := h.1 hc
    subst h1
    exact ev_end 1 (fun _ => rfl)
  · have h2 := h.2 (Decidable.not_not.mp hc)
    refine ev_seg (σ1 := ((d + 1), 191, 358, [some (.inr (.inr 86)), some (.inl x1), some (.inl x2), some (.inl x3), some (.inl x4), some (.inl x5), some (.inl x6)], [.inl (U 86 40), .inr (.inr 97), .inl (U 86 40), .inr (.inr 97)], (am_sh, am_mm U))) 5 (fun _ => rfl) ?_
    refine eu_iald 97 (n := 2) rfl (by decide) rfl (fun _ => rfl) h2.1 ?_
    show Ev (am_kz N X) ((d + 1), 191, 359, [some (.inr (.inr 86)), some (.inl x1), some (.inl x2), some (.inl x3), some (.inl x4), some (.inl x5), some (.inl x6)], [.inl (U 97 ((U 86 40).toNat)), .inl (U 86 40), .inr (.inr 97)], (am_sh, am_mm U)) R
    have h2a := h2.2
    refine ev_seg (σ1 := ((d + 1), 191, 361, [some (.inr (.inr 86)), some (.inl x1), some (.inl x2), some (.inl x3), some (.inl x4), some (.inl x5), some (.inl x6)], [.inl (w32 ((U 97 ((U 86 40).toNat)) + 1)), .inl (U 86 40), .inr (.inr 97)], (am_sh, am_mm U))) 2 (fun _ => rfl) ?_
    refine eu_iast 97 (n := 2) rfl (by decide) rfl (fun _ => rfl) h2.1 ?_
    show Ev (am_kz N X) ((d + 1), 191, 362, [some (.inr (.inr 86)), some (.inl x1), some (.inl x2), some (.inl x3), some (.inl x4), some (.inl x5), some (.inl x6)], [], (am_sh, am_mm (am_upd U 97 ((U 86 40).toNat) (w32 ((U 97 ((U 86 40).toNat)) + 1))))) R
    subst h2a
    exact ev_end 1 (fun _ => rfl)
set_option maxRecDepth 8000 in
theorem M_numbering_r323 {N : Nat} {X : Nat → Int} {d : Nat} {x1 x2 x3 x4 x5 x6 : Int} {U : am_U} {R : Option am_V × am_M} (h : (((U 86 8) ≠ 0) → (0 ≤ x1 ∧ x1 < 32) ∧ EvK N X (M_numbering_s342 (d + 1) x1 x2 x3 x4 x5 x6 (am_upd U 99 x1.toNat x6)) R) ∧ (((U 86 8) = 0) → ∃ U1 : am_U, EvK N X (M_ahead_s0 d U) (rV U1) ∧ (0 ≤ x1 ∧ x1 < 32) ∧ EvK N X (M_numbering_s342 (d + 1) x1 x2 x3 x4 x5 x6 (am_upd U1 99 x1.toNat x6)) R)) : EvK N X (M_numbering_s323 (d + 1) x1 x2 x3 x4 x5 x6 U) R := by
  show Ev (am_kz N X) ((d + 1), 191, 323, [some (.inr (.inr 86)), some (.inl x1), some (.inl x2), some (.inl x3), some (.inl x4), some (.inl x5), some (.inl x6)], [], (am_sh, am_mm U)) R
  refine ev_br (P := ¬ (U 86 8) = 0) (σ1 := ((d + 1), 191, 334, [some (.inr (.inr 86)), some (.inl x1), some (.inl x2), some (.inl x3), some (.inl x4), some (.inl x5), some (.inl x6)], [], (am_sh, am_mm U))) (σ2 := ((d + 1), 191, 330, [some (.inr (.inr 86)), some (.inl x1), some (.inl x2), some (.inl x3), some (.inl x4), some (.inl x5), some (.inl x6)], [], (am_sh, am_mm U))) 3 (fun _ => rfl) (fun hc => ?_) (fun hc => ?_)
  · have h1 := h.1 hc
    refine ev_seg (σ1 := ((d + 1), 191, 341, [some (.inr (.inr 86)), some (.inl x1), some (.inl x2), some (.inl x3), some (.inl x4), some (.inl x5), some (.inl x6)], [.inl x6, .inl x1, .inr (.inr 99)], (am_sh, am_mm U))) 4 (fun _ => rfl) ?_
    refine eu_iast 99 (n := 32) rfl (by decide) rfl (fun _ => rfl) h1.1 ?_
    show Ev (am_kz N X) ((d + 1), 191, 342, [some (.inr (.inr 86)), some (.inl x1), some (.inl x2), some (.inl x3), some (.inl x4), some (.inl x5), some (.inl x6)], [], (am_sh, am_mm (am_upd U 99 x1.toNat x6))) R
    have h1a := h1.2
    exact h1a
  · have h2 := h.2 (Decidable.not_not.mp hc)
    refine ev_seg (σ1 := ((d + 1), 191, 331, [some (.inr (.inr 86)), some (.inl x1), some (.inl x2), some (.inl x3), some (.inl x4), some (.inl x5), some (.inl x6)], [.inr (.inr 86)], (am_sh, am_mm U))) 1 (fun _ => rfl) ?_
    obtain ⟨U1, h2c, h2a⟩ := h2
    refine ev_cal (σc := (M_ahead_s0 d U)) (fun _ => rfl) h2c ?_
    show Ev (am_kz N X) ((d + 1), 191, 334, [some (.inr (.inr 86)), some (.inl x1), some (.inl x2), some (.inl x3), some (.inl x4), some (.inl x5), some (.inl x6)], [], (am_sh, am_mm U1)) R
    refine ev_seg (σ1 := ((d + 1), 191, 341, [some (.inr (.inr 86)), some (.inl x1), some (.inl x2), some (.inl x3), some (.inl x4), some (.inl x5), some (.inl x6)], [.inl x6, .inl x1, .inr (.inr 99)], (am_sh, am_mm U1))) 4 (fun _ => rfl) ?_
    refine eu_iast 99 (n := 32) rfl (by decide) rfl (fun _ => rfl) h2a.1 ?_
    show Ev (am_kz N X) ((d + 1), 191, 342, [some (.inr (.inr 86)), some (.inl x1), some (.inl x2), some (.inl x3), some (.inl x4), some (.inl x5), some (.inl x6)], [], (am_sh, am_mm (am_upd U1 99 x1.toNat x6))) R
    have h2aa := h2a.2
    exact h2aa
set_option maxRecDepth 8000 in
theorem M_laning_r0 {N : Nat} {X : Nat → Int} {d : Nat} {U : am_U} {R : Option am_V × am_M} (h : (0 ≤ (U 86 40) ∧ (U 86 40) < 2) ∧ (((U 94 ((U 86 40).toNat)) ≠ 10) → ∃ (r1 : Int) (U1 : am_U), EvK N X (M_counts_s0 d 0 U) (rI r1 U1) ∧ ((r1 ≠ 0) → (0 ≤ (U1 86 40) ∧ (U1 86 40) < 2) ∧ ∃ (r2 : Int) (U2 : am_U), EvK N X (M_asked_s0 d 1 U1) (rI r2 U2) ∧ ∃ (r3 : Int) (U3 : am_U), EvK N X (M_looked_s0 d 1 U2) (rI r3 U3) ∧ (((U3 86 8) ≠ 0) → (((U3 86 8) ≤ 0) → ∃ U4 : am_U, EvK N X (M_ahead_s0 d U3) (rV U4) ∧ (0 ≤ (w32 ((w32 (10 * (U1 86 40))) + (U1 94 ((U1 86 40).toNat)))) ∧ (w32 ((w32 (10 * (U1 86 40))) + (U1 94 ((U1 86 40).toNat)))) < 20) ∧ (0 ≤ (U4 86 40) ∧ (U4 86 40) < 2) ∧ R = rV (am_upd (am_upd (am_upd U4 95 ((w32 ((w32 (10 * (U1 86 40))) + (U1 94 ((U1 86 40).toNat)))).toNat) r2) 96 ((w32 ((w32 (10 * (U1 86 40))) + (U1 94 ((U1 86 40).toNat)))).toNat) r3) 94 ((U4 86 40).toNat) (w32 ((U4 94 ((U4 86 40).toNat)) + 1)))) ∧ ((0 < (U3 86 8)) → R = rV U3)) ∧ (((U3 86 8) = 0) → ((r2 = r3) → ∃ U5 : am_U, EvK N X (M_blame_s0 d 3 (U3 86 4) U3) (rV U5) ∧ (((U5 86 8) ≤ 0) → ∃ U6 : am_U, EvK N X (M_ahead_s0 d U5) (rV U6) ∧ (0 ≤ (w32 ((w32 (10 * (U1 86 40))) + (U1 94 ((U1 86 40).toNat)))) ∧ (w32 ((w32 (10 * (U1 86 40))) + (U1 94 ((U1 86 40).toNat)))) < 20) ∧ (0 ≤ (U6 86 40) ∧ (U6 86 40) < 2) ∧ R = rV (am_upd (am_upd (am_upd U6 95 ((w32 ((w32 (10 * (U1 86 40))) + (U1 94 ((U1 86 40).toNat)))).toNat) r2) 96 ((w32 ((w32 (10 * (U1 86 40))) + (U1 94 ((U1 86 40).toNat)))).toNat) r3) 94 ((U6 86 40).toNat) (w32 ((U6 94 ((U6 86 40).toNat)) + 1)))) ∧ ((0 < (U5 86 8)) → R = rV U5)) ∧ ((r2 ≠ r3) → ∃ (r7 : Int) (U7 : am_U), EvK N X (M_areNeighbours_s0 d (U3 86 40) r2 r3 U3) (rI r7 U7) ∧ ((r7 = 0) → (((U7 86 8) ≤ 0) → ∃ U8 : am_U, EvK N X (M_ahead_s0 d U7) (rV U8) ∧ (0 ≤ (w32 ((w32 (10 * (U1 86 40))) + (U1 94 ((U1 86 40).toNat)))) ∧ (w32 ((w32 (10 * (U1 86 40))) + (U1 94 ((U1 86 40).toNat)))) < 20) ∧ (0 ≤ (U8 86 40) ∧ (U8 86 40) < 2) ∧ R = rV (am_upd (am_upd (am_upd U8 95 ((w32 ((w32 (10 * (U1 86 40))) + (U1 94 ((U1 86 40).toNat)))).toNat) r2) 96 ((w32 ((w32 (10 * (U1 86 40))) + (U1 94 ((U1 86 40).toNat)))).toNat) r3) 94 ((U8 86 40).toNat) (w32 ((U8 94 ((U8 86 40).toNat)) + 1)))) ∧ ((0 < (U7 86 8)) → R = rV U7)) ∧ ((r7 ≠ 0) → ∃ U9 : am_U, EvK N X (M_blame_s0 d 3 (U7 86 4) U7) (rV U9) ∧ (((U9 86 8) ≤ 0) → ∃ U10 : am_U, EvK N X (M_ahead_s0 d U9) (rV U10) ∧ (0 ≤ (w32 ((w32 (10 * (U1 86 40))) + (U1 94 ((U1 86 40).toNat)))) ∧ (w32 ((w32 (10 * (U1 86 40))) + (U1 94 ((U1 86 40).toNat)))) < 20) ∧ (0 ≤ (U10 86 40) ∧ (U10 86 40) < 2) ∧ R = rV (am_upd (am_upd (am_upd U10 95 ((w32 ((w32 (10 * (U1 86 40))) + (U1 94 ((U1 86 40).toNat)))).toNat) r2) 96 ((w32 ((w32 (10 * (U1 86 40))) + (U1 94 ((U1 86 40).toNat)))).toNat) r3) 94 ((U10 86 40).toNat) (w32 ((U10 94 ((U10 86 40).toNat)) + 1)))) ∧ ((0 < (U9 86 8)) → R = rV U9))))) ∧ ((r1 = 0) → R = rV U1)) ∧ (((U 94 ((U 86 40).toNat)) = 10) → ∃ (r11 : Int) (U11 : am_U), EvK N X (M_counts_s0 d 1 U) (rI r11 U11) ∧ ((r11 ≠ 0) → (0 ≤ (U11 86 40) ∧ (U11 86 40) < 2) ∧ ∃ (r12 : Int) (U12 : am_U), EvK N X (M_asked_s0 d 1 U11) (rI r12 U12) ∧ ∃ (r13 : Int) (U13 : am_U), EvK N X (M_looked_s0 d 1 U12) (rI r13 U13) ∧ (((U13 86 8) ≠ 0) → (((U13 86 8) ≤ 0) → ∃ U14 : am_U, EvK N X (M_ahead_s0 d U13) (rV U14) ∧ (0 ≤ (w32 ((w32 (10 * (U11 86 40))) + (U11 94 ((U11 86 40).toNat)))) ∧ (w32 ((w32 (10 * (U11 86 40))) + (U11 94 ((U11 86 40).toNat)))) < 20) ∧ (0 ≤ (U14 86 40) ∧ (U14 86 40) < 2) ∧ R = rV (am_upd (am_upd (am_upd U14 95 ((w32 ((w32 (10 * (U11 86 40))) + (U11 94 ((U11 86 40).toNat)))).toNat) r12) 96 ((w32 ((w32 (10 * (U11 86 40))) + (U11 94 ((U11 86 40).toNat)))).toNat) r13) 94 ((U14 86 40).toNat) (w32 ((U14 94 ((U14 86 40).toNat)) + 1)))) ∧ ((0 < (U13 86 8)) → R = rV U13)) ∧ (((U13 86 8) = 0) → ((r12 = r13) → ∃ U15 : am_U, EvK N X (M_blame_s0 d 3 (U13 86 4) U13) (rV U15) ∧ (((U15 86 8) ≤ 0) → ∃ U16 : am_U, EvK N X (M_ahead_s0 d U15) (rV U16) ∧ (0 ≤ (w32 ((w32 (10 * (U11 86 40))) + (U11 94 ((U11 86 40).toNat)))) ∧ (w32 ((w32 (10 * (U11 86 40))) + (U11 94 ((U11 86 40).toNat)))) < 20) ∧ (0 ≤ (U16 86 40) ∧ (U16 86 40) < 2) ∧ R = rV (am_upd (am_upd (am_upd U16 95 ((w32 ((w32 (10 * (U11 86 40))) + (U11 94 ((U11 86 40).toNat)))).toNat) r12) 96 ((w32 ((w32 (10 * (U11 86 40))) + (U11 94 ((U11 86 40).toNat)))).toNat) r13) 94 ((U16 86 40).toNat) (w32 ((U16 94 ((U16 86 40).toNat)) + 1)))) ∧ ((0 < (U15 86 8)) → R = rV U15)) ∧ ((r12 ≠ r13) → ∃ (r17 : Int) (U17 : am_U), EvK N X (M_areNeighbours_s0 d (U13 86 40) r12 r13 U13) (rI r17 U17) ∧ ((r17 = 0) → (((U17 86 8) ≤ 0) → ∃ U18 : am_U, EvK N X (M_ahead_s0 d U17) (rV U18) ∧ (0 ≤ (w32 ((w32 (10 * (U11 86 40))) + (U11 94 ((U11 86 40).toNat)))) ∧ (w32 ((w32 (10 * (U11 86 40))) + (U11 94 ((U11 86 40).toNat)))) < 20) ∧ (0 ≤ (U18 86 40) ∧ (U18 86 40) < 2) ∧ R = rV (am_upd (am_upd (am_upd U18 95 ((w32 ((w32 (10 * (U11 86 40))) + (U11 94 ((U11 86 40).toNat)))).toNat) r12) 96 ((w32 ((w32 (10 * (U11 86 40))) + (U11 94 ((U11 86 40).toNat)))).toNat) r13) 94 ((U18 86 40).toNat) (w32 ((U18 94 ((U18 86 40).toNat)) + 1)))) ∧ ((0 < (U17 86 8)) → R = rV U17)) ∧ ((r17 ≠ 0) → ∃ U19 : am_U, EvK N X (M_blame_s0 d 3 (U17 86 4) U17) (rV U19) ∧ (((U19 86 8) ≤ 0) → ∃ U20 : am_U, EvK N X (M_ahead_s0 d U19) (rV U20) ∧ (0 ≤ (w32 ((w32 (10 * (U11 86 40))) + (U11 94 ((U11 86 40).toNat)))) ∧ (w32 ((w32 (10 * (U11 86 40))) + (U11 94 ((U11 86 40).toNat)))) < 20) ∧ (0 ≤ (U20 86 40) ∧ (U20 86 40) < 2) ∧ R = rV (am_upd (am_upd (am_upd U20 95 ((w32 ((w32 (10 * (U11 86 40))) + (U11 94 ((U11 86 40).toNat)))).toNat) r12) 96 ((w32 ((w32 (10 * (U11 86 40))) + (U11 94 ((U11 86 40).toNat)))).toNat) r13) 94 ((U20 86 40).toNat) (w32 ((U20 94 ((U20 86 40).toNat)) + 1)))) ∧ ((0 < (U19 86 8)) → R = rV U19))))) ∧ ((r11 = 0) → R = rV U11))) : EvK N X (M_laning_s0 (d + 1) U) R := by
  show Ev (am_kz N X) ((d + 1), 190, 0, [some (.inr (.inr 86)), none, none, none], [], (am_sh, am_mm U)) R
  refine ev_seg (σ1 := ((d + 1), 190, 9, [some (.inr (.inr 86)), none, none, none], [.inl (U 86 40), .inr (.inr 94), .inr (.inr 86)], (am_sh, am_mm U))) 5 (fun _ => rfl) ?_
  refine eu_iald 94 (n := 2) rfl (by decide) rfl (fun _ => rfl) h.1 ?_
  show Ev (am_kz N X) ((d + 1), 190, 10, [some (.inr (.inr 86)), none, none, none], [.inl (U 94 ((U 86 40).toNat)), .inr (.inr 86)], (am_sh, am_mm U)) R
  have ha := h.2
  refine ev_br (P := ¬ (U 94 ((U 86 40).toNat)) = 10) (σ1 := ((d + 1), 190, 19, [some (.inr (.inr 86)), none, none, none], [.inr (.inr 86)], (am_sh, am_mm U))) (σ2 := ((d + 1), 190, 15, [some (.inr (.inr 86)), none, none, none], [.inr (.inr 86)], (am_sh, am_mm U))) 2 (fun _ => rfl) (fun hc => ?_) (fun hc => ?_)
  · have ha1 := ha.1 hc
    refine ev_seg (σ1 := ((d + 1), 190, 20, [some (.inr (.inr 86)), none, none, none], [.inl 0, .inr (.inr 86)], (am_sh, am_mm U))) 1 (fun _ => rfl) ?_
    obtain ⟨r1, U1, ha1c, ha1a⟩ := ha1
    refine ev_cal (σc := (M_counts_s0 d 0 U)) (fun _ => rfl) ha1c ?_
    show Ev (am_kz N X) ((d + 1), 190, 23, [some (.inr (.inr 86)), none, none, none], [.inl r1], (am_sh, am_mm U1)) R
    refine ev_br (P := ¬ r1 = 0) (σ1 := ((d + 1), 190, 27, [some (.inr (.inr 86)), none, none, none], [], (am_sh, am_mm U1))) (σ2 := ((d + 1), 190, 26, [some (.inr (.inr 86)), none, none, none], [], (am_sh, am_mm U1))) 1 (fun _ => rfl) (fun hc => ?_) (fun hc => ?_)
    · have ha1a1 := ha1a.1 hc
      refine ev_seg (σ1 := ((d + 1), 190, 42, [some (.inr (.inr 86)), none, none, none], [.inl (U1 86 40), .inr (.inr 94), .inl (w32 (10 * (U1 86 40)))], (am_sh, am_mm U1))) 8 (fun _ => rfl) ?_
      refine eu_iald 94 (n := 2) rfl (by decide) rfl (fun _ => rfl) ha1a1.1 ?_
      show Ev (am_kz N X) ((d + 1), 190, 43, [some (.inr (.inr 86)), none, none, none], [.inl (U1 94 ((U1 86 40).toNat)), .inl (w32 (10 * (U1 86 40)))], (am_sh, am_mm U1)) R
      have ha1a1a := ha1a1.2
      refine ev_seg (σ1 := ((d + 1), 190, 47, [some (.inr (.inr 86)), some (.inl (w32 ((w32 (10 * (U1 86 40))) + (U1 94 ((U1 86 40).toNat))))), none, none], [.inl 1, .inr (.inr 86)], (am_sh, am_mm U1))) 4 (fun _ => rfl) ?_
      obtain ⟨r2, U2, ha1a1ac, ha1a1aa⟩ := ha1a1a
      refine ev_cal (σc := (M_asked_s0 d 1 U1)) (fun _ => rfl) ha1a1ac ?_
      show Ev (am_kz N X) ((d + 1), 190, 50, [some (.inr (.inr 86)), some (.inl (w32 ((w32 (10 * (U1 86 40))) + (U1 94 ((U1 86 40).toNat))))), none, none], [.inl r2], (am_sh, am_mm U2)) R
      refine ev_seg (σ1 := ((d + 1), 190, 53, [some (.inr (.inr 86)), some (.inl (w32 ((w32 (10 * (U1 86 40))) + (U1 94 ((U1 86 40).toNat))))), some (.inl r2), none], [.inl 1, .inr (.inr 86)], (am_sh, am_mm U2))) 3 (fun _ => rfl) ?_
      obtain ⟨r3, U3, ha1a1aac, ha1a1aaa⟩ := ha1a1aa
      refine ev_cal (σc := (M_looked_s0 d 1 U2)) (fun _ => rfl) ha1a1aac ?_
      show Ev (am_kz N X) ((d + 1), 190, 56, [some (.inr (.inr 86)), some (.inl (w32 ((w32 (10 * (U1 86 40))) + (U1 94 ((U1 86 40).toNat))))), some (.inl r2), none], [.inl r3], (am_sh, am_mm U3)) R
      refine ev_br (P := ¬ (U3 86 8) = 0) (σ1 := ((d + 1), 190, 91, [some (.inr (.inr 86)), some (.inl (w32 ((w32 (10 * (U1 86 40))) + (U1 94 ((U1 86 40).toNat))))), some (.inl r2), some (.inl r3)], [], (am_sh, am_mm U3))) (σ2 := ((d + 1), 190, 64, [some (.inr (.inr 86)), some (.inl (w32 ((w32 (10 * (U1 86 40))) + (U1 94 ((U1 86 40).toNat))))), some (.inl r2), some (.inl r3)], [], (am_sh, am_mm U3))) 4 (fun _ => rfl) (fun hc => ?_) (fun hc => ?_)
      · have ha1a1aaa1 := ha1a1aaa.1 hc
        refine ev_br (P := (U3 86 8) ≤ 0) (σ1 := ((d + 1), 190, 99, [some (.inr (.inr 86)), some (.inl (w32 ((w32 (10 * (U1 86 40))) + (U1 94 ((U1 86 40).toNat))))), some (.inl r2), some (.inl r3)], [], (am_sh, am_mm U3))) (σ2 := ((d + 1), 190, 98, [some (.inr (.inr 86)), some (.inl (w32 ((w32 (10 * (U1 86 40))) + (U1 94 ((U1 86 40).toNat))))), some (.inl r2), some (.inl r3)], [], (am_sh, am_mm U3))) 3 (fun _ => rfl) (fun hc => ?_) (fun hc => ?_)
        · have ha1a1aaa11 := ha1a1aaa1.1 hc
          refine ev_seg (σ1 := ((d + 1), 190, 100, [some (.inr (.inr 86)), some (.inl (w32 ((w32 (10 * (U1 86 40))) + (U1 94 ((U1 86 40).toNat))))), some (.inl r2), some (.inl r3)], [.inr (.inr 86)], (am_sh, am_mm U3))) 1 (fun _ => rfl) ?_
          obtain ⟨U4, ha1a1aaa11c, ha1a1aaa11a⟩ := ha1a1aaa11
          refine ev_cal (σc := (M_ahead_s0 d U3)) (fun _ => rfl) ha1a1aaa11c ?_
          show Ev (am_kz N X) ((d + 1), 190, 103, [some (.inr (.inr 86)), some (.inl (w32 ((w32 (10 * (U1 86 40))) + (U1 94 ((U1 86 40).toNat))))), some (.inl r2), some (.inl r3)], [], (am_sh, am_mm U4)) R
          refine ev_seg (σ1 := ((d + 1), 190, 109, [some (.inr (.inr 86)), some (.inl (w32 ((w32 (10 * (U1 86 40))) + (U1 94 ((U1 86 40).toNat))))), some (.inl r2), some (.inl r3)], [.inl r2, .inl (w32 ((w32 (10 * (U1 86 40))) + (U1 94 ((U1 86 40).toNat)))), .inr (.inr 95)], (am_sh, am_mm U4))) 4 (fun _ => rfl) ?_
          refine eu_iast 95 (n := 20) rfl (by decide) rfl (fun _ => rfl) ha1a1aaa11a.1 ?_
          show Ev (am_kz N X) ((d + 1), 190, 110, [some (.inr (.inr 86)), some (.inl (w32 ((w32 (10 * (U1 86 40))) + (U1 94 ((U1 86 40).toNat))))), some (.inl r2), some (.inl r3)], [], (am_sh, am_mm (am_upd U4 95 ((w32 ((w32 (10 * (U1 86 40))) + (U1 94 ((U1 86 40).toNat)))).toNat) r2))) R
          have ha1a1aaa11aa := ha1a1aaa11a.2
          refine ev_seg (σ1 := ((d + 1), 190, 116, [some (.inr (.inr 86)), some (.inl (w32 ((w32 (10 * (U1 86 40))) + (U1 94 ((U1 86 40).toNat))))), some (.inl r2), some (.inl r3)], [.inl r3, .inl (w32 ((w32 (10 * (U1 86 40))) + (U1 94 ((U1 86 40).toNat)))), .inr (.inr 96)], (am_sh, am_mm (am_upd U4 95 ((w32 ((w32 (10 * (U1 86 40))) + (U1 94 ((U1 86 40).toNat)))).toNat) r2)))) 4 (fun _ => rfl) ?_
          refine eu_iast 96 (n := 20) rfl (by decide) rfl (fun _ => rfl) ha1a1aaa11a.1 ?_
          show Ev (am_kz N X) ((d + 1), 190, 117, [some (.inr (.inr 86)), some (.inl (w32 ((w32 (10 * (U1 86 40))) + (U1 94 ((U1 86 40).toNat))))), some (.inl r2), some (.inl r3)], [], (am_sh, am_mm (am_upd (am_upd U4 95 ((w32 ((w32 (10 * (U1 86 40))) + (U1 94 ((U1 86 40).toNat)))).toNat) r2) 96 ((w32 ((w32 (10 * (U1 86 40))) + (U1 94 ((U1 86 40).toNat)))).toNat) r3))) R
          refine ev_seg (σ1 := ((d + 1), 190, 126, [some (.inr (.inr 86)), some (.inl (w32 ((w32 (10 * (U1 86 40))) + (U1 94 ((U1 86 40).toNat))))), some (.inl r2), some (.inl r3)], [.inl (U4 86 40), .inr (.inr 94), .inl (U4 86 40), .inr (.inr 94)], (am_sh, am_mm (am_upd (am_upd U4 95 ((w32 ((w32 (10 * (U1 86 40))) + (U1 94 ((U1 86 40).toNat)))).toNat) r2) 96 ((w32 ((w32 (10 * (U1 86 40))) + (U1 94 ((U1 86 40).toNat)))).toNat) r3)))) 5 (fun _ => rfl) ?_
          refine eu_iald 94 (n := 2) rfl (by decide) rfl (fun _ => rfl) ha1a1aaa11aa.1 ?_
          show Ev (am_kz N X) ((d + 1), 190, 127, [some (.inr (.inr 86)), some (.inl (w32 ((w32 (10 * (U1 86 40))) + (U1 94 ((U1 86 40).toNat))))), some (.inl r2), some (.inl r3)], [.inl (U4 94 ((U4 86 40).toNat)), .inl (U4 86 40), .inr (.inr 94)], (am_sh, am_mm (am_upd (am_upd U4 95 ((w32 ((w32 (10 * (U1 86 40))) + (U1 94 ((U1 86 40).toNat)))).toNat) r2) 96 ((w32 ((w32 (10 * (U1 86 40))) + (U1 94 ((U1 86 40).toNat)))).toNat) r3))) R
          have ha1a1aaa11aaa := ha1a1aaa11aa.2
          refine ev_seg (σ1 := ((d + 1), 190, 129, [some (.inr (.inr 86)), some (.inl (w32 ((w32 (10 * (U1 86 40))) + (U1 94 ((U1 86 40).toNat))))), some (.inl r2), some (.inl r3)], [.inl (w32 ((U4 94 ((U4 86 40).toNat)) + 1)), .inl (U4 86 40), .inr (.inr 94)], (am_sh, am_mm (am_upd (am_upd U4 95 ((w32 ((w32 (10 * (U1 86 40))) + (U1 94 ((U1 86 40).toNat)))).toNat) r2) 96 ((w32 ((w32 (10 * (U1 86 40))) + (U1 94 ((U1 86 40).toNat)))).toNat) r3)))) 2 (fun _ => rfl) ?_
          refine eu_iast 94 (n := 2) rfl (by decide) rfl (fun _ => rfl) ha1a1aaa11aa.1 ?_
          show Ev (am_kz N X) ((d + 1), 190, 130, [some (.inr (.inr 86)), some (.inl (w32 ((w32 (10 * (U1 86 40))) + (U1 94 ((U1 86 40).toNat))))), some (.inl r2), some (.inl r3)], [], (am_sh, am_mm (am_upd (am_upd (am_upd U4 95 ((w32 ((w32 (10 * (U1 86 40))) + (U1 94 ((U1 86 40).toNat)))).toNat) r2) 96 ((w32 ((w32 (10 * (U1 86 40))) + (U1 94 ((U1 86 40).toNat)))).toNat) r3) 94 ((U4 86 40).toNat) (w32 ((U4 94 ((U4 86 40).toNat)) + 1))))) R
          subst ha1a1aaa11aaa
          exact ev_end 1 (fun _ => rfl)
        · have ha1a1aaa12 := ha1a1aaa1.2 (Int.not_le.mp hc)
          subst ha1a1aaa12
          exact ev_end 1 (fun _ => rfl)
      · have ha1a1aaa2 := ha1a1aaa.2 (Decidable.not_not.mp hc)
        refine ev_br (P := r2 = r3) (σ1 := ((d + 1), 190, 82, [some (.inr (.inr 86)), some (.inl (w32 ((w32 (10 * (U1 86 40))) + (U1 94 ((U1 86 40).toNat))))), some (.inl r2), some (.inl r3)], [], (am_sh, am_mm U3))) (σ2 := ((d + 1), 190, 69, [some (.inr (.inr 86)), some (.inl (w32 ((w32 (10 * (U1 86 40))) + (U1 94 ((U1 86 40).toNat))))), some (.inl r2), some (.inl r3)], [], (am_sh, am_mm U3))) 3 (fun _ => rfl) (fun hc => ?_) (fun hc => ?_)
        · have ha1a1aaa21 := ha1a1aaa2.1 hc
          refine ev_seg (σ1 := ((d + 1), 190, 88, [some (.inr (.inr 86)), some (.inl (w32 ((w32 (10 * (U1 86 40))) + (U1 94 ((U1 86 40).toNat))))), some (.inl r2), some (.inl r3)], [.inl (U3 86 4), .inl 3, .inr (.inr 86)], (am_sh, am_mm U3))) 4 (fun _ => rfl) ?_
          obtain ⟨U5, ha1a1aaa21c, ha1a1aaa21a⟩ := ha1a1aaa21
          refine ev_cal (σc := (M_blame_s0 d 3 (U3 86 4) U3)) (fun _ => rfl) ha1a1aaa21c ?_
          show Ev (am_kz N X) ((d + 1), 190, 91, [some (.inr (.inr 86)), some (.inl (w32 ((w32 (10 * (U1 86 40))) + (U1 94 ((U1 86 40).toNat))))), some (.inl r2), some (.inl r3)], [], (am_sh, am_mm U5)) R
          refine ev_br (P := (U5 86 8) ≤ 0) (σ1 := ((d + 1), 190, 99, [some (.inr (.inr 86)), some (.inl (w32 ((w32 (10 * (U1 86 40))) + (U1 94 ((U1 86 40).toNat))))), some (.inl r2), some (.inl r3)], [], (am_sh, am_mm U5))) (σ2 := ((d + 1), 190, 98, [some (.inr (.inr 86)), some (.inl (w32 ((w32 (10 * (U1 86 40))) + (U1 94 ((U1 86 40).toNat))))), some (.inl r2), some (.inl r3)], [], (am_sh, am_mm U5))) 3 (fun _ => rfl) (fun hc => ?_) (fun hc => ?_)
          · have ha1a1aaa21a1 := ha1a1aaa21a.1 hc
            refine ev_seg (σ1 := ((d + 1), 190, 100, [some (.inr (.inr 86)), some (.inl (w32 ((w32 (10 * (U1 86 40))) + (U1 94 ((U1 86 40).toNat))))), some (.inl r2), some (.inl r3)], [.inr (.inr 86)], (am_sh, am_mm U5))) 1 (fun _ => rfl) ?_
            obtain ⟨U6, ha1a1aaa21a1c, ha1a1aaa21a1a⟩ := ha1a1aaa21a1
            refine ev_cal (σc := (M_ahead_s0 d U5)) (fun _ => rfl) ha1a1aaa21a1c ?_
            show Ev (am_kz N X) ((d + 1), 190, 103, [some (.inr (.inr 86)), some (.inl (w32 ((w32 (10 * (U1 86 40))) + (U1 94 ((U1 86 40).toNat))))), some (.inl r2), some (.inl r3)], [], (am_sh, am_mm U6)) R
            refine ev_seg (σ1 := ((d + 1), 190, 109, [some (.inr (.inr 86)), some (.inl (w32 ((w32 (10 * (U1 86 40))) + (U1 94 ((U1 86 40).toNat))))), some (.inl r2), some (.inl r3)], [.inl r2, .inl (w32 ((w32 (10 * (U1 86 40))) + (U1 94 ((U1 86 40).toNat)))), .inr (.inr 95)], (am_sh, am_mm U6))) 4 (fun _ => rfl) ?_
            refine eu_iast 95 (n := 20) rfl (by decide) rfl (fun _ => rfl) ha1a1aaa21a1a.1 ?_
            show Ev (am_kz N X) ((d + 1), 190, 110, [some (.inr (.inr 86)), some (.inl (w32 ((w32 (10 * (U1 86 40))) + (U1 94 ((U1 86 40).toNat))))), some (.inl r2), some (.inl r3)], [], (am_sh, am_mm (am_upd U6 95 ((w32 ((w32 (10 * (U1 86 40))) + (U1 94 ((U1 86 40).toNat)))).toNat) r2))) R
            have ha1a1aaa21a1aa := ha1a1aaa21a1a.2
            refine ev_seg (σ1 := ((d + 1), 190, 116, [some (.inr (.inr 86)), some (.inl (w32 ((w32 (10 * (U1 86 40))) + (U1 94 ((U1 86 40).toNat))))), some (.inl r2), some (.inl r3)], [.inl r3, .inl (w32 ((w32 (10 * (U1 86 40))) + (U1 94 ((U1 86 40).toNat)))), .inr (.inr 96)], (am_sh, am_mm (am_upd U6 95 ((w32 ((w32 (10 * (U1 86 40))) + (U1 94 ((U1 86 40).toNat)))).toNat) r2)))) 4 (fun _ => rfl) ?_
            refine eu_iast 96 (n := 20) rfl (by decide) rfl (fun _ => rfl) ha1a1aaa21a1a.1 ?_
            show Ev (am_kz N X) ((d + 1), 190, 117, [some (.inr (.inr 86)), some (.inl (w32 ((w32 (10 * (U1 86 40))) + (U1 94 ((U1 86 40).toNat))))), some (.inl r2), some (.inl r3)], [], (am_sh, am_mm (am_upd (am_upd U6 95 ((w32 ((w32 (10 * (U1 86 40))) + (U1 94 ((U1 86 40).toNat)))).toNat) r2) 96 ((w32 ((w32 (10 * (U1 86 40))) + (U1 94 ((U1 86 40).toNat)))).toNat) r3))) R
            refine ev_seg (σ1 := ((d + 1), 190, 126, [some (.inr (.inr 86)), some (.inl (w32 ((w32 (10 * (U1 86 40))) + (U1 94 ((U1 86 40).toNat))))), some (.inl r2), some (.inl r3)], [.inl (U6 86 40), .inr (.inr 94), .inl (U6 86 40), .inr (.inr 94)], (am_sh, am_mm (am_upd (am_upd U6 95 ((w32 ((w32 (10 * (U1 86 40))) + (U1 94 ((U1 86 40).toNat)))).toNat) r2) 96 ((w32 ((w32 (10 * (U1 86 40))) + (U1 94 ((U1 86 40).toNat)))).toNat) r3)))) 5 (fun _ => rfl) ?_
            refine eu_iald 94 (n := 2) rfl (by decide) rfl (fun _ => rfl) ha1a1aaa21a1aa.1 ?_
            show Ev (am_kz N X) ((d + 1), 190, 127, [some (.inr (.inr 86)), some (.inl (w32 ((w32 (10 * (U1 86 40))) + (U1 94 ((U1 86 40).toNat))))), some (.inl r2), some (.inl r3)], [.inl (U6 94 ((U6 86 40).toNat)), .inl (U6 86 40), .inr (.inr 94)], (am_sh, am_mm (am_upd (am_upd U6 95 ((w32 ((w32 (10 * (U1 86 40))) + (U1 94 ((U1 86 40).toNat)))).toNat) r2) 96 ((w32 ((w32 (10 * (U1 86 40))) + (U1 94 ((U1 86 40).toNat)))).toNat) r3))) R
            have ha1a1aaa21a1aaa := ha1a1aaa21a1aa.2
            refine ev_seg (σ1 := ((d + 1), 190, 129, [some (.inr (.inr 86)), some (.inl (w32 ((w32 (10 * (U1 86 40))) + (U1 94 ((U1 86 40).toNat))))), some (.inl r2), some (.inl r3)], [.inl (w32 ((U6 94 ((U6 86 40).toNat)) + 1)), .inl (U6 86 40), .inr (.inr 94)], (am_sh, am_mm (am_upd (am_upd U6 95 ((w32 ((w32 (10 * (U1 86 40))) + (U1 94 ((U1 86 40).toNat)))).toNat) r2) 96 ((w32 ((w32 (10 * (U1 86 40))) + (U1 94 ((U1 86 40).toNat)))).toNat) r3)))) 2 (fun _ => rfl) ?_
            refine eu_iast 94 (n := 2) rfl (by decide) rfl (fun _ => rfl) ha1a1aaa21a1aa.1 ?_
            show Ev (am_kz N X) ((d + 1), 190, 130, [some (.inr (.inr 86)), some (.inl (w32 ((w32 (10 * (U1 86 40))) + (U1 94 ((U1 86 40).toNat))))), some (.inl r2), some (.inl r3)], [], (am_sh, am_mm (am_upd (am_upd (am_upd U6 95 ((w32 ((w32 (10 * (U1 86 40))) + (U1 94 ((U1 86 40).toNat)))).toNat) r2) 96 ((w32 ((w32 (10 * (U1 86 40))) + (U1 94 ((U1 86 40).toNat)))).toNat) r3) 94 ((U6 86 40).toNat) (w32 ((U6 94 ((U6 86 40).toNat)) + 1))))) R
            subst ha1a1aaa21a1aaa
            exact ev_end 1 (fun _ => rfl)
          · have ha1a1aaa21a2 := ha1a1aaa21a.2 (Int.not_le.mp hc)
            subst ha1a1aaa21a2
            exact ev_end 1 (fun _ => rfl)
        · have ha1a1aaa22 := ha1a1aaa2.2 hc
          refine ev_seg (σ1 := ((d + 1), 190, 76, [some (.inr (.inr 86)), some (.inl (w32 ((w32 (10 * (U1 86 40))) + (U1 94 ((U1 86 40).toNat))))), some (.inl r2), some (.inl r3)], [.inl r3, .inl r2, .inl (U3 86 40), .inr (.inr 86)], (am_sh, am_mm U3))) 5 (fun _ => rfl) ?_
          obtain ⟨r7, U7, ha1a1aaa22c, ha1a1aaa22a⟩ := ha1a1aaa22
          refine ev_cal (σc := (M_areNeighbours_s0 d (U3 86 40) r2 r3 U3)) (fun _ => rfl) ha1a1aaa22c ?_
          show Ev (am_kz N X) ((d + 1), 190, 79, [some (.inr (.inr 86)), some (.inl (w32 ((w32 (10 * (U1 86 40))) + (U1 94 ((U1 86 40).toNat))))), some (.inl r2), some (.inl r3)], [.inl r7], (am_sh, am_mm U7)) R
          refine ev_br (P := r7 = 0) (σ1 := ((d + 1), 190, 91, [some (.inr (.inr 86)), some (.inl (w32 ((w32 (10 * (U1 86 40))) + (U1 94 ((U1 86 40).toNat))))), some (.inl r2), some (.inl r3)], [], (am_sh, am_mm U7))) (σ2 := ((d + 1), 190, 82, [some (.inr (.inr 86)), some (.inl (w32 ((w32 (10 * (U1 86 40))) + (U1 94 ((U1 86 40).toNat))))), some (.inl r2), some (.inl r3)], [], (am_sh, am_mm U7))) 1 (fun _ => rfl) (fun hc => ?_) (fun hc => ?_)
          · have ha1a1aaa22a1 := ha1a1aaa22a.1 hc
            refine ev_br (P := (U7 86 8) ≤ 0) (σ1 := ((d + 1), 190, 99, [some (.inr (.inr 86)), some (.inl (w32 ((w32 (10 * (U1 86 40))) + (U1 94 ((U1 86 40).toNat))))), some (.inl r2), some (.inl r3)], [], (am_sh, am_mm U7))) (σ2 := ((d + 1), 190, 98, [some (.inr (.inr 86)), some (.inl (w32 ((w32 (10 * (U1 86 40))) + (U1 94 ((U1 86 40).toNat))))), some (.inl r2), some (.inl r3)], [], (am_sh, am_mm U7))) 3 (fun _ => rfl) (fun hc => ?_) (fun hc => ?_)
            · have ha1a1aaa22a11 := ha1a1aaa22a1.1 hc
              refine ev_seg (σ1 := ((d + 1), 190, 100, [some (.inr (.inr 86)), some (.inl (w32 ((w32 (10 * (U1 86 40))) + (U1 94 ((U1 86 40).toNat))))), some (.inl r2), some (.inl r3)], [.inr (.inr 86)], (am_sh, am_mm U7))) 1 (fun _ => rfl) ?_
              obtain ⟨U8, ha1a1aaa22a11c, ha1a1aaa22a11a⟩ := ha1a1aaa22a11
              refine ev_cal (σc := (M_ahead_s0 d U7)) (fun _ => rfl) ha1a1aaa22a11c ?_
              show Ev (am_kz N X) ((d + 1), 190, 103, [some (.inr (.inr 86)), some (.inl (w32 ((w32 (10 * (U1 86 40))) + (U1 94 ((U1 86 40).toNat))))), some (.inl r2), some (.inl r3)], [], (am_sh, am_mm U8)) R
              refine ev_seg (σ1 := ((d + 1), 190, 109, [some (.inr (.inr 86)), some (.inl (w32 ((w32 (10 * (U1 86 40))) + (U1 94 ((U1 86 40).toNat))))), some (.inl r2), some (.inl r3)], [.inl r2, .inl (w32 ((w32 (10 * (U1 86 40))) + (U1 94 ((U1 86 40).toNat)))), .inr (.inr 95)], (am_sh, am_mm U8))) 4 (fun _ => rfl) ?_
              refine eu_iast 95 (n := 20) rfl (by decide) rfl (fun _ => rfl) ha1a1aaa22a11a.1 ?_
              show Ev (am_kz N X) ((d + 1), 190, 110, [some (.inr (.inr 86)), some (.inl (w32 ((w32 (10 * (U1 86 40))) + (U1 94 ((U1 86 40).toNat))))), some (.inl r2), some (.inl r3)], [], (am_sh, am_mm (am_upd U8 95 ((w32 ((w32 (10 * (U1 86 40))) + (U1 94 ((U1 86 40).toNat)))).toNat) r2))) R
              have ha1a1aaa22a11aa := ha1a1aaa22a11a.2
              refine ev_seg (σ1 := ((d + 1), 190, 116, [some (.inr (.inr 86)), some (.inl (w32 ((w32 (10 * (U1 86 40))) + (U1 94 ((U1 86 40).toNat))))), some (.inl r2), some (.inl r3)], [.inl r3, .inl (w32 ((w32 (10 * (U1 86 40))) + (U1 94 ((U1 86 40).toNat)))), .inr (.inr 96)], (am_sh, am_mm (am_upd U8 95 ((w32 ((w32 (10 * (U1 86 40))) + (U1 94 ((U1 86 40).toNat)))).toNat) r2)))) 4 (fun _ => rfl) ?_
              refine eu_iast 96 (n := 20) rfl (by decide) rfl (fun _ => rfl) ha1a1aaa22a11a.1 ?_
              show Ev (am_kz N X) ((d + 1), 190, 117, [some (.inr (.inr 86)), some (.inl (w32 ((w32 (10 * (U1 86 40))) + (U1 94 ((U1 86 40).toNat))))), some (.inl r2), some (.inl r3)], [], (am_sh, am_mm (am_upd (am_upd U8 95 ((w32 ((w32 (10 * (U1 86 40))) + (U1 94 ((U1 86 40).toNat)))).toNat) r2) 96 ((w32 ((w32 (10 * (U1 86 40))) + (U1 94 ((U1 86 40).toNat)))).toNat) r3))) R
              refine ev_seg (σ1 := ((d + 1), 190, 126, [some (.inr (.inr 86)), some (.inl (w32 ((w32 (10 * (U1 86 40))) + (U1 94 ((U1 86 40).toNat))))), some (.inl r2), some (.inl r3)], [.inl (U8 86 40), .inr (.inr 94), .inl (U8 86 40), .inr (.inr 94)], (am_sh, am_mm (am_upd (am_upd U8 95 ((w32 ((w32 (10 * (U1 86 40))) + (U1 94 ((U1 86 40).toNat)))).toNat) r2) 96 ((w32 ((w32 (10 * (U1 86 40))) + (U1 94 ((U1 86 40).toNat)))).toNat) r3)))) 5 (fun _ => rfl) ?_
              refine eu_iald 94 (n := 2) rfl (by decide) rfl (fun _ => rfl) ha1a1aaa22a11aa.1 ?_
              show Ev (am_kz N X) ((d + 1), 190, 127, [some (.inr (.inr 86)), some (.inl (w32 ((w32 (10 * (U1 86 40))) + (U1 94 ((U1 86 40).toNat))))), some (.inl r2), some (.inl r3)], [.inl (U8 94 ((U8 86 40).toNat)), .inl (U8 86 40), .inr (.inr 94)], (am_sh, am_mm (am_upd (am_upd U8 95 ((w32 ((w32 (10 * (U1 86 40))) + (U1 94 ((U1 86 40).toNat)))).toNat) r2) 96 ((w32 ((w32 (10 * (U1 86 40))) + (U1 94 ((U1 86 40).toNat)))).toNat) r3))) R
              have ha1a1aaa22a11aaa := ha1a1aaa22a11aa.2
              refine ev_seg (σ1 := ((d + 1), 190, 129, [some (.inr (.inr 86)), some (.inl (w32 ((w32 (10 * (U1 86 40))) + (U1 94 ((U1 86 40).toNat))))), some (.inl r2), some (.inl r3)], [.inl (w32 ((U8 94 ((U8 86 40).toNat)) + 1)), .inl (U8 86 40), .inr (.inr 94)], (am_sh, am_mm (am_upd (am_upd U8 95 ((w32 ((w32 (10 * (U1 86 40))) + (U1 94 ((U1 86 40).toNat)))).toNat) r2) 96 ((w32 ((w32 (10 * (U1 86 40))) + (U1 94 ((U1 86 40).toNat)))).toNat) r3)))) 2 (fun _ => rfl) ?_
              refine eu_iast 94 (n := 2) rfl (by decide) rfl (fun _ => rfl) ha1a1aaa22a11aa.1 ?_
              show Ev (am_kz N X) ((d + 1), 190, 130, [some (.inr (.inr 86)), some (.inl (w32 ((w32 (10 * (U1 86 40))) + (U1 94 ((U1 86 40).toNat))))), some (.inl r2), some (.inl r3)], [], (am_sh, am_mm (am_upd (am_upd (am_upd U8 95 ((w32 ((w32 (10 * (U1 86 40))) + (U1 94 ((U1 86 40).toNat)))).toNat) r2) 96 ((w32 ((w32 (10 * (U1 86 40))) + (U1 94 ((U1 86 40).toNat)))).toNat) r3) 94 ((U8 86 40).toNat) (w32 ((U8 94 ((U8 86 40).toNat)) + 1))))) R
              subst ha1a1aaa22a11aaa
              exact ev_end 1 (fun _ => rfl)
            · have ha1a1aaa22a12 := ha1a1aaa22a1.2 (Int.not_le.mp hc)
              subst ha1a1aaa22a12
              exact ev_end 1 (fun _ => rfl)
          · have ha1a1aaa22a2 := ha1a1aaa22a.2 hc
            refine ev_seg (σ1 := ((d + 1), 190, 88, [some (.inr (.inr 86)), some (.inl (w32 ((w32 (10 * (U1 86 40))) + (U1 94 ((U1 86 40).toNat))))), some (.inl r2), some (.inl r3)], [.inl (U7 86 4), .inl 3, .inr (.inr 86)], (am_sh, am_mm U7))) 4 (fun _ => rfl) ?_
            obtain ⟨U9, ha1a1aaa22a2c, ha1a1aaa22a2a⟩ := ha1a1aaa22a2
            refine ev_cal (σc := (M_blame_s0 d 3 (U7 86 4) U7)) (fun _ => rfl) ha1a1aaa22a2c ?_
            show Ev (am_kz N X) ((d + 1), 190, 91, [some (.inr (.inr 86)), some (.inl (w32 ((w32 (10 * (U1 86 40))) + (U1 94 ((U1 86 40).toNat))))), some (.inl r2), some (.inl r3)], [], (am_sh, am_mm U9)) R
            refine ev_br (P := (U9 86 8) ≤ 0) (σ1 := ((d + 1), 190, 99, [some (.inr (.inr 86)), some (.inl (w32 ((w32 (10 * (U1 86 40))) + (U1 94 ((U1 86 40).toNat))))), some (.inl r2), some (.inl r3)], [], (am_sh, am_mm U9))) (σ2 := ((d + 1), 190, 98, [some (.inr (.inr 86)), some (.inl (w32 ((w32 (10 * (U1 86 40))) + (U1 94 ((U1 86 40).toNat))))), some (.inl r2), some (.inl r3)], [], (am_sh, am_mm U9))) 3 (fun _ => rfl) (fun hc => ?_) (fun hc => ?_)
            · have ha1a1aaa22a2a1 := ha1a1aaa22a2a.1 hc
              refine ev_seg (σ1 := ((d + 1), 190, 100, [some (.inr (.inr 86)), some (.inl (w32 ((w32 (10 * (U1 86 40))) + (U1 94 ((U1 86 40).toNat))))), some (.inl r2), some (.inl r3)], [.inr (.inr 86)], (am_sh, am_mm U9))) 1 (fun _ => rfl) ?_
              obtain ⟨U10, ha1a1aaa22a2a1c, ha1a1aaa22a2a1a⟩ := ha1a1aaa22a2a1
              refine ev_cal (σc := (M_ahead_s0 d U9)) (fun _ => rfl) ha1a1aaa22a2a1c ?_
              show Ev (am_kz N X) ((d + 1), 190, 103, [some (.inr (.inr 86)), some (.inl (w32 ((w32 (10 * (U1 86 40))) + (U1 94 ((U1 86 40).toNat))))), some (.inl r2), some (.inl r3)], [], (am_sh, am_mm U10)) R
              refine ev_seg (σ1 := ((d + 1), 190, 109, [some (.inr (.inr 86)), some (.inl (w32 ((w32 (10 * (U1 86 40))) + (U1 94 ((U1 86 40).toNat))))), some (.inl r2), some (.inl r3)], [.inl r2, .inl (w32 ((w32 (10 * (U1 86 40))) + (U1 94 ((U1 86 40).toNat)))), .inr (.inr 95)], (am_sh, am_mm U10))) 4 (fun _ => rfl) ?_
              refine eu_iast 95 (n := 20) rfl (by decide) rfl (fun _ => rfl) ha1a1aaa22a2a1a.1 ?_
              show Ev (am_kz N X) ((d + 1), 190, 110, [some (.inr (.inr 86)), some (.inl (w32 ((w32 (10 * (U1 86 40))) + (U1 94 ((U1 86 40).toNat))))), some (.inl r2), some (.inl r3)], [], (am_sh, am_mm (am_upd U10 95 ((w32 ((w32 (10 * (U1 86 40))) + (U1 94 ((U1 86 40).toNat)))).toNat) r2))) R
              have ha1a1aaa22a2a1aa := ha1a1aaa22a2a1a.2
              refine ev_seg (σ1 := ((d + 1), 190, 116, [some (.inr (.inr 86)), some (.inl (w32 ((w32 (10 * (U1 86 40))) + (U1 94 ((U1 86 40).toNat))))), some (.inl r2), some (.inl r3)], [.inl r3, .inl (w32 ((w32 (10 * (U1 86 40))) + (U1 94 ((U1 86 40).toNat)))), .inr (.inr 96)], (am_sh, am_mm (am_upd U10 95 ((w32 ((w32 (10 * (U1 86 40))) + (U1 94 ((U1 86 40).toNat)))).toNat) r2)))) 4 (fun _ => rfl) ?_
              refine eu_iast 96 (n := 20) rfl (by decide) rfl (fun _ => rfl) ha1a1aaa22a2a1a.1 ?_
              show Ev (am_kz N X) ((d + 1), 190, 117, [some (.inr (.inr 86)), some (.inl (w32 ((w32 (10 * (U1 86 40))) + (U1 94 ((U1 86 40).toNat))))), some (.inl r2), some (.inl r3)], [], (am_sh, am_mm (am_upd (am_upd U10 95 ((w32 ((w32 (10 * (U1 86 40))) + (U1 94 ((U1 86 40).toNat)))).toNat) r2) 96 ((w32 ((w32 (10 * (U1 86 40))) + (U1 94 ((U1 86 40).toNat)))).toNat) r3))) R
              refine ev_seg (σ1 := ((d + 1), 190, 126, [some (.inr (.inr 86)), some (.inl (w32 ((w32 (10 * (U1 86 40))) + (U1 94 ((U1 86 40).toNat))))), some (.inl r2), some (.inl r3)], [.inl (U10 86 40), .inr (.inr 94), .inl (U10 86 40), .inr (.inr 94)], (am_sh, am_mm (am_upd (am_upd U10 95 ((w32 ((w32 (10 * (U1 86 40))) + (U1 94 ((U1 86 40).toNat)))).toNat) r2) 96 ((w32 ((w32 (10 * (U1 86 40))) + (U1 94 ((U1 86 40).toNat)))).toNat) r3)))) 5 (fun _ => rfl) ?_
              refine eu_iald 94 (n := 2) rfl (by decide) rfl (fun _ => rfl) ha1a1aaa22a2a1aa.1 ?_
              show Ev (am_kz N X) ((d + 1), 190, 127, [some (.inr (.inr 86)), some (.inl (w32 ((w32 (10 * (U1 86 40))) + (U1 94 ((U1 86 40).toNat))))), some (.inl r2), some (.inl r3)], [.inl (U10 94 ((U10 86 40).toNat)), .inl (U10 86 40), .inr (.inr 94)], (am_sh, am_mm (am_upd (am_upd U10 95 ((w32 ((w32 (10 * (U1 86 40))) + (U1 94 ((U1 86 40).toNat)))).toNat) r2) 96 ((w32 ((w32 (10 * (U1 86 40))) + (U1 94 ((U1 86 40).toNat)))).toNat) r3))) R
              have ha1a1aaa22a2a1aaa := ha1a1aaa22a2a1aa.2
              refine ev_seg (σ1 := ((d + 1), 190, 129, [some (.inr (.inr 86)), some (.inl (w32 ((w32 (10 * (U1 86 40))) + (U1 94 ((U1 86 40).toNat))))), some (.inl r2), some (.inl r3)], [.inl (w32 ((U10 94 ((U10 86 40).toNat)) + 1)), .inl (U10 86 40), .inr (.inr 94)], (am_sh, am_mm (am_upd (am_upd U10 95 ((w32 ((w32 (10 * (U1 86 40))) + (U1 94 ((U1 86 40).toNat)))).toNat) r2) 96 ((w32 ((w32 (10 * (U1 86 40))) + (U1 94 ((U1 86 40).toNat)))).toNat) r3)))) 2 (fun _ => rfl) ?_
              refine eu_iast 94 (n := 2) rfl (by decide) rfl (fun _ => rfl) ha1a1aaa22a2a1aa.1 ?_
              show Ev (am_kz N X) ((d + 1), 190, 130, [some (.inr (.inr 86)), some (.inl (w32 ((w32 (10 * (U1 86 40))) + (U1 94 ((U1 86 40).toNat))))), some (.inl r2), some (.inl r3)], [], (am_sh, am_mm (am_upd (am_upd (am_upd U10 95 ((w32 ((w32 (10 * (U1 86 40))) + (U1 94 ((U1 86 40).toNat)))).toNat) r2) 96 ((w32 ((w32 (10 * (U1 86 40))) + (U1 94 ((U1 86 40).toNat)))).toNat) r3) 94 ((U10 86 40).toNat) (w32 ((U10 94 ((U10 86 40).toNat)) + 1))))) R
              subst ha1a1aaa22a2a1aaa
              exact ev_end 1 (fun _ => rfl)
            · have ha1a1aaa22a2a2 := ha1a1aaa22a2a.2 (Int.not_le.mp hc)
              subst ha1a1aaa22a2a2
              exact ev_end 1 (fun _ => rfl)
    · have ha1a2 := ha1a.2 (Decidable.not_not.mp hc)
      subst ha1a2
      exact ev_end 1 (fun _ => rfl)
  · have ha2 := ha.2 (Decidable.not_not.mp hc)
    refine ev_seg (σ1 := ((d + 1), 190, 20, [some (.inr (.inr 86)), none, none, none], [.inl 1, .inr (.inr 86)], (am_sh, am_mm U))) 2 (fun _ => rfl) ?_
    obtain ⟨r11, U11, ha2c, ha2a⟩ := ha2
    refine ev_cal (σc := (M_counts_s0 d 1 U)) (fun _ => rfl) ha2c ?_
    show Ev (am_kz N X) ((d + 1), 190, 23, [some (.inr (.inr 86)), none, none, none], [.inl r11], (am_sh, am_mm U11)) R
    refine ev_br (P := ¬ r11 = 0) (σ1 := ((d + 1), 190, 27, [some (.inr (.inr 86)), none, none, none], [], (am_sh, am_mm U11))) (σ2 := ((d + 1), 190, 26, [some (.inr (.inr 86)), none, none, none], [], (am_sh, am_mm U11))) 1 (fun _ => rfl) (fun hc => ?_) (fun hc => ?_)
    · have ha2a1 := ha2a.1 hc
      refine ev_seg (σ1 := ((d + 1), 190, 42, [some (.inr (.inr 86)), none, none, none], [.inl (U11 86 40), .inr (.inr 94), .inl (w32 (10 * (U11 86 40)))], (am_sh, am_mm U11))) 8 (fun _ => rfl) ?_
      refine eu_iald 94 (n := 2) rfl (by decide) rfl (fun _ => rfl) ha2a1.1 ?_
      show Ev (am_kz N X) ((d + 1), 190, 43, [some (.inr (.inr 86)), none, none, none], [.inl (U11 94 ((U11 86 40).toNat)), .inl (w32 (10 * (U11 86 40)))], (am_sh, am_mm U11)) R
      have ha2a1a := ha2a1.2
      refine ev_seg (σ1 := ((d + 1), 190, 47, [some (.inr (.inr 86)), some (.inl (w32 ((w32 (10 * (U11 86 40))) + (U11 94 ((U11 86 40).toNat))))), none, none], [.inl 1, .inr (.inr 86)], (am_sh, am_mm U11))) 4 (fun _ => rfl) ?_
      obtain ⟨r12, U12, ha2a1ac, ha2a1aa⟩ := ha2a1a
      refine ev_cal (σc := (M_asked_s0 d 1 U11)) (fun _ => rfl) ha2a1ac ?_
      show Ev (am_kz N X) ((d + 1), 190, 50, [some (.inr (.inr 86)), some (.inl (w32 ((w32 (10 * (U11 86 40))) + (U11 94 ((U11 86 40).toNat))))), none, none], [.inl r12], (am_sh, am_mm U12)) R
      refine ev_seg (σ1 := ((d + 1), 190, 53, [some (.inr (.inr 86)), some (.inl (w32 ((w32 (10 * (U11 86 40))) + (U11 94 ((U11 86 40).toNat))))), some (.inl r12), none], [.inl 1, .inr (.inr 86)], (am_sh, am_mm U12))) 3 (fun _ => rfl) ?_
      obtain ⟨r13, U13, ha2a1aac, ha2a1aaa⟩ := ha2a1aa
      refine ev_cal (σc := (M_looked_s0 d 1 U12)) (fun _ => rfl) ha2a1aac ?_
      show Ev (am_kz N X) ((d + 1), 190, 56, [some (.inr (.inr 86)), some (.inl (w32 ((w32 (10 * (U11 86 40))) + (U11 94 ((U11 86 40).toNat))))), some (.inl r12), none], [.inl r13], (am_sh, am_mm U13)) R
      refine ev_br (P := ¬ (U13 86 8) = 0) (σ1 := ((d + 1), 190, 91, [some (.inr (.inr 86)), some (.inl (w32 ((w32 (10 * (U11 86 40))) + (U11 94 ((U11 86 40).toNat))))), some (.inl r12), some (.inl r13)], [], (am_sh, am_mm U13))) (σ2 := ((d + 1), 190, 64, [some (.inr (.inr 86)), some (.inl (w32 ((w32 (10 * (U11 86 40))) + (U11 94 ((U11 86 40).toNat))))), some (.inl r12), some (.inl r13)], [], (am_sh, am_mm U13))) 4 (fun _ => rfl) (fun hc => ?_) (fun hc => ?_)
      · have ha2a1aaa1 := ha2a1aaa.1 hc
        refine ev_br (P := (U13 86 8) ≤ 0) (σ1 := ((d + 1), 190, 99, [some (.inr (.inr 86)), some (.inl (w32 ((w32 (10 * (U11 86 40))) + (U11 94 ((U11 86 40).toNat))))), some (.inl r12), some (.inl r13)], [], (am_sh, am_mm U13))) (σ2 := ((d + 1), 190, 98, [some (.inr (.inr 86)), some (.inl (w32 ((w32 (10 * (U11 86 40))) + (U11 94 ((U11 86 40).toNat))))), some (.inl r12), some (.inl r13)], [], (am_sh, am_mm U13))) 3 (fun _ => rfl) (fun hc => ?_) (fun hc => ?_)
        · have ha2a1aaa11 := ha2a1aaa1.1 hc
          refine ev_seg (σ1 := ((d + 1), 190, 100, [some (.inr (.inr 86)), some (.inl (w32 ((w32 (10 * (U11 86 40))) + (U11 94 ((U11 86 40).toNat))))), some (.inl r12), some (.inl r13)], [.inr (.inr 86)], (am_sh, am_mm U13))) 1 (fun _ => rfl) ?_
          obtain ⟨U14, ha2a1aaa11c, ha2a1aaa11a⟩ := ha2a1aaa11
          refine ev_cal (σc := (M_ahead_s0 d U13)) (fun _ => rfl) ha2a1aaa11c ?_
          show Ev (am_kz N X) ((d + 1), 190, 103, [some (.inr (.inr 86)), some (.inl (w32 ((w32 (10 * (U11 86 40))) + (U11 94 ((U11 86 40).toNat))))), some (.inl r12), some (.inl r13)], [], (am_sh, am_mm U14)) R
          refine ev_seg (σ1 := ((d + 1), 190, 109, [some (.inr (.inr 86)), some (.inl (w32 ((w32 (10 * (U11 86 40))) + (U11 94 ((U11 86 40).toNat))))), some (.inl r12), some (.inl r13)], [.inl r12, .inl (w32 ((w32 (10 * (U11 86 40))) + (U11 94 ((U11 86 40).toNat)))), .inr (.inr 95)], (am_sh, am_mm U14))) 4 (fun _ => rfl) ?_
          refine eu_iast 95 (n := 20) rfl (by decide) rfl (fun _ => rfl) ha2a1aaa11a.1 ?_
          show Ev (am_kz N X) ((d + 1), 190, 110, [some (.inr (.inr 86)), some (.inl (w32 ((w32 (10 * (U11 86 40))) + (U11 94 ((U11 86 40).toNat))))), some (.inl r12), some (.inl r13)], [], (am_sh, am_mm (am_upd U14 95 ((w32 ((w32 (10 * (U11 86 40))) + (U11 94 ((U11 86 40).toNat)))).toNat) r12))) R
          have ha2a1aaa11aa := ha2a1aaa11a.2
          refine ev_seg (σ1 := ((d + 1), 190, 116, [some (.inr (.inr 86)), some (.inl (w32 ((w32 (10 * (U11 86 40))) + (U11 94 ((U11 86 40).toNat))))), some (.inl r12), some (.inl r13)], [.inl r13, .inl (w32 ((w32 (10 * (U11 86 40))) + (U11 94 ((U11 86 40).toNat)))), .inr (.inr 96)], (am_sh, am_mm (am_upd U14 95 ((w32 ((w32 (10 * (U11 86 40))) + (U11 94 ((U11 86 40).toNat)))).toNat) r12)))) 4 (fun _ => rfl) ?_
          refine eu_iast 96 (n := 20) rfl (by decide) rfl (fun _ => rfl) ha2a1aaa11a.1 ?_
          show Ev (am_kz N X) ((d + 1), 190, 117, [some (.inr (.inr 86)), some (.inl (w32 ((w32 (10 * (U11 86 40))) + (U11 94 ((U11 86 40).toNat))))), some (.inl r12), some (.inl r13)], [], (am_sh, am_mm (am_upd (am_upd U14 95 ((w32 ((w32 (10 * (U11 86 40))) + (U11 94 ((U11 86 40).toNat)))).toNat) r12) 96 ((w32 ((w32 (10 * (U11 86 40))) + (U11 94 ((U11 86 40).toNat)))).toNat) r13))) R
          refine ev_seg (σ1 := ((d + 1), 190, 126, [some (.inr (.inr 86)), some (.inl (w32 ((w32 (10 * (U11 86 40))) + (U11 94 ((U11 86 40).toNat))))), some (.inl r12), some (.inl r13)], [.inl (U14 86 40), .inr (.inr 94), .inl (U14 86 40), .inr (.inr 94)], (am_sh, am_mm (am_upd (am_upd U14 95 ((w32 ((w32 (10 * (U11 86 40))) + (U11 94 ((U11 86 40).toNat)))).toNat) r12) 96 ((w32 ((w32 (10 * (U11 86 40))) + (U11 94 ((U11 86 40).toNat)))).toNat) r13)))) 5 (fun _ => rfl) ?_
          refine eu_iald 94 (n := 2) rfl (by decide) rfl (fun _ => rfl) ha2a1aaa11aa.1 ?_
          show Ev (am_kz N X) ((d + 1), 190, 127, [some (.inr (.inr 86)), some (.inl (w32 ((w32 (10 * (U11 86 40))) + (U11 94 ((U11 86 40).toNat))))), some (.inl r12), some (.inl r13)], [.inl (U14 94 ((U14 86 40).toNat)), .inl (U14 86 40), .inr (.inr 94)], (am_sh, am_mm (am_upd (am_upd U14 95 ((w32 ((w32 (10 * (U11 86 40))) + (U11 94 ((U11 86 40).toNat)))).toNat) r12) 96 ((w32 ((w32 (10 * (U11 86 40))) + (U11 94 ((U11 86 40).toNat)))).toNat) r13))) R
          have ha2a1aaa11aaa := ha2a1aaa11aa.2
          refine ev_seg (σ1 := ((d + 1), 190, 129, [some (.inr (.inr 86)), some (.inl (w32 ((w32 (10 * (U11 86 40))) + (U11 94 ((U11 86 40).toNat))))), some (.inl r12), some (.inl r13)], [.inl (w32 ((U14 94 ((U14 86 40).toNat)) + 1)), .inl (U14 86 40), .inr (.inr 94)], (am_sh, am_mm (am_upd (am_upd U14 95 ((w32 ((w32 (10 * (U11 86 40))) + (U11 94 ((U11 86 40).toNat)))).toNat) r12) 96 ((w32 ((w32 (10 * (U11 86 40))) + (U11 94 ((U11 86 40).toNat)))).toNat) r13)))) 2 (fun _ => rfl) ?_
          refine eu_iast 94 (n := 2) rfl (by decide) rfl (fun _ => rfl) ha2a1aaa11aa.1 ?_
          show Ev (am_kz N X) ((d + 1), 190, 130, [some (.inr (.inr 86)), some (.inl (w32 ((w32 (10 * (U11 86 40))) + (U11 94 ((U11 86 40).toNat))))), some (.inl r12), some (.inl r13)], [], (am_sh, am_mm (am_upd (am_upd (am_upd U14 95 ((w32 ((w32 (10 * (U11 86 40))) + (U11 94 ((U11 86 40).toNat)))).toNat) r12) 96 ((w32 ((w32 (10 * (U11 86 40))) + (U11 94 ((U11 86 40).toNat)))).toNat) r13) 94 ((U14 86 40).toNat) (w32 ((U14 94 ((U14 86 40).toNat)) + 1))))) R
          subst ha2a1aaa11aaa
          exact ev_end 1 (fun _ => rfl)
        · have ha2a1aaa12 := ha2a1aaa1.2 (Int.not_le.mp hc)
          subst ha2a1aaa12
          exact ev_end 1 (fun _ => rfl)
      · have ha2a1aaa2 := ha2a1aaa.2 (Decidable.not_not.mp hc)
        refine ev_br (P := r12 = r13) (σ1 := ((d + 1), 190, 82, [some (.inr (.inr 86)), some (.inl (w32 ((w32 (10 * (U11 86 40))) + (U11 94 ((U11 86 40).toNat))))), some (.inl r12), some (.inl r13)], [], (am_sh, am_mm U13))) (σ2 := ((d + 1), 190, 69, [some (.inr (.inr 86)), some (.inl (w32 ((w32 (10 * (U11 86 40))) + (U11 94 ((U11 86 40).toNat))))), some (.inl r12), some (.inl r13)], [], (am_sh, am_mm U13))) 3 (fun _ => rfl) (fun hc => ?_) (fun hc => ?_)
        · have ha2a1aaa21 := ha2a1aaa2.1 hc
          refine ev_seg (σ1 := ((d + 1), 190, 88, [some (.inr (.inr 86)), some (.inl (w32 ((w32 (10 * (U11 86 40))) + (U11 94 ((U11 86 40).toNat))))), some (.inl r12), some (.inl r13)], [.inl (U13 86 4), .inl 3, .inr (.inr 86)], (am_sh, am_mm U13))) 4 (fun _ => rfl) ?_
          obtain ⟨U15, ha2a1aaa21c, ha2a1aaa21a⟩ := ha2a1aaa21
          refine ev_cal (σc := (M_blame_s0 d 3 (U13 86 4) U13)) (fun _ => rfl) ha2a1aaa21c ?_
          show Ev (am_kz N X) ((d + 1), 190, 91, [some (.inr (.inr 86)), some (.inl (w32 ((w32 (10 * (U11 86 40))) + (U11 94 ((U11 86 40).toNat))))), some (.inl r12), some (.inl r13)], [], (am_sh, am_mm U15)) R
          refine ev_br (P := (U15 86 8) ≤ 0) (σ1 := ((d + 1), 190, 99, [some (.inr (.inr 86)), some (.inl (w32 ((w32 (10 * (U11 86 40))) + (U11 94 ((U11 86 40).toNat))))), some (.inl r12), some (.inl r13)], [], (am_sh, am_mm U15))) (σ2 := ((d + 1), 190, 98, [some (.inr (.inr 86)), some (.inl (w32 ((w32 (10 * (U11 86 40))) + (U11 94 ((U11 86 40).toNat))))), some (.inl r12), some (.inl r13)], [], (am_sh, am_mm U15))) 3 (fun _ => rfl) (fun hc => ?_) (fun hc => ?_)
          · have ha2a1aaa21a1 := ha2a1aaa21a.1 hc
            refine ev_seg (σ1 := ((d + 1), 190, 100, [some (.inr (.inr 86)), some (.inl (w32 ((w32 (10 * (U11 86 40))) + (U11 94 ((U11 86 40).toNat))))), some (.inl r12), some (.inl r13)], [.inr (.inr 86)], (am_sh, am_mm U15))) 1 (fun _ => rfl) ?_
            obtain ⟨U16, ha2a1aaa21a1c, ha2a1aaa21a1a⟩ := ha2a1aaa21a1
            refine ev_cal (σc := (M_ahead_s0 d U15)) (fun _ => rfl) ha2a1aaa21a1c ?_
            show Ev (am_kz N X) ((d + 1), 190, 103, [some (.inr (.inr 86)), some (.inl (w32 ((w32 (10 * (U11 86 40))) + (U11 94 ((U11 86 40).toNat))))), some (.inl r12), some (.inl r13)], [], (am_sh, am_mm U16)) R
            refine ev_seg (σ1 := ((d + 1), 190, 109, [some (.inr (.inr 86)), some (.inl (w32 ((w32 (10 * (U11 86 40))) + (U11 94 ((U11 86 40).toNat))))), some (.inl r12), some (.inl r13)], [.inl r12, .inl (w32 ((w32 (10 * (U11 86 40))) + (U11 94 ((U11 86 40).toNat)))), .inr (.inr 95)], (am_sh, am_mm U16))) 4 (fun _ => rfl) ?_
            refine eu_iast 95 (n := 20) rfl (by decide) rfl (fun _ => rfl) ha2a1aaa21a1a.1 ?_
            show Ev (am_kz N X) ((d + 1), 190, 110, [some (.inr (.inr 86)), some (.inl (w32 ((w32 (10 * (U11 86 40))) + (U11 94 ((U11 86 40).toNat))))), some (.inl r12), some (.inl r13)], [], (am_sh, am_mm (am_upd U16 95 ((w32 ((w32 (10 * (U11 86 40))) + (U11 94 ((U11 86 40).toNat)))).toNat) r12))) R
            have ha2a1aaa21a1aa := ha2a1aaa21a1a.2
            refine ev_seg (σ1 := ((d + 1), 190, 116, [some (.inr (.inr 86)), some (.inl (w32 ((w32 (10 * (U11 86 40))) + (U11 94 ((U11 86 40).toNat))))), some (.inl r12), some (.inl r13)], [.inl r13, .inl (w32 ((w32 (10 * (U11 86 40))) + (U11 94 ((U11 86 40).toNat)))), .inr (.inr 96)], (am_sh, am_mm (am_upd U16 95 ((w32 ((w32 (10 * (U11 86 40))) + (U11 94 ((U11 86 40).toNat)))).toNat) r12)))) 4 (fun _ => rfl) ?_
            refine eu_iast 96 (n := 20) rfl (by decide) rfl (fun _ => rfl) ha2a1aaa21a1a.1 ?_
            show Ev (am_kz N X) ((d + 1), 190, 117, [some (.inr (.inr 86)), some (.inl (w32 ((w32 (10 * (U11 86 40))) + (U11 94 ((U11 86 40).toNat))))), some (.inl r12), some (.inl r13)], [], (am_sh, am_mm (am_upd (am_upd U16 95 ((w32 ((w32 (10 * (U11 86 40))) + (U11 94 ((U11 86 40).toNat)))).toNat) r12) 96 ((w32 ((w32 (10 * (U11 86 40))) + (U11 94 ((U11 86 40).toNat)))).toNat) r13))) R
            refine ev_seg (σ1 := ((d + 1), 190, 126, [some (.inr (.inr 86)), some (.inl (w32 ((w32 (10 * (U11 86 40))) + (U11 94 ((U11 86 40).toNat))))), some (.inl r12), some (.inl r13)], [.inl (U16 86 40), .inr (.inr 94), .inl (U16 86 40), .inr (.inr 94)], (am_sh, am_mm (am_upd (am_upd U16 95 ((w32 ((w32 (10 * (U11 86 40))) + (U11 94 ((U11 86 40).toNat)))).toNat) r12) 96 ((w32 ((w32 (10 * (U11 86 40))) + (U11 94 ((U11 86 40).toNat)))).toNat) r13)))) 5 (fun _ => rfl) ?_
            refine eu_iald 94 (n := 2) rfl (by decide) rfl (fun _ => rfl) ha2a1aaa21a1aa.1 ?_
            show Ev (am_kz N X) ((d + 1), 190, 127, [some (.inr (.inr 86)), some (.inl (w32 ((w32 (10 * (U11 86 40))) + (U11 94 ((U11 86 40).toNat))))), some (.inl r12), some (.inl r13)], [.inl (U16 94 ((U16 86 40).toNat)), .inl (U16 86 40), .inr (.inr 94)], (am_sh, am_mm (am_upd (am_upd U16 95 ((w32 ((w32 (10 * (U11 86 40))) + (U11 94 ((U11 86 40).toNat)))).toNat) r12) 96 ((w32 ((w32 (10 * (U11 86 40))) + (U11 94 ((U11 86 40).toNat)))).toNat) r13))) R
            have ha2a1aaa21a1aaa := ha2a1aaa21a1aa.2
            refine ev_seg (σ1 := ((d + 1), 190, 129, [some (.inr (.inr 86)), some (.inl (w32 ((w32 (10 * (U11 86 40))) + (U11 94 ((U11 86 40).toNat))))), some (.inl r12), some (.inl r13)], [.inl (w32 ((U16 94 ((U16 86 40).toNat)) + 1)), .inl (U16 86 40), .inr (.inr 94)], (am_sh, am_mm (am_upd (am_upd U16 95 ((w32 ((w32 (10 * (U11 86 40))) + (U11 94 ((U11 86 40).toNat)))).toNat) r12) 96 ((w32 ((w32 (10 * (U11 86 40))) + (U11 94 ((U11 86 40).toNat)))).toNat) r13)))) 2 (fun _ => rfl) ?_
            refine eu_iast 94 (n := 2) rfl (by decide) rfl (fun _ => rfl) ha2a1aaa21a1aa.1 ?_
            show Ev (am_kz N X) ((d + 1), 190, 130, [some (.inr (.inr 86)), some (.inl (w32 ((w32 (10 * (U11 86 40))) + (U11 94 ((U11 86 40).toNat))))), some (.inl r12), some (.inl r13)], [], (am_sh, am_mm (am_upd (am_upd (am_upd U16 95 ((w32 ((w32 (10 * (U11 86 40))) + (U11 94 ((U11 86 40).toNat)))).toNat) r12) 96 ((w32 ((w32 (10 * (U11 86 40))) + (U11 94 ((U11 86 40).toNat)))).toNat) r13) 94 ((U16 86 40).toNat) (w32 ((U16 94 ((U16 86 40).toNat)) + 1))))) R
            subst ha2a1aaa21a1aaa
            exact ev_end 1 (fun _ => rfl)
          · have ha2a1aaa21a2 := ha2a1aaa21a.2 (Int.not_le.mp hc)
            subst ha2a1aaa21a2
            exact ev_end 1 (fun _ => rfl)
        · have ha2a1aaa22 := ha2a1aaa2.2 hc
          refine ev_seg (σ1 := ((d + 1), 190, 76, [some (.inr (.inr 86)), some (.inl (w32 ((w32 (10 * (U11 86 40))) + (U11 94 ((U11 86 40).toNat))))), some (.inl r12), some (.inl r13)], [.inl r13, .inl r12, .inl (U13 86 40), .inr (.inr 86)], (am_sh, am_mm U13))) 5 (fun _ => rfl) ?_
          obtain ⟨r17, U17, ha2a1aaa22c, ha2a1aaa22a⟩ := ha2a1aaa22
          refine ev_cal (σc := (M_areNeighbours_s0 d (U13 86 40) r12 r13 U13)) (fun _ => rfl) ha2a1aaa22c ?_
          show Ev (am_kz N X) ((d + 1), 190, 79, [some (.inr (.inr 86)), some (.inl (w32 ((w32 (10 * (U11 86 40))) + (U11 94 ((U11 86 40).toNat))))), some (.inl r12), some (.inl r13)], [.inl r17], (am_sh, am_mm U17)) R
          refine ev_br (P := r17 = 0) (σ1 := ((d + 1), 190, 91, [some (.inr (.inr 86)), some (.inl (w32 ((w32 (10 * (U11 86 40))) + (U11 94 ((U11 86 40).toNat))))), some (.inl r12), some (.inl r13)], [], (am_sh, am_mm U17))) (σ2 := ((d + 1), 190, 82, [some (.inr (.inr 86)), some (.inl (w32 ((w32 (10 * (U11 86 40))) + (U11 94 ((U11 86 40).toNat))))), some (.inl r12), some (.inl r13)], [], (am_sh, am_mm U17))) 1 (fun _ => rfl) (fun hc => ?_) (fun hc => ?_)
          · have ha2a1aaa22a1 := ha2a1aaa22a.1 hc
            refine ev_br (P := (U17 86 8) ≤ 0) (σ1 := ((d + 1), 190, 99, [some (.inr (.inr 86)), some (.inl (w32 ((w32 (10 * (U11 86 40))) + (U11 94 ((U11 86 40).toNat))))), some (.inl r12), some (.inl r13)], [], (am_sh, am_mm U17))) (σ2 := ((d + 1), 190, 98, [some (.inr (.inr 86)), some (.inl (w32 ((w32 (10 * (U11 86 40))) + (U11 94 ((U11 86 40).toNat))))), some (.inl r12), some (.inl r13)], [], (am_sh, am_mm U17))) 3 (fun _ => rfl) (fun hc => ?_) (fun hc => ?_)
            · have ha2a1aaa22a11 := ha2a1aaa22a1.1 hc
              refine ev_seg (σ1 := ((d + 1), 190, 100, [some (.inr (.inr 86)), some (.inl (w32 ((w32 (10 * (U11 86 40))) + (U11 94 ((U11 86 40).toNat))))), some (.inl r12), some (.inl r13)], [.inr (.inr 86)], (am_sh, am_mm U17))) 1 (fun _ => rfl) ?_
              obtain ⟨U18, ha2a1aaa22a11c, ha2a1aaa22a11a⟩ := ha2a1aaa22a11
              refine ev_cal (σc := (M_ahead_s0 d U17)) (fun _ => rfl) ha2a1aaa22a11c ?_
              show Ev (am_kz N X) ((d + 1), 190, 103, [some (.inr (.inr 86)), some (.inl (w32 ((w32 (10 * (U11 86 40))) + (U11 94 ((U11 86 40).toNat))))), some (.inl r12), some (.inl r13)], [], (am_sh, am_mm U18)) R
              refine ev_seg (σ1 := ((d + 1), 190, 109, [some (.inr (.inr 86)), some (.inl (w32 ((w32 (10 * (U11 86 40))) + (U11 94 ((U11 86 40).toNat))))), some (.inl r12), some (.inl r13)], [.inl r12, .inl (w32 ((w32 (10 * (U11 86 40))) + (U11 94 ((U11 86 40).toNat)))), .inr (.inr 95)], (am_sh, am_mm U18))) 4 (fun _ => rfl) ?_
              refine eu_iast 95 (n := 20) rfl (by decide) rfl (fun _ => rfl) ha2a1aaa22a11a.1 ?_
              show Ev (am_kz N X) ((d + 1), 190, 110, [some (.inr (.inr 86)), some (.inl (w32 ((w32 (10 * (U11 86 40))) + (U11 94 ((U11 86 40).toNat))))), some (.inl r12), some (.inl r13)], [], (am_sh, am_mm (am_upd U18 95 ((w32 ((w32 (10 * (U11 86 40))) + (U11 94 ((U11 86 40).toNat)))).toNat) r12))) R
              have ha2a1aaa22a11aa := ha2a1aaa22a11a.2
              refine ev_seg (σ1 := ((d + 1), 190, 116, [some (.inr (.inr 86)), some (.inl (w32 ((w32 (10 * (U11 86 40))) + (U11 94 ((U11 86 40).toNat))))), some (.inl r12), some (.inl r13)], [.inl r13, .inl (w32 ((w32 (10 * (U11 86 40))) + (U11 94 ((U11 86 40).toNat)))), .inr (.inr 96)], (am_sh, am_mm (am_upd U18 95 ((w32 ((w32 (10 * (U11 86 40))) + (U11 94 ((U11 86 40).toNat)))).toNat) r12)))) 4 (fun _ => rfl) ?_
              refine eu_iast 96 (n := 20) rfl (by decide) rfl (fun _ => rfl) ha2a1aaa22a11a.1 ?_
              show Ev (am_kz N X) ((d + 1), 190, 117, [some (.inr (.inr 86)), some (.inl (w32 ((w32 (10 * (U11 86 40))) + (U11 94 ((U11 86 40).toNat))))), some (.inl r12), some (.inl r13)], [], (am_sh, am_mm (am_upd (am_upd U18 95 ((w32 ((w32 (10 * (U11 86 40))) + (U11 94 ((U11 86 40).toNat)))).toNat) r12) 96 ((w32 ((w32 (10 * (U11 86 40))) + (U11 94 ((U11 86 40).toNat)))).toNat) r13))) R
              refine ev_seg (σ1 := ((d + 1), 190, 126, [some (.inr (.inr 86)), some (.inl (w32 ((w32 (10 * (U11 86 40))) + (U11 94 ((U11 86 40).toNat))))), some (.inl r12), some (.inl r13)], [.inl (U18 86 40), .inr (.inr 94), .inl (U18 86 40), .inr (.inr 94)], (am_sh, am_mm (am_upd (am_upd U18 95 ((w32 ((w32 (10 * (U11 86 40))) + (U11 94 ((U11 86 40).toNat)))).toNat) r12) 96 ((w32 ((w32 (10 * (U11 86 40))) + (U11 94 ((U11 86 40).toNat)))).toNat) r13)))) 5 (fun _ => rfl) ?_
              refine eu_iald 94 (n := 2) rfl (by decide) rfl (fun _ => rfl) ha2a1aaa22a11aa.1 ?_
              show Ev (am_kz N X) ((d + 1), 190, 127, [some (.inr (.inr 86)), some (.inl (w32 ((w32 (10 * (U11 86 40))) + (U11 94 ((U11 86 40).toNat))))), some (.inl r12), some (.inl r13)], [.inl (U18 94 ((U18 86 40).toNat)), .inl (U18 86 40), .inr (.inr 94)], (am_sh, am_mm (am_upd (am_upd U18 95 ((w32 ((w32 (10 * (U11 86 40))) + (U11 94 ((U11 86 40).toNat)))).toNat) r12) 96 ((w32 ((w32 (10 * (U11 86 40))) + (U11 94 ((U11 86 40).toNat)))).toNat) r13))) R
              have ha2a1aaa22a11aaa := ha2a1aaa22a11aa.2
              refine ev_seg (σ1 := ((d + 1), 190, 129, [some (.inr (.inr 86)), some (.inl (w32 ((w32 (10 * (U11 86 40))) + (U11 94 ((U11 86 40).toNat))))), some (.inl r12), some (.inl r13)], [.inl (w32 ((U18 94 ((U18 86 40).toNat)) + 1)), .inl (U18 86 40), .inr (.inr 94)], (am_sh, am_mm (am_upd (am_upd U18 95 ((w32 ((w32 (10 * (U11 86 40))) + (U11 94 ((U11 86 40).toNat)))).toNat) r12) 96 ((w32 ((w32 (10 * (U11 86 40))) + (U11 94 ((U11 86 40).toNat)))).toNat) r13)))) 2 (fun _ => rfl) ?_
              refine eu_iast 94 (n := 2) rfl (by decide) rfl (fun _ => rfl) ha2a1aaa22a11aa.1 ?_
              show Ev (am_kz N X) ((d + 1), 190, 130, [some (.inr (.inr 86)), some (.inl (w32 ((w32 (10 * (U11 86 40))) + (U11 94 ((U11 86 40).toNat))))), some (.inl r12), some (.inl r13)], [], (am_sh, am_mm (am_upd (am_upd (am_upd U18 95 ((w32 ((w32 (10 * (U11 86 40))) + (U11 94 ((U11 86 40).toNat)))).toNat) r12) 96 ((w32 ((w32 (10 * (U11 86 40))) + (U11 94 ((U11 86 40).toNat)))).toNat) r13) 94 ((U18 86 40).toNat) (w32 ((U18 94 ((U18 86 40).toNat)) + 1))))) R
              subst ha2a1aaa22a11aaa
              exact ev_end 1 (fun _ => rfl)
            · have ha2a1aaa22a12 := ha2a1aaa22a1.2 (Int.not_le.mp hc)
              subst ha2a1aaa22a12
              exact ev_end 1 (fun _ => rfl)
          · have ha2a1aaa22a2 := ha2a1aaa22a.2 hc
            refine ev_seg (σ1 := ((d + 1), 190, 88, [some (.inr (.inr 86)), some (.inl (w32 ((w32 (10 * (U11 86 40))) + (U11 94 ((U11 86 40).toNat))))), some (.inl r12), some (.inl r13)], [.inl (U17 86 4), .inl 3, .inr (.inr 86)], (am_sh, am_mm U17))) 4 (fun _ => rfl) ?_
            obtain ⟨U19, ha2a1aaa22a2c, ha2a1aaa22a2a⟩ := ha2a1aaa22a2
            refine ev_cal (σc := (M_blame_s0 d 3 (U17 86 4) U17)) (fun _ => rfl) ha2a1aaa22a2c ?_
            show Ev (am_kz N X) ((d + 1), 190, 91, [some (.inr (.inr 86)), some (.inl (w32 ((w32 (10 * (U11 86 40))) + (U11 94 ((U11 86 40).toNat))))), some (.inl r12), some (.inl r13)], [], (am_sh, am_mm U19)) R
            refine ev_br (P := (U19 86 8) ≤ 0) (σ1 := ((d + 1), 190, 99, [some (.inr (.inr 86)), some (.inl (w32 ((w32 (10 * (U11 86 40))) + (U11 94 ((U11 86 40).toNat))))), some (.inl r12), some (.inl r13)], [], (am_sh, am_mm U19))) (σ2 := ((d + 1), 190, 98, [some (.inr (.inr 86)), some (.inl (w32 ((w32 (10 * (U11 86 40))) + (U11 94 ((U11 86 40).toNat))))), some (.inl r12), some (.inl r13)], [], (am_sh, am_mm U19))) 3 (fun _ => rfl) (fun hc => ?_) (fun hc => ?_)
            · have ha2a1aaa22a2a1 := ha2a1aaa22a2a.1 hc
              refine ev_seg (σ1 := ((d + 1), 190, 100, [some (.inr (.inr 86)), some (.inl (w32 ((w32 (10 * (U11 86 40))) + (U11 94 ((U11 86 40).toNat))))), some (.inl r12), some (.inl r13)], [.inr (.inr 86)], (am_sh, am_mm U19))) 1 (fun _ => rfl) ?_
              obtain ⟨U20, ha2a1aaa22a2a1c, ha2a1aaa22a2a1a⟩ := ha2a1aaa22a2a1
              refine ev_cal (σc := (M_ahead_s0 d U19)) (fun _ => rfl) ha2a1aaa22a2a1c ?_
              show Ev (am_kz N X) ((d + 1), 190, 103, [some (.inr (.inr 86)), some (.inl (w32 ((w32 (10 * (U11 86 40))) + (U11 94 ((U11 86 40).toNat))))), some (.inl r12), some (.inl r13)], [], (am_sh, am_mm U20)) R
              refine ev_seg (σ1 := ((d + 1), 190, 109, [some (.inr (.inr 86)), some (.inl (w32 ((w32 (10 * (U11 86 40))) + (U11 94 ((U11 86 40).toNat))))), some (.inl r12), some (.inl r13)], [.inl r12, .inl (w32 ((w32 (10 * (U11 86 40))) + (U11 94 ((U11 86 40).toNat)))), .inr (.inr 95)], (am_sh, am_mm U20))) 4 (fun _ => rfl) ?_
              refine eu_iast 95 (n := 20) rfl (by decide) rfl (fun _ => rfl) ha2a1aaa22a2a1a.1 ?_
              show Ev (am_kz N X) ((d + 1), 190, 110, [some (.inr (.inr 86)), some (.inl (w32 ((w32 (10 * (U11 86 40))) + (U11 94 ((U11 86 40).toNat))))), some (.inl r12), some (.inl r13)], [], (am_sh, am_mm (am_upd U20 95 ((w32 ((w32 (10 * (U11 86 40))) + (U11 94 ((U11 86 40).toNat)))).toNat) r12))) R
              have ha2a1aaa22a2a1aa := ha2a1aaa22a2a1a.2
              refine ev_seg (σ1 := ((d + 1), 190, 116, [some (.inr (.inr 86)), some (.inl (w32 ((w32 (10 * (U11 86 40))) + (U11 94 ((U11 86 40).toNat))))), some (.inl r12), some (.inl r13)], [.inl r13, .inl (w32 ((w32 (10 * (U11 86 40))) + (U11 94 ((U11 86 40).toNat)))), .inr (.inr 96)], (am_sh, am_mm (am_upd U20 95 ((w32 ((w32 (10 * (U11 86 40))) + (U11 94 ((U11 86 40).toNat)))).toNat) r12)))) 4 (fun _ => rfl) ?_
              refine eu_iast 96 (n := 20) rfl (by decide) rfl (fun _ => rfl) ha2a1aaa22a2a1a.1 ?_
              show Ev (am_kz N X) ((d + 1), 190, 117, [some (.inr (.inr 86)), some (.inl (w32 ((w32 (10 * (U11 86 40))) + (U11 94 ((U11 86 40).toNat))))), some (.inl r12), some (.inl r13)], [], (am_sh, am_mm (am_upd (am_upd U20 95 ((w32 ((w32 (10 * (U11 86 40))) + (U11 94 ((U11 86 40).toNat)))).toNat) r12) 96 ((w32 ((w32 (10 * (U11 86 40))) + (U11 94 ((U11 86 40).toNat)))).toNat) r13))) R
              refine ev_seg (σ1 := ((d + 1), 190, 126, [some (.inr (.inr 86)), some (.inl (w32 ((w32 (10 * (U11 86 40))) + (U11 94 ((U11 86 40).toNat))))), some (.inl r12), some (.inl r13)], [.inl (U20 86 40), .inr (.inr 94), .inl (U20 86 40), .inr (.inr 94)], (am_sh, am_mm (am_upd (am_upd U20 95 ((w32 ((w32 (10 * (U11 86 40))) + (U11 94 ((U11 86 40).toNat)))).toNat) r12) 96 ((w32 ((w32 (10 * (U11 86 40))) + (U11 94 ((U11 86 40).toNat)))).toNat) r13)))) 5 (fun _ => rfl) ?_
              refine eu_iald 94 (n := 2) rfl (by decide) rfl (fun _ => rfl) ha2a1aaa22a2a1aa.1 ?_
              show Ev (am_kz N X) ((d + 1), 190, 127, [some (.inr (.inr 86)), some (.inl (w32 ((w32 (10 * (U11 86 40))) + (U11 94 ((U11 86 40).toNat))))), some (.inl r12), some (.inl r13)], [.inl (U20 94 ((U20 86 40).toNat)), .inl (U20 86 40), .inr (.inr 94)], (am_sh, am_mm (am_upd (am_upd U20 95 ((w32 ((w32 (10 * (U11 86 40))) + (U11 94 ((U11 86 40).toNat)))).toNat) r12) 96 ((w32 ((w32 (10 * (U11 86 40))) + (U11 94 ((U11 86 40).toNat)))).toNat) r13))) R
              have ha2a1aaa22a2a1aaa := ha2a1aaa22a2a1aa.2
              refine ev_seg (σ1 := ((d + 1), 190, 129, [some (.inr (.inr 86)), some (.inl (w32 ((w32 (10 * (U11 86 40))) + (U11 94 ((U11 86 40).toNat))))), some (.inl r12), some (.inl r13)], [.inl (w32 ((U20 94 ((U20 86 40).toNat)) + 1)), .inl (U20 86 40), .inr (.inr 94)], (am_sh, am_mm (am_upd (am_upd U20 95 ((w32 ((w32 (10 * (U11 86 40))) + (U11 94 ((U11 86 40).toNat)))).toNat) r12) 96 ((w32 ((w32 (10 * (U11 86 40))) + (U11 94 ((U11 86 40).toNat)))).toNat) r13)))) 2 (fun _ => rfl) ?_
              refine eu_iast 94 (n := 2) rfl (by decide) rfl (fun _ => rfl) ha2a1aaa22a2a1aa.1 ?_
              show Ev (am_kz N X) ((d + 1), 190, 130, [some (.inr (.inr 86)), some (.inl (w32 ((w32 (10 * (U11 86 40))) + (U11 94 ((U11 86 40).toNat))))), some (.inl r12), some (.inl r13)], [], (am_sh, am_mm (am_upd (am_upd (am_upd U20 95 ((w32 ((w32 (10 * (U11 86 40))) + (U11 94 ((U11 86 40).toNat)))).toNat) r12) 96 ((w32 ((w32 (10 * (U11 86 40))) + (U11 94 ((U11 86 40).toNat)))).toNat) r13) 94 ((U20 86 40).toNat) (w32 ((U20 94 ((U20 86 40).toNat)) + 1))))) R
              subst ha2a1aaa22a2a1aaa
              exact ev_end 1 (fun _ => rfl)
            · have ha2a1aaa22a2a2 := ha2a1aaa22a2a.2 (Int.not_le.mp hc)
              subst ha2a1aaa22a2a2
              exact ev_end 1 (fun _ => rfl)
    · have ha2a2 := ha2a.2 (Decidable.not_not.mp hc)
      subst ha2a2
      exact ev_end 1 (fun _ => rfl)
