set_option maxRecDepth 8000 in
theorem st167_86_0 (N : Nat) (X : Nat → Int) (d : Nat) (U : Nat → Nat → Int) (R : Option am_V × am_M) (h : Ev (am_kz N X) ((d + 1), 167, 9, [some (.inr (.inr 86)), some (.inl 1), some (.inl 0), none, none], [], (am_sh, am_mm (am_upd U 86 84 0))) R) : Ev (am_kz N X) ((d + 1), 167, 0, [some (.inr (.inr 86)), none, none, none, none], [], (am_sh, am_mm U)) R := by
  refine ev_seg (σ1 := ((d + 1), 167, 2, [some (.inr (.inr 86)), none, none, none, none], [.inl 0, .inr (.inr 86)], (am_sh, am_mm U))) 2 (fun _ => rfl) ?_
  refine eu_puti 86 (n := 90) rfl (by decide) rfl rfl ?_
  refine ev_seg (σ1 := ((d + 1), 167, 9, [some (.inr (.inr 86)), some (.inl 1), some (.inl 0), none, none], [], (am_sh, am_mm (am_upd U 86 84 0)))) 4 (fun _ => rfl) ?_
  exact h
set_option maxRecDepth 8000 in
theorem st167_86_9 (N : Nat) (X : Nat → Int) (d : Nat) (x1 x2 : Int) (U : Nat → Nat → Int) (R : Option am_V × am_M) (h : ((((U 86 82) ≤ x2 : Prop)) → Ev (am_kz N X) ((d + 1), 167, 32, [some (.inr (.inr 86)), some (.inl x1), some (.inl 0), none, none], [], (am_sh, am_mm U)) R) ∧ (¬ ((U 86 82) ≤ x2) → Ev (am_kz N X) ((d + 1), 167, 9, [some (.inr (.inr 86)), some (.inl (w32 (x1 * (U 86 83)))), some (.inl (w32 (x2 + 1))), none, none], [], (am_sh, am_mm U)) R)) : Ev (am_kz N X) ((d + 1), 167, 9, [some (.inr (.inr 86)), some (.inl x1), some (.inl x2), none, none], [], (am_sh, am_mm U)) R := by
  refine ev_br (P := (U 86 82) ≤ x2) (σ1 := ((d + 1), 167, 30, [some (.inr (.inr 86)), some (.inl x1), some (.inl x2), none, none], [], (am_sh, am_mm U))) (σ2 := ((d + 1), 167, 17, [some (.inr (.inr 86)), some (.inl x1), some (.inl x2), none, none], [], (am_sh, am_mm U))) 4 (fun _ => rfl) (fun hc => ?_) (fun hc => ?_)
  · have h1 := h.1 hc
    refine ev_seg (σ1 := ((d + 1), 167, 32, [some (.inr (.inr 86)), some (.inl x1), some (.inl 0), none, none], [], (am_sh, am_mm U))) 2 (fun _ => rfl) ?_
    exact h1
  · have h2 := h.2 hc
    refine ev_seg (σ1 := ((d + 1), 167, 9, [some (.inr (.inr 86)), some (.inl (w32 (x1 * (U 86 83)))), some (.inl (w32 (x2 + 1))), none, none], [], (am_sh, am_mm U))) 7 (fun _ => rfl) ?_
    exact h2
set_option maxRecDepth 8000 in
theorem st167_86_32 (N : Nat) (X : Nat → Int) (d : Nat) (x1 x2 : Int) (U : Nat → Nat → Int) (R : Option am_V × am_M) (h : (((x1 ≤ x2 : Prop)) → R = (none, (am_sh, am_mm U))) ∧ (¬ (x1 ≤ x2) → Ev (am_kz N X) ((d + 1), 167, 47, [some (.inr (.inr 86)), some (.inl x1), some (.inl x2), some (.inl x2), some (.inl (w32 ((U 86 82) - 1)))], [], (am_sh, am_mm U)) R)) : Ev (am_kz N X) ((d + 1), 167, 32, [some (.inr (.inr 86)), some (.inl x1), some (.inl x2), none, none], [], (am_sh, am_mm U)) R := by
  refine ev_br (P := x1 ≤ x2) (σ1 := ((d + 1), 167, 145, [some (.inr (.inr 86)), some (.inl x1), some (.inl x2), none, none], [], (am_sh, am_mm U))) (σ2 := ((d + 1), 167, 37, [some (.inr (.inr 86)), some (.inl x1), some (.inl x2), none, none], [], (am_sh, am_mm U))) 3 (fun _ => rfl) (fun hc => ?_) (fun hc => ?_)
  · have h1 := h.1 hc
    subst h1
    exact ev_end 1 (fun _ => rfl)
  · have h2 := h.2 hc
    refine ev_seg (σ1 := ((d + 1), 167, 47, [some (.inr (.inr 86)), some (.inl x1), some (.inl x2), some (.inl x2), some (.inl (w32 ((U 86 82) - 1)))], [], (am_sh, am_mm U))) 7 (fun _ => rfl) ?_
    exact h2
set_option maxRecDepth 8000 in
theorem st167_86_47 (N : Nat) (X : Nat → Int) (d : Nat) (x1 x2 x3 x4 : Int) (U : Nat → Nat → Int) (R : Option am_V × am_M) (h : (((x4 < 0 : Prop)) → ∃ (r1 : Int) (U1 : Nat → Nat → Int), Ev (am_kz N X) (d, 243, 0, [some (.inr (.inr 86)), none, none, none], [], (am_sh, am_mm U)) (some (.inl r1), (am_sh, am_mm U1)) ∧ (((¬ r1 = 0 : Prop)) → Ev (am_kz N X) ((d + 1), 167, 93, [some (.inr (.inr 86)), some (.inl x1), some (.inl x2), some (.inl x3), some (.inl 0)], [], (am_sh, am_mm U1)) R) ∧ (¬ (¬ r1 = 0) → Ev (am_kz N X) ((d + 1), 167, 32, [some (.inr (.inr 86)), some (.inl x1), some (.inl (w32 (x2 + 1))), some (.inl x3), some (.inl x4)], [], (am_sh, am_mm U1)) R)) ∧ (¬ (x4 < 0) → (U 86 83) ≠ 0 ∧ (0 ≤ x4 ∧ x4 < 4) ∧ ((am_upd U 136 x4.toNat (w32 (1 + (Int.tmod x3 (U 86 83))))) 86 83) ≠ 0 ∧ Ev (am_kz N X) ((d + 1), 167, 47, [some (.inr (.inr 86)), some (.inl x1), some (.inl x2), some (.inl (w32 (Int.tdiv x3 ((am_upd U 136 x4.toNat (w32 (1 + (Int.tmod x3 (U 86 83))))) 86 83)))), some (.inl (w32 (x4 + (-1))))], [], (am_sh, am_mm (am_upd U 136 x4.toNat (w32 (1 + (Int.tmod x3 (U 86 83))))))) R)) : Ev (am_kz N X) ((d + 1), 167, 47, [some (.inr (.inr 86)), some (.inl x1), some (.inl x2), some (.inl x3), some (.inl x4)], [], (am_sh, am_mm U)) R := by
  refine ev_br (P := x4 < 0) (σ1 := ((d + 1), 167, 80, [some (.inr (.inr 86)), some (.inl x1), some (.inl x2), some (.inl x3), some (.inl x4)], [], (am_sh, am_mm U))) (σ2 := ((d + 1), 167, 52, [some (.inr (.inr 86)), some (.inl x1), some (.inl x2), some (.inl x3), some (.inl x4)], [], (am_sh, am_mm U))) 2 (fun _ => rfl) (fun hc => ?_) (fun hc => ?_)
  · have h1 := h.1 hc
    refine ev_seg (σ1 := ((d + 1), 167, 81, [some (.inr (.inr 86)), some (.inl x1), some (.inl x2), some (.inl x3), some (.inl x4)], [.inr (.inr 86)], (am_sh, am_mm U))) 1 (fun _ => rfl) ?_
    obtain ⟨r1, U1, h1c, h1a⟩ := h1
    refine ev_cal (σc := (d, 243, 0, [some (.inr (.inr 86)), none, none, none], [], (am_sh, am_mm U))) (fun _ => rfl) h1c ?_
    show Ev (am_kz N X) ((d + 1), 167, 84, [some (.inr (.inr 86)), some (.inl x1), some (.inl x2), some (.inl x3), some (.inl x4)], [.inl r1], (am_sh, am_mm U1)) R
    refine ev_br (P := ¬ r1 = 0) (σ1 := ((d + 1), 167, 90, [some (.inr (.inr 86)), some (.inl x1), some (.inl x2), some (.inl x3), some (.inl x4)], [], (am_sh, am_mm U1))) (σ2 := ((d + 1), 167, 87, [some (.inr (.inr 86)), some (.inl x1), some (.inl x2), some (.inl x3), some (.inl x4)], [], (am_sh, am_mm U1))) 1 (fun _ => rfl) (fun hc => ?_) (fun hc => ?_)
    · have h1a1 := h1a.1 hc
      refine ev_seg (σ1 := ((d + 1), 167, 93, [some (.inr (.inr 86)), some (.inl x1), some (.inl x2), some (.inl x3), some (.inl 0)], [], (am_sh, am_mm U1))) 2 (fun _ => rfl) ?_
      exact h1a1
    · have h1a2 := h1a.2 hc
      refine ev_seg (σ1 := ((d + 1), 167, 32, [some (.inr (.inr 86)), some (.inl x1), some (.inl (w32 (x2 + 1))), some (.inl x3), some (.inl x4)], [], (am_sh, am_mm U1))) 3 (fun _ => rfl) ?_
      exact h1a2
  · have h2 := h.2 hc
    refine ev_seg (σ1 := ((d + 1), 167, 64, [some (.inr (.inr 86)), some (.inl x1), some (.inl x2), some (.inl x3), some (.inl x4)], [.inl (U 86 83), .inl x3, .inl 1, .inl x4, .inr (.inr 136)], (am_sh, am_mm U))) 7 (fun _ => rfl) ?_
    refine ev_irem rfl h2.1 ?_
    have h2a := h2.2
    refine ev_seg (σ1 := ((d + 1), 167, 66, [some (.inr (.inr 86)), some (.inl x1), some (.inl x2), some (.inl x3), some (.inl x4)], [.inl (w32 (1 + (Int.tmod x3 (U 86 83)))), .inl x4, .inr (.inr 136)], (am_sh, am_mm U))) 1 (fun _ => rfl) ?_
    refine eu_iast 136 (n := 4) rfl (by decide) rfl (fun _ => rfl) h2a.1 ?_
    have h2aa := h2a.2
    refine ev_seg (σ1 := ((d + 1), 167, 72, [some (.inr (.inr 86)), some (.inl x1), some (.inl x2), some (.inl x3), some (.inl x4)], [.inl ((am_upd U 136 x4.toNat (w32 (1 + (Int.tmod x3 (U 86 83))))) 86 83), .inl x3], (am_sh, am_mm (am_upd U 136 x4.toNat (w32 (1 + (Int.tmod x3 (U 86 83)))))))) 3 (fun _ => rfl) ?_
    refine ev_idiv rfl h2aa.1 ?_
    have h2aaa := h2aa.2
    refine ev_seg (σ1 := ((d + 1), 167, 47, [some (.inr (.inr 86)), some (.inl x1), some (.inl x2), some (.inl (w32 (Int.tdiv x3 ((am_upd U 136 x4.toNat (w32 (1 + (Int.tmod x3 (U 86 83))))) 86 83)))), some (.inl (w32 (x4 + (-1))))], [], (am_sh, am_mm (am_upd U 136 x4.toNat (w32 (1 + (Int.tmod x3 (U 86 83)))))))) 3 (fun _ => rfl) ?_
    exact h2aaa
set_option maxRecDepth 8000 in
theorem st167_86_93 (N : Nat) (X : Nat → Int) (d : Nat) (x1 x2 x3 x4 : Int) (U : Nat → Nat → Int) (R : Option am_V × am_M) (h : ((((U 86 82) ≤ x4 : Prop)) → Ev (am_kz N X) ((d + 1), 167, 32, [some (.inr (.inr 86)), some (.inl x1), some (.inl (w32 (x2 + 1))), some (.inl x3), some (.inl x4)], [], (am_sh, am_mm (am_upd U 86 84 (w32 ((U 86 84) + 1))))) R) ∧ (¬ ((U 86 82) ≤ x4) → (((¬ (U 86 84) = 0 : Prop)) → Ev (am_kz N X) ((d + 1), 167, 32, [some (.inr (.inr 86)), some (.inl x1), some (.inl (w32 (x2 + 1))), some (.inl x3), some (.inl x4)], [], (am_sh, am_mm (am_upd U 86 84 (w32 ((U 86 84) + 1))))) R) ∧ (¬ (¬ (U 86 84) = 0) → (0 ≤ x4 ∧ x4 < 4) ∧ (0 ≤ x4 ∧ x4 < 4) ∧ Ev (am_kz N X) ((d + 1), 167, 93, [some (.inr (.inr 86)), some (.inl x1), some (.inl x2), some (.inl x3), some (.inl (w32 (x4 + 1)))], [], (am_sh, am_mm (am_upd U 137 x4.toNat (U 136 x4.toNat)))) R))) : Ev (am_kz N X) ((d + 1), 167, 93, [some (.inr (.inr 86)), some (.inl x1), some (.inl x2), some (.inl x3), some (.inl x4)], [], (am_sh, am_mm U)) R := by
  refine ev_br (P := (U 86 82) ≤ x4) (σ1 := ((d + 1), 167, 129, [some (.inr (.inr 86)), some (.inl x1), some (.inl x2), some (.inl x3), some (.inl x4)], [], (am_sh, am_mm U))) (σ2 := ((d + 1), 167, 102, [some (.inr (.inr 86)), some (.inl x1), some (.inl x2), some (.inl x3), some (.inl x4)], [], (am_sh, am_mm U))) 4 (fun _ => rfl) (fun hc => ?_) (fun hc => ?_)
  · have h1 := h.1 hc
    refine ev_seg (σ1 := ((d + 1), 167, 136, [some (.inr (.inr 86)), some (.inl x1), some (.inl x2), some (.inl x3), some (.inl x4)], [.inl (w32 ((U 86 84) + 1)), .inr (.inr 86)], (am_sh, am_mm U))) 5 (fun _ => rfl) ?_
    refine eu_puti 86 (n := 90) rfl (by decide) rfl rfl ?_
    refine ev_seg (σ1 := ((d + 1), 167, 32, [some (.inr (.inr 86)), some (.inl x1), some (.inl (w32 (x2 + 1))), some (.inl x3), some (.inl x4)], [], (am_sh, am_mm (am_upd U 86 84 (w32 ((U 86 84) + 1)))))) 2 (fun _ => rfl) ?_
    exact h1
  · have h2 := h.2 hc
    refine ev_br (P := ¬ (U 86 84) = 0) (σ1 := ((d + 1), 167, 129, [some (.inr (.inr 86)), some (.inl x1), some (.inl x2), some (.inl x3), some (.inl x4)], [], (am_sh, am_mm U))) (σ2 := ((d + 1), 167, 109, [some (.inr (.inr 86)), some (.inl x1), some (.inl x2), some (.inl x3), some (.inl x4)], [], (am_sh, am_mm U))) 3 (fun _ => rfl) (fun hc => ?_) (fun hc => ?_)
    · have h21 := h2.1 hc
      refine ev_seg (σ1 := ((d + 1), 167, 136, [some (.inr (.inr 86)), some (.inl x1), some (.inl x2), some (.inl x3), some (.inl x4)], [.inl (w32 ((U 86 84) + 1)), .inr (.inr 86)], (am_sh, am_mm U))) 5 (fun _ => rfl) ?_
      refine eu_puti 86 (n := 90) rfl (by decide) rfl rfl ?_
      refine ev_seg (σ1 := ((d + 1), 167, 32, [some (.inr (.inr 86)), some (.inl x1), some (.inl (w32 (x2 + 1))), some (.inl x3), some (.inl x4)], [], (am_sh, am_mm (am_upd U 86 84 (w32 ((U 86 84) + 1)))))) 2 (fun _ => rfl) ?_
      exact h21
    · have h22 := h2.2 hc
      refine ev_seg (σ1 := ((d + 1), 167, 121, [some (.inr (.inr 86)), some (.inl x1), some (.inl x2), some (.inl x3), some (.inl x4)], [.inl x4, .inr (.inr 136), .inl x4, .inr (.inr 137)], (am_sh, am_mm U))) 6 (fun _ => rfl) ?_
      refine eu_iald 136 (n := 4) rfl (by decide) rfl (fun _ => rfl) h22.1 ?_
      have h22a := h22.2
      refine eu_iast 137 (n := 4) rfl (by decide) rfl (fun _ => rfl) h22a.1 ?_
      have h22aa := h22a.2
      refine ev_seg (σ1 := ((d + 1), 167, 93, [some (.inr (.inr 86)), some (.inl x1), some (.inl x2), some (.inl x3), some (.inl (w32 (x4 + 1)))], [], (am_sh, am_mm (am_upd U 137 x4.toNat (U 136 x4.toNat))))) 2 (fun _ => rfl) ?_
      exact h22aa
set_option maxRecDepth 8000 in
theorem st168_78_0 (N : Nat) (X : Nat → Int) (d : Nat) (x1 : Int) (U : Nat → Nat → Int) (R : Option am_V × am_M) (h : ((((U 78 5) ≤ 0 : Prop)) → R = (some (.inl (-1)), (am_sh, am_mm U))) ∧ (¬ ((U 78 5) ≤ 0) → (((x1 < 0 : Prop)) → R = (some (.inl (-1)), (am_sh, am_mm U))) ∧ (¬ (x1 < 0) → ((((U 78 3) ≤ x1 : Prop)) → R = (some (.inl (-1)), (am_sh, am_mm U))) ∧ (¬ ((U 78 3) ≤ x1) → (0 ≤ x1 ∧ x1 < 4) ∧ R = (some (.inl (U 81 x1.toNat)), (am_sh, am_mm U)))))) : Ev (am_kz N X) (d, 168, 0, [some (.inr (.inr 78)), some (.inl x1)], [], (am_sh, am_mm U)) R := by
  refine ev_br (P := (U 78 5) ≤ 0) (σ1 := (d, 168, 28, [some (.inr (.inr 78)), some (.inl x1)], [], (am_sh, am_mm U))) (σ2 := (d, 168, 7, [some (.inr (.inr 78)), some (.inl x1)], [], (am_sh, am_mm U))) 3 (fun _ => rfl) (fun hc => ?_) (fun hc => ?_)
  · have h1 := h.1 hc
    subst h1
    exact ev_end 2 (fun _ => rfl)
  · have h2 := h.2 hc
    refine ev_br (P := x1 < 0) (σ1 := (d, 168, 28, [some (.inr (.inr 78)), some (.inl x1)], [], (am_sh, am_mm U))) (σ2 := (d, 168, 11, [some (.inr (.inr 78)), some (.inl x1)], [], (am_sh, am_mm U))) 2 (fun _ => rfl) (fun hc => ?_) (fun hc => ?_)
    · have h21 := h2.1 hc
      subst h21
      exact ev_end 2 (fun _ => rfl)
    · have h22 := h2.2 hc
      refine ev_br (P := (U 78 3) ≤ x1) (σ1 := (d, 168, 28, [some (.inr (.inr 78)), some (.inl x1)], [], (am_sh, am_mm U))) (σ2 := (d, 168, 19, [some (.inr (.inr 78)), some (.inl x1)], [], (am_sh, am_mm U))) 4 (fun _ => rfl) (fun hc => ?_) (fun hc => ?_)
      · have h221 := h22.1 hc
        subst h221
        exact ev_end 2 (fun _ => rfl)
      · have h222 := h22.2 hc
        refine ev_seg (σ1 := (d, 168, 24, [some (.inr (.inr 78)), some (.inl x1)], [.inl x1, .inr (.inr 81)], (am_sh, am_mm U))) 3 (fun _ => rfl) ?_
        refine eu_iald 81 (n := 4) rfl (by decide) rfl (fun _ => rfl) h222.1 ?_
        have h222a := h222.2
        subst h222a
        exact ev_end 2 (fun _ => rfl)
set_option maxRecDepth 8000 in
theorem st169_16_84_0 (N : Nat) (X : Nat → Int) (d : Nat) (U : Nat → Nat → Int) (R : Option am_V × am_M) (h : ((((w32 (5 + (w32 (5 * (U 16 0))))) ≤ 85 : Prop)) → (((((am_upd (am_upd U 84 0 (am_shr (U 16 1) 8)) 84 1 (am_and ((am_upd U 84 0 (am_shr (U 16 1) 8)) 16 1) 255)) 16 2) = 0 : Prop)) → Ev (am_kz N X) ((d + 1), 169, 62, [some (.inr (.inr 16)), some (.inr (.inr 84)), some (.inl (w32 (5 + (w32 (5 * (U 16 0)))))), some (.inl 0), none], [], (am_sh, am_mm (am_upd (am_upd (am_upd (am_upd U 84 0 (am_shr (U 16 1) 8)) 84 1 (am_and ((am_upd U 84 0 (am_shr (U 16 1) 8)) 16 1) 255)) 84 2 0) 84 3 ((am_upd (am_upd (am_upd U 84 0 (am_shr (U 16 1) 8)) 84 1 (am_and ((am_upd U 84 0 (am_shr (U 16 1) 8)) 16 1) 255)) 84 2 0) 16 0)))) R) ∧ (¬ (((am_upd (am_upd U 84 0 (am_shr (U 16 1) 8)) 84 1 (am_and ((am_upd U 84 0 (am_shr (U 16 1) 8)) 16 1) 255)) 16 2) = 0) → Ev (am_kz N X) ((d + 1), 169, 62, [some (.inr (.inr 16)), some (.inr (.inr 84)), some (.inl (w32 (5 + (w32 (5 * (U 16 0)))))), some (.inl 0), none], [], (am_sh, am_mm (am_upd (am_upd (am_upd (am_upd U 84 0 (am_shr (U 16 1) 8)) 84 1 (am_and ((am_upd U 84 0 (am_shr (U 16 1) 8)) 16 1) 255)) 84 2 1) 84 3 ((am_upd (am_upd (am_upd U 84 0 (am_shr (U 16 1) 8)) 84 1 (am_and ((am_upd U 84 0 (am_shr (U 16 1) 8)) 16 1) 255)) 84 2 1) 16 0)))) R)) ∧ (¬ ((w32 (5 + (w32 (5 * (U 16 0))))) ≤ 85) → R = (some (.inl 0), (am_sh, am_mm U)))) : Ev (am_kz N X) ((d + 1), 169, 0, [some (.inr (.inr 16)), some (.inr (.inr 84)), none, none, none], [], (am_sh, am_mm U)) R := by
  refine ev_br (P := (w32 (5 + (w32 (5 * (U 16 0))))) ≤ 85) (σ1 := ((d + 1), 169, 17, [some (.inr (.inr 16)), some (.inr (.inr 84)), some (.inl (w32 (5 + (w32 (5 * (U 16 0)))))), none, none], [], (am_sh, am_mm U))) (σ2 := ((d + 1), 169, 15, [some (.inr (.inr 16)), some (.inr (.inr 84)), some (.inl (w32 (5 + (w32 (5 * (U 16 0)))))), none, none], [], (am_sh, am_mm U))) 11 (fun _ => rfl) (fun hc => ?_) (fun hc => ?_)
  · have h1 := h.1 hc
    refine ev_seg (σ1 := ((d + 1), 169, 26, [some (.inr (.inr 16)), some (.inr (.inr 84)), some (.inl (w32 (5 + (w32 (5 * (U 16 0)))))), none, none], [.inl (am_shr (U 16 1) 8), .inl 0, .inr (.inr 84)], (am_sh, am_mm U))) 6 (fun _ => rfl) ?_
    refine eu_iast 84 (n := 85) rfl (by decide) rfl (fun _ => rfl) (by decide) ?_
    show Ev (am_kz N X) ((d + 1), 169, 27, [some (.inr (.inr 16)), some (.inr (.inr 84)), some (.inl (w32 (5 + (w32 (5 * (U 16 0)))))), none, none], [], (am_sh, am_mm (am_upd U 84 0 (am_shr (U 16 1) 8)))) R
    refine ev_seg (σ1 := ((d + 1), 169, 37, [some (.inr (.inr 16)), some (.inr (.inr 84)), some (.inl (w32 (5 + (w32 (5 * (U 16 0)))))), none, none], [.inl (am_and ((am_upd U 84 0 (am_shr (U 16 1) 8)) 16 1) 255), .inl 1, .inr (.inr 84)], (am_sh, am_mm (am_upd U 84 0 (am_shr (U 16 1) 8))))) 6 (fun _ => rfl) ?_
    refine eu_iast 84 (n := 85) rfl (by decide) rfl (fun _ => rfl) (by decide) ?_
    show Ev (am_kz N X) ((d + 1), 169, 38, [some (.inr (.inr 16)), some (.inr (.inr 84)), some (.inl (w32 (5 + (w32 (5 * (U 16 0)))))), none, none], [], (am_sh, am_mm (am_upd (am_upd U 84 0 (am_shr (U 16 1) 8)) 84 1 (am_and ((am_upd U 84 0 (am_shr (U 16 1) 8)) 16 1) 255)))) R
    refine ev_br (P := ((am_upd (am_upd U 84 0 (am_shr (U 16 1) 8)) 84 1 (am_and ((am_upd U 84 0 (am_shr (U 16 1) 8)) 16 1) 255)) 16 2) = 0) (σ1 := ((d + 1), 169, 51, [some (.inr (.inr 16)), some (.inr (.inr 84)), some (.inl (w32 (5 + (w32 (5 * (U 16 0)))))), none, none], [.inl 2, .inr (.inr 84)], (am_sh, am_mm (am_upd (am_upd U 84 0 (am_shr (U 16 1) 8)) 84 1 (am_and ((am_upd U 84 0 (am_shr (U 16 1) 8)) 16 1) 255))))) (σ2 := ((d + 1), 169, 47, [some (.inr (.inr 16)), some (.inr (.inr 84)), some (.inl (w32 (5 + (w32 (5 * (U 16 0)))))), none, none], [.inl 2, .inr (.inr 84)], (am_sh, am_mm (am_upd (am_upd U 84 0 (am_shr (U 16 1) 8)) 84 1 (am_and ((am_upd U 84 0 (am_shr (U 16 1) 8)) 16 1) 255))))) 5 (fun _ => rfl) (fun hc => ?_) (fun hc => ?_)
    · have h11 := h1.1 hc
      refine ev_seg (σ1 := ((d + 1), 169, 52, [some (.inr (.inr 16)), some (.inr (.inr 84)), some (.inl (w32 (5 + (w32 (5 * (U 16 0)))))), none, none], [.inl 0, .inl 2, .inr (.inr 84)], (am_sh, am_mm (am_upd (am_upd U 84 0 (am_shr (U 16 1) 8)) 84 1 (am_and ((am_upd U 84 0 (am_shr (U 16 1) 8)) 16 1) 255))))) 1 (fun _ => rfl) ?_
      refine eu_iast 84 (n := 85) rfl (by decide) rfl (fun _ => rfl) (by decide) ?_
      show Ev (am_kz N X) ((d + 1), 169, 53, [some (.inr (.inr 16)), some (.inr (.inr 84)), some (.inl (w32 (5 + (w32 (5 * (U 16 0)))))), none, none], [], (am_sh, am_mm (am_upd (am_upd (am_upd U 84 0 (am_shr (U 16 1) 8)) 84 1 (am_and ((am_upd U 84 0 (am_shr (U 16 1) 8)) 16 1) 255)) 84 2 0))) R
      refine ev_seg (σ1 := ((d + 1), 169, 59, [some (.inr (.inr 16)), some (.inr (.inr 84)), some (.inl (w32 (5 + (w32 (5 * (U 16 0)))))), none, none], [.inl ((am_upd (am_upd (am_upd U 84 0 (am_shr (U 16 1) 8)) 84 1 (am_and ((am_upd U 84 0 (am_shr (U 16 1) 8)) 16 1) 255)) 84 2 0) 16 0), .inl 3, .inr (.inr 84)], (am_sh, am_mm (am_upd (am_upd (am_upd U 84 0 (am_shr (U 16 1) 8)) 84 1 (am_and ((am_upd U 84 0 (am_shr (U 16 1) 8)) 16 1) 255)) 84 2 0)))) 4 (fun _ => rfl) ?_
      refine eu_iast 84 (n := 85) rfl (by decide) rfl (fun _ => rfl) (by decide) ?_
      show Ev (am_kz N X) ((d + 1), 169, 60, [some (.inr (.inr 16)), some (.inr (.inr 84)), some (.inl (w32 (5 + (w32 (5 * (U 16 0)))))), none, none], [], (am_sh, am_mm (am_upd (am_upd (am_upd (am_upd U 84 0 (am_shr (U 16 1) 8)) 84 1 (am_and ((am_upd U 84 0 (am_shr (U 16 1) 8)) 16 1) 255)) 84 2 0) 84 3 ((am_upd (am_upd (am_upd U 84 0 (am_shr (U 16 1) 8)) 84 1 (am_and ((am_upd U 84 0 (am_shr (U 16 1) 8)) 16 1) 255)) 84 2 0) 16 0)))) R
      refine ev_seg (σ1 := ((d + 1), 169, 62, [some (.inr (.inr 16)), some (.inr (.inr 84)), some (.inl (w32 (5 + (w32 (5 * (U 16 0)))))), some (.inl 0), none], [], (am_sh, am_mm (am_upd (am_upd (am_upd (am_upd U 84 0 (am_shr (U 16 1) 8)) 84 1 (am_and ((am_upd U 84 0 (am_shr (U 16 1) 8)) 16 1) 255)) 84 2 0) 84 3 ((am_upd (am_upd (am_upd U 84 0 (am_shr (U 16 1) 8)) 84 1 (am_and ((am_upd U 84 0 (am_shr (U 16 1) 8)) 16 1) 255)) 84 2 0) 16 0))))) 2 (fun _ => rfl) ?_
      exact h11
    · have h12 := h1.2 hc
      refine ev_seg (σ1 := ((d + 1), 169, 52, [some (.inr (.inr 16)), some (.inr (.inr 84)), some (.inl (w32 (5 + (w32 (5 * (U 16 0)))))), none, none], [.inl 1, .inl 2, .inr (.inr 84)], (am_sh, am_mm (am_upd (am_upd U 84 0 (am_shr (U 16 1) 8)) 84 1 (am_and ((am_upd U 84 0 (am_shr (U 16 1) 8)) 16 1) 255))))) 2 (fun _ => rfl) ?_
      refine eu_iast 84 (n := 85) rfl (by decide) rfl (fun _ => rfl) (by decide) ?_
      show Ev (am_kz N X) ((d + 1), 169, 53, [some (.inr (.inr 16)), some (.inr (.inr 84)), some (.inl (w32 (5 + (w32 (5 * (U 16 0)))))), none, none], [], (am_sh, am_mm (am_upd (am_upd (am_upd U 84 0 (am_shr (U 16 1) 8)) 84 1 (am_and ((am_upd U 84 0 (am_shr (U 16 1) 8)) 16 1) 255)) 84 2 1))) R
      refine ev_seg (σ1 := ((d + 1), 169, 59, [some (.inr (.inr 16)), some (.inr (.inr 84)), some (.inl (w32 (5 + (w32 (5 * (U 16 0)))))), none, none], [.inl ((am_upd (am_upd (am_upd U 84 0 (am_shr (U 16 1) 8)) 84 1 (am_and ((am_upd U 84 0 (am_shr (U 16 1) 8)) 16 1) 255)) 84 2 1) 16 0), .inl 3, .inr (.inr 84)], (am_sh, am_mm (am_upd (am_upd (am_upd U 84 0 (am_shr (U 16 1) 8)) 84 1 (am_and ((am_upd U 84 0 (am_shr (U 16 1) 8)) 16 1) 255)) 84 2 1)))) 4 (fun _ => rfl) ?_
      refine eu_iast 84 (n := 85) rfl (by decide) rfl (fun _ => rfl) (by decide) ?_
      show Ev (am_kz N X) ((d + 1), 169, 60, [some (.inr (.inr 16)), some (.inr (.inr 84)), some (.inl (w32 (5 + (w32 (5 * (U 16 0)))))), none, none], [], (am_sh, am_mm (am_upd (am_upd (am_upd (am_upd U 84 0 (am_shr (U 16 1) 8)) 84 1 (am_and ((am_upd U 84 0 (am_shr (U 16 1) 8)) 16 1) 255)) 84 2 1) 84 3 ((am_upd (am_upd (am_upd U 84 0 (am_shr (U 16 1) 8)) 84 1 (am_and ((am_upd U 84 0 (am_shr (U 16 1) 8)) 16 1) 255)) 84 2 1) 16 0)))) R
      refine ev_seg (σ1 := ((d + 1), 169, 62, [some (.inr (.inr 16)), some (.inr (.inr 84)), some (.inl (w32 (5 + (w32 (5 * (U 16 0)))))), some (.inl 0), none], [], (am_sh, am_mm (am_upd (am_upd (am_upd (am_upd U 84 0 (am_shr (U 16 1) 8)) 84 1 (am_and ((am_upd U 84 0 (am_shr (U 16 1) 8)) 16 1) 255)) 84 2 1) 84 3 ((am_upd (am_upd (am_upd U 84 0 (am_shr (U 16 1) 8)) 84 1 (am_and ((am_upd U 84 0 (am_shr (U 16 1) 8)) 16 1) 255)) 84 2 1) 16 0))))) 2 (fun _ => rfl) ?_
      exact h12
  · have h2 := h.2 hc
    subst h2
    exact ev_end 2 (fun _ => rfl)
set_option maxRecDepth 8000 in
theorem st169_16_84_62 (N : Nat) (X : Nat → Int) (d : Nat) (x2 x3 : Int) (U : Nat → Nat → Int) (R : Option am_V × am_M) (h : ((((U 16 0) ≤ x3 : Prop)) → ∃ (r1 : Int) (U1 : Nat → Nat → Int), Ev (am_kz N X) (d, 244, 0, [some (.inr (.inr 84)), some (.inl (w32 (x2 - 1))), none, none], [], (am_sh, am_mm U)) (some (.inl r1), (am_sh, am_mm U1)) ∧ (0 ≤ (w32 (x2 - 1)) ∧ (w32 (x2 - 1)) < 85) ∧ R = (some (.inl x2), (am_sh, am_mm (am_upd U1 84 (w32 (x2 - 1)).toNat r1)))) ∧ (¬ ((U 16 0) ≤ x3) → (0 ≤ x3 ∧ x3 < 16) ∧ (0 ≤ (w32 (4 + (w32 (5 * x3)))) ∧ (w32 (4 + (w32 (5 * x3)))) < 85) ∧ (0 ≤ x3 ∧ x3 < 16) ∧ (0 ≤ (w32 ((w32 (4 + (w32 (5 * x3)))) + 1)) ∧ (w32 ((w32 (4 + (w32 (5 * x3)))) + 1)) < 85) ∧ (0 ≤ x3 ∧ x3 < 16) ∧ (0 ≤ (w32 ((w32 (4 + (w32 (5 * x3)))) + 2)) ∧ (w32 ((w32 (4 + (w32 (5 * x3)))) + 2)) < 85) ∧ (0 ≤ x3 ∧ x3 < 16) ∧ (0 ≤ (w32 ((w32 (4 + (w32 (5 * x3)))) + 3)) ∧ (w32 ((w32 (4 + (w32 (5 * x3)))) + 3)) < 85) ∧ (0 ≤ x3 ∧ x3 < 16) ∧ (0 ≤ (w32 ((w32 (4 + (w32 (5 * x3)))) + 4)) ∧ (w32 ((w32 (4 + (w32 (5 * x3)))) + 4)) < 85) ∧ Ev (am_kz N X) ((d + 1), 169, 62, [some (.inr (.inr 16)), some (.inr (.inr 84)), some (.inl x2), some (.inl (w32 (x3 + 1))), some (.inl (w32 (4 + (w32 (5 * x3)))))], [], (am_sh, am_mm (am_upd (am_upd (am_upd (am_upd (am_upd U 84 (w32 (4 + (w32 (5 * x3)))).toNat (am_ushr (U 17 x3.toNat) 24)) 84 (w32 ((w32 (4 + (w32 (5 * x3)))) + 1)).toNat (am_and (am_shr ((am_upd U 84 (w32 (4 + (w32 (5 * x3)))).toNat (am_ushr (U 17 x3.toNat) 24)) 17 x3.toNat) 16) 255)) 84 (w32 ((w32 (4 + (w32 (5 * x3)))) + 2)).toNat (am_and (am_shr ((am_upd (am_upd U 84 (w32 (4 + (w32 (5 * x3)))).toNat (am_ushr (U 17 x3.toNat) 24)) 84 (w32 ((w32 (4 + (w32 (5 * x3)))) + 1)).toNat (am_and (am_shr ((am_upd U 84 (w32 (4 + (w32 (5 * x3)))).toNat (am_ushr (U 17 x3.toNat) 24)) 17 x3.toNat) 16) 255)) 17 x3.toNat) 8) 255)) 84 (w32 ((w32 (4 + (w32 (5 * x3)))) + 3)).toNat (am_and ((am_upd (am_upd (am_upd U 84 (w32 (4 + (w32 (5 * x3)))).toNat (am_ushr (U 17 x3.toNat) 24)) 84 (w32 ((w32 (4 + (w32 (5 * x3)))) + 1)).toNat (am_and (am_shr ((am_upd U 84 (w32 (4 + (w32 (5 * x3)))).toNat (am_ushr (U 17 x3.toNat) 24)) 17 x3.toNat) 16) 255)) 84 (w32 ((w32 (4 + (w32 (5 * x3)))) + 2)).toNat (am_and (am_shr ((am_upd (am_upd U 84 (w32 (4 + (w32 (5 * x3)))).toNat (am_ushr (U 17 x3.toNat) 24)) 84 (w32 ((w32 (4 + (w32 (5 * x3)))) + 1)).toNat (am_and (am_shr ((am_upd U 84 (w32 (4 + (w32 (5 * x3)))).toNat (am_ushr (U 17 x3.toNat) 24)) 17 x3.toNat) 16) 255)) 17 x3.toNat) 8) 255)) 17 x3.toNat) 255)) 84 (w32 ((w32 (4 + (w32 (5 * x3)))) + 4)).toNat (w32 (((am_upd (am_upd (am_upd (am_upd U 84 (w32 (4 + (w32 (5 * x3)))).toNat (am_ushr (U 17 x3.toNat) 24)) 84 (w32 ((w32 (4 + (w32 (5 * x3)))) + 1)).toNat (am_and (am_shr ((am_upd U 84 (w32 (4 + (w32 (5 * x3)))).toNat (am_ushr (U 17 x3.toNat) 24)) 17 x3.toNat) 16) 255)) 84 (w32 ((w32 (4 + (w32 (5 * x3)))) + 2)).toNat (am_and (am_shr ((am_upd (am_upd U 84 (w32 (4 + (w32 (5 * x3)))).toNat (am_ushr (U 17 x3.toNat) 24)) 84 (w32 ((w32 (4 + (w32 (5 * x3)))) + 1)).toNat (am_and (am_shr ((am_upd U 84 (w32 (4 + (w32 (5 * x3)))).toNat (am_ushr (U 17 x3.toNat) 24)) 17 x3.toNat) 16) 255)) 17 x3.toNat) 8) 255)) 84 (w32 ((w32 (4 + (w32 (5 * x3)))) + 3)).toNat (am_and ((am_upd (am_upd (am_upd U 84 (w32 (4 + (w32 (5 * x3)))).toNat (am_ushr (U 17 x3.toNat) 24)) 84 (w32 ((w32 (4 + (w32 (5 * x3)))) + 1)).toNat (am_and (am_shr ((am_upd U 84 (w32 (4 + (w32 (5 * x3)))).toNat (am_ushr (U 17 x3.toNat) 24)) 17 x3.toNat) 16) 255)) 84 (w32 ((w32 (4 + (w32 (5 * x3)))) + 2)).toNat (am_and (am_shr ((am_upd (am_upd U 84 (w32 (4 + (w32 (5 * x3)))).toNat (am_ushr (U 17 x3.toNat) 24)) 84 (w32 ((w32 (4 + (w32 (5 * x3)))) + 1)).toNat (am_and (am_shr ((am_upd U 84 (w32 (4 + (w32 (5 * x3)))).toNat (am_ushr (U 17 x3.toNat) 24)) 17 x3.toNat) 16) 255)) 17 x3.toNat) 8) 255)) 17 x3.toNat) 255)) 18 x3.toNat) + 1))))) R)) : Ev (am_kz N X) ((d + 1), 169, 62, [some (.inr (.inr 16)), some (.inr (.inr 84)), some (.inl x2), some (.inl x3), none], [], (am_sh, am_mm U)) R := by
  refine ev_br (P := (U 16 0) ≤ x3) (σ1 := ((d + 1), 169, 164, [some (.inr (.inr 16)), some (.inr (.inr 84)), some (.inl x2), some (.inl x3), none], [], (am_sh, am_mm U))) (σ2 := ((d + 1), 169, 70, [some (.inr (.inr 16)), some (.inr (.inr 84)), some (.inl x2), some (.inl x3), none], [], (am_sh, am_mm U))) 4 (fun _ => rfl) (fun hc => ?_) (fun hc => ?_)
  · have h1 := h.1 hc
    refine ev_seg (σ1 := ((d + 1), 169, 172, [some (.inr (.inr 16)), some (.inr (.inr 84)), some (.inl x2), some (.inl x3), none], [.inl (w32 (x2 - 1)), .inr (.inr 84), .inl (w32 (x2 - 1)), .inr (.inr 84)], (am_sh, am_mm U))) 8 (fun _ => rfl) ?_
    obtain ⟨r1, U1, h1c, h1a⟩ := h1
    refine ev_cal (σc := (d, 244, 0, [some (.inr (.inr 84)), some (.inl (w32 (x2 - 1))), none, none], [], (am_sh, am_mm U))) (fun _ => rfl) h1c ?_
    show Ev (am_kz N X) ((d + 1), 169, 175, [some (.inr (.inr 16)), some (.inr (.inr 84)), some (.inl x2), some (.inl x3), none], [.inl r1, .inl (w32 (x2 - 1)), .inr (.inr 84)], (am_sh, am_mm U1)) R
    refine eu_iast 84 (n := 85) rfl (by decide) rfl (fun _ => rfl) h1a.1 ?_
    have h1aa := h1a.2
    subst h1aa
    exact ev_end 2 (fun _ => rfl)
  · have h2 := h.2 hc
    refine ev_seg (σ1 := ((d + 1), 169, 85, [some (.inr (.inr 16)), some (.inr (.inr 84)), some (.inl x2), some (.inl x3), some (.inl (w32 (4 + (w32 (5 * x3)))))], [.inl x3, .inr (.inr 17), .inl (w32 (4 + (w32 (5 * x3)))), .inr (.inr 84)], (am_sh, am_mm U))) 11 (fun _ => rfl) ?_
    refine eu_iald 17 (n := 16) rfl (by decide) rfl (fun _ => rfl) h2.1 ?_
    have h2a := h2.2
    refine ev_seg (σ1 := ((d + 1), 169, 89, [some (.inr (.inr 16)), some (.inr (.inr 84)), some (.inl x2), some (.inl x3), some (.inl (w32 (4 + (w32 (5 * x3)))))], [.inl (am_ushr (U 17 x3.toNat) 24), .inl (w32 (4 + (w32 (5 * x3)))), .inr (.inr 84)], (am_sh, am_mm U))) 2 (fun _ => rfl) ?_
    refine eu_iast 84 (n := 85) rfl (by decide) rfl (fun _ => rfl) h2a.1 ?_
    have h2aa := h2a.2
    refine ev_seg (σ1 := ((d + 1), 169, 100, [some (.inr (.inr 16)), some (.inr (.inr 84)), some (.inl x2), some (.inl x3), some (.inl (w32 (4 + (w32 (5 * x3)))))], [.inl x3, .inr (.inr 17), .inl (w32 ((w32 (4 + (w32 (5 * x3)))) + 1)), .inr (.inr 84)], (am_sh, am_mm (am_upd U 84 (w32 (4 + (w32 (5 * x3)))).toNat (am_ushr (U 17 x3.toNat) 24))))) 7 (fun _ => rfl) ?_
    refine eu_iald 17 (n := 16) rfl (by decide) rfl (fun _ => rfl) h2aa.1 ?_
    have h2aaa := h2aa.2
    refine ev_seg (σ1 := ((d + 1), 169, 108, [some (.inr (.inr 16)), some (.inr (.inr 84)), some (.inl x2), some (.inl x3), some (.inl (w32 (4 + (w32 (5 * x3)))))], [.inl (am_and (am_shr ((am_upd U 84 (w32 (4 + (w32 (5 * x3)))).toNat (am_ushr (U 17 x3.toNat) 24)) 17 x3.toNat) 16) 255), .inl (w32 ((w32 (4 + (w32 (5 * x3)))) + 1)), .inr (.inr 84)], (am_sh, am_mm (am_upd U 84 (w32 (4 + (w32 (5 * x3)))).toNat (am_ushr (U 17 x3.toNat) 24))))) 4 (fun _ => rfl) ?_
    refine eu_iast 84 (n := 85) rfl (by decide) rfl (fun _ => rfl) h2aaa.1 ?_
    have h2aaaa := h2aaa.2
    refine ev_seg (σ1 := ((d + 1), 169, 119, [some (.inr (.inr 16)), some (.inr (.inr 84)), some (.inl x2), some (.inl x3), some (.inl (w32 (4 + (w32 (5 * x3)))))], [.inl x3, .inr (.inr 17), .inl (w32 ((w32 (4 + (w32 (5 * x3)))) + 2)), .inr (.inr 84)], (am_sh, am_mm (am_upd (am_upd U 84 (w32 (4 + (w32 (5 * x3)))).toNat (am_ushr (U 17 x3.toNat) 24)) 84 (w32 ((w32 (4 + (w32 (5 * x3)))) + 1)).toNat (am_and (am_shr ((am_upd U 84 (w32 (4 + (w32 (5 * x3)))).toNat (am_ushr (U 17 x3.toNat) 24)) 17 x3.toNat) 16) 255))))) 7 (fun _ => rfl) ?_
    refine eu_iald 17 (n := 16) rfl (by decide) rfl (fun _ => rfl) h2aaaa.1 ?_
    have h2aaaaa := h2aaaa.2
    refine ev_seg (σ1 := ((d + 1), 169, 127, [some (.inr (.inr 16)), some (.inr (.inr 84)), some (.inl x2), some (.inl x3), some (.inl (w32 (4 + (w32 (5 * x3)))))], [.inl (am_and (am_shr ((am_upd (am_upd U 84 (w32 (4 + (w32 (5 * x3)))).toNat (am_ushr (U 17 x3.toNat) 24)) 84 (w32 ((w32 (4 + (w32 (5 * x3)))) + 1)).toNat (am_and (am_shr ((am_upd U 84 (w32 (4 + (w32 (5 * x3)))).toNat (am_ushr (U 17 x3.toNat) 24)) 17 x3.toNat) 16) 255)) 17 x3.toNat) 8) 255), .inl (w32 ((w32 (4 + (w32 (5 * x3)))) + 2)), .inr (.inr 84)], (am_sh, am_mm (am_upd (am_upd U 84 (w32 (4 + (w32 (5 * x3)))).toNat (am_ushr (U 17 x3.toNat) 24)) 84 (w32 ((w32 (4 + (w32 (5 * x3)))) + 1)).toNat (am_and (am_shr ((am_upd U 84 (w32 (4 + (w32 (5 * x3)))).toNat (am_ushr (U 17 x3.toNat) 24)) 17 x3.toNat) 16) 255))))) 4 (fun _ => rfl) ?_
    refine eu_iast 84 (n := 85) rfl (by decide) rfl (fun _ => rfl) h2aaaaa.1 ?_
    have h2aaaaaa := h2aaaaa.2
    refine ev_seg (σ1 := ((d + 1), 169, 138, [some (.inr (.inr 16)), some (.inr (.inr 84)), some (.inl x2), some (.inl x3), some (.inl (w32 (4 + (w32 (5 * x3)))))], [.inl x3, .inr (.inr 17), .inl (w32 ((w32 (4 + (w32 (5 * x3)))) + 3)), .inr (.inr 84)], (am_sh, am_mm (am_upd (am_upd (am_upd U 84 (w32 (4 + (w32 (5 * x3)))).toNat (am_ushr (U 17 x3.toNat) 24)) 84 (w32 ((w32 (4 + (w32 (5 * x3)))) + 1)).toNat (am_and (am_shr ((am_upd U 84 (w32 (4 + (w32 (5 * x3)))).toNat (am_ushr (U 17 x3.toNat) 24)) 17 x3.toNat) 16) 255)) 84 (w32 ((w32 (4 + (w32 (5 * x3)))) + 2)).toNat (am_and (am_shr ((am_upd (am_upd U 84 (w32 (4 + (w32 (5 * x3)))).toNat (am_ushr (U 17 x3.toNat) 24)) 84 (w32 ((w32 (4 + (w32 (5 * x3)))) + 1)).toNat (am_and (am_shr ((am_upd U 84 (w32 (4 + (w32 (5 * x3)))).toNat (am_ushr (U 17 x3.toNat) 24)) 17 x3.toNat) 16) 255)) 17 x3.toNat) 8) 255))))) 7 (fun _ => rfl) ?_
    refine eu_iald 17 (n := 16) rfl (by decide) rfl (fun _ => rfl) h2aaaaaa.1 ?_
    have h2aaaaaaa := h2aaaaaa.2
    refine ev_seg (σ1 := ((d + 1), 169, 143, [some (.inr (.inr 16)), some (.inr (.inr 84)), some (.inl x2), some (.inl x3), some (.inl (w32 (4 + (w32 (5 * x3)))))], [.inl (am_and ((am_upd (am_upd (am_upd U 84 (w32 (4 + (w32 (5 * x3)))).toNat (am_ushr (U 17 x3.toNat) 24)) 84 (w32 ((w32 (4 + (w32 (5 * x3)))) + 1)).toNat (am_and (am_shr ((am_upd U 84 (w32 (4 + (w32 (5 * x3)))).toNat (am_ushr (U 17 x3.toNat) 24)) 17 x3.toNat) 16) 255)) 84 (w32 ((w32 (4 + (w32 (5 * x3)))) + 2)).toNat (am_and (am_shr ((am_upd (am_upd U 84 (w32 (4 + (w32 (5 * x3)))).toNat (am_ushr (U 17 x3.toNat) 24)) 84 (w32 ((w32 (4 + (w32 (5 * x3)))) + 1)).toNat (am_and (am_shr ((am_upd U 84 (w32 (4 + (w32 (5 * x3)))).toNat (am_ushr (U 17 x3.toNat) 24)) 17 x3.toNat) 16) 255)) 17 x3.toNat) 8) 255)) 17 x3.toNat) 255), .inl (w32 ((w32 (4 + (w32 (5 * x3)))) + 3)), .inr (.inr 84)], (am_sh, am_mm (am_upd (am_upd (am_upd U 84 (w32 (4 + (w32 (5 * x3)))).toNat (am_ushr (U 17 x3.toNat) 24)) 84 (w32 ((w32 (4 + (w32 (5 * x3)))) + 1)).toNat (am_and (am_shr ((am_upd U 84 (w32 (4 + (w32 (5 * x3)))).toNat (am_ushr (U 17 x3.toNat) 24)) 17 x3.toNat) 16) 255)) 84 (w32 ((w32 (4 + (w32 (5 * x3)))) + 2)).toNat (am_and (am_shr ((am_upd (am_upd U 84 (w32 (4 + (w32 (5 * x3)))).toNat (am_ushr (U 17 x3.toNat) 24)) 84 (w32 ((w32 (4 + (w32 (5 * x3)))) + 1)).toNat (am_and (am_shr ((am_upd U 84 (w32 (4 + (w32 (5 * x3)))).toNat (am_ushr (U 17 x3.toNat) 24)) 17 x3.toNat) 16) 255)) 17 x3.toNat) 8) 255))))) 2 (fun _ => rfl) ?_
    refine eu_iast 84 (n := 85) rfl (by decide) rfl (fun _ => rfl) h2aaaaaaa.1 ?_
    have h2aaaaaaaa := h2aaaaaaa.2
    refine ev_seg (σ1 := ((d + 1), 169, 154, [some (.inr (.inr 16)), some (.inr (.inr 84)), some (.inl x2), some (.inl x3), some (.inl (w32 (4 + (w32 (5 * x3)))))], [.inl x3, .inr (.inr 18), .inl (w32 ((w32 (4 + (w32 (5 * x3)))) + 4)), .inr (.inr 84)], (am_sh, am_mm (am_upd (am_upd (am_upd (am_upd U 84 (w32 (4 + (w32 (5 * x3)))).toNat (am_ushr (U 17 x3.toNat) 24)) 84 (w32 ((w32 (4 + (w32 (5 * x3)))) + 1)).toNat (am_and (am_shr ((am_upd U 84 (w32 (4 + (w32 (5 * x3)))).toNat (am_ushr (U 17 x3.toNat) 24)) 17 x3.toNat) 16) 255)) 84 (w32 ((w32 (4 + (w32 (5 * x3)))) + 2)).toNat (am_and (am_shr ((am_upd (am_upd U 84 (w32 (4 + (w32 (5 * x3)))).toNat (am_ushr (U 17 x3.toNat) 24)) 84 (w32 ((w32 (4 + (w32 (5 * x3)))) + 1)).toNat (am_and (am_shr ((am_upd U 84 (w32 (4 + (w32 (5 * x3)))).toNat (am_ushr (U 17 x3.toNat) 24)) 17 x3.toNat) 16) 255)) 17 x3.toNat) 8) 255)) 84 (w32 ((w32 (4 + (w32 (5 * x3)))) + 3)).toNat (am_and ((am_upd (am_upd (am_upd U 84 (w32 (4 + (w32 (5 * x3)))).toNat (am_ushr (U 17 x3.toNat) 24)) 84 (w32 ((w32 (4 + (w32 (5 * x3)))) + 1)).toNat (am_and (am_shr ((am_upd U 84 (w32 (4 + (w32 (5 * x3)))).toNat (am_ushr (U 17 x3.toNat) 24)) 17 x3.toNat) 16) 255)) 84 (w32 ((w32 (4 + (w32 (5 * x3)))) + 2)).toNat (am_and (am_shr ((am_upd (am_upd U 84 (w32 (4 + (w32 (5 * x3)))).toNat (am_ushr (U 17 x3.toNat) 24)) 84 (w32 ((w32 (4 + (w32 (5 * x3)))) + 1)).toNat (am_and (am_shr ((am_upd U 84 (w32 (4 + (w32 (5 * x3)))).toNat (am_ushr (U 17 x3.toNat) 24)) 17 x3.toNat) 16) 255)) 17 x3.toNat) 8) 255)) 17 x3.toNat) 255))))) 7 (fun _ => rfl) ?_
    refine eu_iald 18 (n := 16) rfl (by decide) rfl (fun _ => rfl) h2aaaaaaaa.1 ?_
    have h2aaaaaaaaa := h2aaaaaaaa.2
    refine ev_seg (σ1 := ((d + 1), 169, 157, [some (.inr (.inr 16)), some (.inr (.inr 84)), some (.inl x2), some (.inl x3), some (.inl (w32 (4 + (w32 (5 * x3)))))], [.inl (w32 (((am_upd (am_upd (am_upd (am_upd U 84 (w32 (4 + (w32 (5 * x3)))).toNat (am_ushr (U 17 x3.toNat) 24)) 84 (w32 ((w32 (4 + (w32 (5 * x3)))) + 1)).toNat (am_and (am_shr ((am_upd U 84 (w32 (4 + (w32 (5 * x3)))).toNat (am_ushr (U 17 x3.toNat) 24)) 17 x3.toNat) 16) 255)) 84 (w32 ((w32 (4 + (w32 (5 * x3)))) + 2)).toNat (am_and (am_shr ((am_upd (am_upd U 84 (w32 (4 + (w32 (5 * x3)))).toNat (am_ushr (U 17 x3.toNat) 24)) 84 (w32 ((w32 (4 + (w32 (5 * x3)))) + 1)).toNat (am_and (am_shr ((am_upd U 84 (w32 (4 + (w32 (5 * x3)))).toNat (am_ushr (U 17 x3.toNat) 24)) 17 x3.toNat) 16) 255)) 17 x3.toNat) 8) 255)) 84 (w32 ((w32 (4 + (w32 (5 * x3)))) + 3)).toNat (am_and ((am_upd (am_upd (am_upd U 84 (w32 (4 + (w32 (5 * x3)))).toNat (am_ushr (U 17 x3.toNat) 24)) 84 (w32 ((w32 (4 + (w32 (5 * x3)))) + 1)).toNat (am_and (am_shr ((am_upd U 84 (w32 (4 + (w32 (5 * x3)))).toNat (am_ushr (U 17 x3.toNat) 24)) 17 x3.toNat) 16) 255)) 84 (w32 ((w32 (4 + (w32 (5 * x3)))) + 2)).toNat (am_and (am_shr ((am_upd (am_upd U 84 (w32 (4 + (w32 (5 * x3)))).toNat (am_ushr (U 17 x3.toNat) 24)) 84 (w32 ((w32 (4 + (w32 (5 * x3)))) + 1)).toNat (am_and (am_shr ((am_upd U 84 (w32 (4 + (w32 (5 * x3)))).toNat (am_ushr (U 17 x3.toNat) 24)) 17 x3.toNat) 16) 255)) 17 x3.toNat) 8) 255)) 17 x3.toNat) 255)) 18 x3.toNat) + 1)), .inl (w32 ((w32 (4 + (w32 (5 * x3)))) + 4)), .inr (.inr 84)], (am_sh, am_mm (am_upd (am_upd (am_upd (am_upd U 84 (w32 (4 + (w32 (5 * x3)))).toNat (am_ushr (U 17 x3.toNat) 24)) 84 (w32 ((w32 (4 + (w32 (5 * x3)))) + 1)).toNat (am_and (am_shr ((am_upd U 84 (w32 (4 + (w32 (5 * x3)))).toNat (am_ushr (U 17 x3.toNat) 24)) 17 x3.toNat) 16) 255)) 84 (w32 ((w32 (4 + (w32 (5 * x3)))) + 2)).toNat (am_and (am_shr ((am_upd (am_upd U 84 (w32 (4 + (w32 (5 * x3)))).toNat (am_ushr (U 17 x3.toNat) 24)) 84 (w32 ((w32 (4 + (w32 (5 * x3)))) + 1)).toNat (am_and (am_shr ((am_upd U 84 (w32 (4 + (w32 (5 * x3)))).toNat (am_ushr (U 17 x3.toNat) 24)) 17 x3.toNat) 16) 255)) 17 x3.toNat) 8) 255)) 84 (w32 ((w32 (4 + (w32 (5 * x3)))) + 3)).toNat (am_and ((am_upd (am_upd (am_upd U 84 (w32 (4 + (w32 (5 * x3)))).toNat (am_ushr (U 17 x3.toNat) 24)) 84 (w32 ((w32 (4 + (w32 (5 * x3)))) + 1)).toNat (am_and (am_shr ((am_upd U 84 (w32 (4 + (w32 (5 * x3)))).toNat (am_ushr (U 17 x3.toNat) 24)) 17 x3.toNat) 16) 255)) 84 (w32 ((w32 (4 + (w32 (5 * x3)))) + 2)).toNat (am_and (am_shr ((am_upd (am_upd U 84 (w32 (4 + (w32 (5 * x3)))).toNat (am_ushr (U 17 x3.toNat) 24)) 84 (w32 ((w32 (4 + (w32 (5 * x3)))) + 1)).toNat (am_and (am_shr ((am_upd U 84 (w32 (4 + (w32 (5 * x3)))).toNat (am_ushr (U 17 x3.toNat) 24)) 17 x3.toNat) 16) 255)) 17 x3.toNat) 8) 255)) 17 x3.toNat) 255))))) 2 (fun _ => rfl) ?_
    refine eu_iast 84 (n := 85) rfl (by decide) rfl (fun _ => rfl) h2aaaaaaaaa.1 ?_
    have h2aaaaaaaaaa := h2aaaaaaaaa.2
    refine ev_seg (σ1 := ((d + 1), 169, 62, [some (.inr (.inr 16)), some (.inr (.inr 84)), some (.inl x2), some (.inl (w32 (x3 + 1))), some (.inl (w32 (4 + (w32 (5 * x3)))))], [], (am_sh, am_mm (am_upd (am_upd (am_upd (am_upd (am_upd U 84 (w32 (4 + (w32 (5 * x3)))).toNat (am_ushr (U 17 x3.toNat) 24)) 84 (w32 ((w32 (4 + (w32 (5 * x3)))) + 1)).toNat (am_and (am_shr ((am_upd U 84 (w32 (4 + (w32 (5 * x3)))).toNat (am_ushr (U 17 x3.toNat) 24)) 17 x3.toNat) 16) 255)) 84 (w32 ((w32 (4 + (w32 (5 * x3)))) + 2)).toNat (am_and (am_shr ((am_upd (am_upd U 84 (w32 (4 + (w32 (5 * x3)))).toNat (am_ushr (U 17 x3.toNat) 24)) 84 (w32 ((w32 (4 + (w32 (5 * x3)))) + 1)).toNat (am_and (am_shr ((am_upd U 84 (w32 (4 + (w32 (5 * x3)))).toNat (am_ushr (U 17 x3.toNat) 24)) 17 x3.toNat) 16) 255)) 17 x3.toNat) 8) 255)) 84 (w32 ((w32 (4 + (w32 (5 * x3)))) + 3)).toNat (am_and ((am_upd (am_upd (am_upd U 84 (w32 (4 + (w32 (5 * x3)))).toNat (am_ushr (U 17 x3.toNat) 24)) 84 (w32 ((w32 (4 + (w32 (5 * x3)))) + 1)).toNat (am_and (am_shr ((am_upd U 84 (w32 (4 + (w32 (5 * x3)))).toNat (am_ushr (U 17 x3.toNat) 24)) 17 x3.toNat) 16) 255)) 84 (w32 ((w32 (4 + (w32 (5 * x3)))) + 2)).toNat (am_and (am_shr ((am_upd (am_upd U 84 (w32 (4 + (w32 (5 * x3)))).toNat (am_ushr (U 17 x3.toNat) 24)) 84 (w32 ((w32 (4 + (w32 (5 * x3)))) + 1)).toNat (am_and (am_shr ((am_upd U 84 (w32 (4 + (w32 (5 * x3)))).toNat (am_ushr (U 17 x3.toNat) 24)) 17 x3.toNat) 16) 255)) 17 x3.toNat) 8) 255)) 17 x3.toNat) 255)) 84 (w32 ((w32 (4 + (w32 (5 * x3)))) + 4)).toNat (w32 (((am_upd (am_upd (am_upd (am_upd U 84 (w32 (4 + (w32 (5 * x3)))).toNat (am_ushr (U 17 x3.toNat) 24)) 84 (w32 ((w32 (4 + (w32 (5 * x3)))) + 1)).toNat (am_and (am_shr ((am_upd U 84 (w32 (4 + (w32 (5 * x3)))).toNat (am_ushr (U 17 x3.toNat) 24)) 17 x3.toNat) 16) 255)) 84 (w32 ((w32 (4 + (w32 (5 * x3)))) + 2)).toNat (am_and (am_shr ((am_upd (am_upd U 84 (w32 (4 + (w32 (5 * x3)))).toNat (am_ushr (U 17 x3.toNat) 24)) 84 (w32 ((w32 (4 + (w32 (5 * x3)))) + 1)).toNat (am_and (am_shr ((am_upd U 84 (w32 (4 + (w32 (5 * x3)))).toNat (am_ushr (U 17 x3.toNat) 24)) 17 x3.toNat) 16) 255)) 17 x3.toNat) 8) 255)) 84 (w32 ((w32 (4 + (w32 (5 * x3)))) + 3)).toNat (am_and ((am_upd (am_upd (am_upd U 84 (w32 (4 + (w32 (5 * x3)))).toNat (am_ushr (U 17 x3.toNat) 24)) 84 (w32 ((w32 (4 + (w32 (5 * x3)))) + 1)).toNat (am_and (am_shr ((am_upd U 84 (w32 (4 + (w32 (5 * x3)))).toNat (am_ushr (U 17 x3.toNat) 24)) 17 x3.toNat) 16) 255)) 84 (w32 ((w32 (4 + (w32 (5 * x3)))) + 2)).toNat (am_and (am_shr ((am_upd (am_upd U 84 (w32 (4 + (w32 (5 * x3)))).toNat (am_ushr (U 17 x3.toNat) 24)) 84 (w32 ((w32 (4 + (w32 (5 * x3)))) + 1)).toNat (am_and (am_shr ((am_upd U 84 (w32 (4 + (w32 (5 * x3)))).toNat (am_ushr (U 17 x3.toNat) 24)) 17 x3.toNat) 16) 255)) 17 x3.toNat) 8) 255)) 17 x3.toNat) 255)) 18 x3.toNat) + 1)))))) 2 (fun _ => rfl) ?_
    exact h2aaaaaaaaaa
set_option maxRecDepth 8000 in
theorem st170_86_0 (N : Nat) (X : Nat → Int) (d : Nat) (x1 : Int) (U : Nat → Nat → Int) (R : Option am_V × am_M) (h : (0 ≤ (U 86 89) ∧ (U 86 89) < 90) ∧ R = (none, (am_sh, am_mm (am_upd (am_upd U 138 (U 86 89).toNat (am_and x1 255)) 86 89 (w32 (((am_upd U 138 (U 86 89).toNat (am_and x1 255)) 86 89) + 1)))))) : Ev (am_kz N X) (d, 170, 0, [some (.inr (.inr 86)), some (.inl x1)], [], (am_sh, am_mm U)) R := by
  refine ev_seg (σ1 := (d, 170, 13, [some (.inr (.inr 86)), some (.inl x1)], [.inl (am_and x1 255), .inl (U 86 89), .inr (.inr 138)], (am_sh, am_mm U))) 7 (fun _ => rfl) ?_
  refine eu_iast 138 (n := 90) rfl (by decide) rfl (fun _ => rfl) h.1 ?_
  have ha := h.2
  refine ev_seg (σ1 := (d, 170, 21, [some (.inr (.inr 86)), some (.inl x1)], [.inl (w32 (((am_upd U 138 (U 86 89).toNat (am_and x1 255)) 86 89) + 1)), .inr (.inr 86)], (am_sh, am_mm (am_upd U 138 (U 86 89).toNat (am_and x1 255))))) 5 (fun _ => rfl) ?_
  refine eu_puti 86 (n := 90) rfl (by decide) rfl rfl ?_
  subst ha
  exact ev_end 1 (fun _ => rfl)
set_option maxRecDepth 8000 in
theorem st171_21_2_3_0 (N : Nat) (X : Nat → Int) (d : Nat) (x2 : Int) (U : Nat → Nat → Int) (R : Option am_V × am_M) (h : ∃ U1 : Nat → Nat → Int, Ev (am_kz N X) (d, 176, 0, [some (.inr (.inr 21))], [], (am_sh, am_mm U)) (none, (am_sh, am_mm U1)) ∧ (((x2 < 5 : Prop)) → R = (some (.inl 0), (am_sh, am_mm U1))) ∧ (¬ (x2 < 5) → (((1600 < x2 : Prop)) → R = (some (.inl 0), (am_sh, am_mm U1))) ∧ (¬ (1600 < x2) → (((16 < (U1 2 3) : Prop)) → R = (some (.inl 0), (am_sh, am_mm U1))) ∧ (¬ (16 < (U1 2 3)) → (((x2 = (w32 (5 + (w32 (5 * (U1 2 3))))) : Prop)) → (((¬ ((am_upd U1 21 1 (w32 ((w32 (256 * (U1 2 0))) + (U1 2 1)))) 2 2) = 1 : Prop)) → (((9999 < ((am_upd (am_upd U1 21 1 (w32 ((w32 (256 * (U1 2 0))) + (U1 2 1)))) 21 2 0) 21 1) : Prop)) → R = (some (.inl 0), (am_sh, am_mm (am_upd (am_upd U1 21 1 (w32 ((w32 (256 * (U1 2 0))) + (U1 2 1)))) 21 2 0)))) ∧ (¬ (9999 < ((am_upd (am_upd U1 21 1 (w32 ((w32 (256 * (U1 2 0))) + (U1 2 1)))) 21 2 0) 21 1)) → (((1 < ((am_upd (am_upd U1 21 1 (w32 ((w32 (256 * (U1 2 0))) + (U1 2 1)))) 21 2 0) 2 2) : Prop)) → R = (some (.inl 0), (am_sh, am_mm (am_upd (am_upd U1 21 1 (w32 ((w32 (256 * (U1 2 0))) + (U1 2 1)))) 21 2 0)))) ∧ (¬ (1 < ((am_upd (am_upd U1 21 1 (w32 ((w32 (256 * (U1 2 0))) + (U1 2 1)))) 21 2 0) 2 2)) → (0 ≤ (w32 (x2 - 1)) ∧ (w32 (x2 - 1)) < 1600) ∧ ∃ (r2 : Int) (U2 : Nat → Nat → Int), Ev (am_kz N X) (d, 244, 0, [some (.inr (.inr 2)), some (.inl (w32 (x2 - 1))), none, none], [], (am_sh, am_mm (am_upd (am_upd U1 21 1 (w32 ((w32 (256 * (U1 2 0))) + (U1 2 1)))) 21 2 0))) (some (.inl r2), (am_sh, am_mm U2)) ∧ (((((am_upd (am_upd U1 21 1 (w32 ((w32 (256 * (U1 2 0))) + (U1 2 1)))) 21 2 0) 2 (w32 (x2 - 1)).toNat) = r2 : Prop)) → Ev (am_kz N X) ((d + 1), 171, 104, [some (.inr (.inr 21)), some (.inr (.inr 2)), some (.inl x2), some (.inr (.inr 3)), some (.inl 4), none], [], (am_sh, am_mm U2)) R) ∧ (¬ (((am_upd (am_upd U1 21 1 (w32 ((w32 (256 * (U1 2 0))) + (U1 2 1)))) 21 2 0) 2 (w32 (x2 - 1)).toNat) = r2) → R = (some (.inl 0), (am_sh, am_mm U2)))))) ∧ (¬ (¬ ((am_upd U1 21 1 (w32 ((w32 (256 * (U1 2 0))) + (U1 2 1)))) 2 2) = 1) → (((9999 < ((am_upd (am_upd U1 21 1 (w32 ((w32 (256 * (U1 2 0))) + (U1 2 1)))) 21 2 1) 21 1) : Prop)) → R = (some (.inl 0), (am_sh, am_mm (am_upd (am_upd U1 21 1 (w32 ((w32 (256 * (U1 2 0))) + (U1 2 1)))) 21 2 1)))) ∧ (¬ (9999 < ((am_upd (am_upd U1 21 1 (w32 ((w32 (256 * (U1 2 0))) + (U1 2 1)))) 21 2 1) 21 1)) → (((1 < ((am_upd (am_upd U1 21 1 (w32 ((w32 (256 * (U1 2 0))) + (U1 2 1)))) 21 2 1) 2 2) : Prop)) → R = (some (.inl 0), (am_sh, am_mm (am_upd (am_upd U1 21 1 (w32 ((w32 (256 * (U1 2 0))) + (U1 2 1)))) 21 2 1)))) ∧ (¬ (1 < ((am_upd (am_upd U1 21 1 (w32 ((w32 (256 * (U1 2 0))) + (U1 2 1)))) 21 2 1) 2 2)) → (0 ≤ (w32 (x2 - 1)) ∧ (w32 (x2 - 1)) < 1600) ∧ ∃ (r3 : Int) (U3 : Nat → Nat → Int), Ev (am_kz N X) (d, 244, 0, [some (.inr (.inr 2)), some (.inl (w32 (x2 - 1))), none, none], [], (am_sh, am_mm (am_upd (am_upd U1 21 1 (w32 ((w32 (256 * (U1 2 0))) + (U1 2 1)))) 21 2 1))) (some (.inl r3), (am_sh, am_mm U3)) ∧ (((((am_upd (am_upd U1 21 1 (w32 ((w32 (256 * (U1 2 0))) + (U1 2 1)))) 21 2 1) 2 (w32 (x2 - 1)).toNat) = r3 : Prop)) → Ev (am_kz N X) ((d + 1), 171, 104, [some (.inr (.inr 21)), some (.inr (.inr 2)), some (.inl x2), some (.inr (.inr 3)), some (.inl 4), none], [], (am_sh, am_mm U3)) R) ∧ (¬ (((am_upd (am_upd U1 21 1 (w32 ((w32 (256 * (U1 2 0))) + (U1 2 1)))) 21 2 1) 2 (w32 (x2 - 1)).toNat) = r3) → R = (some (.inl 0), (am_sh, am_mm U3))))))) ∧ (¬ (x2 = (w32 (5 + (w32 (5 * (U1 2 3)))))) → R = (some (.inl 0), (am_sh, am_mm U1))))))) : Ev (am_kz N X) ((d + 1), 171, 0, [some (.inr (.inr 21)), some (.inr (.inr 2)), some (.inl x2), some (.inr (.inr 3)), none, none], [], (am_sh, am_mm U)) R := by
  refine ev_seg (σ1 := ((d + 1), 171, 1, [some (.inr (.inr 21)), some (.inr (.inr 2)), some (.inl x2), some (.inr (.inr 3)), none, none], [.inr (.inr 21)], (am_sh, am_mm U))) 1 (fun _ => rfl) ?_
  obtain ⟨U1, hc, ha⟩ := h
  refine ev_cal (σc := (d, 176, 0, [some (.inr (.inr 21))], [], (am_sh, am_mm U))) (fun _ => rfl) hc ?_
  show Ev (am_kz N X) ((d + 1), 171, 4, [some (.inr (.inr 21)), some (.inr (.inr 2)), some (.inl x2), some (.inr (.inr 3)), none, none], [], (am_sh, am_mm U1)) R
  refine ev_br (P := x2 < 5) (σ1 := ((d + 1), 171, 34, [some (.inr (.inr 21)), some (.inr (.inr 2)), some (.inl x2), some (.inr (.inr 3)), none, none], [], (am_sh, am_mm U1))) (σ2 := ((d + 1), 171, 9, [some (.inr (.inr 21)), some (.inr (.inr 2)), some (.inl x2), some (.inr (.inr 3)), none, none], [], (am_sh, am_mm U1))) 3 (fun _ => rfl) (fun hc => ?_) (fun hc => ?_)
  · have ha1 := ha.1 hc
    subst ha1
    exact ev_end 2 (fun _ => rfl)
  · have ha2 := ha.2 hc
    refine ev_br (P := 1600 < x2) (σ1 := ((d + 1), 171, 34, [some (.inr (.inr 21)), some (.inr (.inr 2)), some (.inl x2), some (.inr (.inr 3)), none, none], [], (am_sh, am_mm U1))) (σ2 := ((d + 1), 171, 15, [some (.inr (.inr 21)), some (.inr (.inr 2)), some (.inl x2), some (.inr (.inr 3)), none, none], [], (am_sh, am_mm U1))) 4 (fun _ => rfl) (fun hc => ?_) (fun hc => ?_)
    · have ha21 := ha2.1 hc
      subst ha21
      exact ev_end 2 (fun _ => rfl)
    · have ha22 := ha2.2 hc
      refine ev_seg (σ1 := ((d + 1), 171, 17, [some (.inr (.inr 21)), some (.inr (.inr 2)), some (.inl x2), some (.inr (.inr 3)), none, none], [.inl 3, .inr (.inr 2)], (am_sh, am_mm U1))) 2 (fun _ => rfl) ?_
      refine eu_iald 2 (n := 1600) rfl (by decide) rfl (fun _ => rfl) (by decide) ?_
      show Ev (am_kz N X) ((d + 1), 171, 18, [some (.inr (.inr 21)), some (.inr (.inr 2)), some (.inl x2), some (.inr (.inr 3)), none, none], [.inl (U1 2 3)], (am_sh, am_mm U1)) R
      refine ev_br (P := 16 < (U1 2 3)) (σ1 := ((d + 1), 171, 34, [some (.inr (.inr 21)), some (.inr (.inr 2)), some (.inl x2), some (.inr (.inr 3)), none, none], [], (am_sh, am_mm U1))) (σ2 := ((d + 1), 171, 23, [some (.inr (.inr 21)), some (.inr (.inr 2)), some (.inl x2), some (.inr (.inr 3)), none, none], [], (am_sh, am_mm U1))) 2 (fun _ => rfl) (fun hc => ?_) (fun hc => ?_)
      · have ha221 := ha22.1 hc
        subst ha221
        exact ev_end 2 (fun _ => rfl)
      · have ha222 := ha22.2 hc
        refine ev_seg (σ1 := ((d + 1), 171, 28, [some (.inr (.inr 21)), some (.inr (.inr 2)), some (.inl x2), some (.inr (.inr 3)), none, none], [.inl 3, .inr (.inr 2), .inl 5, .inl 5, .inl x2], (am_sh, am_mm U1))) 5 (fun _ => rfl) ?_
        refine eu_iald 2 (n := 1600) rfl (by decide) rfl (fun _ => rfl) (by decide) ?_
        show Ev (am_kz N X) ((d + 1), 171, 29, [some (.inr (.inr 21)), some (.inr (.inr 2)), some (.inl x2), some (.inr (.inr 3)), none, none], [.inl (U1 2 3), .inl 5, .inl 5, .inl x2], (am_sh, am_mm U1)) R
        refine ev_br (P := x2 = (w32 (5 + (w32 (5 * (U1 2 3)))))) (σ1 := ((d + 1), 171, 36, [some (.inr (.inr 21)), some (.inr (.inr 2)), some (.inl x2), some (.inr (.inr 3)), none, none], [], (am_sh, am_mm U1))) (σ2 := ((d + 1), 171, 34, [some (.inr (.inr 21)), some (.inr (.inr 2)), some (.inl x2), some (.inr (.inr 3)), none, none], [], (am_sh, am_mm U1))) 3 (fun _ => rfl) (fun hc => ?_) (fun hc => ?_)
        · have ha2221 := ha222.1 hc
          refine ev_seg (σ1 := ((d + 1), 171, 42, [some (.inr (.inr 21)), some (.inr (.inr 2)), some (.inl x2), some (.inr (.inr 3)), none, none], [.inl 0, .inr (.inr 2), .inl 256, .inr (.inr 21)], (am_sh, am_mm U1))) 4 (fun _ => rfl) ?_
          refine eu_iald 2 (n := 1600) rfl (by decide) rfl (fun _ => rfl) (by decide) ?_
          show Ev (am_kz N X) ((d + 1), 171, 43, [some (.inr (.inr 21)), some (.inr (.inr 2)), some (.inl x2), some (.inr (.inr 3)), none, none], [.inl (U1 2 0), .inl 256, .inr (.inr 21)], (am_sh, am_mm U1)) R
          refine ev_seg (σ1 := ((d + 1), 171, 46, [some (.inr (.inr 21)), some (.inr (.inr 2)), some (.inl x2), some (.inr (.inr 3)), none, none], [.inl 1, .inr (.inr 2), .inl (w32 (256 * (U1 2 0))), .inr (.inr 21)], (am_sh, am_mm U1))) 3 (fun _ => rfl) ?_
          refine eu_iald 2 (n := 1600) rfl (by decide) rfl (fun _ => rfl) (by decide) ?_
          show Ev (am_kz N X) ((d + 1), 171, 47, [some (.inr (.inr 21)), some (.inr (.inr 2)), some (.inl x2), some (.inr (.inr 3)), none, none], [.inl (U1 2 1), .inl (w32 (256 * (U1 2 0))), .inr (.inr 21)], (am_sh, am_mm U1)) R
          refine ev_seg (σ1 := ((d + 1), 171, 48, [some (.inr (.inr 21)), some (.inr (.inr 2)), some (.inl x2), some (.inr (.inr 3)), none, none], [.inl (w32 ((w32 (256 * (U1 2 0))) + (U1 2 1))), .inr (.inr 21)], (am_sh, am_mm U1))) 1 (fun _ => rfl) ?_
          refine eu_puti 21 (n := 7) rfl (by decide) rfl rfl ?_
          refine ev_seg (σ1 := ((d + 1), 171, 54, [some (.inr (.inr 21)), some (.inr (.inr 2)), some (.inl x2), some (.inr (.inr 3)), none, none], [.inl 2, .inr (.inr 2), .inr (.inr 21)], (am_sh, am_mm (am_upd U1 21 1 (w32 ((w32 (256 * (U1 2 0))) + (U1 2 1))))))) 3 (fun _ => rfl) ?_
          refine eu_iald 2 (n := 1600) rfl (by decide) rfl (fun _ => rfl) (by decide) ?_
          show Ev (am_kz N X) ((d + 1), 171, 55, [some (.inr (.inr 21)), some (.inr (.inr 2)), some (.inl x2), some (.inr (.inr 3)), none, none], [.inl ((am_upd U1 21 1 (w32 ((w32 (256 * (U1 2 0))) + (U1 2 1)))) 2 2), .inr (.inr 21)], (am_sh, am_mm (am_upd U1 21 1 (w32 ((w32 (256 * (U1 2 0))) + (U1 2 1)))))) R
          refine ev_br (P := ¬ ((am_upd U1 21 1 (w32 ((w32 (256 * (U1 2 0))) + (U1 2 1)))) 2 2) = 1) (σ1 := ((d + 1), 171, 63, [some (.inr (.inr 21)), some (.inr (.inr 2)), some (.inl x2), some (.inr (.inr 3)), none, none], [.inr (.inr 21)], (am_sh, am_mm (am_upd U1 21 1 (w32 ((w32 (256 * (U1 2 0))) + (U1 2 1))))))) (σ2 := ((d + 1), 171, 59, [some (.inr (.inr 21)), some (.inr (.inr 2)), some (.inl x2), some (.inr (.inr 3)), none, none], [.inr (.inr 21)], (am_sh, am_mm (am_upd U1 21 1 (w32 ((w32 (256 * (U1 2 0))) + (U1 2 1))))))) 2 (fun _ => rfl) (fun hc => ?_) (fun hc => ?_)
          · have ha22211 := ha2221.1 hc
            refine ev_seg (σ1 := ((d + 1), 171, 64, [some (.inr (.inr 21)), some (.inr (.inr 2)), some (.inl x2), some (.inr (.inr 3)), none, none], [.inl 0, .inr (.inr 21)], (am_sh, am_mm (am_upd U1 21 1 (w32 ((w32 (256 * (U1 2 0))) + (U1 2 1))))))) 1 (fun _ => rfl) ?_
            refine eu_putz 21 (n := 7) rfl (by decide) rfl rfl (by decide) ?_
            refine ev_br (P := 9999 < ((am_upd (am_upd U1 21 1 (w32 ((w32 (256 * (U1 2 0))) + (U1 2 1)))) 21 2 0) 21 1)) (σ1 := ((d + 1), 171, 99, [some (.inr (.inr 21)), some (.inr (.inr 2)), some (.inl x2), some (.inr (.inr 3)), none, none], [], (am_sh, am_mm (am_upd (am_upd U1 21 1 (w32 ((w32 (256 * (U1 2 0))) + (U1 2 1)))) 21 2 0)))) (σ2 := ((d + 1), 171, 77, [some (.inr (.inr 21)), some (.inr (.inr 2)), some (.inl x2), some (.inr (.inr 3)), none, none], [], (am_sh, am_mm (am_upd (am_upd U1 21 1 (w32 ((w32 (256 * (U1 2 0))) + (U1 2 1)))) 21 2 0)))) 4 (fun _ => rfl) (fun hc => ?_) (fun hc => ?_)
            · have ha222111 := ha22211.1 hc
              subst ha222111
              exact ev_end 2 (fun _ => rfl)
            · have ha222112 := ha22211.2 hc
              refine ev_seg (σ1 := ((d + 1), 171, 79, [some (.inr (.inr 21)), some (.inr (.inr 2)), some (.inl x2), some (.inr (.inr 3)), none, none], [.inl 2, .inr (.inr 2)], (am_sh, am_mm (am_upd (am_upd U1 21 1 (w32 ((w32 (256 * (U1 2 0))) + (U1 2 1)))) 21 2 0)))) 2 (fun _ => rfl) ?_
              refine eu_iald 2 (n := 1600) rfl (by decide) rfl (fun _ => rfl) (by decide) ?_
              show Ev (am_kz N X) ((d + 1), 171, 80, [some (.inr (.inr 21)), some (.inr (.inr 2)), some (.inl x2), some (.inr (.inr 3)), none, none], [.inl ((am_upd (am_upd U1 21 1 (w32 ((w32 (256 * (U1 2 0))) + (U1 2 1)))) 21 2 0) 2 2)], (am_sh, am_mm (am_upd (am_upd U1 21 1 (w32 ((w32 (256 * (U1 2 0))) + (U1 2 1)))) 21 2 0))) R
              refine ev_br (P := 1 < ((am_upd (am_upd U1 21 1 (w32 ((w32 (256 * (U1 2 0))) + (U1 2 1)))) 21 2 0) 2 2)) (σ1 := ((d + 1), 171, 99, [some (.inr (.inr 21)), some (.inr (.inr 2)), some (.inl x2), some (.inr (.inr 3)), none, none], [], (am_sh, am_mm (am_upd (am_upd U1 21 1 (w32 ((w32 (256 * (U1 2 0))) + (U1 2 1)))) 21 2 0)))) (σ2 := ((d + 1), 171, 84, [some (.inr (.inr 21)), some (.inr (.inr 2)), some (.inl x2), some (.inr (.inr 3)), none, none], [], (am_sh, am_mm (am_upd (am_upd U1 21 1 (w32 ((w32 (256 * (U1 2 0))) + (U1 2 1)))) 21 2 0)))) 2 (fun _ => rfl) (fun hc => ?_) (fun hc => ?_)
              · have ha2221121 := ha222112.1 hc
                subst ha2221121
                exact ev_end 2 (fun _ => rfl)
              · have ha2221122 := ha222112.2 hc
                refine ev_seg (σ1 := ((d + 1), 171, 88, [some (.inr (.inr 21)), some (.inr (.inr 2)), some (.inl x2), some (.inr (.inr 3)), none, none], [.inl (w32 (x2 - 1)), .inr (.inr 2)], (am_sh, am_mm (am_upd (am_upd U1 21 1 (w32 ((w32 (256 * (U1 2 0))) + (U1 2 1)))) 21 2 0)))) 4 (fun _ => rfl) ?_
                refine eu_iald 2 (n := 1600) rfl (by decide) rfl (fun _ => rfl) ha2221122.1 ?_
                have ha2221122a := ha2221122.2
                refine ev_seg (σ1 := ((d + 1), 171, 93, [some (.inr (.inr 21)), some (.inr (.inr 2)), some (.inl x2), some (.inr (.inr 3)), none, none], [.inl (w32 (x2 - 1)), .inr (.inr 2), .inl ((am_upd (am_upd U1 21 1 (w32 ((w32 (256 * (U1 2 0))) + (U1 2 1)))) 21 2 0) 2 (w32 (x2 - 1)).toNat)], (am_sh, am_mm (am_upd (am_upd U1 21 1 (w32 ((w32 (256 * (U1 2 0))) + (U1 2 1)))) 21 2 0)))) 4 (fun _ => rfl) ?_
                obtain ⟨r2, U2, ha2221122ac, ha2221122aa⟩ := ha2221122a
                refine ev_cal (σc := (d, 244, 0, [some (.inr (.inr 2)), some (.inl (w32 (x2 - 1))), none, none], [], (am_sh, am_mm (am_upd (am_upd U1 21 1 (w32 ((w32 (256 * (U1 2 0))) + (U1 2 1)))) 21 2 0)))) (fun _ => rfl) ha2221122ac ?_
                show Ev (am_kz N X) ((d + 1), 171, 96, [some (.inr (.inr 21)), some (.inr (.inr 2)), some (.inl x2), some (.inr (.inr 3)), none, none], [.inl r2, .inl ((am_upd (am_upd U1 21 1 (w32 ((w32 (256 * (U1 2 0))) + (U1 2 1)))) 21 2 0) 2 (w32 (x2 - 1)).toNat)], (am_sh, am_mm U2)) R
                refine ev_br (P := ((am_upd (am_upd U1 21 1 (w32 ((w32 (256 * (U1 2 0))) + (U1 2 1)))) 21 2 0) 2 (w32 (x2 - 1)).toNat) = r2) (σ1 := ((d + 1), 171, 101, [some (.inr (.inr 21)), some (.inr (.inr 2)), some (.inl x2), some (.inr (.inr 3)), none, none], [], (am_sh, am_mm U2))) (σ2 := ((d + 1), 171, 99, [some (.inr (.inr 21)), some (.inr (.inr 2)), some (.inl x2), some (.inr (.inr 3)), none, none], [], (am_sh, am_mm U2))) 1 (fun _ => rfl) (fun hc => ?_) (fun hc => ?_)
                · have ha2221122aa1 := ha2221122aa.1 hc
                  refine ev_seg (σ1 := ((d + 1), 171, 104, [some (.inr (.inr 21)), some (.inr (.inr 2)), some (.inl x2), some (.inr (.inr 3)), some (.inl 4), none], [], (am_sh, am_mm U2))) 2 (fun _ => rfl) ?_
                  exact ha2221122aa1
                · have ha2221122aa2 := ha2221122aa.2 hc
                  subst ha2221122aa2
                  exact ev_end 2 (fun _ => rfl)
          · have ha22212 := ha2221.2 hc
            refine ev_seg (σ1 := ((d + 1), 171, 64, [some (.inr (.inr 21)), some (.inr (.inr 2)), some (.inl x2), some (.inr (.inr 3)), none, none], [.inl 1, .inr (.inr 21)], (am_sh, am_mm (am_upd U1 21 1 (w32 ((w32 (256 * (U1 2 0))) + (U1 2 1))))))) 2 (fun _ => rfl) ?_
            refine eu_putz 21 (n := 7) rfl (by decide) rfl rfl (by decide) ?_
            refine ev_br (P := 9999 < ((am_upd (am_upd U1 21 1 (w32 ((w32 (256 * (U1 2 0))) + (U1 2 1)))) 21 2 1) 21 1)) (σ1 := ((d + 1), 171, 99, [some (.inr (.inr 21)), some (.inr (.inr 2)), some (.inl x2), some (.inr (.inr 3)), none, none], [], (am_sh, am_mm (am_upd (am_upd U1 21 1 (w32 ((w32 (256 * (U1 2 0))) + (U1 2 1)))) 21 2 1)))) (σ2 := ((d + 1), 171, 77, [some (.inr (.inr 21)), some (.inr (.inr 2)), some (.inl x2), some (.inr (.inr 3)), none, none], [], (am_sh, am_mm (am_upd (am_upd U1 21 1 (w32 ((w32 (256 * (U1 2 0))) + (U1 2 1)))) 21 2 1)))) 4 (fun _ => rfl) (fun hc => ?_) (fun hc => ?_)
            · have ha222121 := ha22212.1 hc
              subst ha222121
              exact ev_end 2 (fun _ => rfl)
            · have ha222122 := ha22212.2 hc
              refine ev_seg (σ1 := ((d + 1), 171, 79, [some (.inr (.inr 21)), some (.inr (.inr 2)), some (.inl x2), some (.inr (.inr 3)), none, none], [.inl 2, .inr (.inr 2)], (am_sh, am_mm (am_upd (am_upd U1 21 1 (w32 ((w32 (256 * (U1 2 0))) + (U1 2 1)))) 21 2 1)))) 2 (fun _ => rfl) ?_
              refine eu_iald 2 (n := 1600) rfl (by decide) rfl (fun _ => rfl) (by decide) ?_
              show Ev (am_kz N X) ((d + 1), 171, 80, [some (.inr (.inr 21)), some (.inr (.inr 2)), some (.inl x2), some (.inr (.inr 3)), none, none], [.inl ((am_upd (am_upd U1 21 1 (w32 ((w32 (256 * (U1 2 0))) + (U1 2 1)))) 21 2 1) 2 2)], (am_sh, am_mm (am_upd (am_upd U1 21 1 (w32 ((w32 (256 * (U1 2 0))) + (U1 2 1)))) 21 2 1))) R
              refine ev_br (P := 1 < ((am_upd (am_upd U1 21 1 (w32 ((w32 (256 * (U1 2 0))) + (U1 2 1)))) 21 2 1) 2 2)) (σ1 := ((d + 1), 171, 99, [some (.inr (.inr 21)), some (.inr (.inr 2)), some (.inl x2), some (.inr (.inr 3)), none, none], [], (am_sh, am_mm (am_upd (am_upd U1 21 1 (w32 ((w32 (256 * (U1 2 0))) + (U1 2 1)))) 21 2 1)))) (σ2 := ((d + 1), 171, 84, [some (.inr (.inr 21)), some (.inr (.inr 2)), some (.inl x2), some (.inr (.inr 3)), none, none], [], (am_sh, am_mm (am_upd (am_upd U1 21 1 (w32 ((w32 (256 * (U1 2 0))) + (U1 2 1)))) 21 2 1)))) 2 (fun _ => rfl) (fun hc => ?_) (fun hc => ?_)
              · have ha2221221 := ha222122.1 hc
                subst ha2221221
                exact ev_end 2 (fun _ => rfl)
              · have ha2221222 := ha222122.2 hc
                refine ev_seg (σ1 := ((d + 1), 171, 88, [some (.inr (.inr 21)), some (.inr (.inr 2)), some (.inl x2), some (.inr (.inr 3)), none, none], [.inl (w32 (x2 - 1)), .inr (.inr 2)], (am_sh, am_mm (am_upd (am_upd U1 21 1 (w32 ((w32 (256 * (U1 2 0))) + (U1 2 1)))) 21 2 1)))) 4 (fun _ => rfl) ?_
                refine eu_iald 2 (n := 1600) rfl (by decide) rfl (fun _ => rfl) ha2221222.1 ?_
                have ha2221222a := ha2221222.2
                refine ev_seg (σ1 := ((d + 1), 171, 93, [some (.inr (.inr 21)), some (.inr (.inr 2)), some (.inl x2), some (.inr (.inr 3)), none, none], [.inl (w32 (x2 - 1)), .inr (.inr 2), .inl ((am_upd (am_upd U1 21 1 (w32 ((w32 (256 * (U1 2 0))) + (U1 2 1)))) 21 2 1) 2 (w32 (x2 - 1)).toNat)], (am_sh, am_mm (am_upd (am_upd U1 21 1 (w32 ((w32 (256 * (U1 2 0))) + (U1 2 1)))) 21 2 1)))) 4 (fun _ => rfl) ?_
                obtain ⟨r3, U3, ha2221222ac, ha2221222aa⟩ := ha2221222a
                refine ev_cal (σc := (d, 244, 0, [some (.inr (.inr 2)), some (.inl (w32 (x2 - 1))), none, none], [], (am_sh, am_mm (am_upd (am_upd U1 21 1 (w32 ((w32 (256 * (U1 2 0))) + (U1 2 1)))) 21 2 1)))) (fun _ => rfl) ha2221222ac ?_
                show Ev (am_kz N X) ((d + 1), 171, 96, [some (.inr (.inr 21)), some (.inr (.inr 2)), some (.inl x2), some (.inr (.inr 3)), none, none], [.inl r3, .inl ((am_upd (am_upd U1 21 1 (w32 ((w32 (256 * (U1 2 0))) + (U1 2 1)))) 21 2 1) 2 (w32 (x2 - 1)).toNat)], (am_sh, am_mm U3)) R
                refine ev_br (P := ((am_upd (am_upd U1 21 1 (w32 ((w32 (256 * (U1 2 0))) + (U1 2 1)))) 21 2 1) 2 (w32 (x2 - 1)).toNat) = r3) (σ1 := ((d + 1), 171, 101, [some (.inr (.inr 21)), some (.inr (.inr 2)), some (.inl x2), some (.inr (.inr 3)), none, none], [], (am_sh, am_mm U3))) (σ2 := ((d + 1), 171, 99, [some (.inr (.inr 21)), some (.inr (.inr 2)), some (.inl x2), some (.inr (.inr 3)), none, none], [], (am_sh, am_mm U3))) 1 (fun _ => rfl) (fun hc => ?_) (fun hc => ?_)
                · have ha2221222aa1 := ha2221222aa.1 hc
                  refine ev_seg (σ1 := ((d + 1), 171, 104, [some (.inr (.inr 21)), some (.inr (.inr 2)), some (.inl x2), some (.inr (.inr 3)), some (.inl 4), none], [], (am_sh, am_mm U3))) 2 (fun _ => rfl) ?_
                  exact ha2221222aa1
                · have ha2221222aa2 := ha2221222aa.2 hc
                  subst ha2221222aa2
                  exact ev_end 2 (fun _ => rfl)
        · have ha2222 := ha222.2 hc
          subst ha2222
          exact ev_end 2 (fun _ => rfl)
set_option maxRecDepth 8000 in
theorem st171_21_2_3_104 (N : Nat) (X : Nat → Int) (d : Nat) (x2 x4 : Int) (U : Nat → Nat → Int) (R : Option am_V × am_M) (h : (((x2 ≤ (w32 (x4 + 5)) : Prop)) → R = (some (.inl 1), (am_sh, am_mm U))) ∧ (¬ (x2 ≤ (w32 (x4 + 5))) → (0 ≤ x4 ∧ x4 < 1600) ∧ (0 ≤ (w32 (x4 + 1)) ∧ (w32 (x4 + 1)) < 1600) ∧ (0 ≤ (w32 (x4 + 2)) ∧ (w32 (x4 + 2)) < 1600) ∧ (0 ≤ (w32 (x4 + 3)) ∧ (w32 (x4 + 3)) < 1600) ∧ (0 ≤ (w32 (x4 + 4)) ∧ (w32 (x4 + 4)) < 1600) ∧ ∃ (r1 : Int) (U1 : Nat → Nat → Int), Ev (am_kz N X) (d, 245, 0, [some (.inr (.inr 21)), some (.inl (am_or (am_or (am_or (am_shl (U 2 x4.toNat) 24) (am_shl (U 2 (w32 (x4 + 1)).toNat) 16)) (am_shl (U 2 (w32 (x4 + 2)).toNat) 8)) (U 2 (w32 (x4 + 3)).toNat))), some (.inl (w32 ((U 2 (w32 (x4 + 4)).toNat) - 1))), some (.inr (.inr 3))], [], (am_sh, am_mm U)) (some (.inl r1), (am_sh, am_mm U1)) ∧ (((¬ r1 = 0 : Prop)) → Ev (am_kz N X) ((d + 1), 171, 104, [some (.inr (.inr 21)), some (.inr (.inr 2)), some (.inl x2), some (.inr (.inr 3)), some (.inl (w32 (x4 + 5))), some (.inl (am_or (am_or (am_or (am_shl (U 2 x4.toNat) 24) (am_shl (U 2 (w32 (x4 + 1)).toNat) 16)) (am_shl (U 2 (w32 (x4 + 2)).toNat) 8)) (U 2 (w32 (x4 + 3)).toNat)))], [], (am_sh, am_mm U1)) R) ∧ (¬ (¬ r1 = 0) → R = (some (.inl 0), (am_sh, am_mm U1))))) : Ev (am_kz N X) ((d + 1), 171, 104, [some (.inr (.inr 21)), some (.inr (.inr 2)), some (.inl x2), some (.inr (.inr 3)), some (.inl x4), none], [], (am_sh, am_mm U)) R := by
  refine ev_br (P := x2 ≤ (w32 (x4 + 5))) (σ1 := ((d + 1), 171, 174, [some (.inr (.inr 21)), some (.inr (.inr 2)), some (.inl x2), some (.inr (.inr 3)), some (.inl x4), none], [], (am_sh, am_mm U))) (σ2 := ((d + 1), 171, 112, [some (.inr (.inr 21)), some (.inr (.inr 2)), some (.inl x2), some (.inr (.inr 3)), some (.inl x4), none], [], (am_sh, am_mm U))) 5 (fun _ => rfl) (fun hc => ?_) (fun hc => ?_)
  · have h1 := h.1 hc
    subst h1
    exact ev_end 2 (fun _ => rfl)
  · have h2 := h.2 hc
    refine ev_seg (σ1 := ((d + 1), 171, 115, [some (.inr (.inr 21)), some (.inr (.inr 2)), some (.inl x2), some (.inr (.inr 3)), some (.inl x4), none], [.inl x4, .inr (.inr 2)], (am_sh, am_mm U))) 2 (fun _ => rfl) ?_
    refine eu_iald 2 (n := 1600) rfl (by decide) rfl (fun _ => rfl) h2.1 ?_
    have h2a := h2.2
    refine ev_seg (σ1 := ((d + 1), 171, 124, [some (.inr (.inr 21)), some (.inr (.inr 2)), some (.inl x2), some (.inr (.inr 3)), some (.inl x4), none], [.inl (w32 (x4 + 1)), .inr (.inr 2), .inl (am_shl (U 2 x4.toNat) 24)], (am_sh, am_mm U))) 6 (fun _ => rfl) ?_
    refine eu_iald 2 (n := 1600) rfl (by decide) rfl (fun _ => rfl) h2a.1 ?_
    have h2aa := h2a.2
    refine ev_seg (σ1 := ((d + 1), 171, 134, [some (.inr (.inr 21)), some (.inr (.inr 2)), some (.inl x2), some (.inr (.inr 3)), some (.inl x4), none], [.inl (w32 (x4 + 2)), .inr (.inr 2), .inl (am_or (am_shl (U 2 x4.toNat) 24) (am_shl (U 2 (w32 (x4 + 1)).toNat) 16))], (am_sh, am_mm U))) 7 (fun _ => rfl) ?_
    refine eu_iald 2 (n := 1600) rfl (by decide) rfl (fun _ => rfl) h2aa.1 ?_
    have h2aaa := h2aa.2
    refine ev_seg (σ1 := ((d + 1), 171, 144, [some (.inr (.inr 21)), some (.inr (.inr 2)), some (.inl x2), some (.inr (.inr 3)), some (.inl x4), none], [.inl (w32 (x4 + 3)), .inr (.inr 2), .inl (am_or (am_or (am_shl (U 2 x4.toNat) 24) (am_shl (U 2 (w32 (x4 + 1)).toNat) 16)) (am_shl (U 2 (w32 (x4 + 2)).toNat) 8))], (am_sh, am_mm U))) 7 (fun _ => rfl) ?_
    refine eu_iald 2 (n := 1600) rfl (by decide) rfl (fun _ => rfl) h2aaa.1 ?_
    have h2aaaa := h2aaa.2
    refine ev_seg (σ1 := ((d + 1), 171, 156, [some (.inr (.inr 21)), some (.inr (.inr 2)), some (.inl x2), some (.inr (.inr 3)), some (.inl x4), some (.inl (am_or (am_or (am_or (am_shl (U 2 x4.toNat) 24) (am_shl (U 2 (w32 (x4 + 1)).toNat) 16)) (am_shl (U 2 (w32 (x4 + 2)).toNat) 8)) (U 2 (w32 (x4 + 3)).toNat)))], [.inl (w32 (x4 + 4)), .inr (.inr 2), .inl (am_or (am_or (am_or (am_shl (U 2 x4.toNat) 24) (am_shl (U 2 (w32 (x4 + 1)).toNat) 16)) (am_shl (U 2 (w32 (x4 + 2)).toNat) 8)) (U 2 (w32 (x4 + 3)).toNat)), .inr (.inr 21)], (am_sh, am_mm U))) 8 (fun _ => rfl) ?_
    refine eu_iald 2 (n := 1600) rfl (by decide) rfl (fun _ => rfl) h2aaaa.1 ?_
    have h2aaaaa := h2aaaa.2
    refine ev_seg (σ1 := ((d + 1), 171, 160, [some (.inr (.inr 21)), some (.inr (.inr 2)), some (.inl x2), some (.inr (.inr 3)), some (.inl x4), some (.inl (am_or (am_or (am_or (am_shl (U 2 x4.toNat) 24) (am_shl (U 2 (w32 (x4 + 1)).toNat) 16)) (am_shl (U 2 (w32 (x4 + 2)).toNat) 8)) (U 2 (w32 (x4 + 3)).toNat)))], [.inr (.inr 3), .inl (w32 ((U 2 (w32 (x4 + 4)).toNat) - 1)), .inl (am_or (am_or (am_or (am_shl (U 2 x4.toNat) 24) (am_shl (U 2 (w32 (x4 + 1)).toNat) 16)) (am_shl (U 2 (w32 (x4 + 2)).toNat) 8)) (U 2 (w32 (x4 + 3)).toNat)), .inr (.inr 21)], (am_sh, am_mm U))) 3 (fun _ => rfl) ?_
    obtain ⟨r1, U1, h2aaaaac, h2aaaaaa⟩ := h2aaaaa
    refine ev_cal (σc := (d, 245, 0, [some (.inr (.inr 21)), some (.inl (am_or (am_or (am_or (am_shl (U 2 x4.toNat) 24) (am_shl (U 2 (w32 (x4 + 1)).toNat) 16)) (am_shl (U 2 (w32 (x4 + 2)).toNat) 8)) (U 2 (w32 (x4 + 3)).toNat))), some (.inl (w32 ((U 2 (w32 (x4 + 4)).toNat) - 1))), some (.inr (.inr 3))], [], (am_sh, am_mm U))) (fun _ => rfl) h2aaaaac ?_
    show Ev (am_kz N X) ((d + 1), 171, 163, [some (.inr (.inr 21)), some (.inr (.inr 2)), some (.inl x2), some (.inr (.inr 3)), some (.inl x4), some (.inl (am_or (am_or (am_or (am_shl (U 2 x4.toNat) 24) (am_shl (U 2 (w32 (x4 + 1)).toNat) 16)) (am_shl (U 2 (w32 (x4 + 2)).toNat) 8)) (U 2 (w32 (x4 + 3)).toNat)))], [.inl r1], (am_sh, am_mm U1)) R
    refine ev_br (P := ¬ r1 = 0) (σ1 := ((d + 1), 171, 168, [some (.inr (.inr 21)), some (.inr (.inr 2)), some (.inl x2), some (.inr (.inr 3)), some (.inl x4), some (.inl (am_or (am_or (am_or (am_shl (U 2 x4.toNat) 24) (am_shl (U 2 (w32 (x4 + 1)).toNat) 16)) (am_shl (U 2 (w32 (x4 + 2)).toNat) 8)) (U 2 (w32 (x4 + 3)).toNat)))], [], (am_sh, am_mm U1))) (σ2 := ((d + 1), 171, 166, [some (.inr (.inr 21)), some (.inr (.inr 2)), some (.inl x2), some (.inr (.inr 3)), some (.inl x4), some (.inl (am_or (am_or (am_or (am_shl (U 2 x4.toNat) 24) (am_shl (U 2 (w32 (x4 + 1)).toNat) 16)) (am_shl (U 2 (w32 (x4 + 2)).toNat) 8)) (U 2 (w32 (x4 + 3)).toNat)))], [], (am_sh, am_mm U1))) 1 (fun _ => rfl) (fun hc => ?_) (fun hc => ?_)
    · have h2aaaaaa1 := h2aaaaaa.1 hc
      refine ev_seg (σ1 := ((d + 1), 171, 104, [some (.inr (.inr 21)), some (.inr (.inr 2)), some (.inl x2), some (.inr (.inr 3)), some (.inl (w32 (x4 + 5))), some (.inl (am_or (am_or (am_or (am_shl (U 2 x4.toNat) 24) (am_shl (U 2 (w32 (x4 + 1)).toNat) 16)) (am_shl (U 2 (w32 (x4 + 2)).toNat) 8)) (U 2 (w32 (x4 + 3)).toNat)))], [], (am_sh, am_mm U1))) 2 (fun _ => rfl) ?_
      exact h2aaaaaa1
    · have h2aaaaaa2 := h2aaaaaa.2 hc
      subst h2aaaaaa2
      exact ev_end 2 (fun _ => rfl)
set_option maxRecDepth 8000 in
theorem st172_86_0 (N : Nat) (X : Nat → Int) (d : Nat) (x1 : Int) (U : Nat → Nat → Int) (R : Option am_V × am_M) (h : (((x1 < 5 : Prop)) → R = (some (.inl 0), (am_sh, am_mm U))) ∧ (¬ (x1 < 5) → (((9999 < (am_or (am_shl (U 87 0) 8) (U 87 1)) : Prop)) → R = (some (.inl 0), (am_sh, am_mm U))) ∧ (¬ (9999 < (am_or (am_shl (U 87 0) 8) (U 87 1))) → (((1 < (U 87 2) : Prop)) → R = (some (.inl 0), (am_sh, am_mm U))) ∧ (¬ (1 < (U 87 2)) → (((16 < (U 87 3) : Prop)) → R = (some (.inl 0), (am_sh, am_mm U))) ∧ (¬ (16 < (U 87 3)) → (((x1 = (w32 (5 + (w32 (5 * (U 87 3))))) : Prop)) → Ev (am_kz N X) ((d + 1), 172, 69, [some (.inr (.inr 86)), some (.inl x1), some (.inl 73), some (.inl 0), none, none], [], (am_sh, am_mm U)) R) ∧ (¬ (x1 = (w32 (5 + (w32 (5 * (U 87 3)))))) → R = (some (.inl 0), (am_sh, am_mm U)))))))) : Ev (am_kz N X) ((d + 1), 172, 0, [some (.inr (.inr 86)), some (.inl x1), none, none, none, none], [], (am_sh, am_mm U)) R := by
  refine ev_br (P := x1 < 5) (σ1 := ((d + 1), 172, 62, [some (.inr (.inr 86)), some (.inl x1), none, none, none, none], [], (am_sh, am_mm U))) (σ2 := ((d + 1), 172, 5, [some (.inr (.inr 86)), some (.inl x1), none, none, none, none], [], (am_sh, am_mm U))) 3 (fun _ => rfl) (fun hc => ?_) (fun hc => ?_)
  · have h1 := h.1 hc
    subst h1
    exact ev_end 2 (fun _ => rfl)
  · have h2 := h.2 hc
    refine ev_seg (σ1 := ((d + 1), 172, 10, [some (.inr (.inr 86)), some (.inl x1), none, none, none, none], [.inl 0, .inr (.inr 87)], (am_sh, am_mm U))) 3 (fun _ => rfl) ?_
    refine eu_iald 87 (n := 1800) rfl (by decide) rfl (fun _ => rfl) (by decide) ?_
    show Ev (am_kz N X) ((d + 1), 172, 11, [some (.inr (.inr 86)), some (.inl x1), none, none, none, none], [.inl (U 87 0)], (am_sh, am_mm U)) R
    refine ev_seg (σ1 := ((d + 1), 172, 19, [some (.inr (.inr 86)), some (.inl x1), none, none, none, none], [.inl 1, .inr (.inr 87), .inl (am_shl (U 87 0) 8)], (am_sh, am_mm U))) 5 (fun _ => rfl) ?_
    refine eu_iald 87 (n := 1800) rfl (by decide) rfl (fun _ => rfl) (by decide) ?_
    show Ev (am_kz N X) ((d + 1), 172, 20, [some (.inr (.inr 86)), some (.inl x1), none, none, none, none], [.inl (U 87 1), .inl (am_shl (U 87 0) 8)], (am_sh, am_mm U)) R
    refine ev_br (P := 9999 < (am_or (am_shl (U 87 0) 8) (U 87 1))) (σ1 := ((d + 1), 172, 62, [some (.inr (.inr 86)), some (.inl x1), none, none, none, none], [], (am_sh, am_mm U))) (σ2 := ((d + 1), 172, 27, [some (.inr (.inr 86)), some (.inl x1), none, none, none, none], [], (am_sh, am_mm U))) 3 (fun _ => rfl) (fun hc => ?_) (fun hc => ?_)
    · have h21 := h2.1 hc
      subst h21
      exact ev_end 2 (fun _ => rfl)
    · have h22 := h2.2 hc
      refine ev_seg (σ1 := ((d + 1), 172, 32, [some (.inr (.inr 86)), some (.inl x1), none, none, none, none], [.inl 2, .inr (.inr 87)], (am_sh, am_mm U))) 3 (fun _ => rfl) ?_
      refine eu_iald 87 (n := 1800) rfl (by decide) rfl (fun _ => rfl) (by decide) ?_
      show Ev (am_kz N X) ((d + 1), 172, 33, [some (.inr (.inr 86)), some (.inl x1), none, none, none, none], [.inl (U 87 2)], (am_sh, am_mm U)) R
      refine ev_br (P := 1 < (U 87 2)) (σ1 := ((d + 1), 172, 62, [some (.inr (.inr 86)), some (.inl x1), none, none, none, none], [], (am_sh, am_mm U))) (σ2 := ((d + 1), 172, 37, [some (.inr (.inr 86)), some (.inl x1), none, none, none, none], [], (am_sh, am_mm U))) 2 (fun _ => rfl) (fun hc => ?_) (fun hc => ?_)
      · have h221 := h22.1 hc
        subst h221
        exact ev_end 2 (fun _ => rfl)
      · have h222 := h22.2 hc
        refine ev_seg (σ1 := ((d + 1), 172, 42, [some (.inr (.inr 86)), some (.inl x1), none, none, none, none], [.inl 3, .inr (.inr 87)], (am_sh, am_mm U))) 3 (fun _ => rfl) ?_
        refine eu_iald 87 (n := 1800) rfl (by decide) rfl (fun _ => rfl) (by decide) ?_
        show Ev (am_kz N X) ((d + 1), 172, 43, [some (.inr (.inr 86)), some (.inl x1), none, none, none, none], [.inl (U 87 3)], (am_sh, am_mm U)) R
        refine ev_br (P := 16 < (U 87 3)) (σ1 := ((d + 1), 172, 62, [some (.inr (.inr 86)), some (.inl x1), none, none, none, none], [], (am_sh, am_mm U))) (σ2 := ((d + 1), 172, 48, [some (.inr (.inr 86)), some (.inl x1), none, none, none, none], [], (am_sh, am_mm U))) 2 (fun _ => rfl) (fun hc => ?_) (fun hc => ?_)
        · have h2221 := h222.1 hc
          subst h2221
          exact ev_end 2 (fun _ => rfl)
        · have h2222 := h222.2 hc
          refine ev_seg (σ1 := ((d + 1), 172, 56, [some (.inr (.inr 86)), some (.inl x1), none, none, none, none], [.inl 3, .inr (.inr 87), .inl 5, .inl 5, .inl x1], (am_sh, am_mm U))) 6 (fun _ => rfl) ?_
          refine eu_iald 87 (n := 1800) rfl (by decide) rfl (fun _ => rfl) (by decide) ?_
          show Ev (am_kz N X) ((d + 1), 172, 57, [some (.inr (.inr 86)), some (.inl x1), none, none, none, none], [.inl (U 87 3), .inl 5, .inl 5, .inl x1], (am_sh, am_mm U)) R
          refine ev_br (P := x1 = (w32 (5 + (w32 (5 * (U 87 3)))))) (σ1 := ((d + 1), 172, 64, [some (.inr (.inr 86)), some (.inl x1), none, none, none, none], [], (am_sh, am_mm U))) (σ2 := ((d + 1), 172, 62, [some (.inr (.inr 86)), some (.inl x1), none, none, none, none], [], (am_sh, am_mm U))) 3 (fun _ => rfl) (fun hc => ?_) (fun hc => ?_)
          · have h22221 := h2222.1 hc
            refine ev_seg (σ1 := ((d + 1), 172, 69, [some (.inr (.inr 86)), some (.inl x1), some (.inl 73), some (.inl 0), none, none], [], (am_sh, am_mm U))) 4 (fun _ => rfl) ?_
            exact h22221
          · have h22222 := h2222.2 hc
            subst h22222
            exact ev_end 2 (fun _ => rfl)
set_option maxRecDepth 8000 in
theorem st172_86_69 (N : Nat) (X : Nat → Int) (d : Nat) (x1 x2 x3 : Int) (U : Nat → Nat → Int) (R : Option am_V × am_M) (h : ((((w32 (x1 - 1)) ≤ x3 : Prop)) → (0 ≤ (w32 (x1 - 1)) ∧ (w32 (x1 - 1)) < 1800) ∧ ((((U 87 (w32 (x1 - 1)).toNat) = x2 : Prop)) → Ev (am_kz N X) ((d + 1), 172, 125, [some (.inr (.inr 86)), some (.inl x1), some (.inl x2), some (.inl 0), none, none], [], (am_sh, am_mm (am_upd U 122 1 (U 87 3)))) R) ∧ (¬ ((U 87 (w32 (x1 - 1)).toNat) = x2) → R = (some (.inl 0), (am_sh, am_mm U)))) ∧ (¬ ((w32 (x1 - 1)) ≤ x3) → (0 ≤ x3 ∧ x3 < 1800) ∧ Ev (am_kz N X) ((d + 1), 172, 69, [some (.inr (.inr 86)), some (.inl x1), some (.inl (Int.tmod (w32 ((w32 (5 * x2)) + (U 87 x3.toNat))) 251)), some (.inl (w32 (x3 + 1))), none, none], [], (am_sh, am_mm U)) R)) : Ev (am_kz N X) ((d + 1), 172, 69, [some (.inr (.inr 86)), some (.inl x1), some (.inl x2), some (.inl x3), none, none], [], (am_sh, am_mm U)) R := by
  refine ev_br (P := (w32 (x1 - 1)) ≤ x3) (σ1 := ((d + 1), 172, 97, [some (.inr (.inr 86)), some (.inl x1), some (.inl x2), some (.inl x3), none, none], [], (am_sh, am_mm U))) (σ2 := ((d + 1), 172, 76, [some (.inr (.inr 86)), some (.inl x1), some (.inl x2), some (.inl x3), none, none], [], (am_sh, am_mm U))) 5 (fun _ => rfl) (fun hc => ?_) (fun hc => ?_)
  · have h1 := h.1 hc
    refine ev_seg (σ1 := ((d + 1), 172, 104, [some (.inr (.inr 86)), some (.inl x1), some (.inl x2), some (.inl x3), none, none], [.inl (w32 (x1 - 1)), .inr (.inr 87)], (am_sh, am_mm U))) 5 (fun _ => rfl) ?_
    refine eu_iald 87 (n := 1800) rfl (by decide) rfl (fun _ => rfl) h1.1 ?_
    have h1a := h1.2
    refine ev_br (P := (U 87 (w32 (x1 - 1)).toNat) = x2) (σ1 := ((d + 1), 172, 111, [some (.inr (.inr 86)), some (.inl x1), some (.inl x2), some (.inl x3), none, none], [], (am_sh, am_mm U))) (σ2 := ((d + 1), 172, 109, [some (.inr (.inr 86)), some (.inl x1), some (.inl x2), some (.inl x3), none, none], [], (am_sh, am_mm U))) 2 (fun _ => rfl) (fun hc => ?_) (fun hc => ?_)
    · have h1a1 := h1a.1 hc
      refine ev_seg (σ1 := ((d + 1), 172, 121, [some (.inr (.inr 86)), some (.inl x1), some (.inl x2), some (.inl x3), none, none], [.inl 3, .inr (.inr 87), .inl 1, .inr (.inr 122)], (am_sh, am_mm U))) 6 (fun _ => rfl) ?_
      refine eu_iald 87 (n := 1800) rfl (by decide) rfl (fun _ => rfl) (by decide) ?_
      show Ev (am_kz N X) ((d + 1), 172, 122, [some (.inr (.inr 86)), some (.inl x1), some (.inl x2), some (.inl x3), none, none], [.inl (U 87 3), .inl 1, .inr (.inr 122)], (am_sh, am_mm U)) R
      refine eu_iast 122 (n := 22) rfl (by decide) rfl (fun _ => rfl) (by decide) ?_
      show Ev (am_kz N X) ((d + 1), 172, 123, [some (.inr (.inr 86)), some (.inl x1), some (.inl x2), some (.inl x3), none, none], [], (am_sh, am_mm (am_upd U 122 1 (U 87 3)))) R
      refine ev_seg (σ1 := ((d + 1), 172, 125, [some (.inr (.inr 86)), some (.inl x1), some (.inl x2), some (.inl 0), none, none], [], (am_sh, am_mm (am_upd U 122 1 (U 87 3))))) 2 (fun _ => rfl) ?_
      exact h1a1
    · have h1a2 := h1a.2 hc
      subst h1a2
      exact ev_end 2 (fun _ => rfl)
  · have h2 := h.2 hc
    refine ev_seg (σ1 := ((d + 1), 172, 84, [some (.inr (.inr 86)), some (.inl x1), some (.inl x2), some (.inl x3), none, none], [.inl x3, .inr (.inr 87), .inl (w32 (5 * x2))], (am_sh, am_mm U))) 6 (fun _ => rfl) ?_
    refine eu_iald 87 (n := 1800) rfl (by decide) rfl (fun _ => rfl) h2.1 ?_
    have h2a := h2.2
    refine ev_seg (σ1 := ((d + 1), 172, 89, [some (.inr (.inr 86)), some (.inl x1), some (.inl x2), some (.inl x3), none, none], [.inl 251, .inl (w32 ((w32 (5 * x2)) + (U 87 x3.toNat)))], (am_sh, am_mm U))) 2 (fun _ => rfl) ?_
    refine ev_irem rfl (by decide) ?_
    refine ev_seg (σ1 := ((d + 1), 172, 69, [some (.inr (.inr 86)), some (.inl x1), some (.inl (Int.tmod (w32 ((w32 (5 * x2)) + (U 87 x3.toNat))) 251)), some (.inl (w32 (x3 + 1))), none, none], [], (am_sh, am_mm U))) 3 (fun _ => rfl) ?_
    exact h2a
set_option maxRecDepth 8000 in
theorem st172_86_125 (N : Nat) (X : Nat → Int) (d : Nat) (x1 x2 x3 : Int) (U : Nat → Nat → Int) (R : Option am_V × am_M) (h : ((((U 87 3) ≤ x3 : Prop)) → ∃ (r1 : Int) (U1 : Nat → Nat → Int), Ev (am_kz N X) (d, 217, 0, [some (.inr (.inr 86)), some (.inl 1), none], [], (am_sh, am_mm U)) (some (.inl r1), (am_sh, am_mm U1)) ∧ (r1 = 0 ∨ r1 = 1) ∧ R = (some (.inl r1), (am_sh, am_mm U1))) ∧ (¬ ((U 87 3) ≤ x3) → ∃ (r2 : Int) (U2 : Nat → Nat → Int), Ev (am_kz N X) (d, 246, 0, [some (.inr (.inr 86)), some (.inl (w32 (4 + (w32 (5 * x3)))))], [], (am_sh, am_mm U)) (some (.inl r2), (am_sh, am_mm U2)) ∧ (((r2 = 0 : Prop)) → R = (some (.inl 0), (am_sh, am_mm U2))) ∧ (¬ (r2 = 0) → (((999999999 < r2 : Prop)) → R = (some (.inl 0), (am_sh, am_mm U2))) ∧ (¬ (999999999 < r2) → (((r2 < (-999999999) : Prop)) → R = (some (.inl 0), (am_sh, am_mm U2))) ∧ (¬ (r2 < (-999999999)) → (0 ≤ (w32 (8 + (w32 (5 * x3)))) ∧ (w32 (8 + (w32 (5 * x3)))) < 1800) ∧ (0 ≤ (U2 86 13) ∧ (U2 86 13) < 2) ∧ ((((U2 87 (w32 (8 + (w32 (5 * x3)))).toNat) ≤ (U2 90 (U2 86 13).toNat) : Prop)) → Ev (am_kz N X) ((d + 1), 172, 195, [some (.inr (.inr 86)), some (.inl x1), some (.inl x2), some (.inl x3), some (.inl r2), some (.inl 0)], [], (am_sh, am_mm U2)) R) ∧ (¬ ((U2 87 (w32 (8 + (w32 (5 * x3)))).toNat) ≤ (U2 90 (U2 86 13).toNat)) → R = (some (.inl 0), (am_sh, am_mm U2)))))))) : Ev (am_kz N X) ((d + 1), 172, 125, [some (.inr (.inr 86)), some (.inl x1), some (.inl x2), some (.inl x3), none, none], [], (am_sh, am_mm U)) R := by
  refine ev_seg (σ1 := ((d + 1), 172, 131, [some (.inr (.inr 86)), some (.inl x1), some (.inl x2), some (.inl x3), none, none], [.inl 3, .inr (.inr 87), .inl x3], (am_sh, am_mm U))) 4 (fun _ => rfl) ?_
  refine eu_iald 87 (n := 1800) rfl (by decide) rfl (fun _ => rfl) (by decide) ?_
  show Ev (am_kz N X) ((d + 1), 172, 132, [some (.inr (.inr 86)), some (.inl x1), some (.inl x2), some (.inl x3), none, none], [.inl (U 87 3), .inl x3], (am_sh, am_mm U)) R
  refine ev_br (P := (U 87 3) ≤ x3) (σ1 := ((d + 1), 172, 260, [some (.inr (.inr 86)), some (.inl x1), some (.inl x2), some (.inl x3), none, none], [], (am_sh, am_mm U))) (σ2 := ((d + 1), 172, 135, [some (.inr (.inr 86)), some (.inl x1), some (.inl x2), some (.inl x3), none, none], [], (am_sh, am_mm U))) 1 (fun _ => rfl) (fun hc => ?_) (fun hc => ?_)
  · have h1 := h.1 hc
    refine ev_seg (σ1 := ((d + 1), 172, 262, [some (.inr (.inr 86)), some (.inl x1), some (.inl x2), some (.inl x3), none, none], [.inl 1, .inr (.inr 86)], (am_sh, am_mm U))) 2 (fun _ => rfl) ?_
    obtain ⟨r1, U1, h1c, h1a⟩ := h1
    refine ev_cal (σc := (d, 217, 0, [some (.inr (.inr 86)), some (.inl 1), none], [], (am_sh, am_mm U))) (fun _ => rfl) h1c ?_
    show Ev (am_kz N X) ((d + 1), 172, 265, [some (.inr (.inr 86)), some (.inl x1), some (.inl x2), some (.inl x3), none, none], [.inl r1], (am_sh, am_mm U1)) R
    rw [h1a.2]
    exact ev_retz rfl rfl h1a.1
  · have h2 := h.2 hc
    refine ev_seg (σ1 := ((d + 1), 172, 141, [some (.inr (.inr 86)), some (.inl x1), some (.inl x2), some (.inl x3), none, none], [.inl (w32 (4 + (w32 (5 * x3)))), .inr (.inr 86)], (am_sh, am_mm U))) 6 (fun _ => rfl) ?_
    obtain ⟨r2, U2, h2c, h2a⟩ := h2
    refine ev_cal (σc := (d, 246, 0, [some (.inr (.inr 86)), some (.inl (w32 (4 + (w32 (5 * x3)))))], [], (am_sh, am_mm U))) (fun _ => rfl) h2c ?_
    show Ev (am_kz N X) ((d + 1), 172, 144, [some (.inr (.inr 86)), some (.inl x1), some (.inl x2), some (.inl x3), none, none], [.inl r2], (am_sh, am_mm U2)) R
    refine ev_br (P := r2 = 0) (σ1 := ((d + 1), 172, 190, [some (.inr (.inr 86)), some (.inl x1), some (.inl x2), some (.inl x3), some (.inl r2), none], [], (am_sh, am_mm U2))) (σ2 := ((d + 1), 172, 151, [some (.inr (.inr 86)), some (.inl x1), some (.inl x2), some (.inl x3), some (.inl r2), none], [], (am_sh, am_mm U2))) 3 (fun _ => rfl) (fun hc => ?_) (fun hc => ?_)
    · have h2a1 := h2a.1 hc
      subst h2a1
      exact ev_end 2 (fun _ => rfl)
    · have h2a2 := h2a.2 hc
      refine ev_br (P := 999999999 < r2) (σ1 := ((d + 1), 172, 190, [some (.inr (.inr 86)), some (.inl x1), some (.inl x2), some (.inl x3), some (.inl r2), none], [], (am_sh, am_mm U2))) (σ2 := ((d + 1), 172, 159, [some (.inr (.inr 86)), some (.inl x1), some (.inl x2), some (.inl x3), some (.inl r2), none], [], (am_sh, am_mm U2))) 3 (fun _ => rfl) (fun hc => ?_) (fun hc => ?_)
      · have h2a21 := h2a2.1 hc
        subst h2a21
        exact ev_end 2 (fun _ => rfl)
      · have h2a22 := h2a2.2 hc
        refine ev_br (P := r2 < (-999999999)) (σ1 := ((d + 1), 172, 190, [some (.inr (.inr 86)), some (.inl x1), some (.inl x2), some (.inl x3), some (.inl r2), none], [], (am_sh, am_mm U2))) (σ2 := ((d + 1), 172, 167, [some (.inr (.inr 86)), some (.inl x1), some (.inl x2), some (.inl x3), some (.inl r2), none], [], (am_sh, am_mm U2))) 3 (fun _ => rfl) (fun hc => ?_) (fun hc => ?_)
        · have h2a221 := h2a22.1 hc
          subst h2a221
          exact ev_end 2 (fun _ => rfl)
        · have h2a222 := h2a22.2 hc
          refine ev_seg (σ1 := ((d + 1), 172, 177, [some (.inr (.inr 86)), some (.inl x1), some (.inl x2), some (.inl x3), some (.inl r2), none], [.inl (w32 (8 + (w32 (5 * x3)))), .inr (.inr 87)], (am_sh, am_mm U2))) 7 (fun _ => rfl) ?_
          refine eu_iald 87 (n := 1800) rfl (by decide) rfl (fun _ => rfl) h2a222.1 ?_
          have h2a222a := h2a222.2
          refine ev_seg (σ1 := ((d + 1), 172, 186, [some (.inr (.inr 86)), some (.inl x1), some (.inl x2), some (.inl x3), some (.inl r2), none], [.inl (U2 86 13), .inr (.inr 90), .inl (U2 87 (w32 (8 + (w32 (5 * x3)))).toNat)], (am_sh, am_mm U2))) 4 (fun _ => rfl) ?_
          refine eu_iald 90 (n := 2) rfl (by decide) rfl (fun _ => rfl) h2a222a.1 ?_
          have h2a222aa := h2a222a.2
          refine ev_br (P := (U2 87 (w32 (8 + (w32 (5 * x3)))).toNat) ≤ (U2 90 (U2 86 13).toNat)) (σ1 := ((d + 1), 172, 192, [some (.inr (.inr 86)), some (.inl x1), some (.inl x2), some (.inl x3), some (.inl r2), none], [], (am_sh, am_mm U2))) (σ2 := ((d + 1), 172, 190, [some (.inr (.inr 86)), some (.inl x1), some (.inl x2), some (.inl x3), some (.inl r2), none], [], (am_sh, am_mm U2))) 1 (fun _ => rfl) (fun hc => ?_) (fun hc => ?_)
          · have h2a222aa1 := h2a222aa.1 hc
            refine ev_seg (σ1 := ((d + 1), 172, 195, [some (.inr (.inr 86)), some (.inl x1), some (.inl x2), some (.inl x3), some (.inl r2), some (.inl 0)], [], (am_sh, am_mm U2))) 2 (fun _ => rfl) ?_
            exact h2a222aa1
          · have h2a222aa2 := h2a222aa.2 hc
            subst h2a222aa2
            exact ev_end 2 (fun _ => rfl)
set_option maxRecDepth 8000 in
theorem st172_86_195 (N : Nat) (X : Nat → Int) (d : Nat) (x1 x2 x3 x4 x5 : Int) (U : Nat → Nat → Int) (R : Option am_V × am_M) (h : (((x3 ≤ x5 : Prop)) → (0 ≤ (w32 (16 + x3)) ∧ (w32 (16 + x3)) < 352) ∧ (0 ≤ (w32 (8 + (w32 (5 * x3)))) ∧ (w32 (8 + (w32 (5 * x3)))) < 1800) ∧ (0 ≤ (w32 (16 + x3)) ∧ (w32 (16 + x3)) < 352) ∧ Ev (am_kz N X) ((d + 1), 172, 125, [some (.inr (.inr 86)), some (.inl x1), some (.inl x2), some (.inl (w32 (x3 + 1))), some (.inl x4), some (.inl x5)], [], (am_sh, am_mm (am_upd (am_upd U 123 (w32 (16 + x3)).toNat x4) 124 (w32 (16 + x3)).toNat (w32 (((am_upd U 123 (w32 (16 + x3)).toNat x4) 87 (w32 (8 + (w32 (5 * x3)))).toNat) - 1))))) R) ∧ (¬ (x3 ≤ x5) → ∃ (r1 : Int) (U1 : Nat → Nat → Int), Ev (am_kz N X) (d, 203, 0, [some (.inr (.inr 86)), some (.inl 1), some (.inl x5)], [], (am_sh, am_mm U)) (some (.inl r1), (am_sh, am_mm U1)) ∧ (((¬ r1 = x4 : Prop)) → Ev (am_kz N X) ((d + 1), 172, 195, [some (.inr (.inr 86)), some (.inl x1), some (.inl x2), some (.inl x3), some (.inl x4), some (.inl (w32 (x5 + 1)))], [], (am_sh, am_mm U1)) R) ∧ (¬ (¬ r1 = x4) → R = (some (.inl 0), (am_sh, am_mm U1))))) : Ev (am_kz N X) ((d + 1), 172, 195, [some (.inr (.inr 86)), some (.inl x1), some (.inl x2), some (.inl x3), some (.inl x4), some (.inl x5)], [], (am_sh, am_mm U)) R := by
  refine ev_br (P := x3 ≤ x5) (σ1 := ((d + 1), 172, 221, [some (.inr (.inr 86)), some (.inl x1), some (.inl x2), some (.inl x3), some (.inl x4), some (.inl x5)], [], (am_sh, am_mm U))) (σ2 := ((d + 1), 172, 201, [some (.inr (.inr 86)), some (.inl x1), some (.inl x2), some (.inl x3), some (.inl x4), some (.inl x5)], [], (am_sh, am_mm U))) 3 (fun _ => rfl) (fun hc => ?_) (fun hc => ?_)
  · have h1 := h.1 hc
    refine ev_seg (σ1 := ((d + 1), 172, 231, [some (.inr (.inr 86)), some (.inl x1), some (.inl x2), some (.inl x3), some (.inl x4), some (.inl x5)], [.inl x4, .inl (w32 (16 + x3)), .inr (.inr 123)], (am_sh, am_mm U))) 6 (fun _ => rfl) ?_
    refine eu_iast 123 (n := 352) rfl (by decide) rfl (fun _ => rfl) h1.1 ?_
    have h1a := h1.2
    refine ev_seg (σ1 := ((d + 1), 172, 250, [some (.inr (.inr 86)), some (.inl x1), some (.inl x2), some (.inl x3), some (.inl x4), some (.inl x5)], [.inl (w32 (8 + (w32 (5 * x3)))), .inr (.inr 87), .inl (w32 (16 + x3)), .inr (.inr 124)], (am_sh, am_mm (am_upd U 123 (w32 (16 + x3)).toNat x4)))) 12 (fun _ => rfl) ?_
    refine eu_iald 87 (n := 1800) rfl (by decide) rfl (fun _ => rfl) h1a.1 ?_
    have h1aa := h1a.2
    refine ev_seg (σ1 := ((d + 1), 172, 253, [some (.inr (.inr 86)), some (.inl x1), some (.inl x2), some (.inl x3), some (.inl x4), some (.inl x5)], [.inl (w32 (((am_upd U 123 (w32 (16 + x3)).toNat x4) 87 (w32 (8 + (w32 (5 * x3)))).toNat) - 1)), .inl (w32 (16 + x3)), .inr (.inr 124)], (am_sh, am_mm (am_upd U 123 (w32 (16 + x3)).toNat x4)))) 2 (fun _ => rfl) ?_
    refine eu_iast 124 (n := 352) rfl (by decide) rfl (fun _ => rfl) h1aa.1 ?_
    have h1aaa := h1aa.2
    refine ev_seg (σ1 := ((d + 1), 172, 125, [some (.inr (.inr 86)), some (.inl x1), some (.inl x2), some (.inl (w32 (x3 + 1))), some (.inl x4), some (.inl x5)], [], (am_sh, am_mm (am_upd (am_upd U 123 (w32 (16 + x3)).toNat x4) 124 (w32 (16 + x3)).toNat (w32 (((am_upd U 123 (w32 (16 + x3)).toNat x4) 87 (w32 (8 + (w32 (5 * x3)))).toNat) - 1)))))) 2 (fun _ => rfl) ?_
    exact h1aaa
  · have h2 := h.2 hc
    refine ev_seg (σ1 := ((d + 1), 172, 205, [some (.inr (.inr 86)), some (.inl x1), some (.inl x2), some (.inl x3), some (.inl x4), some (.inl x5)], [.inl x5, .inl 1, .inr (.inr 86)], (am_sh, am_mm U))) 3 (fun _ => rfl) ?_
    obtain ⟨r1, U1, h2c, h2a⟩ := h2
    refine ev_cal (σc := (d, 203, 0, [some (.inr (.inr 86)), some (.inl 1), some (.inl x5)], [], (am_sh, am_mm U))) (fun _ => rfl) h2c ?_
    show Ev (am_kz N X) ((d + 1), 172, 208, [some (.inr (.inr 86)), some (.inl x1), some (.inl x2), some (.inl x3), some (.inl x4), some (.inl x5)], [.inl r1], (am_sh, am_mm U1)) R
    refine ev_br (P := ¬ r1 = x4) (σ1 := ((d + 1), 172, 215, [some (.inr (.inr 86)), some (.inl x1), some (.inl x2), some (.inl x3), some (.inl x4), some (.inl x5)], [], (am_sh, am_mm U1))) (σ2 := ((d + 1), 172, 213, [some (.inr (.inr 86)), some (.inl x1), some (.inl x2), some (.inl x3), some (.inl x4), some (.inl x5)], [], (am_sh, am_mm U1))) 2 (fun _ => rfl) (fun hc => ?_) (fun hc => ?_)
    · have h2a1 := h2a.1 hc
      refine ev_seg (σ1 := ((d + 1), 172, 195, [some (.inr (.inr 86)), some (.inl x1), some (.inl x2), some (.inl x3), some (.inl x4), some (.inl (w32 (x5 + 1)))], [], (am_sh, am_mm U1))) 2 (fun _ => rfl) ?_
      exact h2a1
    · have h2a2 := h2a.2 hc
      subst h2a2
      exact ev_end 2 (fun _ => rfl)
set_option maxRecDepth 8000 in
theorem st177_26_0 (N : Nat) (X : Nat → Int) (d : Nat) (U : Nat → Nat → Int) (R : Option am_V × am_M) (h : ((((U 27 3) ≤ (w32 ((U 26 6) + 1)) : Prop)) → R = (none, (am_sh, am_mm U))) ∧ (¬ ((U 27 3) ≤ (w32 ((U 26 6) + 1))) → (((1601 ≤ (w32 ((U 26 6) + 1)) : Prop)) → R = (none, (am_sh, am_mm U))) ∧ (¬ (1601 ≤ (w32 ((U 26 6) + 1))) → (0 ≤ ((am_upd U 26 6 (w32 ((U 26 6) + 1))) 26 6) ∧ ((am_upd U 26 6 (w32 ((U 26 6) + 1))) 26 6) < 1601) ∧ (0 ≤ ((am_upd (am_upd U 26 6 (w32 ((U 26 6) + 1))) 26 7 ((am_upd U 26 6 (w32 ((U 26 6) + 1))) 28 ((am_upd U 26 6 (w32 ((U 26 6) + 1))) 26 6).toNat)) 26 6) ∧ ((am_upd (am_upd U 26 6 (w32 ((U 26 6) + 1))) 26 7 ((am_upd U 26 6 (w32 ((U 26 6) + 1))) 28 ((am_upd U 26 6 (w32 ((U 26 6) + 1))) 26 6).toNat)) 26 6) < 1601) ∧ (0 ≤ ((am_upd (am_upd (am_upd U 26 6 (w32 ((U 26 6) + 1))) 26 7 ((am_upd U 26 6 (w32 ((U 26 6) + 1))) 28 ((am_upd U 26 6 (w32 ((U 26 6) + 1))) 26 6).toNat)) 26 8 ((am_upd (am_upd U 26 6 (w32 ((U 26 6) + 1))) 26 7 ((am_upd U 26 6 (w32 ((U 26 6) + 1))) 28 ((am_upd U 26 6 (w32 ((U 26 6) + 1))) 26 6).toNat)) 29 ((am_upd (am_upd U 26 6 (w32 ((U 26 6) + 1))) 26 7 ((am_upd U 26 6 (w32 ((U 26 6) + 1))) 28 ((am_upd U 26 6 (w32 ((U 26 6) + 1))) 26 6).toNat)) 26 6).toNat)) 26 6) ∧ ((am_upd (am_upd (am_upd U 26 6 (w32 ((U 26 6) + 1))) 26 7 ((am_upd U 26 6 (w32 ((U 26 6) + 1))) 28 ((am_upd U 26 6 (w32 ((U 26 6) + 1))) 26 6).toNat)) 26 8 ((am_upd (am_upd U 26 6 (w32 ((U 26 6) + 1))) 26 7 ((am_upd U 26 6 (w32 ((U 26 6) + 1))) 28 ((am_upd U 26 6 (w32 ((U 26 6) + 1))) 26 6).toNat)) 29 ((am_upd (am_upd U 26 6 (w32 ((U 26 6) + 1))) 26 7 ((am_upd U 26 6 (w32 ((U 26 6) + 1))) 28 ((am_upd U 26 6 (w32 ((U 26 6) + 1))) 26 6).toNat)) 26 6).toNat)) 26 6) < 1601) ∧ R = (none, (am_sh, am_mm (am_upd (am_upd (am_upd (am_upd U 26 6 (w32 ((U 26 6) + 1))) 26 7 ((am_upd U 26 6 (w32 ((U 26 6) + 1))) 28 ((am_upd U 26 6 (w32 ((U 26 6) + 1))) 26 6).toNat)) 26 8 ((am_upd (am_upd U 26 6 (w32 ((U 26 6) + 1))) 26 7 ((am_upd U 26 6 (w32 ((U 26 6) + 1))) 28 ((am_upd U 26 6 (w32 ((U 26 6) + 1))) 26 6).toNat)) 29 ((am_upd (am_upd U 26 6 (w32 ((U 26 6) + 1))) 26 7 ((am_upd U 26 6 (w32 ((U 26 6) + 1))) 28 ((am_upd U 26 6 (w32 ((U 26 6) + 1))) 26 6).toNat)) 26 6).toNat)) 26 9 ((am_upd (am_upd (am_upd U 26 6 (w32 ((U 26 6) + 1))) 26 7 ((am_upd U 26 6 (w32 ((U 26 6) + 1))) 28 ((am_upd U 26 6 (w32 ((U 26 6) + 1))) 26 6).toNat)) 26 8 ((am_upd (am_upd U 26 6 (w32 ((U 26 6) + 1))) 26 7 ((am_upd U 26 6 (w32 ((U 26 6) + 1))) 28 ((am_upd U 26 6 (w32 ((U 26 6) + 1))) 26 6).toNat)) 29 ((am_upd (am_upd U 26 6 (w32 ((U 26 6) + 1))) 26 7 ((am_upd U 26 6 (w32 ((U 26 6) + 1))) 28 ((am_upd U 26 6 (w32 ((U 26 6) + 1))) 26 6).toNat)) 26 6).toNat)) 30 ((am_upd (am_upd (am_upd U 26 6 (w32 ((U 26 6) + 1))) 26 7 ((am_upd U 26 6 (w32 ((U 26 6) + 1))) 28 ((am_upd U 26 6 (w32 ((U 26 6) + 1))) 26 6).toNat)) 26 8 ((am_upd (am_upd U 26 6 (w32 ((U 26 6) + 1))) 26 7 ((am_upd U 26 6 (w32 ((U 26 6) + 1))) 28 ((am_upd U 26 6 (w32 ((U 26 6) + 1))) 26 6).toNat)) 29 ((am_upd (am_upd U 26 6 (w32 ((U 26 6) + 1))) 26 7 ((am_upd U 26 6 (w32 ((U 26 6) + 1))) 28 ((am_upd U 26 6 (w32 ((U 26 6) + 1))) 26 6).toNat)) 26 6).toNat)) 26 6).toNat))))))) : Ev (am_kz N X) (d, 177, 0, [some (.inr (.inr 26))], [], (am_sh, am_mm U)) R := by
  refine ev_br (P := (U 27 3) ≤ (w32 ((U 26 6) + 1))) (σ1 := (d, 177, 91, [some (.inr (.inr 26))], [], (am_sh, am_mm U))) (σ2 := (d, 177, 16, [some (.inr (.inr 26))], [], (am_sh, am_mm U))) 8 (fun _ => rfl) (fun hc => ?_) (fun hc => ?_)
  · have h1 := h.1 hc
    subst h1
    exact ev_end 1 (fun _ => rfl)
  · have h2 := h.2 hc
    refine ev_br (P := 1601 ≤ (w32 ((U 26 6) + 1))) (σ1 := (d, 177, 91, [some (.inr (.inr 26))], [], (am_sh, am_mm U))) (σ2 := (d, 177, 33, [some (.inr (.inr 26))], [], (am_sh, am_mm U))) 9 (fun _ => rfl) (fun hc => ?_) (fun hc => ?_)
    · have h21 := h2.1 hc
      subst h21
      exact ev_end 1 (fun _ => rfl)
    · have h22 := h2.2 hc
      refine ev_seg (σ1 := (d, 177, 40, [some (.inr (.inr 26))], [.inl (w32 ((U 26 6) + 1)), .inr (.inr 26)], (am_sh, am_mm U))) 5 (fun _ => rfl) ?_
      refine eu_puti 26 (n := 12) rfl (by decide) rfl rfl ?_
      refine ev_seg (σ1 := (d, 177, 55, [some (.inr (.inr 26))], [.inl ((am_upd U 26 6 (w32 ((U 26 6) + 1))) 26 6), .inr (.inr 28), .inr (.inr 26)], (am_sh, am_mm (am_upd U 26 6 (w32 ((U 26 6) + 1)))))) 6 (fun _ => rfl) ?_
      refine eu_iald 28 (n := 1601) rfl (by decide) rfl (fun _ => rfl) h22.1 ?_
      have h22a := h22.2
      refine eu_puti 26 (n := 12) rfl (by decide) rfl rfl ?_
      refine ev_seg (σ1 := (d, 177, 71, [some (.inr (.inr 26))], [.inl ((am_upd (am_upd U 26 6 (w32 ((U 26 6) + 1))) 26 7 ((am_upd U 26 6 (w32 ((U 26 6) + 1))) 28 ((am_upd U 26 6 (w32 ((U 26 6) + 1))) 26 6).toNat)) 26 6), .inr (.inr 29), .inr (.inr 26)], (am_sh, am_mm (am_upd (am_upd U 26 6 (w32 ((U 26 6) + 1))) 26 7 ((am_upd U 26 6 (w32 ((U 26 6) + 1))) 28 ((am_upd U 26 6 (w32 ((U 26 6) + 1))) 26 6).toNat))))) 6 (fun _ => rfl) ?_
      refine eu_iald 29 (n := 1601) rfl (by decide) rfl (fun _ => rfl) h22a.1 ?_
      have h22aa := h22a.2
      refine eu_puti 26 (n := 12) rfl (by decide) rfl rfl ?_
      refine ev_seg (σ1 := (d, 177, 87, [some (.inr (.inr 26))], [.inl ((am_upd (am_upd (am_upd U 26 6 (w32 ((U 26 6) + 1))) 26 7 ((am_upd U 26 6 (w32 ((U 26 6) + 1))) 28 ((am_upd U 26 6 (w32 ((U 26 6) + 1))) 26 6).toNat)) 26 8 ((am_upd (am_upd U 26 6 (w32 ((U 26 6) + 1))) 26 7 ((am_upd U 26 6 (w32 ((U 26 6) + 1))) 28 ((am_upd U 26 6 (w32 ((U 26 6) + 1))) 26 6).toNat)) 29 ((am_upd (am_upd U 26 6 (w32 ((U 26 6) + 1))) 26 7 ((am_upd U 26 6 (w32 ((U 26 6) + 1))) 28 ((am_upd U 26 6 (w32 ((U 26 6) + 1))) 26 6).toNat)) 26 6).toNat)) 26 6), .inr (.inr 30), .inr (.inr 26)], (am_sh, am_mm (am_upd (am_upd (am_upd U 26 6 (w32 ((U 26 6) + 1))) 26 7 ((am_upd U 26 6 (w32 ((U 26 6) + 1))) 28 ((am_upd U 26 6 (w32 ((U 26 6) + 1))) 26 6).toNat)) 26 8 ((am_upd (am_upd U 26 6 (w32 ((U 26 6) + 1))) 26 7 ((am_upd U 26 6 (w32 ((U 26 6) + 1))) 28 ((am_upd U 26 6 (w32 ((U 26 6) + 1))) 26 6).toNat)) 29 ((am_upd (am_upd U 26 6 (w32 ((U 26 6) + 1))) 26 7 ((am_upd U 26 6 (w32 ((U 26 6) + 1))) 28 ((am_upd U 26 6 (w32 ((U 26 6) + 1))) 26 6).toNat)) 26 6).toNat))))) 6 (fun _ => rfl) ?_
      refine eu_iald 30 (n := 1601) rfl (by decide) rfl (fun _ => rfl) h22aa.1 ?_
      have h22aaa := h22aa.2
      refine eu_puti 26 (n := 12) rfl (by decide) rfl rfl ?_
      subst h22aaa
      exact ev_end 1 (fun _ => rfl)
set_option maxRecDepth 8000 in
theorem st175_31_0 (N : Nat) (X : Nat → Int) (d : Nat) (U : Nat → Nat → Int) (R : Option am_V × am_M) (h : R = (none, (am_sh, am_mm (am_upd (am_upd (am_upd (am_upd (am_upd (am_upd (am_upd (am_upd (am_upd U 31 0 0) 31 1 0) 31 2 0) 31 3 0) 31 4 0) 31 5 0) 31 18 0) 41 8 0) 42 8 0)))) : Ev (am_kz N X) (d, 175, 0, [some (.inr (.inr 31))], [], (am_sh, am_mm U)) R := by
  refine ev_seg (σ1 := (d, 175, 2, [some (.inr (.inr 31))], [.inl 0, .inr (.inr 31)], (am_sh, am_mm U))) 2 (fun _ => rfl) ?_
  refine eu_puti 31 (n := 19) rfl (by decide) rfl rfl ?_
  refine ev_seg (σ1 := (d, 175, 7, [some (.inr (.inr 31))], [.inl 0, .inr (.inr 31)], (am_sh, am_mm (am_upd U 31 0 0)))) 2 (fun _ => rfl) ?_
  refine eu_puti 31 (n := 19) rfl (by decide) rfl rfl ?_
  refine ev_seg (σ1 := (d, 175, 12, [some (.inr (.inr 31))], [.inl 0, .inr (.inr 31)], (am_sh, am_mm (am_upd (am_upd U 31 0 0) 31 1 0)))) 2 (fun _ => rfl) ?_
  refine eu_puti 31 (n := 19) rfl (by decide) rfl rfl ?_
  refine ev_seg (σ1 := (d, 175, 17, [some (.inr (.inr 31))], [.inl 0, .inr (.inr 31)], (am_sh, am_mm (am_upd (am_upd (am_upd U 31 0 0) 31 1 0) 31 2 0)))) 2 (fun _ => rfl) ?_
  refine eu_puti 31 (n := 19) rfl (by decide) rfl rfl ?_
  refine ev_seg (σ1 := (d, 175, 22, [some (.inr (.inr 31))], [.inl 0, .inr (.inr 31)], (am_sh, am_mm (am_upd (am_upd (am_upd (am_upd U 31 0 0) 31 1 0) 31 2 0) 31 3 0)))) 2 (fun _ => rfl) ?_
  refine eu_puti 31 (n := 19) rfl (by decide) rfl rfl ?_
  refine ev_seg (σ1 := (d, 175, 27, [some (.inr (.inr 31))], [.inl 0, .inr (.inr 31)], (am_sh, am_mm (am_upd (am_upd (am_upd (am_upd (am_upd U 31 0 0) 31 1 0) 31 2 0) 31 3 0) 31 4 0)))) 2 (fun _ => rfl) ?_
  refine eu_puti 31 (n := 19) rfl (by decide) rfl rfl ?_
  refine ev_seg (σ1 := (d, 175, 32, [some (.inr (.inr 31))], [.inl 0, .inr (.inr 31)], (am_sh, am_mm (am_upd (am_upd (am_upd (am_upd (am_upd (am_upd U 31 0 0) 31 1 0) 31 2 0) 31 3 0) 31 4 0) 31 5 0)))) 2 (fun _ => rfl) ?_
  refine eu_puti 31 (n := 19) rfl (by decide) rfl rfl ?_
  refine ev_seg (σ1 := (d, 175, 42, [some (.inr (.inr 31))], [.inl 0, .inl 8, .inr (.inr 41)], (am_sh, am_mm (am_upd (am_upd (am_upd (am_upd (am_upd (am_upd (am_upd U 31 0 0) 31 1 0) 31 2 0) 31 3 0) 31 4 0) 31 5 0) 31 18 0)))) 4 (fun _ => rfl) ?_
  refine eu_iast 41 (n := 9) rfl (by decide) rfl (fun _ => rfl) (by decide) ?_
  show Ev (am_kz N X) (d, 175, 43, [some (.inr (.inr 31))], [], (am_sh, am_mm (am_upd (am_upd (am_upd (am_upd (am_upd (am_upd (am_upd (am_upd U 31 0 0) 31 1 0) 31 2 0) 31 3 0) 31 4 0) 31 5 0) 31 18 0) 41 8 0))) R
  refine ev_seg (σ1 := (d, 175, 50, [some (.inr (.inr 31))], [.inl 0, .inl 8, .inr (.inr 42)], (am_sh, am_mm (am_upd (am_upd (am_upd (am_upd (am_upd (am_upd (am_upd (am_upd U 31 0 0) 31 1 0) 31 2 0) 31 3 0) 31 4 0) 31 5 0) 31 18 0) 41 8 0)))) 4 (fun _ => rfl) ?_
  refine eu_iast 42 (n := 9) rfl (by decide) rfl (fun _ => rfl) (by decide) ?_
  show Ev (am_kz N X) (d, 175, 51, [some (.inr (.inr 31))], [], (am_sh, am_mm (am_upd (am_upd (am_upd (am_upd (am_upd (am_upd (am_upd (am_upd (am_upd U 31 0 0) 31 1 0) 31 2 0) 31 3 0) 31 4 0) 31 5 0) 31 18 0) 41 8 0) 42 8 0))) R
  subst h
  exact ev_end 1 (fun _ => rfl)
set_option maxRecDepth 8000 in
theorem st178_26_0 (N : Nat) (X : Nat → Int) (d : Nat) (U : Nat → Nat → Int) (R : Option am_V × am_M) (h : ((((U 26 3) < 80 : Prop)) → (((¬ (U 26 7) = 1 : Prop)) → Ev (am_kz N X) ((d + 1), 178, 36, [some (.inr (.inr 26)), none, none], [.inl (-1)], (am_sh, am_mm U)) R) ∧ (¬ (¬ (U 26 7) = 1) → Ev (am_kz N X) ((d + 1), 178, 36, [some (.inr (.inr 26)), none, none], [.inl (U 26 8)], (am_sh, am_mm U)) R)) ∧ (¬ ((U 26 3) < 80) → ∃ (r1 : Int) (U1 : Nat → Nat → Int), Ev (am_kz N X) (d, 249, 0, [some (.inr (.inr 26)), some (.inl 6), some (.inl (U 26 9))], [], (am_sh, am_mm U)) (some (.inl r1), (am_sh, am_mm U1)) ∧ (r1 = 0 ∨ r1 = 1) ∧ R = (some (.inl r1), (am_sh, am_mm U1)))) : Ev (am_kz N X) ((d + 1), 178, 0, [some (.inr (.inr 26)), none, none], [], (am_sh, am_mm U)) R := by
  refine ev_br (P := (U 26 3) < 80) (σ1 := ((d + 1), 178, 20, [some (.inr (.inr 26)), none, none], [], (am_sh, am_mm U))) (σ2 := ((d + 1), 178, 9, [some (.inr (.inr 26)), none, none], [], (am_sh, am_mm U))) 4 (fun _ => rfl) (fun hc => ?_) (fun hc => ?_)
  · have h1 := h.1 hc
    refine ev_br (P := ¬ (U 26 7) = 1) (σ1 := ((d + 1), 178, 35, [some (.inr (.inr 26)), none, none], [], (am_sh, am_mm U))) (σ2 := ((d + 1), 178, 28, [some (.inr (.inr 26)), none, none], [], (am_sh, am_mm U))) 4 (fun _ => rfl) (fun hc => ?_) (fun hc => ?_)
    · have h11 := h1.1 hc
      refine ev_seg (σ1 := ((d + 1), 178, 36, [some (.inr (.inr 26)), none, none], [.inl (-1)], (am_sh, am_mm U))) 1 (fun _ => rfl) ?_
      exact h11
    · have h12 := h1.2 hc
      refine ev_seg (σ1 := ((d + 1), 178, 36, [some (.inr (.inr 26)), none, none], [.inl (U 26 8)], (am_sh, am_mm U))) 3 (fun _ => rfl) ?_
      exact h12
  · have h2 := h.2 hc
    refine ev_seg (σ1 := ((d + 1), 178, 16, [some (.inr (.inr 26)), none, none], [.inl (U 26 9), .inl 6, .inr (.inr 26)], (am_sh, am_mm U))) 4 (fun _ => rfl) ?_
    obtain ⟨r1, U1, h2c, h2a⟩ := h2
    refine ev_cal (σc := (d, 249, 0, [some (.inr (.inr 26)), some (.inl 6), some (.inl (U 26 9))], [], (am_sh, am_mm U))) (fun _ => rfl) h2c ?_
    show Ev (am_kz N X) ((d + 1), 178, 19, [some (.inr (.inr 26)), none, none], [.inl r1], (am_sh, am_mm U1)) R
    rw [h2a.2]
    exact ev_retz rfl rfl h2a.1
set_option maxRecDepth 8000 in
theorem st178_26_36 (N : Nat) (X : Nat → Int) (d : Nat) (s0 : Int) (U : Nat → Nat → Int) (R : Option am_V × am_M) (h : ∃ (r1 : Int) (U1 : Nat → Nat → Int), Ev (am_kz N X) (d, 250, 0, [some (.inr (.inr 26)), some (.inl s0)], [], (am_sh, am_mm U)) (some (.inl r1), (am_sh, am_mm U1)) ∧ (((r1 = 0 : Prop)) → (s0 = 0 → ∃ (r2 : Int) (U2 : Nat → Nat → Int), Ev (am_kz N X) (d, 251, 0, [some (.inr (.inr 26)), none], [], (am_sh, am_mm U1)) (some (.inl r2), (am_sh, am_mm U2)) ∧ Ev (am_kz N X) ((d + 1), 178, 261, [some (.inr (.inr 26)), some (.inl s0), some (.inl r2)], [], (am_sh, am_mm U2)) R) ∧ (s0 = 1 → ∃ (r3 : Int) (U3 : Nat → Nat → Int), Ev (am_kz N X) (d, 252, 0, [some (.inr (.inr 26)), none, none, none], [], (am_sh, am_mm U1)) (some (.inl r3), (am_sh, am_mm U3)) ∧ Ev (am_kz N X) ((d + 1), 178, 261, [some (.inr (.inr 26)), some (.inl s0), some (.inl r3)], [], (am_sh, am_mm U3)) R) ∧ (s0 = 2 → ∃ (r4 : Int) (U4 : Nat → Nat → Int), Ev (am_kz N X) (d, 262, 0, [some (.inr (.inr 26))], [], (am_sh, am_mm U1)) (some (.inl r4), (am_sh, am_mm U4)) ∧ Ev (am_kz N X) ((d + 1), 178, 261, [some (.inr (.inr 26)), some (.inl s0), some (.inl r4)], [], (am_sh, am_mm U4)) R) ∧ (s0 = 3 → ∃ (r5 : Int) (U5 : Nat → Nat → Int), Ev (am_kz N X) (d, 262, 0, [some (.inr (.inr 26))], [], (am_sh, am_mm U1)) (some (.inl r5), (am_sh, am_mm U5)) ∧ Ev (am_kz N X) ((d + 1), 178, 261, [some (.inr (.inr 26)), some (.inl s0), some (.inl r5)], [], (am_sh, am_mm U5)) R) ∧ (s0 = 4 → ∃ (r6 : Int) (U6 : Nat → Nat → Int), Ev (am_kz N X) (d, 253, 0, [some (.inr (.inr 26)), none, none], [], (am_sh, am_mm U1)) (some (.inl r6), (am_sh, am_mm U6)) ∧ Ev (am_kz N X) ((d + 1), 178, 261, [some (.inr (.inr 26)), some (.inl s0), some (.inl r6)], [], (am_sh, am_mm U6)) R) ∧ (s0 = 5 → ∃ (r7 : Int) (U7 : Nat → Nat → Int), Ev (am_kz N X) (d, 254, 0, [some (.inr (.inr 26)), none, none, none, none], [], (am_sh, am_mm U1)) (some (.inl r7), (am_sh, am_mm U7)) ∧ Ev (am_kz N X) ((d + 1), 178, 261, [some (.inr (.inr 26)), some (.inl s0), some (.inl r7)], [], (am_sh, am_mm U7)) R) ∧ (s0 = 6 → ∃ (r8 : Int) (U8 : Nat → Nat → Int), Ev (am_kz N X) (d, 262, 0, [some (.inr (.inr 26))], [], (am_sh, am_mm U1)) (some (.inl r8), (am_sh, am_mm U8)) ∧ Ev (am_kz N X) ((d + 1), 178, 261, [some (.inr (.inr 26)), some (.inl s0), some (.inl r8)], [], (am_sh, am_mm U8)) R) ∧ (s0 = 7 → ∃ (r9 : Int) (U9 : Nat → Nat → Int), Ev (am_kz N X) (d, 255, 0, [some (.inr (.inr 26))], [], (am_sh, am_mm U1)) (some (.inl r9), (am_sh, am_mm U9)) ∧ (((r9 = 0 : Prop)) → Ev (am_kz N X) ((d + 1), 178, 197, [some (.inr (.inr 26)), some (.inl s0), none], [], (am_sh, am_mm U9)) R) ∧ (¬ (r9 = 0) → ∃ (r10 : Int) (U10 : Nat → Nat → Int), Ev (am_kz N X) (d, 256, 0, [some (.inr (.inr 26)), some (.inl 0), none, none], [], (am_sh, am_mm U9)) (some (.inl r10), (am_sh, am_mm U10)) ∧ (((r10 = 0 : Prop)) → Ev (am_kz N X) ((d + 1), 178, 197, [some (.inr (.inr 26)), some (.inl s0), none], [], (am_sh, am_mm U10)) R) ∧ (¬ (r10 = 0) → ∃ (r11 : Int) (U11 : Nat → Nat → Int), Ev (am_kz N X) (d, 257, 0, [some (.inr (.inr 31)), some (.inl (U10 26 10)), some (.inl (U10 26 11))], [], (am_sh, am_mm U10)) (some (.inl r11), (am_sh, am_mm U11)) ∧ (((r11 = 0 : Prop)) → Ev (am_kz N X) ((d + 1), 178, 197, [some (.inr (.inr 26)), some (.inl s0), none], [], (am_sh, am_mm U11)) R) ∧ (¬ (r11 = 0) → Ev (am_kz N X) ((d + 1), 178, 261, [some (.inr (.inr 26)), some (.inl s0), some (.inl 1)], [], (am_sh, am_mm U11)) R)))) ∧ (s0 = 8 → ∃ (r12 : Int) (U12 : Nat → Nat → Int), Ev (am_kz N X) (d, 262, 0, [some (.inr (.inr 26))], [], (am_sh, am_mm U1)) (some (.inl r12), (am_sh, am_mm U12)) ∧ Ev (am_kz N X) ((d + 1), 178, 261, [some (.inr (.inr 26)), some (.inl s0), some (.inl r12)], [], (am_sh, am_mm U12)) R) ∧ (s0 = 9 → ∃ (r13 : Int) (U13 : Nat → Nat → Int), Ev (am_kz N X) (d, 262, 0, [some (.inr (.inr 26))], [], (am_sh, am_mm U1)) (some (.inl r13), (am_sh, am_mm U13)) ∧ Ev (am_kz N X) ((d + 1), 178, 261, [some (.inr (.inr 26)), some (.inl s0), some (.inl r13)], [], (am_sh, am_mm U13)) R) ∧ (s0 = 10 → ∃ (r14 : Int) (U14 : Nat → Nat → Int), Ev (am_kz N X) (d, 262, 0, [some (.inr (.inr 26))], [], (am_sh, am_mm U1)) (some (.inl r14), (am_sh, am_mm U14)) ∧ Ev (am_kz N X) ((d + 1), 178, 261, [some (.inr (.inr 26)), some (.inl s0), some (.inl r14)], [], (am_sh, am_mm U14)) R) ∧ (s0 = 11 → ∃ (r15 : Int) (U15 : Nat → Nat → Int), Ev (am_kz N X) (d, 258, 0, [some (.inr (.inr 26))], [], (am_sh, am_mm U1)) (some (.inl r15), (am_sh, am_mm U15)) ∧ (((r15 = 0 : Prop)) → Ev (am_kz N X) ((d + 1), 178, 235, [some (.inr (.inr 26)), some (.inl s0), none], [], (am_sh, am_mm U15)) R) ∧ (¬ (r15 = 0) → ∃ (r16 : Int) (U16 : Nat → Nat → Int), Ev (am_kz N X) (d, 256, 0, [some (.inr (.inr 26)), some (.inl 0), none, none], [], (am_sh, am_mm U15)) (some (.inl r16), (am_sh, am_mm U16)) ∧ (((r16 = 0 : Prop)) → Ev (am_kz N X) ((d + 1), 178, 235, [some (.inr (.inr 26)), some (.inl s0), none], [], (am_sh, am_mm U16)) R) ∧ (¬ (r16 = 0) → ∃ (r17 : Int) (U17 : Nat → Nat → Int), Ev (am_kz N X) (d, 259, 0, [some (.inr (.inr 31)), some (.inl (U16 26 11))], [], (am_sh, am_mm U16)) (some (.inl r17), (am_sh, am_mm U17)) ∧ (((r17 = 0 : Prop)) → Ev (am_kz N X) ((d + 1), 178, 235, [some (.inr (.inr 26)), some (.inl s0), none], [], (am_sh, am_mm U17)) R) ∧ (¬ (r17 = 0) → Ev (am_kz N X) ((d + 1), 178, 261, [some (.inr (.inr 26)), some (.inl s0), some (.inl 1)], [], (am_sh, am_mm U17)) R)))) ∧ (s0 = 12 → ∃ (r18 : Int) (U18 : Nat → Nat → Int), Ev (am_kz N X) (d, 260, 0, [some (.inr (.inr 26)), none, none, none], [], (am_sh, am_mm U1)) (some (.inl r18), (am_sh, am_mm U18)) ∧ Ev (am_kz N X) ((d + 1), 178, 261, [some (.inr (.inr 26)), some (.inl s0), some (.inl r18)], [], (am_sh, am_mm U18)) R) ∧ (s0 = 13 → ∃ (r19 : Int) (U19 : Nat → Nat → Int), Ev (am_kz N X) (d, 261, 0, [some (.inr (.inr 26)), none], [], (am_sh, am_mm U1)) (some (.inl r19), (am_sh, am_mm U19)) ∧ Ev (am_kz N X) ((d + 1), 178, 261, [some (.inr (.inr 26)), some (.inl s0), some (.inl r19)], [], (am_sh, am_mm U19)) R) ∧ (¬ s0 = 0 ∧ ¬ s0 = 1 ∧ ¬ s0 = 2 ∧ ¬ s0 = 3 ∧ ¬ s0 = 4 ∧ ¬ s0 = 5 ∧ ¬ s0 = 6 ∧ ¬ s0 = 7 ∧ ¬ s0 = 8 ∧ ¬ s0 = 9 ∧ ¬ s0 = 10 ∧ ¬ s0 = 11 ∧ ¬ s0 = 12 ∧ ¬ s0 = 13 → ∃ (r20 : Int) (U20 : Nat → Nat → Int), Ev (am_kz N X) (d, 262, 0, [some (.inr (.inr 26))], [], (am_sh, am_mm U1)) (some (.inl r20), (am_sh, am_mm U20)) ∧ Ev (am_kz N X) ((d + 1), 178, 261, [some (.inr (.inr 26)), some (.inl s0), some (.inl r20)], [], (am_sh, am_mm U20)) R)) ∧ (¬ (r1 = 0) → ∃ (r21 : Int) (U21 : Nat → Nat → Int), Ev (am_kz N X) (d, 249, 0, [some (.inr (.inr 26)), some (.inl 6), some (.inl (U1 26 9))], [], (am_sh, am_mm U1)) (some (.inl r21), (am_sh, am_mm U21)) ∧ (r21 = 0 ∨ r21 = 1) ∧ R = (some (.inl r21), (am_sh, am_mm U21)))) : Ev (am_kz N X) ((d + 1), 178, 36, [some (.inr (.inr 26)), none, none], [.inl s0], (am_sh, am_mm U)) R := by
  refine ev_seg (σ1 := ((d + 1), 178, 39, [some (.inr (.inr 26)), some (.inl s0), none], [.inl s0, .inr (.inr 26)], (am_sh, am_mm U))) 3 (fun _ => rfl) ?_
  obtain ⟨r1, U1, hc, ha⟩ := h
  refine ev_cal (σc := (d, 250, 0, [some (.inr (.inr 26)), some (.inl s0)], [], (am_sh, am_mm U))) (fun _ => rfl) hc ?_
  show Ev (am_kz N X) ((d + 1), 178, 42, [some (.inr (.inr 26)), some (.inl s0), none], [.inl r1], (am_sh, am_mm U1)) R
  refine ev_br (P := r1 = 0) (σ1 := ((d + 1), 178, 56, [some (.inr (.inr 26)), some (.inl s0), none], [], (am_sh, am_mm U1))) (σ2 := ((d + 1), 178, 45, [some (.inr (.inr 26)), some (.inl s0), none], [], (am_sh, am_mm U1))) 1 (fun _ => rfl) (fun hc => ?_) (fun hc => ?_)
  · have ha1 := ha.1 hc
    refine ev_seg (σ1 := ((d + 1), 178, 57, [some (.inr (.inr 26)), some (.inl s0), none], [.inl s0], (am_sh, am_mm U1))) 1 (fun _ => rfl) ?_
    by_cases hc : s0 = 0
    · have ha1k0 := ha1.1 hc
      refine ev_sw (off := 71) rfl (by rw [hc]; rfl) (pt := 128) rfl ?_
      refine ev_seg (σ1 := ((d + 1), 178, 129, [some (.inr (.inr 26)), some (.inl s0), none], [.inr (.inr 26)], (am_sh, am_mm U1))) 1 (fun _ => rfl) ?_
      obtain ⟨r2, U2, ha1k0c, ha1k0a⟩ := ha1k0
      refine ev_cal (σc := (d, 251, 0, [some (.inr (.inr 26)), none], [], (am_sh, am_mm U1))) (fun _ => rfl) ha1k0c ?_
      show Ev (am_kz N X) ((d + 1), 178, 132, [some (.inr (.inr 26)), some (.inl s0), none], [.inl r2], (am_sh, am_mm U2)) R
      refine ev_seg (σ1 := ((d + 1), 178, 261, [some (.inr (.inr 26)), some (.inl s0), some (.inl r2)], [], (am_sh, am_mm U2))) 2 (fun _ => rfl) ?_
      exact ha1k0a
    have nha10 := hc
    clear hc
    by_cases hc : s0 = 1
    · have ha1k1 := ha1.2.1 hc
      refine ev_sw (off := 79) rfl (by rw [hc]; rfl) (pt := 136) rfl ?_
      refine ev_seg (σ1 := ((d + 1), 178, 137, [some (.inr (.inr 26)), some (.inl s0), none], [.inr (.inr 26)], (am_sh, am_mm U1))) 1 (fun _ => rfl) ?_
      obtain ⟨r3, U3, ha1k1c, ha1k1a⟩ := ha1k1
      refine ev_cal (σc := (d, 252, 0, [some (.inr (.inr 26)), none, none, none], [], (am_sh, am_mm U1))) (fun _ => rfl) ha1k1c ?_
      show Ev (am_kz N X) ((d + 1), 178, 140, [some (.inr (.inr 26)), some (.inl s0), none], [.inl r3], (am_sh, am_mm U3)) R
      refine ev_seg (σ1 := ((d + 1), 178, 261, [some (.inr (.inr 26)), some (.inl s0), some (.inl r3)], [], (am_sh, am_mm U3))) 2 (fun _ => rfl) ?_
      exact ha1k1a
    have nha11 := hc
    clear hc
    by_cases hc : s0 = 2
    · have ha1k2 := ha1.2.2.1 hc
      refine ev_sw (off := 199) rfl (by rw [hc]; rfl) (pt := 256) rfl ?_
      refine ev_seg (σ1 := ((d + 1), 178, 257, [some (.inr (.inr 26)), some (.inl s0), none], [.inr (.inr 26)], (am_sh, am_mm U1))) 1 (fun _ => rfl) ?_
      obtain ⟨r4, U4, ha1k2c, ha1k2a⟩ := ha1k2
      refine ev_cal (σc := (d, 262, 0, [some (.inr (.inr 26))], [], (am_sh, am_mm U1))) (fun _ => rfl) ha1k2c ?_
      show Ev (am_kz N X) ((d + 1), 178, 260, [some (.inr (.inr 26)), some (.inl s0), none], [.inl r4], (am_sh, am_mm U4)) R
      refine ev_seg (σ1 := ((d + 1), 178, 261, [some (.inr (.inr 26)), some (.inl s0), some (.inl r4)], [], (am_sh, am_mm U4))) 1 (fun _ => rfl) ?_
      exact ha1k2a
    have nha12 := hc
    clear hc
    by_cases hc : s0 = 3
    · have ha1k3 := ha1.2.2.2.1 hc
      refine ev_sw (off := 199) rfl (by rw [hc]; rfl) (pt := 256) rfl ?_
      refine ev_seg (σ1 := ((d + 1), 178, 257, [some (.inr (.inr 26)), some (.inl s0), none], [.inr (.inr 26)], (am_sh, am_mm U1))) 1 (fun _ => rfl) ?_
      obtain ⟨r5, U5, ha1k3c, ha1k3a⟩ := ha1k3
      refine ev_cal (σc := (d, 262, 0, [some (.inr (.inr 26))], [], (am_sh, am_mm U1))) (fun _ => rfl) ha1k3c ?_
      show Ev (am_kz N X) ((d + 1), 178, 260, [some (.inr (.inr 26)), some (.inl s0), none], [.inl r5], (am_sh, am_mm U5)) R
      refine ev_seg (σ1 := ((d + 1), 178, 261, [some (.inr (.inr 26)), some (.inl s0), some (.inl r5)], [], (am_sh, am_mm U5))) 1 (fun _ => rfl) ?_
      exact ha1k3a
    have nha13 := hc
    clear hc
    by_cases hc : s0 = 4
    · have ha1k4 := ha1.2.2.2.2.1 hc
      refine ev_sw (off := 87) rfl (by rw [hc]; rfl) (pt := 144) rfl ?_
      refine ev_seg (σ1 := ((d + 1), 178, 145, [some (.inr (.inr 26)), some (.inl s0), none], [.inr (.inr 26)], (am_sh, am_mm U1))) 1 (fun _ => rfl) ?_
      obtain ⟨r6, U6, ha1k4c, ha1k4a⟩ := ha1k4
      refine ev_cal (σc := (d, 253, 0, [some (.inr (.inr 26)), none, none], [], (am_sh, am_mm U1))) (fun _ => rfl) ha1k4c ?_
      show Ev (am_kz N X) ((d + 1), 178, 148, [some (.inr (.inr 26)), some (.inl s0), none], [.inl r6], (am_sh, am_mm U6)) R
      refine ev_seg (σ1 := ((d + 1), 178, 261, [some (.inr (.inr 26)), some (.inl s0), some (.inl r6)], [], (am_sh, am_mm U6))) 2 (fun _ => rfl) ?_
      exact ha1k4a
    have nha14 := hc
    clear hc
    by_cases hc : s0 = 5
    · have ha1k5 := ha1.2.2.2.2.2.1 hc
      refine ev_sw (off := 95) rfl (by rw [hc]; rfl) (pt := 152) rfl ?_
      refine ev_seg (σ1 := ((d + 1), 178, 153, [some (.inr (.inr 26)), some (.inl s0), none], [.inr (.inr 26)], (am_sh, am_mm U1))) 1 (fun _ => rfl) ?_
      obtain ⟨r7, U7, ha1k5c, ha1k5a⟩ := ha1k5
      refine ev_cal (σc := (d, 254, 0, [some (.inr (.inr 26)), none, none, none, none], [], (am_sh, am_mm U1))) (fun _ => rfl) ha1k5c ?_
      show Ev (am_kz N X) ((d + 1), 178, 156, [some (.inr (.inr 26)), some (.inl s0), none], [.inl r7], (am_sh, am_mm U7)) R
      refine ev_seg (σ1 := ((d + 1), 178, 261, [some (.inr (.inr 26)), some (.inl s0), some (.inl r7)], [], (am_sh, am_mm U7))) 2 (fun _ => rfl) ?_
      exact ha1k5a
    have nha15 := hc
    clear hc
    by_cases hc : s0 = 6
    · have ha1k6 := ha1.2.2.2.2.2.2.1 hc
      refine ev_sw (off := 199) rfl (by rw [hc]; rfl) (pt := 256) rfl ?_
      refine ev_seg (σ1 := ((d + 1), 178, 257, [some (.inr (.inr 26)), some (.inl s0), none], [.inr (.inr 26)], (am_sh, am_mm U1))) 1 (fun _ => rfl) ?_
      obtain ⟨r8, U8, ha1k6c, ha1k6a⟩ := ha1k6
      refine ev_cal (σc := (d, 262, 0, [some (.inr (.inr 26))], [], (am_sh, am_mm U1))) (fun _ => rfl) ha1k6c ?_
      show Ev (am_kz N X) ((d + 1), 178, 260, [some (.inr (.inr 26)), some (.inl s0), none], [.inl r8], (am_sh, am_mm U8)) R
      refine ev_seg (σ1 := ((d + 1), 178, 261, [some (.inr (.inr 26)), some (.inl s0), some (.inl r8)], [], (am_sh, am_mm U8))) 1 (fun _ => rfl) ?_
      exact ha1k6a
    have nha16 := hc
    clear hc
    by_cases hc : s0 = 7
    · have ha1k7 := ha1.2.2.2.2.2.2.2.1 hc
      refine ev_sw (off := 103) rfl (by rw [hc]; rfl) (pt := 160) rfl ?_
      refine ev_seg (σ1 := ((d + 1), 178, 161, [some (.inr (.inr 26)), some (.inl s0), none], [.inr (.inr 26)], (am_sh, am_mm U1))) 1 (fun _ => rfl) ?_
      obtain ⟨r9, U9, ha1k7c, ha1k7a⟩ := ha1k7
      refine ev_cal (σc := (d, 255, 0, [some (.inr (.inr 26))], [], (am_sh, am_mm U1))) (fun _ => rfl) ha1k7c ?_
      show Ev (am_kz N X) ((d + 1), 178, 164, [some (.inr (.inr 26)), some (.inl s0), none], [.inl r9], (am_sh, am_mm U9)) R
      refine ev_br (P := r9 = 0) (σ1 := ((d + 1), 178, 197, [some (.inr (.inr 26)), some (.inl s0), none], [], (am_sh, am_mm U9))) (σ2 := ((d + 1), 178, 167, [some (.inr (.inr 26)), some (.inl s0), none], [], (am_sh, am_mm U9))) 1 (fun _ => rfl) (fun hc => ?_) (fun hc => ?_)
      · have ha1k7a1 := ha1k7a.1 hc
        exact ha1k7a1
      · have ha1k7a2 := ha1k7a.2 hc
        refine ev_seg (σ1 := ((d + 1), 178, 169, [some (.inr (.inr 26)), some (.inl s0), none], [.inl 0, .inr (.inr 26)], (am_sh, am_mm U9))) 2 (fun _ => rfl) ?_
        obtain ⟨r10, U10, ha1k7a2c, ha1k7a2a⟩ := ha1k7a2
        refine ev_cal (σc := (d, 256, 0, [some (.inr (.inr 26)), some (.inl 0), none, none], [], (am_sh, am_mm U9))) (fun _ => rfl) ha1k7a2c ?_
        show Ev (am_kz N X) ((d + 1), 178, 172, [some (.inr (.inr 26)), some (.inl s0), none], [.inl r10], (am_sh, am_mm U10)) R
        refine ev_br (P := r10 = 0) (σ1 := ((d + 1), 178, 197, [some (.inr (.inr 26)), some (.inl s0), none], [], (am_sh, am_mm U10))) (σ2 := ((d + 1), 178, 175, [some (.inr (.inr 26)), some (.inl s0), none], [], (am_sh, am_mm U10))) 1 (fun _ => rfl) (fun hc => ?_) (fun hc => ?_)
        · have ha1k7a2a1 := ha1k7a2a.1 hc
          exact ha1k7a2a1
        · have ha1k7a2a2 := ha1k7a2a.2 hc
          refine ev_seg (σ1 := ((d + 1), 178, 187, [some (.inr (.inr 26)), some (.inl s0), none], [.inl (U10 26 11), .inl (U10 26 10), .inr (.inr 31)], (am_sh, am_mm U10))) 6 (fun _ => rfl) ?_
          obtain ⟨r11, U11, ha1k7a2a2c, ha1k7a2a2a⟩ := ha1k7a2a2
          refine ev_cal (σc := (d, 257, 0, [some (.inr (.inr 31)), some (.inl (U10 26 10)), some (.inl (U10 26 11))], [], (am_sh, am_mm U10))) (fun _ => rfl) ha1k7a2a2c ?_
          show Ev (am_kz N X) ((d + 1), 178, 190, [some (.inr (.inr 26)), some (.inl s0), none], [.inl r11], (am_sh, am_mm U11)) R
          refine ev_br (P := r11 = 0) (σ1 := ((d + 1), 178, 197, [some (.inr (.inr 26)), some (.inl s0), none], [], (am_sh, am_mm U11))) (σ2 := ((d + 1), 178, 193, [some (.inr (.inr 26)), some (.inl s0), none], [], (am_sh, am_mm U11))) 1 (fun _ => rfl) (fun hc => ?_) (fun hc => ?_)
          · have ha1k7a2a2a1 := ha1k7a2a2a.1 hc
            exact ha1k7a2a2a1
          · have ha1k7a2a2a2 := ha1k7a2a2a.2 hc
            refine ev_seg (σ1 := ((d + 1), 178, 261, [some (.inr (.inr 26)), some (.inl s0), some (.inl 1)], [], (am_sh, am_mm U11))) 4 (fun _ => rfl) ?_
            exact ha1k7a2a2a2
    have nha17 := hc
    clear hc
    by_cases hc : s0 = 8
    · have ha1k8 := ha1.2.2.2.2.2.2.2.2.1 hc
      refine ev_sw (off := 199) rfl (by rw [hc]; rfl) (pt := 256) rfl ?_
      refine ev_seg (σ1 := ((d + 1), 178, 257, [some (.inr (.inr 26)), some (.inl s0), none], [.inr (.inr 26)], (am_sh, am_mm U1))) 1 (fun _ => rfl) ?_
      obtain ⟨r12, U12, ha1k8c, ha1k8a⟩ := ha1k8
      refine ev_cal (σc := (d, 262, 0, [some (.inr (.inr 26))], [], (am_sh, am_mm U1))) (fun _ => rfl) ha1k8c ?_
      show Ev (am_kz N X) ((d + 1), 178, 260, [some (.inr (.inr 26)), some (.inl s0), none], [.inl r12], (am_sh, am_mm U12)) R
      refine ev_seg (σ1 := ((d + 1), 178, 261, [some (.inr (.inr 26)), some (.inl s0), some (.inl r12)], [], (am_sh, am_mm U12))) 1 (fun _ => rfl) ?_
      exact ha1k8a
    have nha18 := hc
    clear hc
    by_cases hc : s0 = 9
    · have ha1k9 := ha1.2.2.2.2.2.2.2.2.2.1 hc
      refine ev_sw (off := 199) rfl (by rw [hc]; rfl) (pt := 256) rfl ?_
      refine ev_seg (σ1 := ((d + 1), 178, 257, [some (.inr (.inr 26)), some (.inl s0), none], [.inr (.inr 26)], (am_sh, am_mm U1))) 1 (fun _ => rfl) ?_
      obtain ⟨r13, U13, ha1k9c, ha1k9a⟩ := ha1k9
      refine ev_cal (σc := (d, 262, 0, [some (.inr (.inr 26))], [], (am_sh, am_mm U1))) (fun _ => rfl) ha1k9c ?_
      show Ev (am_kz N X) ((d + 1), 178, 260, [some (.inr (.inr 26)), some (.inl s0), none], [.inl r13], (am_sh, am_mm U13)) R
      refine ev_seg (σ1 := ((d + 1), 178, 261, [some (.inr (.inr 26)), some (.inl s0), some (.inl r13)], [], (am_sh, am_mm U13))) 1 (fun _ => rfl) ?_
      exact ha1k9a
    have nha19 := hc
    clear hc
    by_cases hc : s0 = 10
    · have ha1k10 := ha1.2.2.2.2.2.2.2.2.2.2.1 hc
      refine ev_sw (off := 199) rfl (by rw [hc]; rfl) (pt := 256) rfl ?_
      refine ev_seg (σ1 := ((d + 1), 178, 257, [some (.inr (.inr 26)), some (.inl s0), none], [.inr (.inr 26)], (am_sh, am_mm U1))) 1 (fun _ => rfl) ?_
      obtain ⟨r14, U14, ha1k10c, ha1k10a⟩ := ha1k10
      refine ev_cal (σc := (d, 262, 0, [some (.inr (.inr 26))], [], (am_sh, am_mm U1))) (fun _ => rfl) ha1k10c ?_
      show Ev (am_kz N X) ((d + 1), 178, 260, [some (.inr (.inr 26)), some (.inl s0), none], [.inl r14], (am_sh, am_mm U14)) R
      refine ev_seg (σ1 := ((d + 1), 178, 261, [some (.inr (.inr 26)), some (.inl s0), some (.inl r14)], [], (am_sh, am_mm U14))) 1 (fun _ => rfl) ?_
      exact ha1k10a
    have nha110 := hc
    clear hc
    by_cases hc : s0 = 11
    · have ha1k11 := ha1.2.2.2.2.2.2.2.2.2.2.2.1 hc
      refine ev_sw (off := 145) rfl (by rw [hc]; rfl) (pt := 202) rfl ?_
      refine ev_seg (σ1 := ((d + 1), 178, 203, [some (.inr (.inr 26)), some (.inl s0), none], [.inr (.inr 26)], (am_sh, am_mm U1))) 1 (fun _ => rfl) ?_
      obtain ⟨r15, U15, ha1k11c, ha1k11a⟩ := ha1k11
      refine ev_cal (σc := (d, 258, 0, [some (.inr (.inr 26))], [], (am_sh, am_mm U1))) (fun _ => rfl) ha1k11c ?_
      show Ev (am_kz N X) ((d + 1), 178, 206, [some (.inr (.inr 26)), some (.inl s0), none], [.inl r15], (am_sh, am_mm U15)) R
      refine ev_br (P := r15 = 0) (σ1 := ((d + 1), 178, 235, [some (.inr (.inr 26)), some (.inl s0), none], [], (am_sh, am_mm U15))) (σ2 := ((d + 1), 178, 209, [some (.inr (.inr 26)), some (.inl s0), none], [], (am_sh, am_mm U15))) 1 (fun _ => rfl) (fun hc => ?_) (fun hc => ?_)
      · have ha1k11a1 := ha1k11a.1 hc
        exact ha1k11a1
      · have ha1k11a2 := ha1k11a.2 hc
        refine ev_seg (σ1 := ((d + 1), 178, 211, [some (.inr (.inr 26)), some (.inl s0), none], [.inl 0, .inr (.inr 26)], (am_sh, am_mm U15))) 2 (fun _ => rfl) ?_
        obtain ⟨r16, U16, ha1k11a2c, ha1k11a2a⟩ := ha1k11a2
        refine ev_cal (σc := (d, 256, 0, [some (.inr (.inr 26)), some (.inl 0), none, none], [], (am_sh, am_mm U15))) (fun _ => rfl) ha1k11a2c ?_
        show Ev (am_kz N X) ((d + 1), 178, 214, [some (.inr (.inr 26)), some (.inl s0), none], [.inl r16], (am_sh, am_mm U16)) R
        refine ev_br (P := r16 = 0) (σ1 := ((d + 1), 178, 235, [some (.inr (.inr 26)), some (.inl s0), none], [], (am_sh, am_mm U16))) (σ2 := ((d + 1), 178, 217, [some (.inr (.inr 26)), some (.inl s0), none], [], (am_sh, am_mm U16))) 1 (fun _ => rfl) (fun hc => ?_) (fun hc => ?_)
        · have ha1k11a2a1 := ha1k11a2a.1 hc
          exact ha1k11a2a1
        · have ha1k11a2a2 := ha1k11a2a.2 hc
          refine ev_seg (σ1 := ((d + 1), 178, 225, [some (.inr (.inr 26)), some (.inl s0), none], [.inl (U16 26 11), .inr (.inr 31)], (am_sh, am_mm U16))) 4 (fun _ => rfl) ?_
          obtain ⟨r17, U17, ha1k11a2a2c, ha1k11a2a2a⟩ := ha1k11a2a2
          refine ev_cal (σc := (d, 259, 0, [some (.inr (.inr 31)), some (.inl (U16 26 11))], [], (am_sh, am_mm U16))) (fun _ => rfl) ha1k11a2a2c ?_
          show Ev (am_kz N X) ((d + 1), 178, 228, [some (.inr (.inr 26)), some (.inl s0), none], [.inl r17], (am_sh, am_mm U17)) R
          refine ev_br (P := r17 = 0) (σ1 := ((d + 1), 178, 235, [some (.inr (.inr 26)), some (.inl s0), none], [], (am_sh, am_mm U17))) (σ2 := ((d + 1), 178, 231, [some (.inr (.inr 26)), some (.inl s0), none], [], (am_sh, am_mm U17))) 1 (fun _ => rfl) (fun hc => ?_) (fun hc => ?_)
          · have ha1k11a2a2a1 := ha1k11a2a2a.1 hc
            exact ha1k11a2a2a1
          · have ha1k11a2a2a2 := ha1k11a2a2a.2 hc
            refine ev_seg (σ1 := ((d + 1), 178, 261, [some (.inr (.inr 26)), some (.inl s0), some (.inl 1)], [], (am_sh, am_mm U17))) 4 (fun _ => rfl) ?_
            exact ha1k11a2a2a2
    have nha111 := hc
    clear hc
    by_cases hc : s0 = 12
    · have ha1k12 := ha1.2.2.2.2.2.2.2.2.2.2.2.2.1 hc
      refine ev_sw (off := 183) rfl (by rw [hc]; rfl) (pt := 240) rfl ?_
      refine ev_seg (σ1 := ((d + 1), 178, 241, [some (.inr (.inr 26)), some (.inl s0), none], [.inr (.inr 26)], (am_sh, am_mm U1))) 1 (fun _ => rfl) ?_
      obtain ⟨r18, U18, ha1k12c, ha1k12a⟩ := ha1k12
      refine ev_cal (σc := (d, 260, 0, [some (.inr (.inr 26)), none, none, none], [], (am_sh, am_mm U1))) (fun _ => rfl) ha1k12c ?_
      show Ev (am_kz N X) ((d + 1), 178, 244, [some (.inr (.inr 26)), some (.inl s0), none], [.inl r18], (am_sh, am_mm U18)) R
      refine ev_seg (σ1 := ((d + 1), 178, 261, [some (.inr (.inr 26)), some (.inl s0), some (.inl r18)], [], (am_sh, am_mm U18))) 2 (fun _ => rfl) ?_
      exact ha1k12a
    have nha112 := hc
    clear hc
    by_cases hc : s0 = 13
    · have ha1k13 := ha1.2.2.2.2.2.2.2.2.2.2.2.2.2.1 hc
      refine ev_sw (off := 191) rfl (by rw [hc]; rfl) (pt := 248) rfl ?_
      refine ev_seg (σ1 := ((d + 1), 178, 249, [some (.inr (.inr 26)), some (.inl s0), none], [.inr (.inr 26)], (am_sh, am_mm U1))) 1 (fun _ => rfl) ?_
      obtain ⟨r19, U19, ha1k13c, ha1k13a⟩ := ha1k13
      refine ev_cal (σc := (d, 261, 0, [some (.inr (.inr 26)), none], [], (am_sh, am_mm U1))) (fun _ => rfl) ha1k13c ?_
      show Ev (am_kz N X) ((d + 1), 178, 252, [some (.inr (.inr 26)), some (.inl s0), none], [.inl r19], (am_sh, am_mm U19)) R
      refine ev_seg (σ1 := ((d + 1), 178, 261, [some (.inr (.inr 26)), some (.inl s0), some (.inl r19)], [], (am_sh, am_mm U19))) 2 (fun _ => rfl) ?_
      exact ha1k13a
    have nha113 := hc
    clear hc
    have ha1kd := ha1.2.2.2.2.2.2.2.2.2.2.2.2.2.2 ⟨nha10, nha11, nha12, nha13, nha14, nha15, nha16, nha17, nha18, nha19, nha110, nha111, nha112, nha113⟩
    refine ev_sw (off := 199) rfl (if_pos (by omega)) (pt := 256) rfl ?_
    refine ev_seg (σ1 := ((d + 1), 178, 257, [some (.inr (.inr 26)), some (.inl s0), none], [.inr (.inr 26)], (am_sh, am_mm U1))) 1 (fun _ => rfl) ?_
    obtain ⟨r20, U20, ha1kdc, ha1kda⟩ := ha1kd
    refine ev_cal (σc := (d, 262, 0, [some (.inr (.inr 26))], [], (am_sh, am_mm U1))) (fun _ => rfl) ha1kdc ?_
    show Ev (am_kz N X) ((d + 1), 178, 260, [some (.inr (.inr 26)), some (.inl s0), none], [.inl r20], (am_sh, am_mm U20)) R
    refine ev_seg (σ1 := ((d + 1), 178, 261, [some (.inr (.inr 26)), some (.inl s0), some (.inl r20)], [], (am_sh, am_mm U20))) 1 (fun _ => rfl) ?_
    exact ha1kda
  · have ha2 := ha.2 hc
    refine ev_seg (σ1 := ((d + 1), 178, 52, [some (.inr (.inr 26)), some (.inl s0), none], [.inl (U1 26 9), .inl 6, .inr (.inr 26)], (am_sh, am_mm U1))) 4 (fun _ => rfl) ?_
    obtain ⟨r21, U21, ha2c, ha2a⟩ := ha2
    refine ev_cal (σc := (d, 249, 0, [some (.inr (.inr 26)), some (.inl 6), some (.inl (U1 26 9))], [], (am_sh, am_mm U1))) (fun _ => rfl) ha2c ?_
    show Ev (am_kz N X) ((d + 1), 178, 55, [some (.inr (.inr 26)), some (.inl s0), none], [.inl r21], (am_sh, am_mm U21)) R
    rw [ha2a.2]
    exact ev_retz rfl rfl ha2a.1
set_option maxRecDepth 8000 in
theorem st178_26_261 (N : Nat) (X : Nat → Int) (d : Nat) (x1 x2 : Int) (U : Nat → Nat → Int) (R : Option am_V × am_M) (h : (((x2 = 0 : Prop)) → R = (some (.inl 0), (am_sh, am_mm U))) ∧ (¬ (x2 = 0) → ∃ (r1 : Int) (U1 : Nat → Nat → Int), Ev (am_kz N X) (d, 263, 0, [some (.inr (.inr 26)), some (.inl 59)], [], (am_sh, am_mm U)) (some (.inl r1), (am_sh, am_mm U1)) ∧ (((r1 = 0 : Prop)) → R = (some (.inl 0), (am_sh, am_mm U1))) ∧ (¬ (r1 = 0) → R = (some (.inl 1), (am_sh, am_mm U1))))) : Ev (am_kz N X) ((d + 1), 178, 261, [some (.inr (.inr 26)), some (.inl x1), some (.inl x2)], [], (am_sh, am_mm U)) R := by
  refine ev_br (P := x2 = 0) (σ1 := ((d + 1), 178, 278, [some (.inr (.inr 26)), some (.inl x1), some (.inl x2)], [], (am_sh, am_mm U))) (σ2 := ((d + 1), 178, 265, [some (.inr (.inr 26)), some (.inl x1), some (.inl x2)], [], (am_sh, am_mm U))) 2 (fun _ => rfl) (fun hc => ?_) (fun hc => ?_)
  · have h1 := h.1 hc
    subst h1
    exact ev_end 2 (fun _ => rfl)
  · have h2 := h.2 hc
    refine ev_seg (σ1 := ((d + 1), 178, 268, [some (.inr (.inr 26)), some (.inl x1), some (.inl x2)], [.inl 59, .inr (.inr 26)], (am_sh, am_mm U))) 2 (fun _ => rfl) ?_
    obtain ⟨r1, U1, h2c, h2a⟩ := h2
    refine ev_cal (σc := (d, 263, 0, [some (.inr (.inr 26)), some (.inl 59)], [], (am_sh, am_mm U))) (fun _ => rfl) h2c ?_
    show Ev (am_kz N X) ((d + 1), 178, 271, [some (.inr (.inr 26)), some (.inl x1), some (.inl x2)], [.inl r1], (am_sh, am_mm U1)) R
    refine ev_br (P := r1 = 0) (σ1 := ((d + 1), 178, 278, [some (.inr (.inr 26)), some (.inl x1), some (.inl x2)], [], (am_sh, am_mm U1))) (σ2 := ((d + 1), 178, 274, [some (.inr (.inr 26)), some (.inl x1), some (.inl x2)], [], (am_sh, am_mm U1))) 1 (fun _ => rfl) (fun hc => ?_) (fun hc => ?_)
    · have h2a1 := h2a.1 hc
      subst h2a1
      exact ev_end 2 (fun _ => rfl)
    · have h2a2 := h2a.2 hc
      subst h2a2
      exact ev_end 3 (fun _ => rfl)
set_option maxRecDepth 8000 in
theorem st178_26_197 (N : Nat) (X : Nat → Int) (d : Nat) (x1 : Int) (U : Nat → Nat → Int) (R : Option am_V × am_M) (h : Ev (am_kz N X) ((d + 1), 178, 261, [some (.inr (.inr 26)), some (.inl x1), some (.inl 0)], [], (am_sh, am_mm U)) R) : Ev (am_kz N X) ((d + 1), 178, 197, [some (.inr (.inr 26)), some (.inl x1), none], [], (am_sh, am_mm U)) R := by
  refine ev_seg (σ1 := ((d + 1), 178, 261, [some (.inr (.inr 26)), some (.inl x1), some (.inl 0)], [], (am_sh, am_mm U))) 3 (fun _ => rfl) ?_
  exact h
set_option maxRecDepth 8000 in
theorem st178_26_235 (N : Nat) (X : Nat → Int) (d : Nat) (x1 : Int) (U : Nat → Nat → Int) (R : Option am_V × am_M) (h : Ev (am_kz N X) ((d + 1), 178, 261, [some (.inr (.inr 26)), some (.inl x1), some (.inl 0)], [], (am_sh, am_mm U)) R) : Ev (am_kz N X) ((d + 1), 178, 235, [some (.inr (.inr 26)), some (.inl x1), none], [], (am_sh, am_mm U)) R := by
  refine ev_seg (σ1 := ((d + 1), 178, 261, [some (.inr (.inr 26)), some (.inl x1), some (.inl 0)], [], (am_sh, am_mm U))) 3 (fun _ => rfl) ?_
  exact h
set_option maxRecDepth 8000 in
theorem st174_27_2_0 (N : Nat) (X : Nat → Int) (d : Nat) (x2 : Int) (U : Nat → Nat → Int) (R : Option am_V × am_M) (h : Ev (am_kz N X) ((d + 1), 174, 20, [some (.inr (.inr 27)), some (.inr (.inr 2)), some (.inl x2), some (.inl 0), some (.inl 0)], [], (am_sh, am_mm (am_upd (am_upd (am_upd U 27 3 0) 27 4 x2) 27 5 (-1)))) R) : Ev (am_kz N X) ((d + 1), 174, 0, [some (.inr (.inr 27)), some (.inr (.inr 2)), some (.inl x2), none, none], [], (am_sh, am_mm U)) R := by
  refine ev_seg (σ1 := ((d + 1), 174, 2, [some (.inr (.inr 27)), some (.inr (.inr 2)), some (.inl x2), none, none], [.inl 0, .inr (.inr 27)], (am_sh, am_mm U))) 2 (fun _ => rfl) ?_
  refine eu_puti 27 (n := 6) rfl (by decide) rfl rfl ?_
  refine ev_seg (σ1 := ((d + 1), 174, 7, [some (.inr (.inr 27)), some (.inr (.inr 2)), some (.inl x2), none, none], [.inl x2, .inr (.inr 27)], (am_sh, am_mm (am_upd U 27 3 0)))) 2 (fun _ => rfl) ?_
  refine eu_puti 27 (n := 6) rfl (by decide) rfl rfl ?_
  refine ev_seg (σ1 := ((d + 1), 174, 12, [some (.inr (.inr 27)), some (.inr (.inr 2)), some (.inl x2), none, none], [.inl (-1), .inr (.inr 27)], (am_sh, am_mm (am_upd (am_upd U 27 3 0) 27 4 x2)))) 2 (fun _ => rfl) ?_
  refine eu_puti 27 (n := 6) rfl (by decide) rfl rfl ?_
  refine ev_seg (σ1 := ((d + 1), 174, 20, [some (.inr (.inr 27)), some (.inr (.inr 2)), some (.inl x2), some (.inl 0), some (.inl 0)], [], (am_sh, am_mm (am_upd (am_upd (am_upd U 27 3 0) 27 4 x2) 27 5 (-1))))) 4 (fun _ => rfl) ?_
  exact h
set_option maxRecDepth 8000 in
theorem st174_27_2_20 (N : Nat) (X : Nat → Int) (d : Nat) (x2 x3 x4 : Int) (U : Nat → Nat → Int) (R : Option am_V × am_M) (h : (((x2 ≤ x4 : Prop)) → ∃ U1 : Nat → Nat → Int, Ev (am_kz N X) (d, 248, 0, [some (.inr (.inr 27)), some (.inl 0), some (.inl 0), some (.inl x2)], [], (am_sh, am_mm U)) (none, (am_sh, am_mm U1)) ∧ R = (none, (am_sh, am_mm U1))) ∧ (¬ (x2 ≤ x4) → (((x2 ≤ x3 : Prop)) → ∃ U2 : Nat → Nat → Int, Ev (am_kz N X) (d, 248, 0, [some (.inr (.inr 27)), some (.inl 0), some (.inl 0), some (.inl x2)], [], (am_sh, am_mm U)) (none, (am_sh, am_mm U2)) ∧ R = (none, (am_sh, am_mm U2))) ∧ (¬ (x2 ≤ x3) → ∃ (r3 : Int) (U3 : Nat → Nat → Int), Ev (am_kz N X) (d, 247, 0, [some (.inr (.inr 27)), some (.inr (.inr 2)), some (.inl x2), some (.inl x3), none], [], (am_sh, am_mm U)) (some (.inl r3), (am_sh, am_mm U3)) ∧ Ev (am_kz N X) ((d + 1), 174, 20, [some (.inr (.inr 27)), some (.inr (.inr 2)), some (.inl x2), some (.inl r3), some (.inl (w32 (x4 + 1)))], [], (am_sh, am_mm U3)) R))) : Ev (am_kz N X) ((d + 1), 174, 20, [some (.inr (.inr 27)), some (.inr (.inr 2)), some (.inl x2), some (.inl x3), some (.inl x4)], [], (am_sh, am_mm U)) R := by
  refine ev_br (P := x2 ≤ x4) (σ1 := ((d + 1), 174, 45, [some (.inr (.inr 27)), some (.inr (.inr 2)), some (.inl x2), some (.inl x3), some (.inl x4)], [], (am_sh, am_mm U))) (σ2 := ((d + 1), 174, 26, [some (.inr (.inr 27)), some (.inr (.inr 2)), some (.inl x2), some (.inl x3), some (.inl x4)], [], (am_sh, am_mm U))) 3 (fun _ => rfl) (fun hc => ?_) (fun hc => ?_)
  · have h1 := h.1 hc
    refine ev_seg (σ1 := ((d + 1), 174, 49, [some (.inr (.inr 27)), some (.inr (.inr 2)), some (.inl x2), some (.inl x3), some (.inl x4)], [.inl x2, .inl 0, .inl 0, .inr (.inr 27)], (am_sh, am_mm U))) 4 (fun _ => rfl) ?_
    obtain ⟨U1, h1c, h1a⟩ := h1
    refine ev_cal (σc := (d, 248, 0, [some (.inr (.inr 27)), some (.inl 0), some (.inl 0), some (.inl x2)], [], (am_sh, am_mm U))) (fun _ => rfl) h1c ?_
    show Ev (am_kz N X) ((d + 1), 174, 52, [some (.inr (.inr 27)), some (.inr (.inr 2)), some (.inl x2), some (.inl x3), some (.inl x4)], [], (am_sh, am_mm U1)) R
    subst h1a
    exact ev_end 1 (fun _ => rfl)
  · have h2 := h.2 hc
    refine ev_br (P := x2 ≤ x3) (σ1 := ((d + 1), 174, 45, [some (.inr (.inr 27)), some (.inr (.inr 2)), some (.inl x2), some (.inl x3), some (.inl x4)], [], (am_sh, am_mm U))) (σ2 := ((d + 1), 174, 31, [some (.inr (.inr 27)), some (.inr (.inr 2)), some (.inl x2), some (.inl x3), some (.inl x4)], [], (am_sh, am_mm U))) 3 (fun _ => rfl) (fun hc => ?_) (fun hc => ?_)
    · have h21 := h2.1 hc
      refine ev_seg (σ1 := ((d + 1), 174, 49, [some (.inr (.inr 27)), some (.inr (.inr 2)), some (.inl x2), some (.inl x3), some (.inl x4)], [.inl x2, .inl 0, .inl 0, .inr (.inr 27)], (am_sh, am_mm U))) 4 (fun _ => rfl) ?_
      obtain ⟨U2, h21c, h21a⟩ := h21
      refine ev_cal (σc := (d, 248, 0, [some (.inr (.inr 27)), some (.inl 0), some (.inl 0), some (.inl x2)], [], (am_sh, am_mm U))) (fun _ => rfl) h21c ?_
      show Ev (am_kz N X) ((d + 1), 174, 52, [some (.inr (.inr 27)), some (.inr (.inr 2)), some (.inl x2), some (.inl x3), some (.inl x4)], [], (am_sh, am_mm U2)) R
      subst h21a
      exact ev_end 1 (fun _ => rfl)
    · have h22 := h2.2 hc
      refine ev_seg (σ1 := ((d + 1), 174, 35, [some (.inr (.inr 27)), some (.inr (.inr 2)), some (.inl x2), some (.inl x3), some (.inl x4)], [.inl x3, .inl x2, .inr (.inr 2), .inr (.inr 27)], (am_sh, am_mm U))) 4 (fun _ => rfl) ?_
      obtain ⟨r3, U3, h22c, h22a⟩ := h22
      refine ev_cal (σc := (d, 247, 0, [some (.inr (.inr 27)), some (.inr (.inr 2)), some (.inl x2), some (.inl x3), none], [], (am_sh, am_mm U))) (fun _ => rfl) h22c ?_
      show Ev (am_kz N X) ((d + 1), 174, 38, [some (.inr (.inr 27)), some (.inr (.inr 2)), some (.inl x2), some (.inl x3), some (.inl x4)], [.inl r3], (am_sh, am_mm U3)) R
      refine ev_seg (σ1 := ((d + 1), 174, 20, [some (.inr (.inr 27)), some (.inr (.inr 2)), some (.inl x2), some (.inl r3), some (.inl (w32 (x4 + 1)))], [], (am_sh, am_mm U3))) 3 (fun _ => rfl) ?_
      exact h22a
set_option maxRecDepth 8000 in
theorem st176_21_0 (N : Nat) (X : Nat → Int) (d : Nat) (U : Nat → Nat → Int) (R : Option am_V × am_M) (h : ∃ U1 : Nat → Nat → Int, Ev (am_kz N X) (d, 211, 0, [some (.inr (.inr 24)), some (.inl 0), none, none], [], (am_sh, am_mm (am_upd (am_upd (am_upd U 21 0 0) 21 1 0) 21 2 0))) (none, (am_sh, am_mm U1)) ∧ R = (none, (am_sh, am_mm U1))) : Ev (am_kz N X) ((d + 1), 176, 0, [some (.inr (.inr 21))], [], (am_sh, am_mm U)) R := by
  refine ev_seg (σ1 := ((d + 1), 176, 2, [some (.inr (.inr 21))], [.inl 0, .inr (.inr 21)], (am_sh, am_mm U))) 2 (fun _ => rfl) ?_
  refine eu_puti 21 (n := 7) rfl (by decide) rfl rfl ?_
  refine ev_seg (σ1 := ((d + 1), 176, 7, [some (.inr (.inr 21))], [.inl 0, .inr (.inr 21)], (am_sh, am_mm (am_upd U 21 0 0)))) 2 (fun _ => rfl) ?_
  refine eu_puti 21 (n := 7) rfl (by decide) rfl rfl ?_
  refine ev_seg (σ1 := ((d + 1), 176, 12, [some (.inr (.inr 21))], [.inl 0, .inr (.inr 21)], (am_sh, am_mm (am_upd (am_upd U 21 0 0) 21 1 0)))) 2 (fun _ => rfl) ?_
  refine eu_putz 21 (n := 7) rfl (by decide) rfl rfl (by decide) ?_
  refine ev_seg (σ1 := ((d + 1), 176, 20, [some (.inr (.inr 21))], [.inl 0, .inr (.inr 24)], (am_sh, am_mm (am_upd (am_upd (am_upd U 21 0 0) 21 1 0) 21 2 0)))) 3 (fun _ => rfl) ?_
  obtain ⟨U1, hc, ha⟩ := h
  refine ev_cal (σc := (d, 211, 0, [some (.inr (.inr 24)), some (.inl 0), none, none], [], (am_sh, am_mm (am_upd (am_upd (am_upd U 21 0 0) 21 1 0) 21 2 0)))) (fun _ => rfl) hc ?_
  show Ev (am_kz N X) ((d + 1), 176, 23, [some (.inr (.inr 21))], [], (am_sh, am_mm U1)) R
  subst ha
  exact ev_end 1 (fun _ => rfl)
set_option maxRecDepth 8000 in
theorem st181_45_0 (N : Nat) (X : Nat → Int) (d : Nat) (U : Nat → Nat → Int) (R : Option am_V × am_M) (h : R = (none, (am_sh, am_mm (am_upd U 45 5 0)))) : Ev (am_kz N X) (d, 181, 0, [some (.inr (.inr 45))], [], (am_sh, am_mm U)) R := by
  refine ev_seg (σ1 := (d, 181, 2, [some (.inr (.inr 45))], [.inl 0, .inr (.inr 45)], (am_sh, am_mm U))) 2 (fun _ => rfl) ?_
  refine eu_putz 45 (n := 6) rfl (by decide) rfl rfl (by decide) ?_
  subst h
  exact ev_end 1 (fun _ => rfl)
set_option maxRecDepth 8000 in
theorem st183_52_0 (N : Nat) (X : Nat → Int) (d : Nat) (U : Nat → Nat → Int) (R : Option am_V × am_M) (h : R = (none, (am_sh, am_mm (am_upd U 52 8 0)))) : Ev (am_kz N X) (d, 183, 0, [some (.inr (.inr 52))], [], (am_sh, am_mm U)) R := by
  refine ev_seg (σ1 := (d, 183, 2, [some (.inr (.inr 52))], [.inl 0, .inr (.inr 52)], (am_sh, am_mm U))) 2 (fun _ => rfl) ?_
  refine eu_putz 52 (n := 9) rfl (by decide) rfl rfl (by decide) ?_
  subst h
  exact ev_end 1 (fun _ => rfl)
set_option maxRecDepth 8000 in
theorem st182_48_0 (N : Nat) (X : Nat → Int) (d : Nat) (U : Nat → Nat → Int) (R : Option am_V × am_M) (h : R = (none, (am_sh, am_mm (am_upd U 48 9 0)))) : Ev (am_kz N X) (d, 182, 0, [some (.inr (.inr 48))], [], (am_sh, am_mm U)) R := by
  refine ev_seg (σ1 := (d, 182, 2, [some (.inr (.inr 48))], [.inl 0, .inr (.inr 48)], (am_sh, am_mm U))) 2 (fun _ => rfl) ?_
  refine eu_putz 48 (n := 10) rfl (by decide) rfl rfl (by decide) ?_
  subst h
  exact ev_end 1 (fun _ => rfl)
set_option maxRecDepth 8000 in
theorem st176_16_0 (N : Nat) (X : Nat → Int) (d : Nat) (U : Nat → Nat → Int) (R : Option am_V × am_M) (h : ∃ U1 : Nat → Nat → Int, Ev (am_kz N X) (d, 211, 0, [some (.inr (.inr 19)), some (.inl 0), none, none], [], (am_sh, am_mm (am_upd (am_upd (am_upd U 16 0 0) 16 1 0) 16 2 0))) (none, (am_sh, am_mm U1)) ∧ R = (none, (am_sh, am_mm U1))) : Ev (am_kz N X) ((d + 1), 176, 0, [some (.inr (.inr 16))], [], (am_sh, am_mm U)) R := by
  refine ev_seg (σ1 := ((d + 1), 176, 2, [some (.inr (.inr 16))], [.inl 0, .inr (.inr 16)], (am_sh, am_mm U))) 2 (fun _ => rfl) ?_
  refine eu_puti 16 (n := 7) rfl (by decide) rfl rfl ?_
  refine ev_seg (σ1 := ((d + 1), 176, 7, [some (.inr (.inr 16))], [.inl 0, .inr (.inr 16)], (am_sh, am_mm (am_upd U 16 0 0)))) 2 (fun _ => rfl) ?_
  refine eu_puti 16 (n := 7) rfl (by decide) rfl rfl ?_
  refine ev_seg (σ1 := ((d + 1), 176, 12, [some (.inr (.inr 16))], [.inl 0, .inr (.inr 16)], (am_sh, am_mm (am_upd (am_upd U 16 0 0) 16 1 0)))) 2 (fun _ => rfl) ?_
  refine eu_putz 16 (n := 7) rfl (by decide) rfl rfl (by decide) ?_
  refine ev_seg (σ1 := ((d + 1), 176, 20, [some (.inr (.inr 16))], [.inl 0, .inr (.inr 19)], (am_sh, am_mm (am_upd (am_upd (am_upd U 16 0 0) 16 1 0) 16 2 0)))) 3 (fun _ => rfl) ?_
  obtain ⟨U1, hc, ha⟩ := h
  refine ev_cal (σc := (d, 211, 0, [some (.inr (.inr 19)), some (.inl 0), none, none], [], (am_sh, am_mm (am_upd (am_upd (am_upd U 16 0 0) 16 1 0) 16 2 0)))) (fun _ => rfl) hc ?_
  show Ev (am_kz N X) ((d + 1), 176, 23, [some (.inr (.inr 16))], [], (am_sh, am_mm U1)) R
  subst ha
  exact ev_end 1 (fun _ => rfl)
set_option maxRecDepth 8000 in
theorem st180_16_0 (N : Nat) (X : Nat → Int) (d : Nat) (x1 x2 : Int) (U : Nat → Nat → Int) (R : Option am_V × am_M) (h : ((((U 16 0) < 16 : Prop)) → (0 ≤ (U 16 0) ∧ (U 16 0) < 16) ∧ ((((U 17 (U 16 0).toNat) = x1 : Prop)) → (0 ≤ (U 16 0) ∧ (U 16 0) < 16) ∧ ∃ U1 : Nat → Nat → Int, Ev (am_kz N X) (d, 138, 0, [some (.inr (.inr 16)), some (.inl (w32 (((am_upd (am_upd U 18 (U 16 0).toNat (-1)) 16 0 (w32 (((am_upd U 18 (U 16 0).toNat (-1)) 16 0) + 1))) 16 0) - 1))), some (.inl x2), none], [], (am_sh, am_mm (am_upd (am_upd U 18 (U 16 0).toNat (-1)) 16 0 (w32 (((am_upd U 18 (U 16 0).toNat (-1)) 16 0) + 1))))) (none, (am_sh, am_mm U1)) ∧ R = (none, (am_sh, am_mm U1))) ∧ (¬ ((U 17 (U 16 0).toNat) = x1) → (0 ≤ (U 16 0) ∧ (U 16 0) < 16) ∧ (0 ≤ ((am_upd U 17 (U 16 0).toNat x1) 16 0) ∧ ((am_upd U 17 (U 16 0).toNat x1) 16 0) < 16) ∧ (0 ≤ ((am_upd (am_upd U 17 (U 16 0).toNat x1) 20 ((am_upd U 17 (U 16 0).toNat x1) 16 0).toNat (-1)) 16 0) ∧ ((am_upd (am_upd U 17 (U 16 0).toNat x1) 20 ((am_upd U 17 (U 16 0).toNat x1) 16 0).toNat (-1)) 16 0) < 16) ∧ ∃ U2 : Nat → Nat → Int, Ev (am_kz N X) (d, 138, 0, [some (.inr (.inr 16)), some (.inl (w32 (((am_upd (am_upd (am_upd (am_upd U 17 (U 16 0).toNat x1) 20 ((am_upd U 17 (U 16 0).toNat x1) 16 0).toNat (-1)) 18 ((am_upd (am_upd U 17 (U 16 0).toNat x1) 20 ((am_upd U 17 (U 16 0).toNat x1) 16 0).toNat (-1)) 16 0).toNat (-1)) 16 0 (w32 (((am_upd (am_upd (am_upd U 17 (U 16 0).toNat x1) 20 ((am_upd U 17 (U 16 0).toNat x1) 16 0).toNat (-1)) 18 ((am_upd (am_upd U 17 (U 16 0).toNat x1) 20 ((am_upd U 17 (U 16 0).toNat x1) 16 0).toNat (-1)) 16 0).toNat (-1)) 16 0) + 1))) 16 0) - 1))), some (.inl x2), none], [], (am_sh, am_mm (am_upd (am_upd (am_upd (am_upd U 17 (U 16 0).toNat x1) 20 ((am_upd U 17 (U 16 0).toNat x1) 16 0).toNat (-1)) 18 ((am_upd (am_upd U 17 (U 16 0).toNat x1) 20 ((am_upd U 17 (U 16 0).toNat x1) 16 0).toNat (-1)) 16 0).toNat (-1)) 16 0 (w32 (((am_upd (am_upd (am_upd U 17 (U 16 0).toNat x1) 20 ((am_upd U 17 (U 16 0).toNat x1) 16 0).toNat (-1)) 18 ((am_upd (am_upd U 17 (U 16 0).toNat x1) 20 ((am_upd U 17 (U 16 0).toNat x1) 16 0).toNat (-1)) 16 0).toNat (-1)) 16 0) + 1))))) (none, (am_sh, am_mm U2)) ∧ R = (none, (am_sh, am_mm U2)))) ∧ (¬ ((U 16 0) < 16) → R = (none, (am_sh, am_mm U)))) : Ev (am_kz N X) ((d + 1), 180, 0, [some (.inr (.inr 16)), some (.inl x1), some (.inl x2)], [], (am_sh, am_mm U)) R := by
  refine ev_br (P := (U 16 0) < 16) (σ1 := ((d + 1), 180, 10, [some (.inr (.inr 16)), some (.inl x1), some (.inl x2)], [], (am_sh, am_mm U))) (σ2 := ((d + 1), 180, 9, [some (.inr (.inr 16)), some (.inl x1), some (.inl x2)], [], (am_sh, am_mm U))) 4 (fun _ => rfl) (fun hc => ?_) (fun hc => ?_)
  · have h1 := h.1 hc
    refine ev_seg (σ1 := ((d + 1), 180, 18, [some (.inr (.inr 16)), some (.inl x1), some (.inl x2)], [.inl (U 16 0), .inr (.inr 17)], (am_sh, am_mm U))) 4 (fun _ => rfl) ?_
    refine eu_iald 17 (n := 16) rfl (by decide) rfl (fun _ => rfl) h1.1 ?_
    have h1a := h1.2
    refine ev_br (P := (U 17 (U 16 0).toNat) = x1) (σ1 := ((d + 1), 180, 45, [some (.inr (.inr 16)), some (.inl x1), some (.inl x2)], [], (am_sh, am_mm U))) (σ2 := ((d + 1), 180, 23, [some (.inr (.inr 16)), some (.inl x1), some (.inl x2)], [], (am_sh, am_mm U))) 2 (fun _ => rfl) (fun hc => ?_) (fun hc => ?_)
    · have h1a1 := h1a.1 hc
      refine ev_seg (σ1 := ((d + 1), 180, 54, [some (.inr (.inr 16)), some (.inl x1), some (.inl x2)], [.inl (-1), .inl (U 16 0), .inr (.inr 18)], (am_sh, am_mm U))) 5 (fun _ => rfl) ?_
      refine eu_iast 18 (n := 16) rfl (by decide) rfl (fun _ => rfl) h1a1.1 ?_
      have h1a1a := h1a1.2
      refine ev_seg (σ1 := ((d + 1), 180, 62, [some (.inr (.inr 16)), some (.inl x1), some (.inl x2)], [.inl (w32 (((am_upd U 18 (U 16 0).toNat (-1)) 16 0) + 1)), .inr (.inr 16)], (am_sh, am_mm (am_upd U 18 (U 16 0).toNat (-1))))) 5 (fun _ => rfl) ?_
      refine eu_puti 16 (n := 7) rfl (by decide) rfl rfl ?_
      refine ev_seg (σ1 := ((d + 1), 180, 73, [some (.inr (.inr 16)), some (.inl x1), some (.inl x2)], [.inl x2, .inl (w32 (((am_upd (am_upd U 18 (U 16 0).toNat (-1)) 16 0 (w32 (((am_upd U 18 (U 16 0).toNat (-1)) 16 0) + 1))) 16 0) - 1)), .inr (.inr 16)], (am_sh, am_mm (am_upd (am_upd U 18 (U 16 0).toNat (-1)) 16 0 (w32 (((am_upd U 18 (U 16 0).toNat (-1)) 16 0) + 1)))))) 6 (fun _ => rfl) ?_
      obtain ⟨U1, h1a1ac, h1a1aa⟩ := h1a1a
      refine ev_cal (σc := (d, 138, 0, [some (.inr (.inr 16)), some (.inl (w32 (((am_upd (am_upd U 18 (U 16 0).toNat (-1)) 16 0 (w32 (((am_upd U 18 (U 16 0).toNat (-1)) 16 0) + 1))) 16 0) - 1))), some (.inl x2), none], [], (am_sh, am_mm (am_upd (am_upd U 18 (U 16 0).toNat (-1)) 16 0 (w32 (((am_upd U 18 (U 16 0).toNat (-1)) 16 0) + 1)))))) (fun _ => rfl) h1a1ac ?_
      show Ev (am_kz N X) ((d + 1), 180, 76, [some (.inr (.inr 16)), some (.inl x1), some (.inl x2)], [], (am_sh, am_mm U1)) R
      subst h1a1aa
      exact ev_end 1 (fun _ => rfl)
    · have h1a2 := h1a.2 hc
      refine ev_seg (σ1 := ((d + 1), 180, 32, [some (.inr (.inr 16)), some (.inl x1), some (.inl x2)], [.inl x1, .inl (U 16 0), .inr (.inr 17)], (am_sh, am_mm U))) 5 (fun _ => rfl) ?_
      refine eu_iast 17 (n := 16) rfl (by decide) rfl (fun _ => rfl) h1a2.1 ?_
      have h1a2a := h1a2.2
      refine ev_seg (σ1 := ((d + 1), 180, 44, [some (.inr (.inr 16)), some (.inl x1), some (.inl x2)], [.inr (.inl (-1)), .inl ((am_upd U 17 (U 16 0).toNat x1) 16 0), .inr (.inr 20)], (am_sh, am_mm (am_upd U 17 (U 16 0).toNat x1)))) 5 (fun _ => rfl) ?_
      refine eu_last 20 (n := 16) rfl (by decide) rfl (fun _ => rfl) h1a2a.1 ?_
      have h1a2aa := h1a2a.2
      refine ev_seg (σ1 := ((d + 1), 180, 54, [some (.inr (.inr 16)), some (.inl x1), some (.inl x2)], [.inl (-1), .inl ((am_upd (am_upd U 17 (U 16 0).toNat x1) 20 ((am_upd U 17 (U 16 0).toNat x1) 16 0).toNat (-1)) 16 0), .inr (.inr 18)], (am_sh, am_mm (am_upd (am_upd U 17 (U 16 0).toNat x1) 20 ((am_upd U 17 (U 16 0).toNat x1) 16 0).toNat (-1))))) 5 (fun _ => rfl) ?_
      refine eu_iast 18 (n := 16) rfl (by decide) rfl (fun _ => rfl) h1a2aa.1 ?_
      have h1a2aaa := h1a2aa.2
      refine ev_seg (σ1 := ((d + 1), 180, 62, [some (.inr (.inr 16)), some (.inl x1), some (.inl x2)], [.inl (w32 (((am_upd (am_upd (am_upd U 17 (U 16 0).toNat x1) 20 ((am_upd U 17 (U 16 0).toNat x1) 16 0).toNat (-1)) 18 ((am_upd (am_upd U 17 (U 16 0).toNat x1) 20 ((am_upd U 17 (U 16 0).toNat x1) 16 0).toNat (-1)) 16 0).toNat (-1)) 16 0) + 1)), .inr (.inr 16)], (am_sh, am_mm (am_upd (am_upd (am_upd U 17 (U 16 0).toNat x1) 20 ((am_upd U 17 (U 16 0).toNat x1) 16 0).toNat (-1)) 18 ((am_upd (am_upd U 17 (U 16 0).toNat x1) 20 ((am_upd U 17 (U 16 0).toNat x1) 16 0).toNat (-1)) 16 0).toNat (-1))))) 5 (fun _ => rfl) ?_
      refine eu_puti 16 (n := 7) rfl (by decide) rfl rfl ?_
      refine ev_seg (σ1 := ((d + 1), 180, 73, [some (.inr (.inr 16)), some (.inl x1), some (.inl x2)], [.inl x2, .inl (w32 (((am_upd (am_upd (am_upd (am_upd U 17 (U 16 0).toNat x1) 20 ((am_upd U 17 (U 16 0).toNat x1) 16 0).toNat (-1)) 18 ((am_upd (am_upd U 17 (U 16 0).toNat x1) 20 ((am_upd U 17 (U 16 0).toNat x1) 16 0).toNat (-1)) 16 0).toNat (-1)) 16 0 (w32 (((am_upd (am_upd (am_upd U 17 (U 16 0).toNat x1) 20 ((am_upd U 17 (U 16 0).toNat x1) 16 0).toNat (-1)) 18 ((am_upd (am_upd U 17 (U 16 0).toNat x1) 20 ((am_upd U 17 (U 16 0).toNat x1) 16 0).toNat (-1)) 16 0).toNat (-1)) 16 0) + 1))) 16 0) - 1)), .inr (.inr 16)], (am_sh, am_mm (am_upd (am_upd (am_upd (am_upd U 17 (U 16 0).toNat x1) 20 ((am_upd U 17 (U 16 0).toNat x1) 16 0).toNat (-1)) 18 ((am_upd (am_upd U 17 (U 16 0).toNat x1) 20 ((am_upd U 17 (U 16 0).toNat x1) 16 0).toNat (-1)) 16 0).toNat (-1)) 16 0 (w32 (((am_upd (am_upd (am_upd U 17 (U 16 0).toNat x1) 20 ((am_upd U 17 (U 16 0).toNat x1) 16 0).toNat (-1)) 18 ((am_upd (am_upd U 17 (U 16 0).toNat x1) 20 ((am_upd U 17 (U 16 0).toNat x1) 16 0).toNat (-1)) 16 0).toNat (-1)) 16 0) + 1)))))) 6 (fun _ => rfl) ?_
      obtain ⟨U2, h1a2aaac, h1a2aaaa⟩ := h1a2aaa
      refine ev_cal (σc := (d, 138, 0, [some (.inr (.inr 16)), some (.inl (w32 (((am_upd (am_upd (am_upd (am_upd U 17 (U 16 0).toNat x1) 20 ((am_upd U 17 (U 16 0).toNat x1) 16 0).toNat (-1)) 18 ((am_upd (am_upd U 17 (U 16 0).toNat x1) 20 ((am_upd U 17 (U 16 0).toNat x1) 16 0).toNat (-1)) 16 0).toNat (-1)) 16 0 (w32 (((am_upd (am_upd (am_upd U 17 (U 16 0).toNat x1) 20 ((am_upd U 17 (U 16 0).toNat x1) 16 0).toNat (-1)) 18 ((am_upd (am_upd U 17 (U 16 0).toNat x1) 20 ((am_upd U 17 (U 16 0).toNat x1) 16 0).toNat (-1)) 16 0).toNat (-1)) 16 0) + 1))) 16 0) - 1))), some (.inl x2), none], [], (am_sh, am_mm (am_upd (am_upd (am_upd (am_upd U 17 (U 16 0).toNat x1) 20 ((am_upd U 17 (U 16 0).toNat x1) 16 0).toNat (-1)) 18 ((am_upd (am_upd U 17 (U 16 0).toNat x1) 20 ((am_upd U 17 (U 16 0).toNat x1) 16 0).toNat (-1)) 16 0).toNat (-1)) 16 0 (w32 (((am_upd (am_upd (am_upd U 17 (U 16 0).toNat x1) 20 ((am_upd U 17 (U 16 0).toNat x1) 16 0).toNat (-1)) 18 ((am_upd (am_upd U 17 (U 16 0).toNat x1) 20 ((am_upd U 17 (U 16 0).toNat x1) 16 0).toNat (-1)) 16 0).toNat (-1)) 16 0) + 1)))))) (fun _ => rfl) h1a2aaac ?_
      show Ev (am_kz N X) ((d + 1), 180, 76, [some (.inr (.inr 16)), some (.inl x1), some (.inl x2)], [], (am_sh, am_mm U2)) R
      subst h1a2aaaa
      exact ev_end 1 (fun _ => rfl)
  · have h2 := h.2 hc
    subst h2
    exact ev_end 1 (fun _ => rfl)
set_option maxRecDepth 8000 in
theorem st193_86_0 (N : Nat) (X : Nat → Int) (d : Nat) (U : Nat → Nat → Int) (R : Option am_V × am_M) (h : (0 ≤ (U 86 40) ∧ (U 86 40) < 2) ∧ ((((U 104 (U 86 40).toNat) = (-1) : Prop)) → ∃ (r1 : Int) (U1 : Nat → Nat → Int), Ev (am_kz N X) (d, 264, 0, [some (.inr (.inr 86)), some (.inl 0)], [], (am_sh, am_mm U)) (some (.inl r1), (am_sh, am_mm U1)) ∧ (((¬ r1 = 0 : Prop)) → (0 ≤ (U1 86 40) ∧ (U1 86 40) < 2) ∧ ∃ U2 : Nat → Nat → Int, Ev (am_kz N X) (d, 271, 0, [some (.inr (.inr 86)), some (.inl 1), none], [], (am_sh, am_mm (am_upd U1 104 (U1 86 40).toNat (U1 86 39)))) (none, (am_sh, am_mm U2)) ∧ (0 ≤ (U2 86 40) ∧ (U2 86 40) < 2) ∧ R = (none, (am_sh, am_mm (am_upd U2 105 (U2 86 40).toNat (U2 86 39))))) ∧ (¬ (¬ r1 = 0) → R = (none, (am_sh, am_mm U1)))) ∧ (¬ ((U 104 (U 86 40).toNat) = (-1)) → ∃ (r3 : Int) (U3 : Nat → Nat → Int), Ev (am_kz N X) (d, 264, 0, [some (.inr (.inr 86)), some (.inl 1)], [], (am_sh, am_mm U)) (some (.inl r3), (am_sh, am_mm U3)) ∧ (((¬ r3 = 0 : Prop)) → (0 ≤ (U3 86 40) ∧ (U3 86 40) < 2) ∧ ∃ U4 : Nat → Nat → Int, Ev (am_kz N X) (d, 271, 0, [some (.inr (.inr 86)), some (.inl 1), none], [], (am_sh, am_mm (am_upd U3 104 (U3 86 40).toNat (U3 86 39)))) (none, (am_sh, am_mm U4)) ∧ (0 ≤ (U4 86 40) ∧ (U4 86 40) < 2) ∧ R = (none, (am_sh, am_mm (am_upd U4 105 (U4 86 40).toNat (U4 86 39))))) ∧ (¬ (¬ r3 = 0) → R = (none, (am_sh, am_mm U3))))) : Ev (am_kz N X) ((d + 1), 193, 0, [some (.inr (.inr 86))], [], (am_sh, am_mm U)) R := by
  refine ev_seg (σ1 := ((d + 1), 193, 9, [some (.inr (.inr 86))], [.inl (U 86 40), .inr (.inr 104), .inr (.inr 86)], (am_sh, am_mm U))) 5 (fun _ => rfl) ?_
  refine eu_iald 104 (n := 2) rfl (by decide) rfl (fun _ => rfl) h.1 ?_
  have ha := h.2
  refine ev_br (P := (U 104 (U 86 40).toNat) = (-1)) (σ1 := ((d + 1), 193, 18, [some (.inr (.inr 86))], [.inr (.inr 86)], (am_sh, am_mm U))) (σ2 := ((d + 1), 193, 14, [some (.inr (.inr 86))], [.inr (.inr 86)], (am_sh, am_mm U))) 2 (fun _ => rfl) (fun hc => ?_) (fun hc => ?_)
  · have ha1 := ha.1 hc
    refine ev_seg (σ1 := ((d + 1), 193, 19, [some (.inr (.inr 86))], [.inl 0, .inr (.inr 86)], (am_sh, am_mm U))) 1 (fun _ => rfl) ?_
    obtain ⟨r1, U1, ha1c, ha1a⟩ := ha1
    refine ev_cal (σc := (d, 264, 0, [some (.inr (.inr 86)), some (.inl 0)], [], (am_sh, am_mm U))) (fun _ => rfl) ha1c ?_
    show Ev (am_kz N X) ((d + 1), 193, 22, [some (.inr (.inr 86))], [.inl r1], (am_sh, am_mm U1)) R
    refine ev_br (P := ¬ r1 = 0) (σ1 := ((d + 1), 193, 26, [some (.inr (.inr 86))], [], (am_sh, am_mm U1))) (σ2 := ((d + 1), 193, 25, [some (.inr (.inr 86))], [], (am_sh, am_mm U1))) 1 (fun _ => rfl) (fun hc => ?_) (fun hc => ?_)
    · have ha1a1 := ha1a.1 hc
      refine ev_seg (σ1 := ((d + 1), 193, 38, [some (.inr (.inr 86))], [.inl (U1 86 39), .inl (U1 86 40), .inr (.inr 104)], (am_sh, am_mm U1))) 6 (fun _ => rfl) ?_
      refine eu_iast 104 (n := 2) rfl (by decide) rfl (fun _ => rfl) ha1a1.1 ?_
      have ha1a1a := ha1a1.2
      refine ev_seg (σ1 := ((d + 1), 193, 41, [some (.inr (.inr 86))], [.inl 1, .inr (.inr 86)], (am_sh, am_mm (am_upd U1 104 (U1 86 40).toNat (U1 86 39))))) 2 (fun _ => rfl) ?_
      obtain ⟨U2, ha1a1ac, ha1a1aa⟩ := ha1a1a
      refine ev_cal (σc := (d, 271, 0, [some (.inr (.inr 86)), some (.inl 1), none], [], (am_sh, am_mm (am_upd U1 104 (U1 86 40).toNat (U1 86 39))))) (fun _ => rfl) ha1a1ac ?_
      show Ev (am_kz N X) ((d + 1), 193, 44, [some (.inr (.inr 86))], [], (am_sh, am_mm U2)) R
      refine ev_seg (σ1 := ((d + 1), 193, 56, [some (.inr (.inr 86))], [.inl (U2 86 39), .inl (U2 86 40), .inr (.inr 105)], (am_sh, am_mm U2))) 6 (fun _ => rfl) ?_
      refine eu_iast 105 (n := 2) rfl (by decide) rfl (fun _ => rfl) ha1a1aa.1 ?_
      have ha1a1aaa := ha1a1aa.2
      subst ha1a1aaa
      exact ev_end 1 (fun _ => rfl)
    · have ha1a2 := ha1a.2 hc
      subst ha1a2
      exact ev_end 1 (fun _ => rfl)
  · have ha2 := ha.2 hc
    refine ev_seg (σ1 := ((d + 1), 193, 19, [some (.inr (.inr 86))], [.inl 1, .inr (.inr 86)], (am_sh, am_mm U))) 2 (fun _ => rfl) ?_
    obtain ⟨r3, U3, ha2c, ha2a⟩ := ha2
    refine ev_cal (σc := (d, 264, 0, [some (.inr (.inr 86)), some (.inl 1)], [], (am_sh, am_mm U))) (fun _ => rfl) ha2c ?_
    show Ev (am_kz N X) ((d + 1), 193, 22, [some (.inr (.inr 86))], [.inl r3], (am_sh, am_mm U3)) R
    refine ev_br (P := ¬ r3 = 0) (σ1 := ((d + 1), 193, 26, [some (.inr (.inr 86))], [], (am_sh, am_mm U3))) (σ2 := ((d + 1), 193, 25, [some (.inr (.inr 86))], [], (am_sh, am_mm U3))) 1 (fun _ => rfl) (fun hc => ?_) (fun hc => ?_)
    · have ha2a1 := ha2a.1 hc
      refine ev_seg (σ1 := ((d + 1), 193, 38, [some (.inr (.inr 86))], [.inl (U3 86 39), .inl (U3 86 40), .inr (.inr 104)], (am_sh, am_mm U3))) 6 (fun _ => rfl) ?_
      refine eu_iast 104 (n := 2) rfl (by decide) rfl (fun _ => rfl) ha2a1.1 ?_
      have ha2a1a := ha2a1.2
      refine ev_seg (σ1 := ((d + 1), 193, 41, [some (.inr (.inr 86))], [.inl 1, .inr (.inr 86)], (am_sh, am_mm (am_upd U3 104 (U3 86 40).toNat (U3 86 39))))) 2 (fun _ => rfl) ?_
      obtain ⟨U4, ha2a1ac, ha2a1aa⟩ := ha2a1a
      refine ev_cal (σc := (d, 271, 0, [some (.inr (.inr 86)), some (.inl 1), none], [], (am_sh, am_mm (am_upd U3 104 (U3 86 40).toNat (U3 86 39))))) (fun _ => rfl) ha2a1ac ?_
      show Ev (am_kz N X) ((d + 1), 193, 44, [some (.inr (.inr 86))], [], (am_sh, am_mm U4)) R
      refine ev_seg (σ1 := ((d + 1), 193, 56, [some (.inr (.inr 86))], [.inl (U4 86 39), .inl (U4 86 40), .inr (.inr 105)], (am_sh, am_mm U4))) 6 (fun _ => rfl) ?_
      refine eu_iast 105 (n := 2) rfl (by decide) rfl (fun _ => rfl) ha2a1aa.1 ?_
      have ha2a1aaa := ha2a1aa.2
      subst ha2a1aaa
      exact ev_end 1 (fun _ => rfl)
    · have ha2a2 := ha2a.2 hc
      subst ha2a2
      exact ev_end 1 (fun _ => rfl)
set_option maxRecDepth 8000 in
theorem st188_86_0 (N : Nat) (X : Nat → Int) (d : Nat) (U : Nat → Nat → Int) (R : Option am_V × am_M) (h : (0 ≤ (U 86 40) ∧ (U 86 40) < 2) ∧ (((¬ (U 88 (U 86 40).toNat) = 4 : Prop)) → ∃ (r1 : Int) (U1 : Nat → Nat → Int), Ev (am_kz N X) (d, 264, 0, [some (.inr (.inr 86)), some (.inl 0)], [], (am_sh, am_mm U)) (some (.inl r1), (am_sh, am_mm U1)) ∧ (((¬ r1 = 0 : Prop)) → (0 ≤ (U1 86 40) ∧ (U1 86 40) < 2) ∧ ∃ (r2 : Int) (U2 : Nat → Nat → Int), Ev (am_kz N X) (d, 265, 0, [some (.inr (.inr 86)), none, none], [], (am_sh, am_mm U1)) (some (.inr (.inl r2)), (am_sh, am_mm U2)) ∧ (0 ≤ (w32 ((w32 (4 * (U1 86 40))) + (U1 88 (U1 86 40).toNat))) ∧ (w32 ((w32 (4 * (U1 86 40))) + (U1 88 (U1 86 40).toNat))) < 8) ∧ (((¬ ((am_upd U2 89 (w32 ((w32 (4 * (U1 86 40))) + (U1 88 (U1 86 40).toNat))).toNat r2) 86 8) = 0 : Prop)) → R = (none, (am_sh, am_mm (am_upd U2 89 (w32 ((w32 (4 * (U1 86 40))) + (U1 88 (U1 86 40).toNat))).toNat r2)))) ∧ (¬ (¬ ((am_upd U2 89 (w32 ((w32 (4 * (U1 86 40))) + (U1 88 (U1 86 40).toNat))).toNat r2) 86 8) = 0) → (0 ≤ ((am_upd U2 89 (w32 ((w32 (4 * (U1 86 40))) + (U1 88 (U1 86 40).toNat))).toNat r2) 86 40) ∧ ((am_upd U2 89 (w32 ((w32 (4 * (U1 86 40))) + (U1 88 (U1 86 40).toNat))).toNat r2) 86 40) < 2) ∧ (0 ≤ ((am_upd U2 89 (w32 ((w32 (4 * (U1 86 40))) + (U1 88 (U1 86 40).toNat))).toNat r2) 86 40) ∧ ((am_upd U2 89 (w32 ((w32 (4 * (U1 86 40))) + (U1 88 (U1 86 40).toNat))).toNat r2) 86 40) < 2) ∧ R = (none, (am_sh, am_mm (am_upd (am_upd U2 89 (w32 ((w32 (4 * (U1 86 40))) + (U1 88 (U1 86 40).toNat))).toNat r2) 88 ((am_upd U2 89 (w32 ((w32 (4 * (U1 86 40))) + (U1 88 (U1 86 40).toNat))).toNat r2) 86 40).toNat (w32 (((am_upd U2 89 (w32 ((w32 (4 * (U1 86 40))) + (U1 88 (U1 86 40).toNat))).toNat r2) 88 ((am_upd U2 89 (w32 ((w32 (4 * (U1 86 40))) + (U1 88 (U1 86 40).toNat))).toNat r2) 86 40).toNat) + 1))))))) ∧ (¬ (¬ r1 = 0) → R = (none, (am_sh, am_mm U1)))) ∧ (¬ (¬ (U 88 (U 86 40).toNat) = 4) → ∃ (r3 : Int) (U3 : Nat → Nat → Int), Ev (am_kz N X) (d, 264, 0, [some (.inr (.inr 86)), some (.inl 1)], [], (am_sh, am_mm U)) (some (.inl r3), (am_sh, am_mm U3)) ∧ (((¬ r3 = 0 : Prop)) → (0 ≤ (U3 86 40) ∧ (U3 86 40) < 2) ∧ ∃ (r4 : Int) (U4 : Nat → Nat → Int), Ev (am_kz N X) (d, 265, 0, [some (.inr (.inr 86)), none, none], [], (am_sh, am_mm U3)) (some (.inr (.inl r4)), (am_sh, am_mm U4)) ∧ (0 ≤ (w32 ((w32 (4 * (U3 86 40))) + (U3 88 (U3 86 40).toNat))) ∧ (w32 ((w32 (4 * (U3 86 40))) + (U3 88 (U3 86 40).toNat))) < 8) ∧ (((¬ ((am_upd U4 89 (w32 ((w32 (4 * (U3 86 40))) + (U3 88 (U3 86 40).toNat))).toNat r4) 86 8) = 0 : Prop)) → R = (none, (am_sh, am_mm (am_upd U4 89 (w32 ((w32 (4 * (U3 86 40))) + (U3 88 (U3 86 40).toNat))).toNat r4)))) ∧ (¬ (¬ ((am_upd U4 89 (w32 ((w32 (4 * (U3 86 40))) + (U3 88 (U3 86 40).toNat))).toNat r4) 86 8) = 0) → (0 ≤ ((am_upd U4 89 (w32 ((w32 (4 * (U3 86 40))) + (U3 88 (U3 86 40).toNat))).toNat r4) 86 40) ∧ ((am_upd U4 89 (w32 ((w32 (4 * (U3 86 40))) + (U3 88 (U3 86 40).toNat))).toNat r4) 86 40) < 2) ∧ (0 ≤ ((am_upd U4 89 (w32 ((w32 (4 * (U3 86 40))) + (U3 88 (U3 86 40).toNat))).toNat r4) 86 40) ∧ ((am_upd U4 89 (w32 ((w32 (4 * (U3 86 40))) + (U3 88 (U3 86 40).toNat))).toNat r4) 86 40) < 2) ∧ R = (none, (am_sh, am_mm (am_upd (am_upd U4 89 (w32 ((w32 (4 * (U3 86 40))) + (U3 88 (U3 86 40).toNat))).toNat r4) 88 ((am_upd U4 89 (w32 ((w32 (4 * (U3 86 40))) + (U3 88 (U3 86 40).toNat))).toNat r4) 86 40).toNat (w32 (((am_upd U4 89 (w32 ((w32 (4 * (U3 86 40))) + (U3 88 (U3 86 40).toNat))).toNat r4) 88 ((am_upd U4 89 (w32 ((w32 (4 * (U3 86 40))) + (U3 88 (U3 86 40).toNat))).toNat r4) 86 40).toNat) + 1))))))) ∧ (¬ (¬ r3 = 0) → R = (none, (am_sh, am_mm U3))))) : Ev (am_kz N X) ((d + 1), 188, 0, [some (.inr (.inr 86))], [], (am_sh, am_mm U)) R := by
  refine ev_seg (σ1 := ((d + 1), 188, 9, [some (.inr (.inr 86))], [.inl (U 86 40), .inr (.inr 88), .inr (.inr 86)], (am_sh, am_mm U))) 5 (fun _ => rfl) ?_
  refine eu_iald 88 (n := 2) rfl (by decide) rfl (fun _ => rfl) h.1 ?_
  have ha := h.2
  refine ev_br (P := ¬ (U 88 (U 86 40).toNat) = 4) (σ1 := ((d + 1), 188, 18, [some (.inr (.inr 86))], [.inr (.inr 86)], (am_sh, am_mm U))) (σ2 := ((d + 1), 188, 14, [some (.inr (.inr 86))], [.inr (.inr 86)], (am_sh, am_mm U))) 2 (fun _ => rfl) (fun hc => ?_) (fun hc => ?_)
  · have ha1 := ha.1 hc
    refine ev_seg (σ1 := ((d + 1), 188, 19, [some (.inr (.inr 86))], [.inl 0, .inr (.inr 86)], (am_sh, am_mm U))) 1 (fun _ => rfl) ?_
    obtain ⟨r1, U1, ha1c, ha1a⟩ := ha1
    refine ev_cal (σc := (d, 264, 0, [some (.inr (.inr 86)), some (.inl 0)], [], (am_sh, am_mm U))) (fun _ => rfl) ha1c ?_
    show Ev (am_kz N X) ((d + 1), 188, 22, [some (.inr (.inr 86))], [.inl r1], (am_sh, am_mm U1)) R
    refine ev_br (P := ¬ r1 = 0) (σ1 := ((d + 1), 188, 26, [some (.inr (.inr 86))], [], (am_sh, am_mm U1))) (σ2 := ((d + 1), 188, 25, [some (.inr (.inr 86))], [], (am_sh, am_mm U1))) 1 (fun _ => rfl) (fun hc => ?_) (fun hc => ?_)
    · have ha1a1 := ha1a.1 hc
      refine ev_seg (σ1 := ((d + 1), 188, 44, [some (.inr (.inr 86))], [.inl (U1 86 40), .inr (.inr 88), .inl (w32 (4 * (U1 86 40))), .inr (.inr 89)], (am_sh, am_mm U1))) 10 (fun _ => rfl) ?_
      refine eu_iald 88 (n := 2) rfl (by decide) rfl (fun _ => rfl) ha1a1.1 ?_
      have ha1a1a := ha1a1.2
      refine ev_seg (σ1 := ((d + 1), 188, 47, [some (.inr (.inr 86))], [.inr (.inr 86), .inl (w32 ((w32 (4 * (U1 86 40))) + (U1 88 (U1 86 40).toNat))), .inr (.inr 89)], (am_sh, am_mm U1))) 2 (fun _ => rfl) ?_
      obtain ⟨r2, U2, ha1a1ac, ha1a1aa⟩ := ha1a1a
      refine ev_cal (σc := (d, 265, 0, [some (.inr (.inr 86)), none, none], [], (am_sh, am_mm U1))) (fun _ => rfl) ha1a1ac ?_
      show Ev (am_kz N X) ((d + 1), 188, 50, [some (.inr (.inr 86))], [.inr (.inl r2), .inl (w32 ((w32 (4 * (U1 86 40))) + (U1 88 (U1 86 40).toNat))), .inr (.inr 89)], (am_sh, am_mm U2)) R
      refine eu_last 89 (n := 8) rfl (by decide) rfl (fun _ => rfl) ha1a1aa.1 ?_
      have ha1a1aaa := ha1a1aa.2
      refine ev_br (P := ¬ ((am_upd U2 89 (w32 ((w32 (4 * (U1 86 40))) + (U1 88 (U1 86 40).toNat))).toNat r2) 86 8) = 0) (σ1 := ((d + 1), 188, 71, [some (.inr (.inr 86))], [], (am_sh, am_mm (am_upd U2 89 (w32 ((w32 (4 * (U1 86 40))) + (U1 88 (U1 86 40).toNat))).toNat r2)))) (σ2 := ((d + 1), 188, 58, [some (.inr (.inr 86))], [], (am_sh, am_mm (am_upd U2 89 (w32 ((w32 (4 * (U1 86 40))) + (U1 88 (U1 86 40).toNat))).toNat r2)))) 3 (fun _ => rfl) (fun hc => ?_) (fun hc => ?_)
      · have ha1a1aaa1 := ha1a1aaa.1 hc
        subst ha1a1aaa1
        exact ev_end 1 (fun _ => rfl)
      · have ha1a1aaa2 := ha1a1aaa.2 hc
        refine ev_seg (σ1 := ((d + 1), 188, 67, [some (.inr (.inr 86))], [.inl ((am_upd U2 89 (w32 ((w32 (4 * (U1 86 40))) + (U1 88 (U1 86 40).toNat))).toNat r2) 86 40), .inr (.inr 88), .inl ((am_upd U2 89 (w32 ((w32 (4 * (U1 86 40))) + (U1 88 (U1 86 40).toNat))).toNat r2) 86 40), .inr (.inr 88)], (am_sh, am_mm (am_upd U2 89 (w32 ((w32 (4 * (U1 86 40))) + (U1 88 (U1 86 40).toNat))).toNat r2)))) 5 (fun _ => rfl) ?_
        refine eu_iald 88 (n := 2) rfl (by decide) rfl (fun _ => rfl) ha1a1aaa2.1 ?_
        have ha1a1aaa2a := ha1a1aaa2.2
        refine ev_seg (σ1 := ((d + 1), 188, 70, [some (.inr (.inr 86))], [.inl (w32 (((am_upd U2 89 (w32 ((w32 (4 * (U1 86 40))) + (U1 88 (U1 86 40).toNat))).toNat r2) 88 ((am_upd U2 89 (w32 ((w32 (4 * (U1 86 40))) + (U1 88 (U1 86 40).toNat))).toNat r2) 86 40).toNat) + 1)), .inl ((am_upd U2 89 (w32 ((w32 (4 * (U1 86 40))) + (U1 88 (U1 86 40).toNat))).toNat r2) 86 40), .inr (.inr 88)], (am_sh, am_mm (am_upd U2 89 (w32 ((w32 (4 * (U1 86 40))) + (U1 88 (U1 86 40).toNat))).toNat r2)))) 2 (fun _ => rfl) ?_
        refine eu_iast 88 (n := 2) rfl (by decide) rfl (fun _ => rfl) ha1a1aaa2a.1 ?_
        have ha1a1aaa2aa := ha1a1aaa2a.2
        subst ha1a1aaa2aa
        exact ev_end 1 (fun _ => rfl)
    · have ha1a2 := ha1a.2 hc
      subst ha1a2
      exact ev_end 1 (fun _ => rfl)
  · have ha2 := ha.2 hc
    refine ev_seg (σ1 := ((d + 1), 188, 19, [some (.inr (.inr 86))], [.inl 1, .inr (.inr 86)], (am_sh, am_mm U))) 2 (fun _ => rfl) ?_
    obtain ⟨r3, U3, ha2c, ha2a⟩ := ha2
    refine ev_cal (σc := (d, 264, 0, [some (.inr (.inr 86)), some (.inl 1)], [], (am_sh, am_mm U))) (fun _ => rfl) ha2c ?_
    show Ev (am_kz N X) ((d + 1), 188, 22, [some (.inr (.inr 86))], [.inl r3], (am_sh, am_mm U3)) R
    refine ev_br (P := ¬ r3 = 0) (σ1 := ((d + 1), 188, 26, [some (.inr (.inr 86))], [], (am_sh, am_mm U3))) (σ2 := ((d + 1), 188, 25, [some (.inr (.inr 86))], [], (am_sh, am_mm U3))) 1 (fun _ => rfl) (fun hc => ?_) (fun hc => ?_)
    · have ha2a1 := ha2a.1 hc
      refine ev_seg (σ1 := ((d + 1), 188, 44, [some (.inr (.inr 86))], [.inl (U3 86 40), .inr (.inr 88), .inl (w32 (4 * (U3 86 40))), .inr (.inr 89)], (am_sh, am_mm U3))) 10 (fun _ => rfl) ?_
      refine eu_iald 88 (n := 2) rfl (by decide) rfl (fun _ => rfl) ha2a1.1 ?_
      have ha2a1a := ha2a1.2
      refine ev_seg (σ1 := ((d + 1), 188, 47, [some (.inr (.inr 86))], [.inr (.inr 86), .inl (w32 ((w32 (4 * (U3 86 40))) + (U3 88 (U3 86 40).toNat))), .inr (.inr 89)], (am_sh, am_mm U3))) 2 (fun _ => rfl) ?_
      obtain ⟨r4, U4, ha2a1ac, ha2a1aa⟩ := ha2a1a
      refine ev_cal (σc := (d, 265, 0, [some (.inr (.inr 86)), none, none], [], (am_sh, am_mm U3))) (fun _ => rfl) ha2a1ac ?_
      show Ev (am_kz N X) ((d + 1), 188, 50, [some (.inr (.inr 86))], [.inr (.inl r4), .inl (w32 ((w32 (4 * (U3 86 40))) + (U3 88 (U3 86 40).toNat))), .inr (.inr 89)], (am_sh, am_mm U4)) R
      refine eu_last 89 (n := 8) rfl (by decide) rfl (fun _ => rfl) ha2a1aa.1 ?_
      have ha2a1aaa := ha2a1aa.2
      refine ev_br (P := ¬ ((am_upd U4 89 (w32 ((w32 (4 * (U3 86 40))) + (U3 88 (U3 86 40).toNat))).toNat r4) 86 8) = 0) (σ1 := ((d + 1), 188, 71, [some (.inr (.inr 86))], [], (am_sh, am_mm (am_upd U4 89 (w32 ((w32 (4 * (U3 86 40))) + (U3 88 (U3 86 40).toNat))).toNat r4)))) (σ2 := ((d + 1), 188, 58, [some (.inr (.inr 86))], [], (am_sh, am_mm (am_upd U4 89 (w32 ((w32 (4 * (U3 86 40))) + (U3 88 (U3 86 40).toNat))).toNat r4)))) 3 (fun _ => rfl) (fun hc => ?_) (fun hc => ?_)
      · have ha2a1aaa1 := ha2a1aaa.1 hc
        subst ha2a1aaa1
        exact ev_end 1 (fun _ => rfl)
      · have ha2a1aaa2 := ha2a1aaa.2 hc
        refine ev_seg (σ1 := ((d + 1), 188, 67, [some (.inr (.inr 86))], [.inl ((am_upd U4 89 (w32 ((w32 (4 * (U3 86 40))) + (U3 88 (U3 86 40).toNat))).toNat r4) 86 40), .inr (.inr 88), .inl ((am_upd U4 89 (w32 ((w32 (4 * (U3 86 40))) + (U3 88 (U3 86 40).toNat))).toNat r4) 86 40), .inr (.inr 88)], (am_sh, am_mm (am_upd U4 89 (w32 ((w32 (4 * (U3 86 40))) + (U3 88 (U3 86 40).toNat))).toNat r4)))) 5 (fun _ => rfl) ?_
        refine eu_iald 88 (n := 2) rfl (by decide) rfl (fun _ => rfl) ha2a1aaa2.1 ?_
        have ha2a1aaa2a := ha2a1aaa2.2
        refine ev_seg (σ1 := ((d + 1), 188, 70, [some (.inr (.inr 86))], [.inl (w32 (((am_upd U4 89 (w32 ((w32 (4 * (U3 86 40))) + (U3 88 (U3 86 40).toNat))).toNat r4) 88 ((am_upd U4 89 (w32 ((w32 (4 * (U3 86 40))) + (U3 88 (U3 86 40).toNat))).toNat r4) 86 40).toNat) + 1)), .inl ((am_upd U4 89 (w32 ((w32 (4 * (U3 86 40))) + (U3 88 (U3 86 40).toNat))).toNat r4) 86 40), .inr (.inr 88)], (am_sh, am_mm (am_upd U4 89 (w32 ((w32 (4 * (U3 86 40))) + (U3 88 (U3 86 40).toNat))).toNat r4)))) 2 (fun _ => rfl) ?_
        refine eu_iast 88 (n := 2) rfl (by decide) rfl (fun _ => rfl) ha2a1aaa2a.1 ?_
        have ha2a1aaa2aa := ha2a1aaa2a.2
        subst ha2a1aaa2aa
        exact ev_end 1 (fun _ => rfl)
    · have ha2a2 := ha2a.2 hc
      subst ha2a2
      exact ev_end 1 (fun _ => rfl)
set_option maxRecDepth 8000 in
theorem st192_86_0 (N : Nat) (X : Nat → Int) (d : Nat) (U : Nat → Nat → Int) (R : Option am_V × am_M) (h : (0 ≤ (U 86 40) ∧ (U 86 40) < 2) ∧ (((¬ (U 100 (U 86 40).toNat) = 8 : Prop)) → ∃ (r1 : Int) (U1 : Nat → Nat → Int), Ev (am_kz N X) (d, 264, 0, [some (.inr (.inr 86)), some (.inl 0)], [], (am_sh, am_mm U)) (some (.inl r1), (am_sh, am_mm U1)) ∧ (((¬ r1 = 0 : Prop)) → (0 ≤ (U1 86 40) ∧ (U1 86 40) < 2) ∧ ∃ U2 : Nat → Nat → Int, Ev (am_kz N X) (d, 186, 0, [some (.inr (.inr 86))], [], (am_sh, am_mm U1)) (none, (am_sh, am_mm U2)) ∧ ((((U2 86 8) ≤ 0 : Prop)) → ∃ (r3 : Int) (U3 : Nat → Nat → Int), Ev (am_kz N X) (d, 187, 0, [some (.inr (.inr 86)), some (.inr (.inl 1700881256)), none], [], (am_sh, am_mm U2)) (some (.inl r3), (am_sh, am_mm U3)) ∧ (((r3 = 0 : Prop)) → ∃ (r4 : Int) (U4 : Nat → Nat → Int), Ev (am_kz N X) (d, 187, 0, [some (.inr (.inr 86)), some (.inr (.inl 108187867505765)), none], [], (am_sh, am_mm U3)) (some (.inl r4), (am_sh, am_mm U4)) ∧ (((r4 = 0 : Prop)) → ∃ (r5 : Int) (U5 : Nat → Nat → Int), Ev (am_kz N X) (d, 187, 0, [some (.inr (.inr 86)), some (.inr (.inl 131294808271214)), none], [], (am_sh, am_mm U4)) (some (.inl r5), (am_sh, am_mm U5)) ∧ (((r5 = 0 : Prop)) → Ev (am_kz N X) ((d + 1), 192, 105, [some (.inr (.inr 86)), some (.inl (w32 ((w32 (8 * (U1 86 40))) + (U1 100 (U1 86 40).toNat))))], [.inl (-1), .inl (w32 ((w32 (8 * (U1 86 40))) + (U1 100 (U1 86 40).toNat))), .inr (.inr 101)], (am_sh, am_mm U5)) R) ∧ (¬ (r5 = 0) → Ev (am_kz N X) ((d + 1), 192, 105, [some (.inr (.inr 86)), some (.inl (w32 ((w32 (8 * (U1 86 40))) + (U1 100 (U1 86 40).toNat))))], [.inl 2, .inl (w32 ((w32 (8 * (U1 86 40))) + (U1 100 (U1 86 40).toNat))), .inr (.inr 101)], (am_sh, am_mm U5)) R)) ∧ (¬ (r4 = 0) → Ev (am_kz N X) ((d + 1), 192, 105, [some (.inr (.inr 86)), some (.inl (w32 ((w32 (8 * (U1 86 40))) + (U1 100 (U1 86 40).toNat))))], [.inl 1, .inl (w32 ((w32 (8 * (U1 86 40))) + (U1 100 (U1 86 40).toNat))), .inr (.inr 101)], (am_sh, am_mm U4)) R)) ∧ (¬ (r3 = 0) → Ev (am_kz N X) ((d + 1), 192, 105, [some (.inr (.inr 86)), some (.inl (w32 ((w32 (8 * (U1 86 40))) + (U1 100 (U1 86 40).toNat))))], [.inl 0, .inl (w32 ((w32 (8 * (U1 86 40))) + (U1 100 (U1 86 40).toNat))), .inr (.inr 101)], (am_sh, am_mm U3)) R)) ∧ (¬ ((U2 86 8) ≤ 0) → R = (none, (am_sh, am_mm U2)))) ∧ (¬ (¬ r1 = 0) → R = (none, (am_sh, am_mm U1)))) ∧ (¬ (¬ (U 100 (U 86 40).toNat) = 8) → ∃ (r6 : Int) (U6 : Nat → Nat → Int), Ev (am_kz N X) (d, 264, 0, [some (.inr (.inr 86)), some (.inl 1)], [], (am_sh, am_mm U)) (some (.inl r6), (am_sh, am_mm U6)) ∧ (((¬ r6 = 0 : Prop)) → (0 ≤ (U6 86 40) ∧ (U6 86 40) < 2) ∧ ∃ U7 : Nat → Nat → Int, Ev (am_kz N X) (d, 186, 0, [some (.inr (.inr 86))], [], (am_sh, am_mm U6)) (none, (am_sh, am_mm U7)) ∧ ((((U7 86 8) ≤ 0 : Prop)) → ∃ (r8 : Int) (U8 : Nat → Nat → Int), Ev (am_kz N X) (d, 187, 0, [some (.inr (.inr 86)), some (.inr (.inl 1700881256)), none], [], (am_sh, am_mm U7)) (some (.inl r8), (am_sh, am_mm U8)) ∧ (((r8 = 0 : Prop)) → ∃ (r9 : Int) (U9 : Nat → Nat → Int), Ev (am_kz N X) (d, 187, 0, [some (.inr (.inr 86)), some (.inr (.inl 108187867505765)), none], [], (am_sh, am_mm U8)) (some (.inl r9), (am_sh, am_mm U9)) ∧ (((r9 = 0 : Prop)) → ∃ (r10 : Int) (U10 : Nat → Nat → Int), Ev (am_kz N X) (d, 187, 0, [some (.inr (.inr 86)), some (.inr (.inl 131294808271214)), none], [], (am_sh, am_mm U9)) (some (.inl r10), (am_sh, am_mm U10)) ∧ (((r10 = 0 : Prop)) → Ev (am_kz N X) ((d + 1), 192, 105, [some (.inr (.inr 86)), some (.inl (w32 ((w32 (8 * (U6 86 40))) + (U6 100 (U6 86 40).toNat))))], [.inl (-1), .inl (w32 ((w32 (8 * (U6 86 40))) + (U6 100 (U6 86 40).toNat))), .inr (.inr 101)], (am_sh, am_mm U10)) R) ∧ (¬ (r10 = 0) → Ev (am_kz N X) ((d + 1), 192, 105, [some (.inr (.inr 86)), some (.inl (w32 ((w32 (8 * (U6 86 40))) + (U6 100 (U6 86 40).toNat))))], [.inl 2, .inl (w32 ((w32 (8 * (U6 86 40))) + (U6 100 (U6 86 40).toNat))), .inr (.inr 101)], (am_sh, am_mm U10)) R)) ∧ (¬ (r9 = 0) → Ev (am_kz N X) ((d + 1), 192, 105, [some (.inr (.inr 86)), some (.inl (w32 ((w32 (8 * (U6 86 40))) + (U6 100 (U6 86 40).toNat))))], [.inl 1, .inl (w32 ((w32 (8 * (U6 86 40))) + (U6 100 (U6 86 40).toNat))), .inr (.inr 101)], (am_sh, am_mm U9)) R)) ∧ (¬ (r8 = 0) → Ev (am_kz N X) ((d + 1), 192, 105, [some (.inr (.inr 86)), some (.inl (w32 ((w32 (8 * (U6 86 40))) + (U6 100 (U6 86 40).toNat))))], [.inl 0, .inl (w32 ((w32 (8 * (U6 86 40))) + (U6 100 (U6 86 40).toNat))), .inr (.inr 101)], (am_sh, am_mm U8)) R)) ∧ (¬ ((U7 86 8) ≤ 0) → R = (none, (am_sh, am_mm U7)))) ∧ (¬ (¬ r6 = 0) → R = (none, (am_sh, am_mm U6))))) : Ev (am_kz N X) ((d + 1), 192, 0, [some (.inr (.inr 86)), none], [], (am_sh, am_mm U)) R := by
  refine ev_seg (σ1 := ((d + 1), 192, 9, [some (.inr (.inr 86)), none], [.inl (U 86 40), .inr (.inr 100), .inr (.inr 86)], (am_sh, am_mm U))) 5 (fun _ => rfl) ?_
  refine eu_iald 100 (n := 2) rfl (by decide) rfl (fun _ => rfl) h.1 ?_
  have ha := h.2
  refine ev_br (P := ¬ (U 100 (U 86 40).toNat) = 8) (σ1 := ((d + 1), 192, 19, [some (.inr (.inr 86)), none], [.inr (.inr 86)], (am_sh, am_mm U))) (σ2 := ((d + 1), 192, 15, [some (.inr (.inr 86)), none], [.inr (.inr 86)], (am_sh, am_mm U))) 2 (fun _ => rfl) (fun hc => ?_) (fun hc => ?_)
  · have ha1 := ha.1 hc
    refine ev_seg (σ1 := ((d + 1), 192, 20, [some (.inr (.inr 86)), none], [.inl 0, .inr (.inr 86)], (am_sh, am_mm U))) 1 (fun _ => rfl) ?_
    obtain ⟨r1, U1, ha1c, ha1a⟩ := ha1
    refine ev_cal (σc := (d, 264, 0, [some (.inr (.inr 86)), some (.inl 0)], [], (am_sh, am_mm U))) (fun _ => rfl) ha1c ?_
    show Ev (am_kz N X) ((d + 1), 192, 23, [some (.inr (.inr 86)), none], [.inl r1], (am_sh, am_mm U1)) R
    refine ev_br (P := ¬ r1 = 0) (σ1 := ((d + 1), 192, 27, [some (.inr (.inr 86)), none], [], (am_sh, am_mm U1))) (σ2 := ((d + 1), 192, 26, [some (.inr (.inr 86)), none], [], (am_sh, am_mm U1))) 1 (fun _ => rfl) (fun hc => ?_) (fun hc => ?_)
    · have ha1a1 := ha1a.1 hc
      refine ev_seg (σ1 := ((d + 1), 192, 42, [some (.inr (.inr 86)), none], [.inl (U1 86 40), .inr (.inr 100), .inl (w32 (8 * (U1 86 40)))], (am_sh, am_mm U1))) 8 (fun _ => rfl) ?_
      refine eu_iald 100 (n := 2) rfl (by decide) rfl (fun _ => rfl) ha1a1.1 ?_
      have ha1a1a := ha1a1.2
      refine ev_seg (σ1 := ((d + 1), 192, 46, [some (.inr (.inr 86)), some (.inl (w32 ((w32 (8 * (U1 86 40))) + (U1 100 (U1 86 40).toNat))))], [.inr (.inr 86)], (am_sh, am_mm U1))) 3 (fun _ => rfl) ?_
      obtain ⟨U2, ha1a1ac, ha1a1aa⟩ := ha1a1a
      refine ev_cal (σc := (d, 186, 0, [some (.inr (.inr 86))], [], (am_sh, am_mm U1))) (fun _ => rfl) ha1a1ac ?_
      show Ev (am_kz N X) ((d + 1), 192, 49, [some (.inr (.inr 86)), some (.inl (w32 ((w32 (8 * (U1 86 40))) + (U1 100 (U1 86 40).toNat))))], [], (am_sh, am_mm U2)) R
      refine ev_br (P := (U2 86 8) ≤ 0) (σ1 := ((d + 1), 192, 57, [some (.inr (.inr 86)), some (.inl (w32 ((w32 (8 * (U1 86 40))) + (U1 100 (U1 86 40).toNat))))], [], (am_sh, am_mm U2))) (σ2 := ((d + 1), 192, 56, [some (.inr (.inr 86)), some (.inl (w32 ((w32 (8 * (U1 86 40))) + (U1 100 (U1 86 40).toNat))))], [], (am_sh, am_mm U2))) 3 (fun _ => rfl) (fun hc => ?_) (fun hc => ?_)
      · have ha1a1aa1 := ha1a1aa.1 hc
        refine ev_seg (σ1 := ((d + 1), 192, 66, [some (.inr (.inr 86)), some (.inl (w32 ((w32 (8 * (U1 86 40))) + (U1 100 (U1 86 40).toNat))))], [.inr (.inl 1700881256), .inr (.inr 86), .inl (w32 ((w32 (8 * (U1 86 40))) + (U1 100 (U1 86 40).toNat))), .inr (.inr 101)], (am_sh, am_mm U2))) 5 (fun _ => rfl) ?_
        obtain ⟨r3, U3, ha1a1aa1c, ha1a1aa1a⟩ := ha1a1aa1
        refine ev_cal (σc := (d, 187, 0, [some (.inr (.inr 86)), some (.inr (.inl 1700881256)), none], [], (am_sh, am_mm U2))) (fun _ => rfl) ha1a1aa1c ?_
        show Ev (am_kz N X) ((d + 1), 192, 69, [some (.inr (.inr 86)), some (.inl (w32 ((w32 (8 * (U1 86 40))) + (U1 100 (U1 86 40).toNat))))], [.inl r3, .inl (w32 ((w32 (8 * (U1 86 40))) + (U1 100 (U1 86 40).toNat))), .inr (.inr 101)], (am_sh, am_mm U3)) R
        refine ev_br (P := r3 = 0) (σ1 := ((d + 1), 192, 76, [some (.inr (.inr 86)), some (.inl (w32 ((w32 (8 * (U1 86 40))) + (U1 100 (U1 86 40).toNat))))], [.inl (w32 ((w32 (8 * (U1 86 40))) + (U1 100 (U1 86 40).toNat))), .inr (.inr 101)], (am_sh, am_mm U3))) (σ2 := ((d + 1), 192, 72, [some (.inr (.inr 86)), some (.inl (w32 ((w32 (8 * (U1 86 40))) + (U1 100 (U1 86 40).toNat))))], [.inl (w32 ((w32 (8 * (U1 86 40))) + (U1 100 (U1 86 40).toNat))), .inr (.inr 101)], (am_sh, am_mm U3))) 1 (fun _ => rfl) (fun hc => ?_) (fun hc => ?_)
        · have ha1a1aa1a1 := ha1a1aa1a.1 hc
          refine ev_seg (σ1 := ((d + 1), 192, 80, [some (.inr (.inr 86)), some (.inl (w32 ((w32 (8 * (U1 86 40))) + (U1 100 (U1 86 40).toNat))))], [.inr (.inl 108187867505765), .inr (.inr 86), .inl (w32 ((w32 (8 * (U1 86 40))) + (U1 100 (U1 86 40).toNat))), .inr (.inr 101)], (am_sh, am_mm U3))) 2 (fun _ => rfl) ?_
          obtain ⟨r4, U4, ha1a1aa1a1c, ha1a1aa1a1a⟩ := ha1a1aa1a1
          refine ev_cal (σc := (d, 187, 0, [some (.inr (.inr 86)), some (.inr (.inl 108187867505765)), none], [], (am_sh, am_mm U3))) (fun _ => rfl) ha1a1aa1a1c ?_
          show Ev (am_kz N X) ((d + 1), 192, 83, [some (.inr (.inr 86)), some (.inl (w32 ((w32 (8 * (U1 86 40))) + (U1 100 (U1 86 40).toNat))))], [.inl r4, .inl (w32 ((w32 (8 * (U1 86 40))) + (U1 100 (U1 86 40).toNat))), .inr (.inr 101)], (am_sh, am_mm U4)) R
          refine ev_br (P := r4 = 0) (σ1 := ((d + 1), 192, 90, [some (.inr (.inr 86)), some (.inl (w32 ((w32 (8 * (U1 86 40))) + (U1 100 (U1 86 40).toNat))))], [.inl (w32 ((w32 (8 * (U1 86 40))) + (U1 100 (U1 86 40).toNat))), .inr (.inr 101)], (am_sh, am_mm U4))) (σ2 := ((d + 1), 192, 86, [some (.inr (.inr 86)), some (.inl (w32 ((w32 (8 * (U1 86 40))) + (U1 100 (U1 86 40).toNat))))], [.inl (w32 ((w32 (8 * (U1 86 40))) + (U1 100 (U1 86 40).toNat))), .inr (.inr 101)], (am_sh, am_mm U4))) 1 (fun _ => rfl) (fun hc => ?_) (fun hc => ?_)
          · have ha1a1aa1a1a1 := ha1a1aa1a1a.1 hc
            refine ev_seg (σ1 := ((d + 1), 192, 94, [some (.inr (.inr 86)), some (.inl (w32 ((w32 (8 * (U1 86 40))) + (U1 100 (U1 86 40).toNat))))], [.inr (.inl 131294808271214), .inr (.inr 86), .inl (w32 ((w32 (8 * (U1 86 40))) + (U1 100 (U1 86 40).toNat))), .inr (.inr 101)], (am_sh, am_mm U4))) 2 (fun _ => rfl) ?_
            obtain ⟨r5, U5, ha1a1aa1a1a1c, ha1a1aa1a1a1a⟩ := ha1a1aa1a1a1
            refine ev_cal (σc := (d, 187, 0, [some (.inr (.inr 86)), some (.inr (.inl 131294808271214)), none], [], (am_sh, am_mm U4))) (fun _ => rfl) ha1a1aa1a1a1c ?_
            show Ev (am_kz N X) ((d + 1), 192, 97, [some (.inr (.inr 86)), some (.inl (w32 ((w32 (8 * (U1 86 40))) + (U1 100 (U1 86 40).toNat))))], [.inl r5, .inl (w32 ((w32 (8 * (U1 86 40))) + (U1 100 (U1 86 40).toNat))), .inr (.inr 101)], (am_sh, am_mm U5)) R
            refine ev_br (P := r5 = 0) (σ1 := ((d + 1), 192, 104, [some (.inr (.inr 86)), some (.inl (w32 ((w32 (8 * (U1 86 40))) + (U1 100 (U1 86 40).toNat))))], [.inl (w32 ((w32 (8 * (U1 86 40))) + (U1 100 (U1 86 40).toNat))), .inr (.inr 101)], (am_sh, am_mm U5))) (σ2 := ((d + 1), 192, 100, [some (.inr (.inr 86)), some (.inl (w32 ((w32 (8 * (U1 86 40))) + (U1 100 (U1 86 40).toNat))))], [.inl (w32 ((w32 (8 * (U1 86 40))) + (U1 100 (U1 86 40).toNat))), .inr (.inr 101)], (am_sh, am_mm U5))) 1 (fun _ => rfl) (fun hc => ?_) (fun hc => ?_)
            · have ha1a1aa1a1a1a1 := ha1a1aa1a1a1a.1 hc
              refine ev_seg (σ1 := ((d + 1), 192, 105, [some (.inr (.inr 86)), some (.inl (w32 ((w32 (8 * (U1 86 40))) + (U1 100 (U1 86 40).toNat))))], [.inl (-1), .inl (w32 ((w32 (8 * (U1 86 40))) + (U1 100 (U1 86 40).toNat))), .inr (.inr 101)], (am_sh, am_mm U5))) 1 (fun _ => rfl) ?_
              exact ha1a1aa1a1a1a1
            · have ha1a1aa1a1a1a2 := ha1a1aa1a1a1a.2 hc
              refine ev_seg (σ1 := ((d + 1), 192, 105, [some (.inr (.inr 86)), some (.inl (w32 ((w32 (8 * (U1 86 40))) + (U1 100 (U1 86 40).toNat))))], [.inl 2, .inl (w32 ((w32 (8 * (U1 86 40))) + (U1 100 (U1 86 40).toNat))), .inr (.inr 101)], (am_sh, am_mm U5))) 2 (fun _ => rfl) ?_
              exact ha1a1aa1a1a1a2
          · have ha1a1aa1a1a2 := ha1a1aa1a1a.2 hc
            refine ev_seg (σ1 := ((d + 1), 192, 105, [some (.inr (.inr 86)), some (.inl (w32 ((w32 (8 * (U1 86 40))) + (U1 100 (U1 86 40).toNat))))], [.inl 1, .inl (w32 ((w32 (8 * (U1 86 40))) + (U1 100 (U1 86 40).toNat))), .inr (.inr 101)], (am_sh, am_mm U4))) 2 (fun _ => rfl) ?_
            exact ha1a1aa1a1a2
        · have ha1a1aa1a2 := ha1a1aa1a.2 hc
          refine ev_seg (σ1 := ((d + 1), 192, 105, [some (.inr (.inr 86)), some (.inl (w32 ((w32 (8 * (U1 86 40))) + (U1 100 (U1 86 40).toNat))))], [.inl 0, .inl (w32 ((w32 (8 * (U1 86 40))) + (U1 100 (U1 86 40).toNat))), .inr (.inr 101)], (am_sh, am_mm U3))) 2 (fun _ => rfl) ?_
          exact ha1a1aa1a2
      · have ha1a1aa2 := ha1a1aa.2 hc
        subst ha1a1aa2
        exact ev_end 1 (fun _ => rfl)
    · have ha1a2 := ha1a.2 hc
      subst ha1a2
      exact ev_end 1 (fun _ => rfl)
  · have ha2 := ha.2 hc
    refine ev_seg (σ1 := ((d + 1), 192, 20, [some (.inr (.inr 86)), none], [.inl 1, .inr (.inr 86)], (am_sh, am_mm U))) 2 (fun _ => rfl) ?_
    obtain ⟨r6, U6, ha2c, ha2a⟩ := ha2
    refine ev_cal (σc := (d, 264, 0, [some (.inr (.inr 86)), some (.inl 1)], [], (am_sh, am_mm U))) (fun _ => rfl) ha2c ?_
    show Ev (am_kz N X) ((d + 1), 192, 23, [some (.inr (.inr 86)), none], [.inl r6], (am_sh, am_mm U6)) R
    refine ev_br (P := ¬ r6 = 0) (σ1 := ((d + 1), 192, 27, [some (.inr (.inr 86)), none], [], (am_sh, am_mm U6))) (σ2 := ((d + 1), 192, 26, [some (.inr (.inr 86)), none], [], (am_sh, am_mm U6))) 1 (fun _ => rfl) (fun hc => ?_) (fun hc => ?_)
    · have ha2a1 := ha2a.1 hc
      refine ev_seg (σ1 := ((d + 1), 192, 42, [some (.inr (.inr 86)), none], [.inl (U6 86 40), .inr (.inr 100), .inl (w32 (8 * (U6 86 40)))], (am_sh, am_mm U6))) 8 (fun _ => rfl) ?_
      refine eu_iald 100 (n := 2) rfl (by decide) rfl (fun _ => rfl) ha2a1.1 ?_
      have ha2a1a := ha2a1.2
      refine ev_seg (σ1 := ((d + 1), 192, 46, [some (.inr (.inr 86)), some (.inl (w32 ((w32 (8 * (U6 86 40))) + (U6 100 (U6 86 40).toNat))))], [.inr (.inr 86)], (am_sh, am_mm U6))) 3 (fun _ => rfl) ?_
      obtain ⟨U7, ha2a1ac, ha2a1aa⟩ := ha2a1a
      refine ev_cal (σc := (d, 186, 0, [some (.inr (.inr 86))], [], (am_sh, am_mm U6))) (fun _ => rfl) ha2a1ac ?_
      show Ev (am_kz N X) ((d + 1), 192, 49, [some (.inr (.inr 86)), some (.inl (w32 ((w32 (8 * (U6 86 40))) + (U6 100 (U6 86 40).toNat))))], [], (am_sh, am_mm U7)) R
      refine ev_br (P := (U7 86 8) ≤ 0) (σ1 := ((d + 1), 192, 57, [some (.inr (.inr 86)), some (.inl (w32 ((w32 (8 * (U6 86 40))) + (U6 100 (U6 86 40).toNat))))], [], (am_sh, am_mm U7))) (σ2 := ((d + 1), 192, 56, [some (.inr (.inr 86)), some (.inl (w32 ((w32 (8 * (U6 86 40))) + (U6 100 (U6 86 40).toNat))))], [], (am_sh, am_mm U7))) 3 (fun _ => rfl) (fun hc => ?_) (fun hc => ?_)
      · have ha2a1aa1 := ha2a1aa.1 hc
        refine ev_seg (σ1 := ((d + 1), 192, 66, [some (.inr (.inr 86)), some (.inl (w32 ((w32 (8 * (U6 86 40))) + (U6 100 (U6 86 40).toNat))))], [.inr (.inl 1700881256), .inr (.inr 86), .inl (w32 ((w32 (8 * (U6 86 40))) + (U6 100 (U6 86 40).toNat))), .inr (.inr 101)], (am_sh, am_mm U7))) 5 (fun _ => rfl) ?_
        obtain ⟨r8, U8, ha2a1aa1c, ha2a1aa1a⟩ := ha2a1aa1
        refine ev_cal (σc := (d, 187, 0, [some (.inr (.inr 86)), some (.inr (.inl 1700881256)), none], [], (am_sh, am_mm U7))) (fun _ => rfl) ha2a1aa1c ?_
        show Ev (am_kz N X) ((d + 1), 192, 69, [some (.inr (.inr 86)), some (.inl (w32 ((w32 (8 * (U6 86 40))) + (U6 100 (U6 86 40).toNat))))], [.inl r8, .inl (w32 ((w32 (8 * (U6 86 40))) + (U6 100 (U6 86 40).toNat))), .inr (.inr 101)], (am_sh, am_mm U8)) R
        refine ev_br (P := r8 = 0) (σ1 := ((d + 1), 192, 76, [some (.inr (.inr 86)), some (.inl (w32 ((w32 (8 * (U6 86 40))) + (U6 100 (U6 86 40).toNat))))], [.inl (w32 ((w32 (8 * (U6 86 40))) + (U6 100 (U6 86 40).toNat))), .inr (.inr 101)], (am_sh, am_mm U8))) (σ2 := ((d + 1), 192, 72, [some (.inr (.inr 86)), some (.inl (w32 ((w32 (8 * (U6 86 40))) + (U6 100 (U6 86 40).toNat))))], [.inl (w32 ((w32 (8 * (U6 86 40))) + (U6 100 (U6 86 40).toNat))), .inr (.inr 101)], (am_sh, am_mm U8))) 1 (fun _ => rfl) (fun hc => ?_) (fun hc => ?_)
        · have ha2a1aa1a1 := ha2a1aa1a.1 hc
          refine ev_seg (σ1 := ((d + 1), 192, 80, [some (.inr (.inr 86)), some (.inl (w32 ((w32 (8 * (U6 86 40))) + (U6 100 (U6 86 40).toNat))))], [.inr (.inl 108187867505765), .inr (.inr 86), .inl (w32 ((w32 (8 * (U6 86 40))) + (U6 100 (U6 86 40).toNat))), .inr (.inr 101)], (am_sh, am_mm U8))) 2 (fun _ => rfl) ?_
          obtain ⟨r9, U9, ha2a1aa1a1c, ha2a1aa1a1a⟩ := ha2a1aa1a1
          refine ev_cal (σc := (d, 187, 0, [some (.inr (.inr 86)), some (.inr (.inl 108187867505765)), none], [], (am_sh, am_mm U8))) (fun _ => rfl) ha2a1aa1a1c ?_
          show Ev (am_kz N X) ((d + 1), 192, 83, [some (.inr (.inr 86)), some (.inl (w32 ((w32 (8 * (U6 86 40))) + (U6 100 (U6 86 40).toNat))))], [.inl r9, .inl (w32 ((w32 (8 * (U6 86 40))) + (U6 100 (U6 86 40).toNat))), .inr (.inr 101)], (am_sh, am_mm U9)) R
          refine ev_br (P := r9 = 0) (σ1 := ((d + 1), 192, 90, [some (.inr (.inr 86)), some (.inl (w32 ((w32 (8 * (U6 86 40))) + (U6 100 (U6 86 40).toNat))))], [.inl (w32 ((w32 (8 * (U6 86 40))) + (U6 100 (U6 86 40).toNat))), .inr (.inr 101)], (am_sh, am_mm U9))) (σ2 := ((d + 1), 192, 86, [some (.inr (.inr 86)), some (.inl (w32 ((w32 (8 * (U6 86 40))) + (U6 100 (U6 86 40).toNat))))], [.inl (w32 ((w32 (8 * (U6 86 40))) + (U6 100 (U6 86 40).toNat))), .inr (.inr 101)], (am_sh, am_mm U9))) 1 (fun _ => rfl) (fun hc => ?_) (fun hc => ?_)
          · have ha2a1aa1a1a1 := ha2a1aa1a1a.1 hc
            refine ev_seg (σ1 := ((d + 1), 192, 94, [some (.inr (.inr 86)), some (.inl (w32 ((w32 (8 * (U6 86 40))) + (U6 100 (U6 86 40).toNat))))], [.inr (.inl 131294808271214), .inr (.inr 86), .inl (w32 ((w32 (8 * (U6 86 40))) + (U6 100 (U6 86 40).toNat))), .inr (.inr 101)], (am_sh, am_mm U9))) 2 (fun _ => rfl) ?_
            obtain ⟨r10, U10, ha2a1aa1a1a1c, ha2a1aa1a1a1a⟩ := ha2a1aa1a1a1
            refine ev_cal (σc := (d, 187, 0, [some (.inr (.inr 86)), some (.inr (.inl 131294808271214)), none], [], (am_sh, am_mm U9))) (fun _ => rfl) ha2a1aa1a1a1c ?_
            show Ev (am_kz N X) ((d + 1), 192, 97, [some (.inr (.inr 86)), some (.inl (w32 ((w32 (8 * (U6 86 40))) + (U6 100 (U6 86 40).toNat))))], [.inl r10, .inl (w32 ((w32 (8 * (U6 86 40))) + (U6 100 (U6 86 40).toNat))), .inr (.inr 101)], (am_sh, am_mm U10)) R
            refine ev_br (P := r10 = 0) (σ1 := ((d + 1), 192, 104, [some (.inr (.inr 86)), some (.inl (w32 ((w32 (8 * (U6 86 40))) + (U6 100 (U6 86 40).toNat))))], [.inl (w32 ((w32 (8 * (U6 86 40))) + (U6 100 (U6 86 40).toNat))), .inr (.inr 101)], (am_sh, am_mm U10))) (σ2 := ((d + 1), 192, 100, [some (.inr (.inr 86)), some (.inl (w32 ((w32 (8 * (U6 86 40))) + (U6 100 (U6 86 40).toNat))))], [.inl (w32 ((w32 (8 * (U6 86 40))) + (U6 100 (U6 86 40).toNat))), .inr (.inr 101)], (am_sh, am_mm U10))) 1 (fun _ => rfl) (fun hc => ?_) (fun hc => ?_)
            · have ha2a1aa1a1a1a1 := ha2a1aa1a1a1a.1 hc
              refine ev_seg (σ1 := ((d + 1), 192, 105, [some (.inr (.inr 86)), some (.inl (w32 ((w32 (8 * (U6 86 40))) + (U6 100 (U6 86 40).toNat))))], [.inl (-1), .inl (w32 ((w32 (8 * (U6 86 40))) + (U6 100 (U6 86 40).toNat))), .inr (.inr 101)], (am_sh, am_mm U10))) 1 (fun _ => rfl) ?_
              exact ha2a1aa1a1a1a1
            · have ha2a1aa1a1a1a2 := ha2a1aa1a1a1a.2 hc
              refine ev_seg (σ1 := ((d + 1), 192, 105, [some (.inr (.inr 86)), some (.inl (w32 ((w32 (8 * (U6 86 40))) + (U6 100 (U6 86 40).toNat))))], [.inl 2, .inl (w32 ((w32 (8 * (U6 86 40))) + (U6 100 (U6 86 40).toNat))), .inr (.inr 101)], (am_sh, am_mm U10))) 2 (fun _ => rfl) ?_
              exact ha2a1aa1a1a1a2
          · have ha2a1aa1a1a2 := ha2a1aa1a1a.2 hc
            refine ev_seg (σ1 := ((d + 1), 192, 105, [some (.inr (.inr 86)), some (.inl (w32 ((w32 (8 * (U6 86 40))) + (U6 100 (U6 86 40).toNat))))], [.inl 1, .inl (w32 ((w32 (8 * (U6 86 40))) + (U6 100 (U6 86 40).toNat))), .inr (.inr 101)], (am_sh, am_mm U9))) 2 (fun _ => rfl) ?_
            exact ha2a1aa1a1a2
        · have ha2a1aa1a2 := ha2a1aa1a.2 hc
          refine ev_seg (σ1 := ((d + 1), 192, 105, [some (.inr (.inr 86)), some (.inl (w32 ((w32 (8 * (U6 86 40))) + (U6 100 (U6 86 40).toNat))))], [.inl 0, .inl (w32 ((w32 (8 * (U6 86 40))) + (U6 100 (U6 86 40).toNat))), .inr (.inr 101)], (am_sh, am_mm U8))) 2 (fun _ => rfl) ?_
          exact ha2a1aa1a2
      · have ha2a1aa2 := ha2a1aa.2 hc
        subst ha2a1aa2
        exact ev_end 1 (fun _ => rfl)
    · have ha2a2 := ha2a.2 hc
      subst ha2a2
      exact ev_end 1 (fun _ => rfl)
set_option maxRecDepth 8000 in
theorem st192_86_105 (N : Nat) (X : Nat → Int) (d : Nat) (x1 s1 s2 : Int) (U : Nat → Nat → Int) (R : Option am_V × am_M) (h : (0 ≤ s1 ∧ s1 < 16) ∧ (0 ≤ x1 ∧ x1 < 16) ∧ (((¬ ((am_upd U 101 s1.toNat s2) 101 x1.toNat) = (-1) : Prop)) → (((((am_upd U 101 s1.toNat s2) 86 8) ≤ 0 : Prop)) → ∃ U1 : Nat → Nat → Int, Ev (am_kz N X) (d, 93, 0, [some (.inr (.inr 86)), none, none, none, none, none], [], (am_sh, am_mm (am_upd U 101 s1.toNat s2))) (none, (am_sh, am_mm U1)) ∧ (0 ≤ x1 ∧ x1 < 16) ∧ ∃ U2 : Nat → Nat → Int, Ev (am_kz N X) (d, 271, 0, [some (.inr (.inr 86)), some (.inl 1), none], [], (am_sh, am_mm (am_upd U1 102 x1.toNat (U1 86 39)))) (none, (am_sh, am_mm U2)) ∧ (0 ≤ x1 ∧ x1 < 16) ∧ (((¬ ((am_upd U2 103 x1.toNat (U2 86 39)) 86 8) = 0 : Prop)) → R = (none, (am_sh, am_mm (am_upd U2 103 x1.toNat (U2 86 39))))) ∧ (¬ (¬ ((am_upd U2 103 x1.toNat (U2 86 39)) 86 8) = 0) → (0 ≤ ((am_upd U2 103 x1.toNat (U2 86 39)) 86 40) ∧ ((am_upd U2 103 x1.toNat (U2 86 39)) 86 40) < 2) ∧ (0 ≤ ((am_upd U2 103 x1.toNat (U2 86 39)) 86 40) ∧ ((am_upd U2 103 x1.toNat (U2 86 39)) 86 40) < 2) ∧ R = (none, (am_sh, am_mm (am_upd (am_upd U2 103 x1.toNat (U2 86 39)) 100 ((am_upd U2 103 x1.toNat (U2 86 39)) 86 40).toNat (w32 (((am_upd U2 103 x1.toNat (U2 86 39)) 100 ((am_upd U2 103 x1.toNat (U2 86 39)) 86 40).toNat) + 1))))))) ∧ (¬ (((am_upd U 101 s1.toNat s2) 86 8) ≤ 0) → R = (none, (am_sh, am_mm (am_upd U 101 s1.toNat s2))))) ∧ (¬ (¬ ((am_upd U 101 s1.toNat s2) 101 x1.toNat) = (-1)) → ∃ U3 : Nat → Nat → Int, Ev (am_kz N X) (d, 196, 0, [some (.inr (.inr 86)), some (.inl 1), some (.inl ((am_upd U 101 s1.toNat s2) 86 4))], [], (am_sh, am_mm (am_upd U 101 s1.toNat s2))) (none, (am_sh, am_mm U3)) ∧ ((((U3 86 8) ≤ 0 : Prop)) → ∃ U4 : Nat → Nat → Int, Ev (am_kz N X) (d, 93, 0, [some (.inr (.inr 86)), none, none, none, none, none], [], (am_sh, am_mm U3)) (none, (am_sh, am_mm U4)) ∧ (0 ≤ x1 ∧ x1 < 16) ∧ ∃ U5 : Nat → Nat → Int, Ev (am_kz N X) (d, 271, 0, [some (.inr (.inr 86)), some (.inl 1), none], [], (am_sh, am_mm (am_upd U4 102 x1.toNat (U4 86 39)))) (none, (am_sh, am_mm U5)) ∧ (0 ≤ x1 ∧ x1 < 16) ∧ (((¬ ((am_upd U5 103 x1.toNat (U5 86 39)) 86 8) = 0 : Prop)) → R = (none, (am_sh, am_mm (am_upd U5 103 x1.toNat (U5 86 39))))) ∧ (¬ (¬ ((am_upd U5 103 x1.toNat (U5 86 39)) 86 8) = 0) → (0 ≤ ((am_upd U5 103 x1.toNat (U5 86 39)) 86 40) ∧ ((am_upd U5 103 x1.toNat (U5 86 39)) 86 40) < 2) ∧ (0 ≤ ((am_upd U5 103 x1.toNat (U5 86 39)) 86 40) ∧ ((am_upd U5 103 x1.toNat (U5 86 39)) 86 40) < 2) ∧ R = (none, (am_sh, am_mm (am_upd (am_upd U5 103 x1.toNat (U5 86 39)) 100 ((am_upd U5 103 x1.toNat (U5 86 39)) 86 40).toNat (w32 (((am_upd U5 103 x1.toNat (U5 86 39)) 100 ((am_upd U5 103 x1.toNat (U5 86 39)) 86 40).toNat) + 1))))))) ∧ (¬ ((U3 86 8) ≤ 0) → R = (none, (am_sh, am_mm U3))))) : Ev (am_kz N X) ((d + 1), 192, 105, [some (.inr (.inr 86)), some (.inl x1)], [.inl s2, .inl s1, .inr (.inr 101)], (am_sh, am_mm U)) R := by
  refine eu_iast 101 (n := 16) rfl (by decide) rfl (fun _ => rfl) h.1 ?_
  have ha := h.2
  refine ev_seg (σ1 := ((d + 1), 192, 111, [some (.inr (.inr 86)), some (.inl x1)], [.inl x1, .inr (.inr 101)], (am_sh, am_mm (am_upd U 101 s1.toNat s2)))) 3 (fun _ => rfl) ?_
  refine eu_iald 101 (n := 16) rfl (by decide) rfl (fun _ => rfl) ha.1 ?_
  have haa := ha.2
  refine ev_br (P := ¬ ((am_upd U 101 s1.toNat s2) 101 x1.toNat) = (-1)) (σ1 := ((d + 1), 192, 125, [some (.inr (.inr 86)), some (.inl x1)], [], (am_sh, am_mm (am_upd U 101 s1.toNat s2)))) (σ2 := ((d + 1), 192, 116, [some (.inr (.inr 86)), some (.inl x1)], [], (am_sh, am_mm (am_upd U 101 s1.toNat s2)))) 2 (fun _ => rfl) (fun hc => ?_) (fun hc => ?_)
  · have haa1 := haa.1 hc
    refine ev_br (P := ((am_upd U 101 s1.toNat s2) 86 8) ≤ 0) (σ1 := ((d + 1), 192, 133, [some (.inr (.inr 86)), some (.inl x1)], [], (am_sh, am_mm (am_upd U 101 s1.toNat s2)))) (σ2 := ((d + 1), 192, 132, [some (.inr (.inr 86)), some (.inl x1)], [], (am_sh, am_mm (am_upd U 101 s1.toNat s2)))) 3 (fun _ => rfl) (fun hc => ?_) (fun hc => ?_)
    · have haa11 := haa1.1 hc
      refine ev_seg (σ1 := ((d + 1), 192, 134, [some (.inr (.inr 86)), some (.inl x1)], [.inr (.inr 86)], (am_sh, am_mm (am_upd U 101 s1.toNat s2)))) 1 (fun _ => rfl) ?_
      obtain ⟨U1, haa11c, haa11a⟩ := haa11
      refine ev_cal (σc := (d, 93, 0, [some (.inr (.inr 86)), none, none, none, none, none], [], (am_sh, am_mm (am_upd U 101 s1.toNat s2)))) (fun _ => rfl) haa11c ?_
      show Ev (am_kz N X) ((d + 1), 192, 137, [some (.inr (.inr 86)), some (.inl x1)], [], (am_sh, am_mm U1)) R
      refine ev_seg (σ1 := ((d + 1), 192, 146, [some (.inr (.inr 86)), some (.inl x1)], [.inl (U1 86 39), .inl x1, .inr (.inr 102)], (am_sh, am_mm U1))) 5 (fun _ => rfl) ?_
      refine eu_iast 102 (n := 16) rfl (by decide) rfl (fun _ => rfl) haa11a.1 ?_
      have haa11aa := haa11a.2
      refine ev_seg (σ1 := ((d + 1), 192, 149, [some (.inr (.inr 86)), some (.inl x1)], [.inl 1, .inr (.inr 86)], (am_sh, am_mm (am_upd U1 102 x1.toNat (U1 86 39))))) 2 (fun _ => rfl) ?_
      obtain ⟨U2, haa11aac, haa11aaa⟩ := haa11aa
      refine ev_cal (σc := (d, 271, 0, [some (.inr (.inr 86)), some (.inl 1), none], [], (am_sh, am_mm (am_upd U1 102 x1.toNat (U1 86 39))))) (fun _ => rfl) haa11aac ?_
      show Ev (am_kz N X) ((d + 1), 192, 152, [some (.inr (.inr 86)), some (.inl x1)], [], (am_sh, am_mm U2)) R
      refine ev_seg (σ1 := ((d + 1), 192, 161, [some (.inr (.inr 86)), some (.inl x1)], [.inl (U2 86 39), .inl x1, .inr (.inr 103)], (am_sh, am_mm U2))) 5 (fun _ => rfl) ?_
      refine eu_iast 103 (n := 16) rfl (by decide) rfl (fun _ => rfl) haa11aaa.1 ?_
      have haa11aaaa := haa11aaa.2
      refine ev_br (P := ¬ ((am_upd U2 103 x1.toNat (U2 86 39)) 86 8) = 0) (σ1 := ((d + 1), 192, 182, [some (.inr (.inr 86)), some (.inl x1)], [], (am_sh, am_mm (am_upd U2 103 x1.toNat (U2 86 39))))) (σ2 := ((d + 1), 192, 169, [some (.inr (.inr 86)), some (.inl x1)], [], (am_sh, am_mm (am_upd U2 103 x1.toNat (U2 86 39))))) 3 (fun _ => rfl) (fun hc => ?_) (fun hc => ?_)
      · have haa11aaaa1 := haa11aaaa.1 hc
        subst haa11aaaa1
        exact ev_end 1 (fun _ => rfl)
      · have haa11aaaa2 := haa11aaaa.2 hc
        refine ev_seg (σ1 := ((d + 1), 192, 178, [some (.inr (.inr 86)), some (.inl x1)], [.inl ((am_upd U2 103 x1.toNat (U2 86 39)) 86 40), .inr (.inr 100), .inl ((am_upd U2 103 x1.toNat (U2 86 39)) 86 40), .inr (.inr 100)], (am_sh, am_mm (am_upd U2 103 x1.toNat (U2 86 39))))) 5 (fun _ => rfl) ?_
        refine eu_iald 100 (n := 2) rfl (by decide) rfl (fun _ => rfl) haa11aaaa2.1 ?_
        have haa11aaaa2a := haa11aaaa2.2
        refine ev_seg (σ1 := ((d + 1), 192, 181, [some (.inr (.inr 86)), some (.inl x1)], [.inl (w32 (((am_upd U2 103 x1.toNat (U2 86 39)) 100 ((am_upd U2 103 x1.toNat (U2 86 39)) 86 40).toNat) + 1)), .inl ((am_upd U2 103 x1.toNat (U2 86 39)) 86 40), .inr (.inr 100)], (am_sh, am_mm (am_upd U2 103 x1.toNat (U2 86 39))))) 2 (fun _ => rfl) ?_
        refine eu_iast 100 (n := 2) rfl (by decide) rfl (fun _ => rfl) haa11aaaa2a.1 ?_
        have haa11aaaa2aa := haa11aaaa2a.2
        subst haa11aaaa2aa
        exact ev_end 1 (fun _ => rfl)
    · have haa12 := haa1.2 hc
      subst haa12
      exact ev_end 1 (fun _ => rfl)
  · have haa2 := haa.2 hc
    refine ev_seg (σ1 := ((d + 1), 192, 122, [some (.inr (.inr 86)), some (.inl x1)], [.inl ((am_upd U 101 s1.toNat s2) 86 4), .inl 1, .inr (.inr 86)], (am_sh, am_mm (am_upd U 101 s1.toNat s2)))) 4 (fun _ => rfl) ?_
    obtain ⟨U3, haa2c, haa2a⟩ := haa2
    refine ev_cal (σc := (d, 196, 0, [some (.inr (.inr 86)), some (.inl 1), some (.inl ((am_upd U 101 s1.toNat s2) 86 4))], [], (am_sh, am_mm (am_upd U 101 s1.toNat s2)))) (fun _ => rfl) haa2c ?_
    show Ev (am_kz N X) ((d + 1), 192, 125, [some (.inr (.inr 86)), some (.inl x1)], [], (am_sh, am_mm U3)) R
    refine ev_br (P := (U3 86 8) ≤ 0) (σ1 := ((d + 1), 192, 133, [some (.inr (.inr 86)), some (.inl x1)], [], (am_sh, am_mm U3))) (σ2 := ((d + 1), 192, 132, [some (.inr (.inr 86)), some (.inl x1)], [], (am_sh, am_mm U3))) 3 (fun _ => rfl) (fun hc => ?_) (fun hc => ?_)
    · have haa2a1 := haa2a.1 hc
      refine ev_seg (σ1 := ((d + 1), 192, 134, [some (.inr (.inr 86)), some (.inl x1)], [.inr (.inr 86)], (am_sh, am_mm U3))) 1 (fun _ => rfl) ?_
      obtain ⟨U4, haa2a1c, haa2a1a⟩ := haa2a1
      refine ev_cal (σc := (d, 93, 0, [some (.inr (.inr 86)), none, none, none, none, none], [], (am_sh, am_mm U3))) (fun _ => rfl) haa2a1c ?_
      show Ev (am_kz N X) ((d + 1), 192, 137, [some (.inr (.inr 86)), some (.inl x1)], [], (am_sh, am_mm U4)) R
      refine ev_seg (σ1 := ((d + 1), 192, 146, [some (.inr (.inr 86)), some (.inl x1)], [.inl (U4 86 39), .inl x1, .inr (.inr 102)], (am_sh, am_mm U4))) 5 (fun _ => rfl) ?_
      refine eu_iast 102 (n := 16) rfl (by decide) rfl (fun _ => rfl) haa2a1a.1 ?_
      have haa2a1aa := haa2a1a.2
      refine ev_seg (σ1 := ((d + 1), 192, 149, [some (.inr (.inr 86)), some (.inl x1)], [.inl 1, .inr (.inr 86)], (am_sh, am_mm (am_upd U4 102 x1.toNat (U4 86 39))))) 2 (fun _ => rfl) ?_
      obtain ⟨U5, haa2a1aac, haa2a1aaa⟩ := haa2a1aa
      refine ev_cal (σc := (d, 271, 0, [some (.inr (.inr 86)), some (.inl 1), none], [], (am_sh, am_mm (am_upd U4 102 x1.toNat (U4 86 39))))) (fun _ => rfl) haa2a1aac ?_
      show Ev (am_kz N X) ((d + 1), 192, 152, [some (.inr (.inr 86)), some (.inl x1)], [], (am_sh, am_mm U5)) R
      refine ev_seg (σ1 := ((d + 1), 192, 161, [some (.inr (.inr 86)), some (.inl x1)], [.inl (U5 86 39), .inl x1, .inr (.inr 103)], (am_sh, am_mm U5))) 5 (fun _ => rfl) ?_
      refine eu_iast 103 (n := 16) rfl (by decide) rfl (fun _ => rfl) haa2a1aaa.1 ?_
      have haa2a1aaaa := haa2a1aaa.2
      refine ev_br (P := ¬ ((am_upd U5 103 x1.toNat (U5 86 39)) 86 8) = 0) (σ1 := ((d + 1), 192, 182, [some (.inr (.inr 86)), some (.inl x1)], [], (am_sh, am_mm (am_upd U5 103 x1.toNat (U5 86 39))))) (σ2 := ((d + 1), 192, 169, [some (.inr (.inr 86)), some (.inl x1)], [], (am_sh, am_mm (am_upd U5 103 x1.toNat (U5 86 39))))) 3 (fun _ => rfl) (fun hc => ?_) (fun hc => ?_)
      · have haa2a1aaaa1 := haa2a1aaaa.1 hc
        subst haa2a1aaaa1
        exact ev_end 1 (fun _ => rfl)
      · have haa2a1aaaa2 := haa2a1aaaa.2 hc
        refine ev_seg (σ1 := ((d + 1), 192, 178, [some (.inr (.inr 86)), some (.inl x1)], [.inl ((am_upd U5 103 x1.toNat (U5 86 39)) 86 40), .inr (.inr 100), .inl ((am_upd U5 103 x1.toNat (U5 86 39)) 86 40), .inr (.inr 100)], (am_sh, am_mm (am_upd U5 103 x1.toNat (U5 86 39))))) 5 (fun _ => rfl) ?_
        refine eu_iald 100 (n := 2) rfl (by decide) rfl (fun _ => rfl) haa2a1aaaa2.1 ?_
        have haa2a1aaaa2a := haa2a1aaaa2.2
        refine ev_seg (σ1 := ((d + 1), 192, 181, [some (.inr (.inr 86)), some (.inl x1)], [.inl (w32 (((am_upd U5 103 x1.toNat (U5 86 39)) 100 ((am_upd U5 103 x1.toNat (U5 86 39)) 86 40).toNat) + 1)), .inl ((am_upd U5 103 x1.toNat (U5 86 39)) 86 40), .inr (.inr 100)], (am_sh, am_mm (am_upd U5 103 x1.toNat (U5 86 39))))) 2 (fun _ => rfl) ?_
        refine eu_iast 100 (n := 2) rfl (by decide) rfl (fun _ => rfl) haa2a1aaaa2a.1 ?_
        have haa2a1aaaa2aa := haa2a1aaaa2a.2
        subst haa2a1aaaa2aa
        exact ev_end 1 (fun _ => rfl)
    · have haa2a2 := haa2a.2 hc
      subst haa2a2
      exact ev_end 1 (fun _ => rfl)
set_option maxRecDepth 8000 in
theorem st195_86_0 (N : Nat) (X : Nat → Int) (d : Nat) (U : Nat → Nat → Int) (R : Option am_V × am_M) (h : ∃ (r1 : Int) (U1 : Nat → Nat → Int), Ev (am_kz N X) (d, 264, 0, [some (.inr (.inr 86)), some (.inl 0)], [], (am_sh, am_mm U)) (some (.inl r1), (am_sh, am_mm U1)) ∧ (((¬ r1 = 0 : Prop)) → ∃ (r2 : Int) (U2 : Nat → Nat → Int), Ev (am_kz N X) (d, 268, 0, [some (.inr (.inr 86)), some (.inl 0), some (.inl 100), none], [], (am_sh, am_mm U1)) (some (.inl r2), (am_sh, am_mm U2)) ∧ (((¬ (U2 86 8) = 0 : Prop)) → R = (none, (am_sh, am_mm U2))) ∧ (¬ (¬ (U2 86 8) = 0) → (0 ≤ (U2 86 40) ∧ (U2 86 40) < 2) ∧ R = (none, (am_sh, am_mm (am_upd U2 110 (U2 86 40).toNat r2))))) ∧ (¬ (¬ r1 = 0) → R = (none, (am_sh, am_mm U1)))) : Ev (am_kz N X) ((d + 1), 195, 0, [some (.inr (.inr 86)), none], [], (am_sh, am_mm U)) R := by
  refine ev_seg (σ1 := ((d + 1), 195, 2, [some (.inr (.inr 86)), none], [.inl 0, .inr (.inr 86)], (am_sh, am_mm U))) 2 (fun _ => rfl) ?_
  obtain ⟨r1, U1, hc, ha⟩ := h
  refine ev_cal (σc := (d, 264, 0, [some (.inr (.inr 86)), some (.inl 0)], [], (am_sh, am_mm U))) (fun _ => rfl) hc ?_
  show Ev (am_kz N X) ((d + 1), 195, 5, [some (.inr (.inr 86)), none], [.inl r1], (am_sh, am_mm U1)) R
  refine ev_br (P := ¬ r1 = 0) (σ1 := ((d + 1), 195, 9, [some (.inr (.inr 86)), none], [], (am_sh, am_mm U1))) (σ2 := ((d + 1), 195, 8, [some (.inr (.inr 86)), none], [], (am_sh, am_mm U1))) 1 (fun _ => rfl) (fun hc => ?_) (fun hc => ?_)
  · have ha1 := ha.1 hc
    refine ev_seg (σ1 := ((d + 1), 195, 13, [some (.inr (.inr 86)), none], [.inl 100, .inl 0, .inr (.inr 86)], (am_sh, am_mm U1))) 3 (fun _ => rfl) ?_
    obtain ⟨r2, U2, ha1c, ha1a⟩ := ha1
    refine ev_cal (σc := (d, 268, 0, [some (.inr (.inr 86)), some (.inl 0), some (.inl 100), none], [], (am_sh, am_mm U1))) (fun _ => rfl) ha1c ?_
    show Ev (am_kz N X) ((d + 1), 195, 16, [some (.inr (.inr 86)), none], [.inl r2], (am_sh, am_mm U2)) R
    refine ev_br (P := ¬ (U2 86 8) = 0) (σ1 := ((d + 1), 195, 34, [some (.inr (.inr 86)), some (.inl r2)], [], (am_sh, am_mm U2))) (σ2 := ((d + 1), 195, 24, [some (.inr (.inr 86)), some (.inl r2)], [], (am_sh, am_mm U2))) 4 (fun _ => rfl) (fun hc => ?_) (fun hc => ?_)
    · have ha1a1 := ha1a.1 hc
      subst ha1a1
      exact ev_end 1 (fun _ => rfl)
    · have ha1a2 := ha1a.2 hc
      refine ev_seg (σ1 := ((d + 1), 195, 33, [some (.inr (.inr 86)), some (.inl r2)], [.inl r2, .inl (U2 86 40), .inr (.inr 110)], (am_sh, am_mm U2))) 5 (fun _ => rfl) ?_
      refine eu_iast 110 (n := 2) rfl (by decide) rfl (fun _ => rfl) ha1a2.1 ?_
      have ha1a2a := ha1a2.2
      subst ha1a2a
      exact ev_end 1 (fun _ => rfl)
  · have ha2 := ha.2 hc
    subst ha2
    exact ev_end 1 (fun _ => rfl)
set_option maxRecDepth 8000 in
theorem st196_86_0 (N : Nat) (X : Nat → Int) (d : Nat) (x1 x2 : Int) (U : Nat → Nat → Int) (R : Option am_V × am_M) (h : ((((U 86 8) ≤ 0 : Prop)) → R = (none, (am_sh, am_mm (am_upd (am_upd U 86 8 x1) 86 9 x2)))) ∧ (¬ ((U 86 8) ≤ 0) → R = (none, (am_sh, am_mm U)))) : Ev (am_kz N X) (d, 196, 0, [some (.inr (.inr 86)), some (.inl x1), some (.inl x2)], [], (am_sh, am_mm U)) R := by
  refine ev_br (P := (U 86 8) ≤ 0) (σ1 := (d, 196, 8, [some (.inr (.inr 86)), some (.inl x1), some (.inl x2)], [], (am_sh, am_mm U))) (σ2 := (d, 196, 7, [some (.inr (.inr 86)), some (.inl x1), some (.inl x2)], [], (am_sh, am_mm U))) 3 (fun _ => rfl) (fun hc => ?_) (fun hc => ?_)
  · have h1 := h.1 hc
    refine ev_seg (σ1 := (d, 196, 10, [some (.inr (.inr 86)), some (.inl x1), some (.inl x2)], [.inl x1, .inr (.inr 86)], (am_sh, am_mm U))) 2 (fun _ => rfl) ?_
    refine eu_puti 86 (n := 90) rfl (by decide) rfl rfl ?_
    refine ev_seg (σ1 := (d, 196, 15, [some (.inr (.inr 86)), some (.inl x1), some (.inl x2)], [.inl x2, .inr (.inr 86)], (am_sh, am_mm (am_upd U 86 8 x1)))) 2 (fun _ => rfl) ?_
    refine eu_puti 86 (n := 90) rfl (by decide) rfl rfl ?_
    subst h1
    exact ev_end 1 (fun _ => rfl)
  · have h2 := h.2 hc
    subst h2
    exact ev_end 1 (fun _ => rfl)
set_option maxRecDepth 8000 in
theorem st194_86_0 (N : Nat) (X : Nat → Int) (d : Nat) (U : Nat → Nat → Int) (R : Option am_V × am_M) (h : (0 ≤ (U 86 40) ∧ (U 86 40) < 2) ∧ (((¬ (U 106 (U 86 40).toNat) = 16 : Prop)) → ∃ (r1 : Int) (U1 : Nat → Nat → Int), Ev (am_kz N X) (d, 264, 0, [some (.inr (.inr 86)), some (.inl 0)], [], (am_sh, am_mm U)) (some (.inl r1), (am_sh, am_mm U1)) ∧ (((¬ r1 = 0 : Prop)) → (0 ≤ (U1 86 40) ∧ (U1 86 40) < 2) ∧ ∃ (r2 : Int) (U2 : Nat → Nat → Int), Ev (am_kz N X) (d, 267, 0, [some (.inr (.inr 86)), some (.inl 1), none], [], (am_sh, am_mm U1)) (some (.inl r2), (am_sh, am_mm U2)) ∧ (0 ≤ (w32 ((w32 (16 * (U1 86 40))) + (U1 106 (U1 86 40).toNat))) ∧ (w32 ((w32 (16 * (U1 86 40))) + (U1 106 (U1 86 40).toNat))) < 32) ∧ ∃ (r3 : Int) (U3 : Nat → Nat → Int), Ev (am_kz N X) (d, 269, 0, [some (.inr (.inr 86)), some (.inl 1), none], [], (am_sh, am_mm (am_upd U2 107 (w32 ((w32 (16 * (U1 86 40))) + (U1 106 (U1 86 40).toNat))).toNat r2))) (some (.inl r3), (am_sh, am_mm U3)) ∧ (0 ≤ (w32 ((w32 (16 * (U1 86 40))) + (U1 106 (U1 86 40).toNat))) ∧ (w32 ((w32 (16 * (U1 86 40))) + (U1 106 (U1 86 40).toNat))) < 32) ∧ (((¬ ((am_upd U3 108 (w32 ((w32 (16 * (U1 86 40))) + (U1 106 (U1 86 40).toNat))).toNat r3) 86 8) = 0 : Prop)) → (((((am_upd U3 108 (w32 ((w32 (16 * (U1 86 40))) + (U1 106 (U1 86 40).toNat))).toNat r3) 86 8) ≤ 0 : Prop)) → ∃ U4 : Nat → Nat → Int, Ev (am_kz N X) (d, 93, 0, [some (.inr (.inr 86)), none, none, none, none, none], [], (am_sh, am_mm (am_upd U3 108 (w32 ((w32 (16 * (U1 86 40))) + (U1 106 (U1 86 40).toNat))).toNat r3))) (none, (am_sh, am_mm U4)) ∧ ∃ (r5 : Int) (U5 : Nat → Nat → Int), Ev (am_kz N X) (d, 268, 0, [some (.inr (.inr 86)), some (.inl 1), some (.inl 9999), none], [], (am_sh, am_mm U4)) (some (.inl r5), (am_sh, am_mm U5)) ∧ (0 ≤ (w32 ((w32 (16 * (U1 86 40))) + (U1 106 (U1 86 40).toNat))) ∧ (w32 ((w32 (16 * (U1 86 40))) + (U1 106 (U1 86 40).toNat))) < 32) ∧ (((¬ ((am_upd U5 109 (w32 ((w32 (16 * (U1 86 40))) + (U1 106 (U1 86 40).toNat))).toNat r5) 86 8) = 0 : Prop)) → R = (none, (am_sh, am_mm (am_upd U5 109 (w32 ((w32 (16 * (U1 86 40))) + (U1 106 (U1 86 40).toNat))).toNat r5)))) ∧ (¬ (¬ ((am_upd U5 109 (w32 ((w32 (16 * (U1 86 40))) + (U1 106 (U1 86 40).toNat))).toNat r5) 86 8) = 0) → (0 ≤ ((am_upd U5 109 (w32 ((w32 (16 * (U1 86 40))) + (U1 106 (U1 86 40).toNat))).toNat r5) 86 40) ∧ ((am_upd U5 109 (w32 ((w32 (16 * (U1 86 40))) + (U1 106 (U1 86 40).toNat))).toNat r5) 86 40) < 2) ∧ (0 ≤ ((am_upd U5 109 (w32 ((w32 (16 * (U1 86 40))) + (U1 106 (U1 86 40).toNat))).toNat r5) 86 40) ∧ ((am_upd U5 109 (w32 ((w32 (16 * (U1 86 40))) + (U1 106 (U1 86 40).toNat))).toNat r5) 86 40) < 2) ∧ R = (none, (am_sh, am_mm (am_upd (am_upd U5 109 (w32 ((w32 (16 * (U1 86 40))) + (U1 106 (U1 86 40).toNat))).toNat r5) 106 ((am_upd U5 109 (w32 ((w32 (16 * (U1 86 40))) + (U1 106 (U1 86 40).toNat))).toNat r5) 86 40).toNat (w32 (((am_upd U5 109 (w32 ((w32 (16 * (U1 86 40))) + (U1 106 (U1 86 40).toNat))).toNat r5) 106 ((am_upd U5 109 (w32 ((w32 (16 * (U1 86 40))) + (U1 106 (U1 86 40).toNat))).toNat r5) 86 40).toNat) + 1))))))) ∧ (¬ (((am_upd U3 108 (w32 ((w32 (16 * (U1 86 40))) + (U1 106 (U1 86 40).toNat))).toNat r3) 86 8) ≤ 0) → R = (none, (am_sh, am_mm (am_upd U3 108 (w32 ((w32 (16 * (U1 86 40))) + (U1 106 (U1 86 40).toNat))).toNat r3))))) ∧ (¬ (¬ ((am_upd U3 108 (w32 ((w32 (16 * (U1 86 40))) + (U1 106 (U1 86 40).toNat))).toNat r3) 86 8) = 0) → (0 ≤ (w32 ((w32 (16 * (U1 86 40))) + (U1 106 (U1 86 40).toNat))) ∧ (w32 ((w32 (16 * (U1 86 40))) + (U1 106 (U1 86 40).toNat))) < 32) ∧ (0 ≤ (w32 ((w32 (16 * (U1 86 40))) + (U1 106 (U1 86 40).toNat))) ∧ (w32 ((w32 (16 * (U1 86 40))) + (U1 106 (U1 86 40).toNat))) < 32) ∧ (((¬ ((am_upd U3 108 (w32 ((w32 (16 * (U1 86 40))) + (U1 106 (U1 86 40).toNat))).toNat r3) 107 (w32 ((w32 (16 * (U1 86 40))) + (U1 106 (U1 86 40).toNat))).toNat) = ((am_upd U3 108 (w32 ((w32 (16 * (U1 86 40))) + (U1 106 (U1 86 40).toNat))).toNat r3) 108 (w32 ((w32 (16 * (U1 86 40))) + (U1 106 (U1 86 40).toNat))).toNat) : Prop)) → (((((am_upd U3 108 (w32 ((w32 (16 * (U1 86 40))) + (U1 106 (U1 86 40).toNat))).toNat r3) 86 8) ≤ 0 : Prop)) → ∃ U6 : Nat → Nat → Int, Ev (am_kz N X) (d, 93, 0, [some (.inr (.inr 86)), none, none, none, none, none], [], (am_sh, am_mm (am_upd U3 108 (w32 ((w32 (16 * (U1 86 40))) + (U1 106 (U1 86 40).toNat))).toNat r3))) (none, (am_sh, am_mm U6)) ∧ ∃ (r7 : Int) (U7 : Nat → Nat → Int), Ev (am_kz N X) (d, 268, 0, [some (.inr (.inr 86)), some (.inl 1), some (.inl 9999), none], [], (am_sh, am_mm U6)) (some (.inl r7), (am_sh, am_mm U7)) ∧ (0 ≤ (w32 ((w32 (16 * (U1 86 40))) + (U1 106 (U1 86 40).toNat))) ∧ (w32 ((w32 (16 * (U1 86 40))) + (U1 106 (U1 86 40).toNat))) < 32) ∧ (((¬ ((am_upd U7 109 (w32 ((w32 (16 * (U1 86 40))) + (U1 106 (U1 86 40).toNat))).toNat r7) 86 8) = 0 : Prop)) → R = (none, (am_sh, am_mm (am_upd U7 109 (w32 ((w32 (16 * (U1 86 40))) + (U1 106 (U1 86 40).toNat))).toNat r7)))) ∧ (¬ (¬ ((am_upd U7 109 (w32 ((w32 (16 * (U1 86 40))) + (U1 106 (U1 86 40).toNat))).toNat r7) 86 8) = 0) → (0 ≤ ((am_upd U7 109 (w32 ((w32 (16 * (U1 86 40))) + (U1 106 (U1 86 40).toNat))).toNat r7) 86 40) ∧ ((am_upd U7 109 (w32 ((w32 (16 * (U1 86 40))) + (U1 106 (U1 86 40).toNat))).toNat r7) 86 40) < 2) ∧ (0 ≤ ((am_upd U7 109 (w32 ((w32 (16 * (U1 86 40))) + (U1 106 (U1 86 40).toNat))).toNat r7) 86 40) ∧ ((am_upd U7 109 (w32 ((w32 (16 * (U1 86 40))) + (U1 106 (U1 86 40).toNat))).toNat r7) 86 40) < 2) ∧ R = (none, (am_sh, am_mm (am_upd (am_upd U7 109 (w32 ((w32 (16 * (U1 86 40))) + (U1 106 (U1 86 40).toNat))).toNat r7) 106 ((am_upd U7 109 (w32 ((w32 (16 * (U1 86 40))) + (U1 106 (U1 86 40).toNat))).toNat r7) 86 40).toNat (w32 (((am_upd U7 109 (w32 ((w32 (16 * (U1 86 40))) + (U1 106 (U1 86 40).toNat))).toNat r7) 106 ((am_upd U7 109 (w32 ((w32 (16 * (U1 86 40))) + (U1 106 (U1 86 40).toNat))).toNat r7) 86 40).toNat) + 1))))))) ∧ (¬ (((am_upd U3 108 (w32 ((w32 (16 * (U1 86 40))) + (U1 106 (U1 86 40).toNat))).toNat r3) 86 8) ≤ 0) → R = (none, (am_sh, am_mm (am_upd U3 108 (w32 ((w32 (16 * (U1 86 40))) + (U1 106 (U1 86 40).toNat))).toNat r3))))) ∧ (¬ (¬ ((am_upd U3 108 (w32 ((w32 (16 * (U1 86 40))) + (U1 106 (U1 86 40).toNat))).toNat r3) 107 (w32 ((w32 (16 * (U1 86 40))) + (U1 106 (U1 86 40).toNat))).toNat) = ((am_upd U3 108 (w32 ((w32 (16 * (U1 86 40))) + (U1 106 (U1 86 40).toNat))).toNat r3) 108 (w32 ((w32 (16 * (U1 86 40))) + (U1 106 (U1 86 40).toNat))).toNat)) → ∃ U8 : Nat → Nat → Int, Ev (am_kz N X) (d, 196, 0, [some (.inr (.inr 86)), some (.inl 3), some (.inl ((am_upd U3 108 (w32 ((w32 (16 * (U1 86 40))) + (U1 106 (U1 86 40).toNat))).toNat r3) 86 4))], [], (am_sh, am_mm (am_upd U3 108 (w32 ((w32 (16 * (U1 86 40))) + (U1 106 (U1 86 40).toNat))).toNat r3))) (none, (am_sh, am_mm U8)) ∧ ((((U8 86 8) ≤ 0 : Prop)) → ∃ U9 : Nat → Nat → Int, Ev (am_kz N X) (d, 93, 0, [some (.inr (.inr 86)), none, none, none, none, none], [], (am_sh, am_mm U8)) (none, (am_sh, am_mm U9)) ∧ ∃ (r10 : Int) (U10 : Nat → Nat → Int), Ev (am_kz N X) (d, 268, 0, [some (.inr (.inr 86)), some (.inl 1), some (.inl 9999), none], [], (am_sh, am_mm U9)) (some (.inl r10), (am_sh, am_mm U10)) ∧ (0 ≤ (w32 ((w32 (16 * (U1 86 40))) + (U1 106 (U1 86 40).toNat))) ∧ (w32 ((w32 (16 * (U1 86 40))) + (U1 106 (U1 86 40).toNat))) < 32) ∧ (((¬ ((am_upd U10 109 (w32 ((w32 (16 * (U1 86 40))) + (U1 106 (U1 86 40).toNat))).toNat r10) 86 8) = 0 : Prop)) → R = (none, (am_sh, am_mm (am_upd U10 109 (w32 ((w32 (16 * (U1 86 40))) + (U1 106 (U1 86 40).toNat))).toNat r10)))) ∧ (¬ (¬ ((am_upd U10 109 (w32 ((w32 (16 * (U1 86 40))) + (U1 106 (U1 86 40).toNat))).toNat r10) 86 8) = 0) → (0 ≤ ((am_upd U10 109 (w32 ((w32 (16 * (U1 86 40))) + (U1 106 (U1 86 40).toNat))).toNat r10) 86 40) ∧ ((am_upd U10 109 (w32 ((w32 (16 * (U1 86 40))) + (U1 106 (U1 86 40).toNat))).toNat r10) 86 40) < 2) ∧ (0 ≤ ((am_upd U10 109 (w32 ((w32 (16 * (U1 86 40))) + (U1 106 (U1 86 40).toNat))).toNat r10) 86 40) ∧ ((am_upd U10 109 (w32 ((w32 (16 * (U1 86 40))) + (U1 106 (U1 86 40).toNat))).toNat r10) 86 40) < 2) ∧ R = (none, (am_sh, am_mm (am_upd (am_upd U10 109 (w32 ((w32 (16 * (U1 86 40))) + (U1 106 (U1 86 40).toNat))).toNat r10) 106 ((am_upd U10 109 (w32 ((w32 (16 * (U1 86 40))) + (U1 106 (U1 86 40).toNat))).toNat r10) 86 40).toNat (w32 (((am_upd U10 109 (w32 ((w32 (16 * (U1 86 40))) + (U1 106 (U1 86 40).toNat))).toNat r10) 106 ((am_upd U10 109 (w32 ((w32 (16 * (U1 86 40))) + (U1 106 (U1 86 40).toNat))).toNat r10) 86 40).toNat) + 1))))))) ∧ (¬ ((U8 86 8) ≤ 0) → R = (none, (am_sh, am_mm U8)))))) ∧ (¬ (¬ r1 = 0) → R = (none, (am_sh, am_mm U1)))) ∧ (¬ (¬ (U 106 (U 86 40).toNat) = 16) → ∃ (r11 : Int) (U11 : Nat → Nat → Int), Ev (am_kz N X) (d, 264, 0, [some (.inr (.inr 86)), some (.inl 1)], [], (am_sh, am_mm U)) (some (.inl r11), (am_sh, am_mm U11)) ∧ (((¬ r11 = 0 : Prop)) → (0 ≤ (U11 86 40) ∧ (U11 86 40) < 2) ∧ ∃ (r12 : Int) (U12 : Nat → Nat → Int), Ev (am_kz N X) (d, 267, 0, [some (.inr (.inr 86)), some (.inl 1), none], [], (am_sh, am_mm U11)) (some (.inl r12), (am_sh, am_mm U12)) ∧ (0 ≤ (w32 ((w32 (16 * (U11 86 40))) + (U11 106 (U11 86 40).toNat))) ∧ (w32 ((w32 (16 * (U11 86 40))) + (U11 106 (U11 86 40).toNat))) < 32) ∧ ∃ (r13 : Int) (U13 : Nat → Nat → Int), Ev (am_kz N X) (d, 269, 0, [some (.inr (.inr 86)), some (.inl 1), none], [], (am_sh, am_mm (am_upd U12 107 (w32 ((w32 (16 * (U11 86 40))) + (U11 106 (U11 86 40).toNat))).toNat r12))) (some (.inl r13), (am_sh, am_mm U13)) ∧ (0 ≤ (w32 ((w32 (16 * (U11 86 40))) + (U11 106 (U11 86 40).toNat))) ∧ (w32 ((w32 (16 * (U11 86 40))) + (U11 106 (U11 86 40).toNat))) < 32) ∧ (((¬ ((am_upd U13 108 (w32 ((w32 (16 * (U11 86 40))) + (U11 106 (U11 86 40).toNat))).toNat r13) 86 8) = 0 : Prop)) → (((((am_upd U13 108 (w32 ((w32 (16 * (U11 86 40))) + (U11 106 (U11 86 40).toNat))).toNat r13) 86 8) ≤ 0 : Prop)) → ∃ U14 : Nat → Nat → Int, Ev (am_kz N X) (d, 93, 0, [some (.inr (.inr 86)), none, none, none, none, none], [], (am_sh, am_mm (am_upd U13 108 (w32 ((w32 (16 * (U11 86 40))) + (U11 106 (U11 86 40).toNat))).toNat r13))) (none, (am_sh, am_mm U14)) ∧ ∃ (r15 : Int) (U15 : Nat → Nat → Int), Ev (am_kz N X) (d, 268, 0, [some (.inr (.inr 86)), some (.inl 1), some (.inl 9999), none], [], (am_sh, am_mm U14)) (some (.inl r15), (am_sh, am_mm U15)) ∧ (0 ≤ (w32 ((w32 (16 * (U11 86 40))) + (U11 106 (U11 86 40).toNat))) ∧ (w32 ((w32 (16 * (U11 86 40))) + (U11 106 (U11 86 40).toNat))) < 32) ∧ (((¬ ((am_upd U15 109 (w32 ((w32 (16 * (U11 86 40))) + (U11 106 (U11 86 40).toNat))).toNat r15) 86 8) = 0 : Prop)) → R = (none, (am_sh, am_mm (am_upd U15 109 (w32 ((w32 (16 * (U11 86 40))) + (U11 106 (U11 86 40).toNat))).toNat r15)))) ∧ (¬ (¬ ((am_upd U15 109 (w32 ((w32 (16 * (U11 86 40))) + (U11 106 (U11 86 40).toNat))).toNat r15) 86 8) = 0) → (0 ≤ ((am_upd U15 109 (w32 ((w32 (16 * (U11 86 40))) + (U11 106 (U11 86 40).toNat))).toNat r15) 86 40) ∧ ((am_upd U15 109 (w32 ((w32 (16 * (U11 86 40))) + (U11 106 (U11 86 40).toNat))).toNat r15) 86 40) < 2) ∧ (0 ≤ ((am_upd U15 109 (w32 ((w32 (16 * (U11 86 40))) + (U11 106 (U11 86 40).toNat))).toNat r15) 86 40) ∧ ((am_upd U15 109 (w32 ((w32 (16 * (U11 86 40))) + (U11 106 (U11 86 40).toNat))).toNat r15) 86 40) < 2) ∧ R = (none, (am_sh, am_mm (am_upd (am_upd U15 109 (w32 ((w32 (16 * (U11 86 40))) + (U11 106 (U11 86 40).toNat))).toNat r15) 106 ((am_upd U15 109 (w32 ((w32 (16 * (U11 86 40))) + (U11 106 (U11 86 40).toNat))).toNat r15) 86 40).toNat (w32 (((am_upd U15 109 (w32 ((w32 (16 * (U11 86 40))) + (U11 106 (U11 86 40).toNat))).toNat r15) 106 ((am_upd U15 109 (w32 ((w32 (16 * (U11 86 40))) + (U11 106 (U11 86 40).toNat))).toNat r15) 86 40).toNat) + 1))))))) ∧ (¬ (((am_upd U13 108 (w32 ((w32 (16 * (U11 86 40))) + (U11 106 (U11 86 40).toNat))).toNat r13) 86 8) ≤ 0) → R = (none, (am_sh, am_mm (am_upd U13 108 (w32 ((w32 (16 * (U11 86 40))) + (U11 106 (U11 86 40).toNat))).toNat r13))))) ∧ (¬ (¬ ((am_upd U13 108 (w32 ((w32 (16 * (U11 86 40))) + (U11 106 (U11 86 40).toNat))).toNat r13) 86 8) = 0) → (0 ≤ (w32 ((w32 (16 * (U11 86 40))) + (U11 106 (U11 86 40).toNat))) ∧ (w32 ((w32 (16 * (U11 86 40))) + (U11 106 (U11 86 40).toNat))) < 32) ∧ (0 ≤ (w32 ((w32 (16 * (U11 86 40))) + (U11 106 (U11 86 40).toNat))) ∧ (w32 ((w32 (16 * (U11 86 40))) + (U11 106 (U11 86 40).toNat))) < 32) ∧ (((¬ ((am_upd U13 108 (w32 ((w32 (16 * (U11 86 40))) + (U11 106 (U11 86 40).toNat))).toNat r13) 107 (w32 ((w32 (16 * (U11 86 40))) + (U11 106 (U11 86 40).toNat))).toNat) = ((am_upd U13 108 (w32 ((w32 (16 * (U11 86 40))) + (U11 106 (U11 86 40).toNat))).toNat r13) 108 (w32 ((w32 (16 * (U11 86 40))) + (U11 106 (U11 86 40).toNat))).toNat) : Prop)) → (((((am_upd U13 108 (w32 ((w32 (16 * (U11 86 40))) + (U11 106 (U11 86 40).toNat))).toNat r13) 86 8) ≤ 0 : Prop)) → ∃ U16 : Nat → Nat → Int, Ev (am_kz N X) (d, 93, 0, [some (.inr (.inr 86)), none, none, none, none, none], [], (am_sh, am_mm (am_upd U13 108 (w32 ((w32 (16 * (U11 86 40))) + (U11 106 (U11 86 40).toNat))).toNat r13))) (none, (am_sh, am_mm U16)) ∧ ∃ (r17 : Int) (U17 : Nat → Nat → Int), Ev (am_kz N X) (d, 268, 0, [some (.inr (.inr 86)), some (.inl 1), some (.inl 9999), none], [], (am_sh, am_mm U16)) (some (.inl r17), (am_sh, am_mm U17)) ∧ (0 ≤ (w32 ((w32 (16 * (U11 86 40))) + (U11 106 (U11 86 40).toNat))) ∧ (w32 ((w32 (16 * (U11 86 40))) + (U11 106 (U11 86 40).toNat))) < 32) ∧ (((¬ ((am_upd U17 109 (w32 ((w32 (16 * (U11 86 40))) + (U11 106 (U11 86 40).toNat))).toNat r17) 86 8) = 0 : Prop)) → R = (none, (am_sh, am_mm (am_upd U17 109 (w32 ((w32 (16 * (U11 86 40))) + (U11 106 (U11 86 40).toNat))).toNat r17)))) ∧ (¬ (¬ ((am_upd U17 109 (w32 ((w32 (16 * (U11 86 40))) + (U11 106 (U11 86 40).toNat))).toNat r17) 86 8) = 0) → (0 ≤ ((am_upd U17 109 (w32 ((w32 (16 * (U11 86 40))) + (U11 106 (U11 86 40).toNat))).toNat r17) 86 40) ∧ ((am_upd U17 109 (w32 ((w32 (16 * (U11 86 40))) + (U11 106 (U11 86 40).toNat))).toNat r17) 86 40) < 2) ∧ (0 ≤ ((am_upd U17 109 (w32 ((w32 (16 * (U11 86 40))) + (U11 106 (U11 86 40).toNat))).toNat r17) 86 40) ∧ ((am_upd U17 109 (w32 ((w32 (16 * (U11 86 40))) + (U11 106 (U11 86 40).toNat))).toNat r17) 86 40) < 2) ∧ R = (none, (am_sh, am_mm (am_upd (am_upd U17 109 (w32 ((w32 (16 * (U11 86 40))) + (U11 106 (U11 86 40).toNat))).toNat r17) 106 ((am_upd U17 109 (w32 ((w32 (16 * (U11 86 40))) + (U11 106 (U11 86 40).toNat))).toNat r17) 86 40).toNat (w32 (((am_upd U17 109 (w32 ((w32 (16 * (U11 86 40))) + (U11 106 (U11 86 40).toNat))).toNat r17) 106 ((am_upd U17 109 (w32 ((w32 (16 * (U11 86 40))) + (U11 106 (U11 86 40).toNat))).toNat r17) 86 40).toNat) + 1))))))) ∧ (¬ (((am_upd U13 108 (w32 ((w32 (16 * (U11 86 40))) + (U11 106 (U11 86 40).toNat))).toNat r13) 86 8) ≤ 0) → R = (none, (am_sh, am_mm (am_upd U13 108 (w32 ((w32 (16 * (U11 86 40))) + (U11 106 (U11 86 40).toNat))).toNat r13))))) ∧ (¬ (¬ ((am_upd U13 108 (w32 ((w32 (16 * (U11 86 40))) + (U11 106 (U11 86 40).toNat))).toNat r13) 107 (w32 ((w32 (16 * (U11 86 40))) + (U11 106 (U11 86 40).toNat))).toNat) = ((am_upd U13 108 (w32 ((w32 (16 * (U11 86 40))) + (U11 106 (U11 86 40).toNat))).toNat r13) 108 (w32 ((w32 (16 * (U11 86 40))) + (U11 106 (U11 86 40).toNat))).toNat)) → ∃ U18 : Nat → Nat → Int, Ev (am_kz N X) (d, 196, 0, [some (.inr (.inr 86)), some (.inl 3), some (.inl ((am_upd U13 108 (w32 ((w32 (16 * (U11 86 40))) + (U11 106 (U11 86 40).toNat))).toNat r13) 86 4))], [], (am_sh, am_mm (am_upd U13 108 (w32 ((w32 (16 * (U11 86 40))) + (U11 106 (U11 86 40).toNat))).toNat r13))) (none, (am_sh, am_mm U18)) ∧ ((((U18 86 8) ≤ 0 : Prop)) → ∃ U19 : Nat → Nat → Int, Ev (am_kz N X) (d, 93, 0, [some (.inr (.inr 86)), none, none, none, none, none], [], (am_sh, am_mm U18)) (none, (am_sh, am_mm U19)) ∧ ∃ (r20 : Int) (U20 : Nat → Nat → Int), Ev (am_kz N X) (d, 268, 0, [some (.inr (.inr 86)), some (.inl 1), some (.inl 9999), none], [], (am_sh, am_mm U19)) (some (.inl r20), (am_sh, am_mm U20)) ∧ (0 ≤ (w32 ((w32 (16 * (U11 86 40))) + (U11 106 (U11 86 40).toNat))) ∧ (w32 ((w32 (16 * (U11 86 40))) + (U11 106 (U11 86 40).toNat))) < 32) ∧ (((¬ ((am_upd U20 109 (w32 ((w32 (16 * (U11 86 40))) + (U11 106 (U11 86 40).toNat))).toNat r20) 86 8) = 0 : Prop)) → R = (none, (am_sh, am_mm (am_upd U20 109 (w32 ((w32 (16 * (U11 86 40))) + (U11 106 (U11 86 40).toNat))).toNat r20)))) ∧ (¬ (¬ ((am_upd U20 109 (w32 ((w32 (16 * (U11 86 40))) + (U11 106 (U11 86 40).toNat))).toNat r20) 86 8) = 0) → (0 ≤ ((am_upd U20 109 (w32 ((w32 (16 * (U11 86 40))) + (U11 106 (U11 86 40).toNat))).toNat r20) 86 40) ∧ ((am_upd U20 109 (w32 ((w32 (16 * (U11 86 40))) + (U11 106 (U11 86 40).toNat))).toNat r20) 86 40) < 2) ∧ (0 ≤ ((am_upd U20 109 (w32 ((w32 (16 * (U11 86 40))) + (U11 106 (U11 86 40).toNat))).toNat r20) 86 40) ∧ ((am_upd U20 109 (w32 ((w32 (16 * (U11 86 40))) + (U11 106 (U11 86 40).toNat))).toNat r20) 86 40) < 2) ∧ R = (none, (am_sh, am_mm (am_upd (am_upd U20 109 (w32 ((w32 (16 * (U11 86 40))) + (U11 106 (U11 86 40).toNat))).toNat r20) 106 ((am_upd U20 109 (w32 ((w32 (16 * (U11 86 40))) + (U11 106 (U11 86 40).toNat))).toNat r20) 86 40).toNat (w32 (((am_upd U20 109 (w32 ((w32 (16 * (U11 86 40))) + (U11 106 (U11 86 40).toNat))).toNat r20) 106 ((am_upd U20 109 (w32 ((w32 (16 * (U11 86 40))) + (U11 106 (U11 86 40).toNat))).toNat r20) 86 40).toNat) + 1))))))) ∧ (¬ ((U18 86 8) ≤ 0) → R = (none, (am_sh, am_mm U18)))))) ∧ (¬ (¬ r11 = 0) → R = (none, (am_sh, am_mm U11))))) : Ev (am_kz N X) ((d + 1), 194, 0, [some (.inr (.inr 86)), none], [], (am_sh, am_mm U)) R := by
  refine ev_seg (σ1 := ((d + 1), 194, 9, [some (.inr (.inr 86)), none], [.inl (U 86 40), .inr (.inr 106), .inr (.inr 86)], (am_sh, am_mm U))) 5 (fun _ => rfl) ?_
  refine eu_iald 106 (n := 2) rfl (by decide) rfl (fun _ => rfl) h.1 ?_
  have ha := h.2
  refine ev_br (P := ¬ (U 106 (U 86 40).toNat) = 16) (σ1 := ((d + 1), 194, 19, [some (.inr (.inr 86)), none], [.inr (.inr 86)], (am_sh, am_mm U))) (σ2 := ((d + 1), 194, 15, [some (.inr (.inr 86)), none], [.inr (.inr 86)], (am_sh, am_mm U))) 2 (fun _ => rfl) (fun hc => ?_) (fun hc => ?_)
  · have ha1 := ha.1 hc
    refine ev_seg (σ1 := ((d + 1), 194, 20, [some (.inr (.inr 86)), none], [.inl 0, .inr (.inr 86)], (am_sh, am_mm U))) 1 (fun _ => rfl) ?_
    obtain ⟨r1, U1, ha1c, ha1a⟩ := ha1
    refine ev_cal (σc := (d, 264, 0, [some (.inr (.inr 86)), some (.inl 0)], [], (am_sh, am_mm U))) (fun _ => rfl) ha1c ?_
    show Ev (am_kz N X) ((d + 1), 194, 23, [some (.inr (.inr 86)), none], [.inl r1], (am_sh, am_mm U1)) R
    refine ev_br (P := ¬ r1 = 0) (σ1 := ((d + 1), 194, 27, [some (.inr (.inr 86)), none], [], (am_sh, am_mm U1))) (σ2 := ((d + 1), 194, 26, [some (.inr (.inr 86)), none], [], (am_sh, am_mm U1))) 1 (fun _ => rfl) (fun hc => ?_) (fun hc => ?_)
    · have ha1a1 := ha1a.1 hc
      refine ev_seg (σ1 := ((d + 1), 194, 42, [some (.inr (.inr 86)), none], [.inl (U1 86 40), .inr (.inr 106), .inl (w32 (16 * (U1 86 40)))], (am_sh, am_mm U1))) 8 (fun _ => rfl) ?_
      refine eu_iald 106 (n := 2) rfl (by decide) rfl (fun _ => rfl) ha1a1.1 ?_
      have ha1a1a := ha1a1.2
      refine ev_seg (σ1 := ((d + 1), 194, 52, [some (.inr (.inr 86)), some (.inl (w32 ((w32 (16 * (U1 86 40))) + (U1 106 (U1 86 40).toNat))))], [.inl 1, .inr (.inr 86), .inl (w32 ((w32 (16 * (U1 86 40))) + (U1 106 (U1 86 40).toNat))), .inr (.inr 107)], (am_sh, am_mm U1))) 7 (fun _ => rfl) ?_
      obtain ⟨r2, U2, ha1a1ac, ha1a1aa⟩ := ha1a1a
      refine ev_cal (σc := (d, 267, 0, [some (.inr (.inr 86)), some (.inl 1), none], [], (am_sh, am_mm U1))) (fun _ => rfl) ha1a1ac ?_
      show Ev (am_kz N X) ((d + 1), 194, 55, [some (.inr (.inr 86)), some (.inl (w32 ((w32 (16 * (U1 86 40))) + (U1 106 (U1 86 40).toNat))))], [.inl r2, .inl (w32 ((w32 (16 * (U1 86 40))) + (U1 106 (U1 86 40).toNat))), .inr (.inr 107)], (am_sh, am_mm U2)) R
      refine eu_iast 107 (n := 32) rfl (by decide) rfl (fun _ => rfl) ha1a1aa.1 ?_
      have ha1a1aaa := ha1a1aa.2
      refine ev_seg (σ1 := ((d + 1), 194, 63, [some (.inr (.inr 86)), some (.inl (w32 ((w32 (16 * (U1 86 40))) + (U1 106 (U1 86 40).toNat))))], [.inl 1, .inr (.inr 86), .inl (w32 ((w32 (16 * (U1 86 40))) + (U1 106 (U1 86 40).toNat))), .inr (.inr 108)], (am_sh, am_mm (am_upd U2 107 (w32 ((w32 (16 * (U1 86 40))) + (U1 106 (U1 86 40).toNat))).toNat r2)))) 5 (fun _ => rfl) ?_
      obtain ⟨r3, U3, ha1a1aaac, ha1a1aaaa⟩ := ha1a1aaa
      refine ev_cal (σc := (d, 269, 0, [some (.inr (.inr 86)), some (.inl 1), none], [], (am_sh, am_mm (am_upd U2 107 (w32 ((w32 (16 * (U1 86 40))) + (U1 106 (U1 86 40).toNat))).toNat r2)))) (fun _ => rfl) ha1a1aaac ?_
      show Ev (am_kz N X) ((d + 1), 194, 66, [some (.inr (.inr 86)), some (.inl (w32 ((w32 (16 * (U1 86 40))) + (U1 106 (U1 86 40).toNat))))], [.inl r3, .inl (w32 ((w32 (16 * (U1 86 40))) + (U1 106 (U1 86 40).toNat))), .inr (.inr 108)], (am_sh, am_mm U3)) R
      refine eu_iast 108 (n := 32) rfl (by decide) rfl (fun _ => rfl) ha1a1aaaa.1 ?_
      have ha1a1aaaaa := ha1a1aaaa.2
      refine ev_br (P := ¬ ((am_upd U3 108 (w32 ((w32 (16 * (U1 86 40))) + (U1 106 (U1 86 40).toNat))).toNat r3) 86 8) = 0) (σ1 := ((d + 1), 194, 98, [some (.inr (.inr 86)), some (.inl (w32 ((w32 (16 * (U1 86 40))) + (U1 106 (U1 86 40).toNat))))], [], (am_sh, am_mm (am_upd U3 108 (w32 ((w32 (16 * (U1 86 40))) + (U1 106 (U1 86 40).toNat))).toNat r3)))) (σ2 := ((d + 1), 194, 74, [some (.inr (.inr 86)), some (.inl (w32 ((w32 (16 * (U1 86 40))) + (U1 106 (U1 86 40).toNat))))], [], (am_sh, am_mm (am_upd U3 108 (w32 ((w32 (16 * (U1 86 40))) + (U1 106 (U1 86 40).toNat))).toNat r3)))) 3 (fun _ => rfl) (fun hc => ?_) (fun hc => ?_)
      · have ha1a1aaaaa1 := ha1a1aaaaa.1 hc
        refine ev_br (P := ((am_upd U3 108 (w32 ((w32 (16 * (U1 86 40))) + (U1 106 (U1 86 40).toNat))).toNat r3) 86 8) ≤ 0) (σ1 := ((d + 1), 194, 106, [some (.inr (.inr 86)), some (.inl (w32 ((w32 (16 * (U1 86 40))) + (U1 106 (U1 86 40).toNat))))], [], (am_sh, am_mm (am_upd U3 108 (w32 ((w32 (16 * (U1 86 40))) + (U1 106 (U1 86 40).toNat))).toNat r3)))) (σ2 := ((d + 1), 194, 105, [some (.inr (.inr 86)), some (.inl (w32 ((w32 (16 * (U1 86 40))) + (U1 106 (U1 86 40).toNat))))], [], (am_sh, am_mm (am_upd U3 108 (w32 ((w32 (16 * (U1 86 40))) + (U1 106 (U1 86 40).toNat))).toNat r3)))) 3 (fun _ => rfl) (fun hc => ?_) (fun hc => ?_)
        · have ha1a1aaaaa11 := ha1a1aaaaa1.1 hc
          refine ev_seg (σ1 := ((d + 1), 194, 107, [some (.inr (.inr 86)), some (.inl (w32 ((w32 (16 * (U1 86 40))) + (U1 106 (U1 86 40).toNat))))], [.inr (.inr 86)], (am_sh, am_mm (am_upd U3 108 (w32 ((w32 (16 * (U1 86 40))) + (U1 106 (U1 86 40).toNat))).toNat r3)))) 1 (fun _ => rfl) ?_
          obtain ⟨U4, ha1a1aaaaa11c, ha1a1aaaaa11a⟩ := ha1a1aaaaa11
          refine ev_cal (σc := (d, 93, 0, [some (.inr (.inr 86)), none, none, none, none, none], [], (am_sh, am_mm (am_upd U3 108 (w32 ((w32 (16 * (U1 86 40))) + (U1 106 (U1 86 40).toNat))).toNat r3)))) (fun _ => rfl) ha1a1aaaaa11c ?_
          show Ev (am_kz N X) ((d + 1), 194, 110, [some (.inr (.inr 86)), some (.inl (w32 ((w32 (16 * (U1 86 40))) + (U1 106 (U1 86 40).toNat))))], [], (am_sh, am_mm U4)) R
          refine ev_seg (σ1 := ((d + 1), 194, 120, [some (.inr (.inr 86)), some (.inl (w32 ((w32 (16 * (U1 86 40))) + (U1 106 (U1 86 40).toNat))))], [.inl 9999, .inl 1, .inr (.inr 86), .inl (w32 ((w32 (16 * (U1 86 40))) + (U1 106 (U1 86 40).toNat))), .inr (.inr 109)], (am_sh, am_mm U4))) 6 (fun _ => rfl) ?_
          obtain ⟨r5, U5, ha1a1aaaaa11ac, ha1a1aaaaa11aa⟩ := ha1a1aaaaa11a
          refine ev_cal (σc := (d, 268, 0, [some (.inr (.inr 86)), some (.inl 1), some (.inl 9999), none], [], (am_sh, am_mm U4))) (fun _ => rfl) ha1a1aaaaa11ac ?_
          show Ev (am_kz N X) ((d + 1), 194, 123, [some (.inr (.inr 86)), some (.inl (w32 ((w32 (16 * (U1 86 40))) + (U1 106 (U1 86 40).toNat))))], [.inl r5, .inl (w32 ((w32 (16 * (U1 86 40))) + (U1 106 (U1 86 40).toNat))), .inr (.inr 109)], (am_sh, am_mm U5)) R
          refine eu_iast 109 (n := 32) rfl (by decide) rfl (fun _ => rfl) ha1a1aaaaa11aa.1 ?_
          have ha1a1aaaaa11aaa := ha1a1aaaaa11aa.2
          refine ev_br (P := ¬ ((am_upd U5 109 (w32 ((w32 (16 * (U1 86 40))) + (U1 106 (U1 86 40).toNat))).toNat r5) 86 8) = 0) (σ1 := ((d + 1), 194, 144, [some (.inr (.inr 86)), some (.inl (w32 ((w32 (16 * (U1 86 40))) + (U1 106 (U1 86 40).toNat))))], [], (am_sh, am_mm (am_upd U5 109 (w32 ((w32 (16 * (U1 86 40))) + (U1 106 (U1 86 40).toNat))).toNat r5)))) (σ2 := ((d + 1), 194, 131, [some (.inr (.inr 86)), some (.inl (w32 ((w32 (16 * (U1 86 40))) + (U1 106 (U1 86 40).toNat))))], [], (am_sh, am_mm (am_upd U5 109 (w32 ((w32 (16 * (U1 86 40))) + (U1 106 (U1 86 40).toNat))).toNat r5)))) 3 (fun _ => rfl) (fun hc => ?_) (fun hc => ?_)
          · have ha1a1aaaaa11aaa1 := ha1a1aaaaa11aaa.1 hc
            subst ha1a1aaaaa11aaa1
            exact ev_end 1 (fun _ => rfl)
          · have ha1a1aaaaa11aaa2 := ha1a1aaaaa11aaa.2 hc
            refine ev_seg (σ1 := ((d + 1), 194, 140, [some (.inr (.inr 86)), some (.inl (w32 ((w32 (16 * (U1 86 40))) + (U1 106 (U1 86 40).toNat))))], [.inl ((am_upd U5 109 (w32 ((w32 (16 * (U1 86 40))) + (U1 106 (U1 86 40).toNat))).toNat r5) 86 40), .inr (.inr 106), .inl ((am_upd U5 109 (w32 ((w32 (16 * (U1 86 40))) + (U1 106 (U1 86 40).toNat))).toNat r5) 86 40), .inr (.inr 106)], (am_sh, am_mm (am_upd U5 109 (w32 ((w32 (16 * (U1 86 40))) + (U1 106 (U1 86 40).toNat))).toNat r5)))) 5 (fun _ => rfl) ?_
            refine eu_iald 106 (n := 2) rfl (by decide) rfl (fun _ => rfl) ha1a1aaaaa11aaa2.1 ?_
            have ha1a1aaaaa11aaa2a := ha1a1aaaaa11aaa2.2
            refine ev_seg (σ1 := ((d + 1), 194, 143, [some (.inr (.inr 86)), some (.inl (w32 ((w32 (16 * (U1 86 40))) + (U1 106 (U1 86 40).toNat))))], [.inl (w32 (((am_upd U5 109 (w32 ((w32 (16 * (U1 86 40))) + (U1 106 (U1 86 40).toNat))).toNat r5) 106 ((am_upd U5 109 (w32 ((w32 (16 * (U1 86 40))) + (U1 106 (U1 86 40).toNat))).toNat r5) 86 40).toNat) + 1)), .inl ((am_upd U5 109 (w32 ((w32 (16 * (U1 86 40))) + (U1 106 (U1 86 40).toNat))).toNat r5) 86 40), .inr (.inr 106)], (am_sh, am_mm (am_upd U5 109 (w32 ((w32 (16 * (U1 86 40))) + (U1 106 (U1 86 40).toNat))).toNat r5)))) 2 (fun _ => rfl) ?_
            refine eu_iast 106 (n := 2) rfl (by decide) rfl (fun _ => rfl) ha1a1aaaaa11aaa2a.1 ?_
            have ha1a1aaaaa11aaa2aa := ha1a1aaaaa11aaa2a.2
            subst ha1a1aaaaa11aaa2aa
            exact ev_end 1 (fun _ => rfl)
        · have ha1a1aaaaa12 := ha1a1aaaaa1.2 hc
          subst ha1a1aaaaa12
          exact ev_end 1 (fun _ => rfl)
      · have ha1a1aaaaa2 := ha1a1aaaaa.2 hc
        refine ev_seg (σ1 := ((d + 1), 194, 79, [some (.inr (.inr 86)), some (.inl (w32 ((w32 (16 * (U1 86 40))) + (U1 106 (U1 86 40).toNat))))], [.inl (w32 ((w32 (16 * (U1 86 40))) + (U1 106 (U1 86 40).toNat))), .inr (.inr 107)], (am_sh, am_mm (am_upd U3 108 (w32 ((w32 (16 * (U1 86 40))) + (U1 106 (U1 86 40).toNat))).toNat r3)))) 3 (fun _ => rfl) ?_
        refine eu_iald 107 (n := 32) rfl (by decide) rfl (fun _ => rfl) ha1a1aaaaa2.1 ?_
        have ha1a1aaaaa2a := ha1a1aaaaa2.2
        refine ev_seg (σ1 := ((d + 1), 194, 85, [some (.inr (.inr 86)), some (.inl (w32 ((w32 (16 * (U1 86 40))) + (U1 106 (U1 86 40).toNat))))], [.inl (w32 ((w32 (16 * (U1 86 40))) + (U1 106 (U1 86 40).toNat))), .inr (.inr 108), .inl ((am_upd U3 108 (w32 ((w32 (16 * (U1 86 40))) + (U1 106 (U1 86 40).toNat))).toNat r3) 107 (w32 ((w32 (16 * (U1 86 40))) + (U1 106 (U1 86 40).toNat))).toNat)], (am_sh, am_mm (am_upd U3 108 (w32 ((w32 (16 * (U1 86 40))) + (U1 106 (U1 86 40).toNat))).toNat r3)))) 3 (fun _ => rfl) ?_
        refine eu_iald 108 (n := 32) rfl (by decide) rfl (fun _ => rfl) ha1a1aaaaa2a.1 ?_
        have ha1a1aaaaa2aa := ha1a1aaaaa2a.2
        refine ev_br (P := ¬ ((am_upd U3 108 (w32 ((w32 (16 * (U1 86 40))) + (U1 106 (U1 86 40).toNat))).toNat r3) 107 (w32 ((w32 (16 * (U1 86 40))) + (U1 106 (U1 86 40).toNat))).toNat) = ((am_upd U3 108 (w32 ((w32 (16 * (U1 86 40))) + (U1 106 (U1 86 40).toNat))).toNat r3) 108 (w32 ((w32 (16 * (U1 86 40))) + (U1 106 (U1 86 40).toNat))).toNat)) (σ1 := ((d + 1), 194, 98, [some (.inr (.inr 86)), some (.inl (w32 ((w32 (16 * (U1 86 40))) + (U1 106 (U1 86 40).toNat))))], [], (am_sh, am_mm (am_upd U3 108 (w32 ((w32 (16 * (U1 86 40))) + (U1 106 (U1 86 40).toNat))).toNat r3)))) (σ2 := ((d + 1), 194, 89, [some (.inr (.inr 86)), some (.inl (w32 ((w32 (16 * (U1 86 40))) + (U1 106 (U1 86 40).toNat))))], [], (am_sh, am_mm (am_upd U3 108 (w32 ((w32 (16 * (U1 86 40))) + (U1 106 (U1 86 40).toNat))).toNat r3)))) 1 (fun _ => rfl) (fun hc => ?_) (fun hc => ?_)
        · have ha1a1aaaaa2aa1 := ha1a1aaaaa2aa.1 hc
          refine ev_br (P := ((am_upd U3 108 (w32 ((w32 (16 * (U1 86 40))) + (U1 106 (U1 86 40).toNat))).toNat r3) 86 8) ≤ 0) (σ1 := ((d + 1), 194, 106, [some (.inr (.inr 86)), some (.inl (w32 ((w32 (16 * (U1 86 40))) + (U1 106 (U1 86 40).toNat))))], [], (am_sh, am_mm (am_upd U3 108 (w32 ((w32 (16 * (U1 86 40))) + (U1 106 (U1 86 40).toNat))).toNat r3)))) (σ2 := ((d + 1), 194, 105, [some (.inr (.inr 86)), some (.inl (w32 ((w32 (16 * (U1 86 40))) + (U1 106 (U1 86 40).toNat))))], [], (am_sh, am_mm (am_upd U3 108 (w32 ((w32 (16 * (U1 86 40))) + (U1 106 (U1 86 40).toNat))).toNat r3)))) 3 (fun _ => rfl) (fun hc => ?_) (fun hc => ?_)
          · have ha1a1aaaaa2aa11 := ha1a1aaaaa2aa1.1 hc
            refine ev_seg (σ1 := ((d + 1), 194, 107, [some (.inr (.inr 86)), some (.inl (w32 ((w32 (16 * (U1 86 40))) + (U1 106 (U1 86 40).toNat))))], [.inr (.inr 86)], (am_sh, am_mm (am_upd U3 108 (w32 ((w32 (16 * (U1 86 40))) + (U1 106 (U1 86 40).toNat))).toNat r3)))) 1 (fun _ => rfl) ?_
            obtain ⟨U6, ha1a1aaaaa2aa11c, ha1a1aaaaa2aa11a⟩ := ha1a1aaaaa2aa11
            refine ev_cal (σc := (d, 93, 0, [some (.inr (.inr 86)), none, none, none, none, none], [], (am_sh, am_mm (am_upd U3 108 (w32 ((w32 (16 * (U1 86 40))) + (U1 106 (U1 86 40).toNat))).toNat r3)))) (fun _ => rfl) ha1a1aaaaa2aa11c ?_
            show Ev (am_kz N X) ((d + 1), 194, 110, [some (.inr (.inr 86)), some (.inl (w32 ((w32 (16 * (U1 86 40))) + (U1 106 (U1 86 40).toNat))))], [], (am_sh, am_mm U6)) R
            refine ev_seg (σ1 := ((d + 1), 194, 120, [some (.inr (.inr 86)), some (.inl (w32 ((w32 (16 * (U1 86 40))) + (U1 106 (U1 86 40).toNat))))], [.inl 9999, .inl 1, .inr (.inr 86), .inl (w32 ((w32 (16 * (U1 86 40))) + (U1 106 (U1 86 40).toNat))), .inr (.inr 109)], (am_sh, am_mm U6))) 6 (fun _ => rfl) ?_
            obtain ⟨r7, U7, ha1a1aaaaa2aa11ac, ha1a1aaaaa2aa11aa⟩ := ha1a1aaaaa2aa11a
            refine ev_cal (σc := (d, 268, 0, [some (.inr (.inr 86)), some (.inl 1), some (.inl 9999), none], [], (am_sh, am_mm U6))) (fun _ => rfl) ha1a1aaaaa2aa11ac ?_
            show Ev (am_kz N X) ((d + 1), 194, 123, [some (.inr (.inr 86)), some (.inl (w32 ((w32 (16 * (U1 86 40))) + (U1 106 (U1 86 40).toNat))))], [.inl r7, .inl (w32 ((w32 (16 * (U1 86 40))) + (U1 106 (U1 86 40).toNat))), .inr (.inr 109)], (am_sh, am_mm U7)) R
            refine eu_iast 109 (n := 32) rfl (by decide) rfl (fun _ => rfl) ha1a1aaaaa2aa11aa.1 ?_
            have ha1a1aaaaa2aa11aaa := ha1a1aaaaa2aa11aa.2
            refine ev_br (P := ¬ ((am_upd U7 109 (w32 ((w32 (16 * (U1 86 40))) + (U1 106 (U1 86 40).toNat))).toNat r7) 86 8) = 0) (σ1 := ((d + 1), 194, 144, [some (.inr (.inr 86)), some (.inl (w32 ((w32 (16 * (U1 86 40))) + (U1 106 (U1 86 40).toNat))))], [], (am_sh, am_mm (am_upd U7 109 (w32 ((w32 (16 * (U1 86 40))) + (U1 106 (U1 86 40).toNat))).toNat r7)))) (σ2 := ((d + 1), 194, 131, [some (.inr (.inr 86)), some (.inl (w32 ((w32 (16 * (U1 86 40))) + (U1 106 (U1 86 40).toNat))))], [], (am_sh, am_mm (am_upd U7 109 (w32 ((w32 (16 * (U1 86 40))) + (U1 106 (U1 86 40).toNat))).toNat r7)))) 3 (fun _ => rfl) (fun hc => ?_) (fun hc => ?_)
            · have ha1a1aaaaa2aa11aaa1 := ha1a1aaaaa2aa11aaa.1 hc
              subst ha1a1aaaaa2aa11aaa1
              exact ev_end 1 (fun _ => rfl)
            · have ha1a1aaaaa2aa11aaa2 := ha1a1aaaaa2aa11aaa.2 hc
              refine ev_seg (σ1 := ((d + 1), 194, 140, [some (.inr (.inr 86)), some (.inl (w32 ((w32 (16 * (U1 86 40))) + (U1 106 (U1 86 40).toNat))))], [.inl ((am_upd U7 109 (w32 ((w32 (16 * (U1 86 40))) + (U1 106 (U1 86 40).toNat))).toNat r7) 86 40), .inr (.inr 106), .inl ((am_upd U7 109 (w32 ((w32 (16 * (U1 86 40))) + (U1 106 (U1 86 40).toNat))).toNat r7) 86 40), .inr (.inr 106)], (am_sh, am_mm (am_upd U7 109 (w32 ((w32 (16 * (U1 86 40))) + (U1 106 (U1 86 40).toNat))).toNat r7)))) 5 (fun _ => rfl) ?_
              refine eu_iald 106 (n := 2) rfl (by decide) rfl (fun _ => rfl) ha1a1aaaaa2aa11aaa2.1 ?_
              have ha1a1aaaaa2aa11aaa2a := ha1a1aaaaa2aa11aaa2.2
              refine ev_seg (σ1 := ((d + 1), 194, 143, [some (.inr (.inr 86)), some (.inl (w32 ((w32 (16 * (U1 86 40))) + (U1 106 (U1 86 40).toNat))))], [.inl (w32 (((am_upd U7 109 (w32 ((w32 (16 * (U1 86 40))) + (U1 106 (U1 86 40).toNat))).toNat r7) 106 ((am_upd U7 109 (w32 ((w32 (16 * (U1 86 40))) + (U1 106 (U1 86 40).toNat))).toNat r7) 86 40).toNat) + 1)), .inl ((am_upd U7 109 (w32 ((w32 (16 * (U1 86 40))) + (U1 106 (U1 86 40).toNat))).toNat r7) 86 40), .inr (.inr 106)], (am_sh, am_mm (am_upd U7 109 (w32 ((w32 (16 * (U1 86 40))) + (U1 106 (U1 86 40).toNat))).toNat r7)))) 2 (fun _ => rfl) ?_
              refine eu_iast 106 (n := 2) rfl (by decide) rfl (fun _ => rfl) ha1a1aaaaa2aa11aaa2a.1 ?_
              have ha1a1aaaaa2aa11aaa2aa := ha1a1aaaaa2aa11aaa2a.2
              subst ha1a1aaaaa2aa11aaa2aa
              exact ev_end 1 (fun _ => rfl)
          · have ha1a1aaaaa2aa12 := ha1a1aaaaa2aa1.2 hc
            subst ha1a1aaaaa2aa12
            exact ev_end 1 (fun _ => rfl)
        · have ha1a1aaaaa2aa2 := ha1a1aaaaa2aa.2 hc
          refine ev_seg (σ1 := ((d + 1), 194, 95, [some (.inr (.inr 86)), some (.inl (w32 ((w32 (16 * (U1 86 40))) + (U1 106 (U1 86 40).toNat))))], [.inl ((am_upd U3 108 (w32 ((w32 (16 * (U1 86 40))) + (U1 106 (U1 86 40).toNat))).toNat r3) 86 4), .inl 3, .inr (.inr 86)], (am_sh, am_mm (am_upd U3 108 (w32 ((w32 (16 * (U1 86 40))) + (U1 106 (U1 86 40).toNat))).toNat r3)))) 4 (fun _ => rfl) ?_
          obtain ⟨U8, ha1a1aaaaa2aa2c, ha1a1aaaaa2aa2a⟩ := ha1a1aaaaa2aa2
          refine ev_cal (σc := (d, 196, 0, [some (.inr (.inr 86)), some (.inl 3), some (.inl ((am_upd U3 108 (w32 ((w32 (16 * (U1 86 40))) + (U1 106 (U1 86 40).toNat))).toNat r3) 86 4))], [], (am_sh, am_mm (am_upd U3 108 (w32 ((w32 (16 * (U1 86 40))) + (U1 106 (U1 86 40).toNat))).toNat r3)))) (fun _ => rfl) ha1a1aaaaa2aa2c ?_
          show Ev (am_kz N X) ((d + 1), 194, 98, [some (.inr (.inr 86)), some (.inl (w32 ((w32 (16 * (U1 86 40))) + (U1 106 (U1 86 40).toNat))))], [], (am_sh, am_mm U8)) R
          refine ev_br (P := (U8 86 8) ≤ 0) (σ1 := ((d + 1), 194, 106, [some (.inr (.inr 86)), some (.inl (w32 ((w32 (16 * (U1 86 40))) + (U1 106 (U1 86 40).toNat))))], [], (am_sh, am_mm U8))) (σ2 := ((d + 1), 194, 105, [some (.inr (.inr 86)), some (.inl (w32 ((w32 (16 * (U1 86 40))) + (U1 106 (U1 86 40).toNat))))], [], (am_sh, am_mm U8))) 3 (fun _ => rfl) (fun hc => ?_) (fun hc => ?_)
          · have ha1a1aaaaa2aa2a1 := ha1a1aaaaa2aa2a.1 hc
            refine ev_seg (σ1 := ((d + 1), 194, 107, [some (.inr (.inr 86)), some (.inl (w32 ((w32 (16 * (U1 86 40))) + (U1 106 (U1 86 40).toNat))))], [.inr (.inr 86)], (am_sh, am_mm U8))) 1 (fun _ => rfl) ?_
            obtain ⟨U9, ha1a1aaaaa2aa2a1c, ha1a1aaaaa2aa2a1a⟩ := ha1a1aaaaa2aa2a1
            refine ev_cal (σc := (d, 93, 0, [some (.inr (.inr 86)), none, none, none, none, none], [], (am_sh, am_mm U8))) (fun _ => rfl) ha1a1aaaaa2aa2a1c ?_
            show Ev (am_kz N X) ((d + 1), 194, 110, [some (.inr (.inr 86)), some (.inl (w32 ((w32 (16 * (U1 86 40))) + (U1 106 (U1 86 40).toNat))))], [], (am_sh, am_mm U9)) R
            refine ev_seg (σ1 := ((d + 1), 194, 120, [some (.inr (.inr 86)), some (.inl (w32 ((w32 (16 * (U1 86 40))) + (U1 106 (U1 86 40).toNat))))], [.inl 9999, .inl 1, .inr (.inr 86), .inl (w32 ((w32 (16 * (U1 86 40))) + (U1 106 (U1 86 40).toNat))), .inr (.inr 109)], (am_sh, am_mm U9))) 6 (fun _ => rfl) ?_
            obtain ⟨r10, U10, ha1a1aaaaa2aa2a1ac, ha1a1aaaaa2aa2a1aa⟩ := ha1a1aaaaa2aa2a1a
            refine ev_cal (σc := (d, 268, 0, [some (.inr (.inr 86)), some (.inl 1), some (.inl 9999), none], [], (am_sh, am_mm U9))) (fun _ => rfl) ha1a1aaaaa2aa2a1ac ?_
            show Ev (am_kz N X) ((d + 1), 194, 123, [some (.inr (.inr 86)), some (.inl (w32 ((w32 (16 * (U1 86 40))) + (U1 106 (U1 86 40).toNat))))], [.inl r10, .inl (w32 ((w32 (16 * (U1 86 40))) + (U1 106 (U1 86 40).toNat))), .inr (.inr 109)], (am_sh, am_mm U10)) R
            refine eu_iast 109 (n := 32) rfl (by decide) rfl (fun _ => rfl) ha1a1aaaaa2aa2a1aa.1 ?_
            have ha1a1aaaaa2aa2a1aaa := ha1a1aaaaa2aa2a1aa.2
            refine ev_br (P := ¬ ((am_upd U10 109 (w32 ((w32 (16 * (U1 86 40))) + (U1 106 (U1 86 40).toNat))).toNat r10) 86 8) = 0) (σ1 := ((d + 1), 194, 144, [some (.inr (.inr 86)), some (.inl (w32 ((w32 (16 * (U1 86 40))) + (U1 106 (U1 86 40).toNat))))], [], (am_sh, am_mm (am_upd U10 109 (w32 ((w32 (16 * (U1 86 40))) + (U1 106 (U1 86 40).toNat))).toNat r10)))) (σ2 := ((d + 1), 194, 131, [some (.inr (.inr 86)), some (.inl (w32 ((w32 (16 * (U1 86 40))) + (U1 106 (U1 86 40).toNat))))], [], (am_sh, am_mm (am_upd U10 109 (w32 ((w32 (16 * (U1 86 40))) + (U1 106 (U1 86 40).toNat))).toNat r10)))) 3 (fun _ => rfl) (fun hc => ?_) (fun hc => ?_)
            · have ha1a1aaaaa2aa2a1aaa1 := ha1a1aaaaa2aa2a1aaa.1 hc
              subst ha1a1aaaaa2aa2a1aaa1
              exact ev_end 1 (fun _ => rfl)
            · have ha1a1aaaaa2aa2a1aaa2 := ha1a1aaaaa2aa2a1aaa.2 hc
              refine ev_seg (σ1 := ((d + 1), 194, 140, [some (.inr (.inr 86)), some (.inl (w32 ((w32 (16 * (U1 86 40))) + (U1 106 (U1 86 40).toNat))))], [.inl ((am_upd U10 109 (w32 ((w32 (16 * (U1 86 40))) + (U1 106 (U1 86 40).toNat))).toNat r10) 86 40), .inr (.inr 106), .inl ((am_upd U10 109 (w32 ((w32 (16 * (U1 86 40))) + (U1 106 (U1 86 40).toNat))).toNat r10) 86 40), .inr (.inr 106)], (am_sh, am_mm (am_upd U10 109 (w32 ((w32 (16 * (U1 86 40))) + (U1 106 (U1 86 40).toNat))).toNat r10)))) 5 (fun _ => rfl) ?_
              refine eu_iald 106 (n := 2) rfl (by decide) rfl (fun _ => rfl) ha1a1aaaaa2aa2a1aaa2.1 ?_
              have ha1a1aaaaa2aa2a1aaa2a := ha1a1aaaaa2aa2a1aaa2.2
              refine ev_seg (σ1 := ((d + 1), 194, 143, [some (.inr (.inr 86)), some (.inl (w32 ((w32 (16 * (U1 86 40))) + (U1 106 (U1 86 40).toNat))))], [.inl (w32 (((am_upd U10 109 (w32 ((w32 (16 * (U1 86 40))) + (U1 106 (U1 86 40).toNat))).toNat r10) 106 ((am_upd U10 109 (w32 ((w32 (16 * (U1 86 40))) + (U1 106 (U1 86 40).toNat))).toNat r10) 86 40).toNat) + 1)), .inl ((am_upd U10 109 (w32 ((w32 (16 * (U1 86 40))) + (U1 106 (U1 86 40).toNat))).toNat r10) 86 40), .inr (.inr 106)], (am_sh, am_mm (am_upd U10 109 (w32 ((w32 (16 * (U1 86 40))) + (U1 106 (U1 86 40).toNat))).toNat r10)))) 2 (fun _ => rfl) ?_
              refine eu_iast 106 (n := 2) rfl (by decide) rfl (fun _ => rfl) ha1a1aaaaa2aa2a1aaa2a.1 ?_
              have ha1a1aaaaa2aa2a1aaa2aa := ha1a1aaaaa2aa2a1aaa2a.2
              subst ha1a1aaaaa2aa2a1aaa2aa
              exact ev_end 1 (fun _ => rfl)
          · have ha1a1aaaaa2aa2a2 := ha1a1aaaaa2aa2a.2 hc
            subst ha1a1aaaaa2aa2a2
            exact ev_end 1 (fun _ => rfl)
    · have ha1a2 := ha1a.2 hc
      subst ha1a2
      exact ev_end 1 (fun _ => rfl)
  · have ha2 := ha.2 hc
    refine ev_seg (σ1 := ((d + 1), 194, 20, [some (.inr (.inr 86)), none], [.inl 1, .inr (.inr 86)], (am_sh, am_mm U))) 2 (fun _ => rfl) ?_
    obtain ⟨r11, U11, ha2c, ha2a⟩ := ha2
    refine ev_cal (σc := (d, 264, 0, [some (.inr (.inr 86)), some (.inl 1)], [], (am_sh, am_mm U))) (fun _ => rfl) ha2c ?_
    show Ev (am_kz N X) ((d + 1), 194, 23, [some (.inr (.inr 86)), none], [.inl r11], (am_sh, am_mm U11)) R
    refine ev_br (P := ¬ r11 = 0) (σ1 := ((d + 1), 194, 27, [some (.inr (.inr 86)), none], [], (am_sh, am_mm U11))) (σ2 := ((d + 1), 194, 26, [some (.inr (.inr 86)), none], [], (am_sh, am_mm U11))) 1 (fun _ => rfl) (fun hc => ?_) (fun hc => ?_)
    · have ha2a1 := ha2a.1 hc
      refine ev_seg (σ1 := ((d + 1), 194, 42, [some (.inr (.inr 86)), none], [.inl (U11 86 40), .inr (.inr 106), .inl (w32 (16 * (U11 86 40)))], (am_sh, am_mm U11))) 8 (fun _ => rfl) ?_
      refine eu_iald 106 (n := 2) rfl (by decide) rfl (fun _ => rfl) ha2a1.1 ?_
      have ha2a1a := ha2a1.2
      refine ev_seg (σ1 := ((d + 1), 194, 52, [some (.inr (.inr 86)), some (.inl (w32 ((w32 (16 * (U11 86 40))) + (U11 106 (U11 86 40).toNat))))], [.inl 1, .inr (.inr 86), .inl (w32 ((w32 (16 * (U11 86 40))) + (U11 106 (U11 86 40).toNat))), .inr (.inr 107)], (am_sh, am_mm U11))) 7 (fun _ => rfl) ?_
      obtain ⟨r12, U12, ha2a1ac, ha2a1aa⟩ := ha2a1a
      refine ev_cal (σc := (d, 267, 0, [some (.inr (.inr 86)), some (.inl 1), none], [], (am_sh, am_mm U11))) (fun _ => rfl) ha2a1ac ?_
      show Ev (am_kz N X) ((d + 1), 194, 55, [some (.inr (.inr 86)), some (.inl (w32 ((w32 (16 * (U11 86 40))) + (U11 106 (U11 86 40).toNat))))], [.inl r12, .inl (w32 ((w32 (16 * (U11 86 40))) + (U11 106 (U11 86 40).toNat))), .inr (.inr 107)], (am_sh, am_mm U12)) R
      refine eu_iast 107 (n := 32) rfl (by decide) rfl (fun _ => rfl) ha2a1aa.1 ?_
      have ha2a1aaa := ha2a1aa.2
      refine ev_seg (σ1 := ((d + 1), 194, 63, [some (.inr (.inr 86)), some (.inl (w32 ((w32 (16 * (U11 86 40))) + (U11 106 (U11 86 40).toNat))))], [.inl 1, .inr (.inr 86), .inl (w32 ((w32 (16 * (U11 86 40))) + (U11 106 (U11 86 40).toNat))), .inr (.inr 108)], (am_sh, am_mm (am_upd U12 107 (w32 ((w32 (16 * (U11 86 40))) + (U11 106 (U11 86 40).toNat))).toNat r12)))) 5 (fun _ => rfl) ?_
      obtain ⟨r13, U13, ha2a1aaac, ha2a1aaaa⟩ := ha2a1aaa
      refine ev_cal (σc := (d, 269, 0, [some (.inr (.inr 86)), some (.inl 1), none], [], (am_sh, am_mm (am_upd U12 107 (w32 ((w32 (16 * (U11 86 40))) + (U11 106 (U11 86 40).toNat))).toNat r12)))) (fun _ => rfl) ha2a1aaac ?_
      show Ev (am_kz N X) ((d + 1), 194, 66, [some (.inr (.inr 86)), some (.inl (w32 ((w32 (16 * (U11 86 40))) + (U11 106 (U11 86 40).toNat))))], [.inl r13, .inl (w32 ((w32 (16 * (U11 86 40))) + (U11 106 (U11 86 40).toNat))), .inr (.inr 108)], (am_sh, am_mm U13)) R
      refine eu_iast 108 (n := 32) rfl (by decide) rfl (fun _ => rfl) ha2a1aaaa.1 ?_
      have ha2a1aaaaa := ha2a1aaaa.2
      refine ev_br (P := ¬ ((am_upd U13 108 (w32 ((w32 (16 * (U11 86 40))) + (U11 106 (U11 86 40).toNat))).toNat r13) 86 8) = 0) (σ1 := ((d + 1), 194, 98, [some (.inr (.inr 86)), some (.inl (w32 ((w32 (16 * (U11 86 40))) + (U11 106 (U11 86 40).toNat))))], [], (am_sh, am_mm (am_upd U13 108 (w32 ((w32 (16 * (U11 86 40))) + (U11 106 (U11 86 40).toNat))).toNat r13)))) (σ2 := ((d + 1), 194, 74, [some (.inr (.inr 86)), some (.inl (w32 ((w32 (16 * (U11 86 40))) + (U11 106 (U11 86 40).toNat))))], [], (am_sh, am_mm (am_upd U13 108 (w32 ((w32 (16 * (U11 86 40))) + (U11 106 (U11 86 40).toNat))).toNat r13)))) 3 (fun _ => rfl) (fun hc => ?_) (fun hc => ?_)
      · have ha2a1aaaaa1 := ha2a1aaaaa.1 hc
        refine ev_br (P := ((am_upd U13 108 (w32 ((w32 (16 * (U11 86 40))) + (U11 106 (U11 86 40).toNat))).toNat r13) 86 8) ≤ 0) (σ1 := ((d + 1), 194, 106, [some (.inr (.inr 86)), some (.inl (w32 ((w32 (16 * (U11 86 40))) + (U11 106 (U11 86 40).toNat))))], [], (am_sh, am_mm (am_upd U13 108 (w32 ((w32 (16 * (U11 86 40))) + (U11 106 (U11 86 40).toNat))).toNat r13)))) (σ2 := ((d + 1), 194, 105, [some (.inr (.inr 86)), some (.inl (w32 ((w32 (16 * (U11 86 40))) + (U11 106 (U11 86 40).toNat))))], [], (am_sh, am_mm (am_upd U13 108 (w32 ((w32 (16 * (U11 86 40))) + (U11 106 (U11 86 40).toNat))).toNat r13)))) 3 (fun _ => rfl) (fun hc => ?_) (fun hc => ?_)
        · have ha2a1aaaaa11 := ha2a1aaaaa1.1 hc
          refine ev_seg (σ1 := ((d + 1), 194, 107, [some (.inr (.inr 86)), some (.inl (w32 ((w32 (16 * (U11 86 40))) + (U11 106 (U11 86 40).toNat))))], [.inr (.inr 86)], (am_sh, am_mm (am_upd U13 108 (w32 ((w32 (16 * (U11 86 40))) + (U11 106 (U11 86 40).toNat))).toNat r13)))) 1 (fun _ => rfl) ?_
          obtain ⟨U14, ha2a1aaaaa11c, ha2a1aaaaa11a⟩ := ha2a1aaaaa11
          refine ev_cal (σc := (d, 93, 0, [some (.inr (.inr 86)), none, none, none, none, none], [], (am_sh, am_mm (am_upd U13 108 (w32 ((w32 (16 * (U11 86 40))) + (U11 106 (U11 86 40).toNat))).toNat r13)))) (fun _ => rfl) ha2a1aaaaa11c ?_
          show Ev (am_kz N X) ((d + 1), 194, 110, [some (.inr (.inr 86)), some (.inl (w32 ((w32 (16 * (U11 86 40))) + (U11 106 (U11 86 40).toNat))))], [], (am_sh, am_mm U14)) R
          refine ev_seg (σ1 := ((d + 1), 194, 120, [some (.inr (.inr 86)), some (.inl (w32 ((w32 (16 * (U11 86 40))) + (U11 106 (U11 86 40).toNat))))], [.inl 9999, .inl 1, .inr (.inr 86), .inl (w32 ((w32 (16 * (U11 86 40))) + (U11 106 (U11 86 40).toNat))), .inr (.inr 109)], (am_sh, am_mm U14))) 6 (fun _ => rfl) ?_
          obtain ⟨r15, U15, ha2a1aaaaa11ac, ha2a1aaaaa11aa⟩ := ha2a1aaaaa11a
          refine ev_cal (σc := (d, 268, 0, [some (.inr (.inr 86)), some (.inl 1), some (.inl 9999), none], [], (am_sh, am_mm U14))) (fun _ => rfl) ha2a1aaaaa11ac ?_
          show Ev (am_kz N X) ((d + 1), 194, 123, [some (.inr (.inr 86)), some (.inl (w32 ((w32 (16 * (U11 86 40))) + (U11 106 (U11 86 40).toNat))))], [.inl r15, .inl (w32 ((w32 (16 * (U11 86 40))) + (U11 106 (U11 86 40).toNat))), .inr (.inr 109)], (am_sh, am_mm U15)) R
          refine eu_iast 109 (n := 32) rfl (by decide) rfl (fun _ => rfl) ha2a1aaaaa11aa.1 ?_
          have ha2a1aaaaa11aaa := ha2a1aaaaa11aa.2
          refine ev_br (P := ¬ ((am_upd U15 109 (w32 ((w32 (16 * (U11 86 40))) + (U11 106 (U11 86 40).toNat))).toNat r15) 86 8) = 0) (σ1 := ((d + 1), 194, 144, [some (.inr (.inr 86)), some (.inl (w32 ((w32 (16 * (U11 86 40))) + (U11 106 (U11 86 40).toNat))))], [], (am_sh, am_mm (am_upd U15 109 (w32 ((w32 (16 * (U11 86 40))) + (U11 106 (U11 86 40).toNat))).toNat r15)))) (σ2 := ((d + 1), 194, 131, [some (.inr (.inr 86)), some (.inl (w32 ((w32 (16 * (U11 86 40))) + (U11 106 (U11 86 40).toNat))))], [], (am_sh, am_mm (am_upd U15 109 (w32 ((w32 (16 * (U11 86 40))) + (U11 106 (U11 86 40).toNat))).toNat r15)))) 3 (fun _ => rfl) (fun hc => ?_) (fun hc => ?_)
          · have ha2a1aaaaa11aaa1 := ha2a1aaaaa11aaa.1 hc
            subst ha2a1aaaaa11aaa1
            exact ev_end 1 (fun _ => rfl)
          · have ha2a1aaaaa11aaa2 := ha2a1aaaaa11aaa.2 hc
            refine ev_seg (σ1 := ((d + 1), 194, 140, [some (.inr (.inr 86)), some (.inl (w32 ((w32 (16 * (U11 86 40))) + (U11 106 (U11 86 40).toNat))))], [.inl ((am_upd U15 109 (w32 ((w32 (16 * (U11 86 40))) + (U11 106 (U11 86 40).toNat))).toNat r15) 86 40), .inr (.inr 106), .inl ((am_upd U15 109 (w32 ((w32 (16 * (U11 86 40))) + (U11 106 (U11 86 40).toNat))).toNat r15) 86 40), .inr (.inr 106)], (am_sh, am_mm (am_upd U15 109 (w32 ((w32 (16 * (U11 86 40))) + (U11 106 (U11 86 40).toNat))).toNat r15)))) 5 (fun _ => rfl) ?_
            refine eu_iald 106 (n := 2) rfl (by decide) rfl (fun _ => rfl) ha2a1aaaaa11aaa2.1 ?_
            have ha2a1aaaaa11aaa2a := ha2a1aaaaa11aaa2.2
            refine ev_seg (σ1 := ((d + 1), 194, 143, [some (.inr (.inr 86)), some (.inl (w32 ((w32 (16 * (U11 86 40))) + (U11 106 (U11 86 40).toNat))))], [.inl (w32 (((am_upd U15 109 (w32 ((w32 (16 * (U11 86 40))) + (U11 106 (U11 86 40).toNat))).toNat r15) 106 ((am_upd U15 109 (w32 ((w32 (16 * (U11 86 40))) + (U11 106 (U11 86 40).toNat))).toNat r15) 86 40).toNat) + 1)), .inl ((am_upd U15 109 (w32 ((w32 (16 * (U11 86 40))) + (U11 106 (U11 86 40).toNat))).toNat r15) 86 40), .inr (.inr 106)], (am_sh, am_mm (am_upd U15 109 (w32 ((w32 (16 * (U11 86 40))) + (U11 106 (U11 86 40).toNat))).toNat r15)))) 2 (fun _ => rfl) ?_
            refine eu_iast 106 (n := 2) rfl (by decide) rfl (fun _ => rfl) ha2a1aaaaa11aaa2a.1 ?_
            have ha2a1aaaaa11aaa2aa := ha2a1aaaaa11aaa2a.2
            subst ha2a1aaaaa11aaa2aa
            exact ev_end 1 (fun _ => rfl)
        · have ha2a1aaaaa12 := ha2a1aaaaa1.2 hc
          subst ha2a1aaaaa12
          exact ev_end 1 (fun _ => rfl)
      · have ha2a1aaaaa2 := ha2a1aaaaa.2 hc
        refine ev_seg (σ1 := ((d + 1), 194, 79, [some (.inr (.inr 86)), some (.inl (w32 ((w32 (16 * (U11 86 40))) + (U11 106 (U11 86 40).toNat))))], [.inl (w32 ((w32 (16 * (U11 86 40))) + (U11 106 (U11 86 40).toNat))), .inr (.inr 107)], (am_sh, am_mm (am_upd U13 108 (w32 ((w32 (16 * (U11 86 40))) + (U11 106 (U11 86 40).toNat))).toNat r13)))) 3 (fun _ => rfl) ?_
        refine eu_iald 107 (n := 32) rfl (by decide) rfl (fun _ => rfl) ha2a1aaaaa2.1 ?_
        have ha2a1aaaaa2a := ha2a1aaaaa2.2
        refine ev_seg (σ1 := ((d + 1), 194, 85, [some (.inr (.inr 86)), some (.inl (w32 ((w32 (16 * (U11 86 40))) + (U11 106 (U11 86 40).toNat))))], [.inl (w32 ((w32 (16 * (U11 86 40))) + (U11 106 (U11 86 40).toNat))), .inr (.inr 108), .inl ((am_upd U13 108 (w32 ((w32 (16 * (U11 86 40))) + (U11 106 (U11 86 40).toNat))).toNat r13) 107 (w32 ((w32 (16 * (U11 86 40))) + (U11 106 (U11 86 40).toNat))).toNat)], (am_sh, am_mm (am_upd U13 108 (w32 ((w32 (16 * (U11 86 40))) + (U11 106 (U11 86 40).toNat))).toNat r13)))) 3 (fun _ => rfl) ?_
        refine eu_iald 108 (n := 32) rfl (by decide) rfl (fun _ => rfl) ha2a1aaaaa2a.1 ?_
        have ha2a1aaaaa2aa := ha2a1aaaaa2a.2
        refine ev_br (P := ¬ ((am_upd U13 108 (w32 ((w32 (16 * (U11 86 40))) + (U11 106 (U11 86 40).toNat))).toNat r13) 107 (w32 ((w32 (16 * (U11 86 40))) + (U11 106 (U11 86 40).toNat))).toNat) = ((am_upd U13 108 (w32 ((w32 (16 * (U11 86 40))) + (U11 106 (U11 86 40).toNat))).toNat r13) 108 (w32 ((w32 (16 * (U11 86 40))) + (U11 106 (U11 86 40).toNat))).toNat)) (σ1 := ((d + 1), 194, 98, [some (.inr (.inr 86)), some (.inl (w32 ((w32 (16 * (U11 86 40))) + (U11 106 (U11 86 40).toNat))))], [], (am_sh, am_mm (am_upd U13 108 (w32 ((w32 (16 * (U11 86 40))) + (U11 106 (U11 86 40).toNat))).toNat r13)))) (σ2 := ((d + 1), 194, 89, [some (.inr (.inr 86)), some (.inl (w32 ((w32 (16 * (U11 86 40))) + (U11 106 (U11 86 40).toNat))))], [], (am_sh, am_mm (am_upd U13 108 (w32 ((w32 (16 * (U11 86 40))) + (U11 106 (U11 86 40).toNat))).toNat r13)))) 1 (fun _ => rfl) (fun hc => ?_) (fun hc => ?_)
        · have ha2a1aaaaa2aa1 := ha2a1aaaaa2aa.1 hc
          refine ev_br (P := ((am_upd U13 108 (w32 ((w32 (16 * (U11 86 40))) + (U11 106 (U11 86 40).toNat))).toNat r13) 86 8) ≤ 0) (σ1 := ((d + 1), 194, 106, [some (.inr (.inr 86)), some (.inl (w32 ((w32 (16 * (U11 86 40))) + (U11 106 (U11 86 40).toNat))))], [], (am_sh, am_mm (am_upd U13 108 (w32 ((w32 (16 * (U11 86 40))) + (U11 106 (U11 86 40).toNat))).toNat r13)))) (σ2 := ((d + 1), 194, 105, [some (.inr (.inr 86)), some (.inl (w32 ((w32 (16 * (U11 86 40))) + (U11 106 (U11 86 40).toNat))))], [], (am_sh, am_mm (am_upd U13 108 (w32 ((w32 (16 * (U11 86 40))) + (U11 106 (U11 86 40).toNat))).toNat r13)))) 3 (fun _ => rfl) (fun hc => ?_) (fun hc => ?_)
          · have ha2a1aaaaa2aa11 := ha2a1aaaaa2aa1.1 hc
            refine ev_seg (σ1 := ((d + 1), 194, 107, [some (.inr (.inr 86)), some (.inl (w32 ((w32 (16 * (U11 86 40))) + (U11 106 (U11 86 40).toNat))))], [.inr (.inr 86)], (am_sh, am_mm (am_upd U13 108 (w32 ((w32 (16 * (U11 86 40))) + (U11 106 (U11 86 40).toNat))).toNat r13)))) 1 (fun _ => rfl) ?_
            obtain ⟨U16, ha2a1aaaaa2aa11c, ha2a1aaaaa2aa11a⟩ := ha2a1aaaaa2aa11
            refine ev_cal (σc := (d, 93, 0, [some (.inr (.inr 86)), none, none, none, none, none], [], (am_sh, am_mm (am_upd U13 108 (w32 ((w32 (16 * (U11 86 40))) + (U11 106 (U11 86 40).toNat))).toNat r13)))) (fun _ => rfl) ha2a1aaaaa2aa11c ?_
            show Ev (am_kz N X) ((d + 1), 194, 110, [some (.inr (.inr 86)), some (.inl (w32 ((w32 (16 * (U11 86 40))) + (U11 106 (U11 86 40).toNat))))], [], (am_sh, am_mm U16)) R
            refine ev_seg (σ1 := ((d + 1), 194, 120, [some (.inr (.inr 86)), some (.inl (w32 ((w32 (16 * (U11 86 40))) + (U11 106 (U11 86 40).toNat))))], [.inl 9999, .inl 1, .inr (.inr 86), .inl (w32 ((w32 (16 * (U11 86 40))) + (U11 106 (U11 86 40).toNat))), .inr (.inr 109)], (am_sh, am_mm U16))) 6 (fun _ => rfl) ?_
            obtain ⟨r17, U17, ha2a1aaaaa2aa11ac, ha2a1aaaaa2aa11aa⟩ := ha2a1aaaaa2aa11a
            refine ev_cal (σc := (d, 268, 0, [some (.inr (.inr 86)), some (.inl 1), some (.inl 9999), none], [], (am_sh, am_mm U16))) (fun _ => rfl) ha2a1aaaaa2aa11ac ?_
            show Ev (am_kz N X) ((d + 1), 194, 123, [some (.inr (.inr 86)), some (.inl (w32 ((w32 (16 * (U11 86 40))) + (U11 106 (U11 86 40).toNat))))], [.inl r17, .inl (w32 ((w32 (16 * (U11 86 40))) + (U11 106 (U11 86 40).toNat))), .inr (.inr 109)], (am_sh, am_mm U17)) R
            refine eu_iast 109 (n := 32) rfl (by decide) rfl (fun _ => rfl) ha2a1aaaaa2aa11aa.1 ?_
            have ha2a1aaaaa2aa11aaa := ha2a1aaaaa2aa11aa.2
            refine ev_br (P := ¬ ((am_upd U17 109 (w32 ((w32 (16 * (U11 86 40))) + (U11 106 (U11 86 40).toNat))).toNat r17) 86 8) = 0) (σ1 := ((d + 1), 194, 144, [some (.inr (.inr 86)), some (.inl (w32 ((w32 (16 * (U11 86 40))) + (U11 106 (U11 86 40).toNat))))], [], (am_sh, am_mm (am_upd U17 109 (w32 ((w32 (16 * (U11 86 40))) + (U11 106 (U11 86 40).toNat))).toNat r17)))) (σ2 := ((d + 1), 194, 131, [some (.inr (.inr 86)), some (.inl (w32 ((w32 (16 * (U11 86 40))) + (U11 106 (U11 86 40).toNat))))], [], (am_sh, am_mm (am_upd U17 109 (w32 ((w32 (16 * (U11 86 40))) + (U11 106 (U11 86 40).toNat))).toNat r17)))) 3 (fun _ => rfl) (fun hc => ?_) (fun hc => ?_)
            · have ha2a1aaaaa2aa11aaa1 := ha2a1aaaaa2aa11aaa.1 hc
              subst ha2a1aaaaa2aa11aaa1
              exact ev_end 1 (fun _ => rfl)
            · have ha2a1aaaaa2aa11aaa2 := ha2a1aaaaa2aa11aaa.2 hc
              refine ev_seg (σ1 := ((d + 1), 194, 140, [some (.inr (.inr 86)), some (.inl (w32 ((w32 (16 * (U11 86 40))) + (U11 106 (U11 86 40).toNat))))], [.inl ((am_upd U17 109 (w32 ((w32 (16 * (U11 86 40))) + (U11 106 (U11 86 40).toNat))).toNat r17) 86 40), .inr (.inr 106), .inl ((am_upd U17 109 (w32 ((w32 (16 * (U11 86 40))) + (U11 106 (U11 86 40).toNat))).toNat r17) 86 40), .inr (.inr 106)], (am_sh, am_mm (am_upd U17 109 (w32 ((w32 (16 * (U11 86 40))) + (U11 106 (U11 86 40).toNat))).toNat r17)))) 5 (fun _ => rfl) ?_
              refine eu_iald 106 (n := 2) rfl (by decide) rfl (fun _ => rfl) ha2a1aaaaa2aa11aaa2.1 ?_
              have ha2a1aaaaa2aa11aaa2a := ha2a1aaaaa2aa11aaa2.2
              refine ev_seg (σ1 := ((d + 1), 194, 143, [some (.inr (.inr 86)), some (.inl (w32 ((w32 (16 * (U11 86 40))) + (U11 106 (U11 86 40).toNat))))], [.inl (w32 (((am_upd U17 109 (w32 ((w32 (16 * (U11 86 40))) + (U11 106 (U11 86 40).toNat))).toNat r17) 106 ((am_upd U17 109 (w32 ((w32 (16 * (U11 86 40))) + (U11 106 (U11 86 40).toNat))).toNat r17) 86 40).toNat) + 1)), .inl ((am_upd U17 109 (w32 ((w32 (16 * (U11 86 40))) + (U11 106 (U11 86 40).toNat))).toNat r17) 86 40), .inr (.inr 106)], (am_sh, am_mm (am_upd U17 109 (w32 ((w32 (16 * (U11 86 40))) + (U11 106 (U11 86 40).toNat))).toNat r17)))) 2 (fun _ => rfl) ?_
              refine eu_iast 106 (n := 2) rfl (by decide) rfl (fun _ => rfl) ha2a1aaaaa2aa11aaa2a.1 ?_
              have ha2a1aaaaa2aa11aaa2aa := ha2a1aaaaa2aa11aaa2a.2
              subst ha2a1aaaaa2aa11aaa2aa
              exact ev_end 1 (fun _ => rfl)
          · have ha2a1aaaaa2aa12 := ha2a1aaaaa2aa1.2 hc
            subst ha2a1aaaaa2aa12
            exact ev_end 1 (fun _ => rfl)
        · have ha2a1aaaaa2aa2 := ha2a1aaaaa2aa.2 hc
          refine ev_seg (σ1 := ((d + 1), 194, 95, [some (.inr (.inr 86)), some (.inl (w32 ((w32 (16 * (U11 86 40))) + (U11 106 (U11 86 40).toNat))))], [.inl ((am_upd U13 108 (w32 ((w32 (16 * (U11 86 40))) + (U11 106 (U11 86 40).toNat))).toNat r13) 86 4), .inl 3, .inr (.inr 86)], (am_sh, am_mm (am_upd U13 108 (w32 ((w32 (16 * (U11 86 40))) + (U11 106 (U11 86 40).toNat))).toNat r13)))) 4 (fun _ => rfl) ?_
          obtain ⟨U18, ha2a1aaaaa2aa2c, ha2a1aaaaa2aa2a⟩ := ha2a1aaaaa2aa2
          refine ev_cal (σc := (d, 196, 0, [some (.inr (.inr 86)), some (.inl 3), some (.inl ((am_upd U13 108 (w32 ((w32 (16 * (U11 86 40))) + (U11 106 (U11 86 40).toNat))).toNat r13) 86 4))], [], (am_sh, am_mm (am_upd U13 108 (w32 ((w32 (16 * (U11 86 40))) + (U11 106 (U11 86 40).toNat))).toNat r13)))) (fun _ => rfl) ha2a1aaaaa2aa2c ?_
          show Ev (am_kz N X) ((d + 1), 194, 98, [some (.inr (.inr 86)), some (.inl (w32 ((w32 (16 * (U11 86 40))) + (U11 106 (U11 86 40).toNat))))], [], (am_sh, am_mm U18)) R
          refine ev_br (P := (U18 86 8) ≤ 0) (σ1 := ((d + 1), 194, 106, [some (.inr (.inr 86)), some (.inl (w32 ((w32 (16 * (U11 86 40))) + (U11 106 (U11 86 40).toNat))))], [], (am_sh, am_mm U18))) (σ2 := ((d + 1), 194, 105, [some (.inr (.inr 86)), some (.inl (w32 ((w32 (16 * (U11 86 40))) + (U11 106 (U11 86 40).toNat))))], [], (am_sh, am_mm U18))) 3 (fun _ => rfl) (fun hc => ?_) (fun hc => ?_)
          · have ha2a1aaaaa2aa2a1 := ha2a1aaaaa2aa2a.1 hc
            refine ev_seg (σ1 := ((d + 1), 194, 107, [some (.inr (.inr 86)), some (.inl (w32 ((w32 (16 * (U11 86 40))) + (U11 106 (U11 86 40).toNat))))], [.inr (.inr 86)], (am_sh, am_mm U18))) 1 (fun _ => rfl) ?_
            obtain ⟨U19, ha2a1aaaaa2aa2a1c, ha2a1aaaaa2aa2a1a⟩ := ha2a1aaaaa2aa2a1
            refine ev_cal (σc := (d, 93, 0, [some (.inr (.inr 86)), none, none, none, none, none], [], (am_sh, am_mm U18))) (fun _ => rfl) ha2a1aaaaa2aa2a1c ?_
            show Ev (am_kz N X) ((d + 1), 194, 110, [some (.inr (.inr 86)), some (.inl (w32 ((w32 (16 * (U11 86 40))) + (U11 106 (U11 86 40).toNat))))], [], (am_sh, am_mm U19)) R
            refine ev_seg (σ1 := ((d + 1), 194, 120, [some (.inr (.inr 86)), some (.inl (w32 ((w32 (16 * (U11 86 40))) + (U11 106 (U11 86 40).toNat))))], [.inl 9999, .inl 1, .inr (.inr 86), .inl (w32 ((w32 (16 * (U11 86 40))) + (U11 106 (U11 86 40).toNat))), .inr (.inr 109)], (am_sh, am_mm U19))) 6 (fun _ => rfl) ?_
            obtain ⟨r20, U20, ha2a1aaaaa2aa2a1ac, ha2a1aaaaa2aa2a1aa⟩ := ha2a1aaaaa2aa2a1a
            refine ev_cal (σc := (d, 268, 0, [some (.inr (.inr 86)), some (.inl 1), some (.inl 9999), none], [], (am_sh, am_mm U19))) (fun _ => rfl) ha2a1aaaaa2aa2a1ac ?_
            show Ev (am_kz N X) ((d + 1), 194, 123, [some (.inr (.inr 86)), some (.inl (w32 ((w32 (16 * (U11 86 40))) + (U11 106 (U11 86 40).toNat))))], [.inl r20, .inl (w32 ((w32 (16 * (U11 86 40))) + (U11 106 (U11 86 40).toNat))), .inr (.inr 109)], (am_sh, am_mm U20)) R
            refine eu_iast 109 (n := 32) rfl (by decide) rfl (fun _ => rfl) ha2a1aaaaa2aa2a1aa.1 ?_
            have ha2a1aaaaa2aa2a1aaa := ha2a1aaaaa2aa2a1aa.2
            refine ev_br (P := ¬ ((am_upd U20 109 (w32 ((w32 (16 * (U11 86 40))) + (U11 106 (U11 86 40).toNat))).toNat r20) 86 8) = 0) (σ1 := ((d + 1), 194, 144, [some (.inr (.inr 86)), some (.inl (w32 ((w32 (16 * (U11 86 40))) + (U11 106 (U11 86 40).toNat))))], [], (am_sh, am_mm (am_upd U20 109 (w32 ((w32 (16 * (U11 86 40))) + (U11 106 (U11 86 40).toNat))).toNat r20)))) (σ2 := ((d + 1), 194, 131, [some (.inr (.inr 86)), some (.inl (w32 ((w32 (16 * (U11 86 40))) + (U11 106 (U11 86 40).toNat))))], [], (am_sh, am_mm (am_upd U20 109 (w32 ((w32 (16 * (U11 86 40))) + (U11 106 (U11 86 40).toNat))).toNat r20)))) 3 (fun _ => rfl) (fun hc => ?_) (fun hc => ?_)
            · have ha2a1aaaaa2aa2a1aaa1 := ha2a1aaaaa2aa2a1aaa.1 hc
              subst ha2a1aaaaa2aa2a1aaa1
              exact ev_end 1 (fun _ => rfl)
            · have ha2a1aaaaa2aa2a1aaa2 := ha2a1aaaaa2aa2a1aaa.2 hc
              refine ev_seg (σ1 := ((d + 1), 194, 140, [some (.inr (.inr 86)), some (.inl (w32 ((w32 (16 * (U11 86 40))) + (U11 106 (U11 86 40).toNat))))], [.inl ((am_upd U20 109 (w32 ((w32 (16 * (U11 86 40))) + (U11 106 (U11 86 40).toNat))).toNat r20) 86 40), .inr (.inr 106), .inl ((am_upd U20 109 (w32 ((w32 (16 * (U11 86 40))) + (U11 106 (U11 86 40).toNat))).toNat r20) 86 40), .inr (.inr 106)], (am_sh, am_mm (am_upd U20 109 (w32 ((w32 (16 * (U11 86 40))) + (U11 106 (U11 86 40).toNat))).toNat r20)))) 5 (fun _ => rfl) ?_
              refine eu_iald 106 (n := 2) rfl (by decide) rfl (fun _ => rfl) ha2a1aaaaa2aa2a1aaa2.1 ?_
              have ha2a1aaaaa2aa2a1aaa2a := ha2a1aaaaa2aa2a1aaa2.2
              refine ev_seg (σ1 := ((d + 1), 194, 143, [some (.inr (.inr 86)), some (.inl (w32 ((w32 (16 * (U11 86 40))) + (U11 106 (U11 86 40).toNat))))], [.inl (w32 (((am_upd U20 109 (w32 ((w32 (16 * (U11 86 40))) + (U11 106 (U11 86 40).toNat))).toNat r20) 106 ((am_upd U20 109 (w32 ((w32 (16 * (U11 86 40))) + (U11 106 (U11 86 40).toNat))).toNat r20) 86 40).toNat) + 1)), .inl ((am_upd U20 109 (w32 ((w32 (16 * (U11 86 40))) + (U11 106 (U11 86 40).toNat))).toNat r20) 86 40), .inr (.inr 106)], (am_sh, am_mm (am_upd U20 109 (w32 ((w32 (16 * (U11 86 40))) + (U11 106 (U11 86 40).toNat))).toNat r20)))) 2 (fun _ => rfl) ?_
              refine eu_iast 106 (n := 2) rfl (by decide) rfl (fun _ => rfl) ha2a1aaaaa2aa2a1aaa2a.1 ?_
              have ha2a1aaaaa2aa2a1aaa2aa := ha2a1aaaaa2aa2a1aaa2a.2
              subst ha2a1aaaaa2aa2a1aaa2aa
              exact ev_end 1 (fun _ => rfl)
          · have ha2a1aaaaa2aa2a2 := ha2a1aaaaa2aa2a.2 hc
            subst ha2a1aaaaa2aa2a2
            exact ev_end 1 (fun _ => rfl)
    · have ha2a2 := ha2a.2 hc
      subst ha2a2
      exact ev_end 1 (fun _ => rfl)
