set_option maxRecDepth 8000 in
theorem st133_3_0 (N : Nat) (X : Nat → Int) (d : Nat) (x1 : Int) (U : Nat → Nat → Int) (R : Option am_V × am_M) (h : (((x1 < 0 : Prop)) → (((¬ x1 = 8 : Prop)) → R = (some (.inl 0), (am_sh, am_mm U))) ∧ (¬ (¬ x1 = 8) → (0 ≤ x1 ∧ x1 < 9) ∧ (0 ≤ x1 ∧ x1 < 9) ∧ ((((U 14 x1.toNat) ≤ (U 13 x1.toNat) : Prop)) → R = (some (.inl 0), (am_sh, am_mm U))) ∧ (¬ ((U 14 x1.toNat) ≤ (U 13 x1.toNat)) → R = (some (.inl 1), (am_sh, am_mm U))))) ∧ (¬ (x1 < 0) → (((x1 < (U 3 4) : Prop)) → R = (some (.inl 1), (am_sh, am_mm U))) ∧ (¬ (x1 < (U 3 4)) → (((¬ x1 = 8 : Prop)) → R = (some (.inl 0), (am_sh, am_mm U))) ∧ (¬ (¬ x1 = 8) → (0 ≤ x1 ∧ x1 < 9) ∧ (0 ≤ x1 ∧ x1 < 9) ∧ ((((U 14 x1.toNat) ≤ (U 13 x1.toNat) : Prop)) → R = (some (.inl 0), (am_sh, am_mm U))) ∧ (¬ ((U 14 x1.toNat) ≤ (U 13 x1.toNat)) → R = (some (.inl 1), (am_sh, am_mm U))))))) : Ev (am_kz N X) (d, 133, 0, [some (.inr (.inr 3)), some (.inl x1)], [], (am_sh, am_mm U)) R := by
  refine ev_br (P := x1 < 0) (σ1 := (d, 133, 12, [some (.inr (.inr 3)), some (.inl x1)], [], (am_sh, am_mm U))) (σ2 := (d, 133, 4, [some (.inr (.inr 3)), some (.inl x1)], [], (am_sh, am_mm U))) 2 (fun _ => rfl) (fun hc => ?_) (fun hc => ?_)
  · have h1 := h.1 hc
    refine ev_br (P := ¬ x1 = 8) (σ1 := (d, 133, 37, [some (.inr (.inr 3)), some (.inl x1)], [], (am_sh, am_mm U))) (σ2 := (d, 133, 18, [some (.inr (.inr 3)), some (.inl x1)], [], (am_sh, am_mm U))) 3 (fun _ => rfl) (fun hc => ?_) (fun hc => ?_)
    · have h11 := h1.1 hc
      subst h11
      exact ev_end 2 (fun _ => rfl)
    · have h12 := h1.2 hc
      refine ev_seg (σ1 := (d, 133, 23, [some (.inr (.inr 3)), some (.inl x1)], [.inl x1, .inr (.inr 13)], (am_sh, am_mm U))) 3 (fun _ => rfl) ?_
      refine eu_iald 13 (n := 9) rfl (by decide) rfl (fun _ => rfl) h12.1 ?_
      have h12a := h12.2
      refine ev_seg (σ1 := (d, 133, 29, [some (.inr (.inr 3)), some (.inl x1)], [.inl x1, .inr (.inr 14), .inl (U 13 x1.toNat)], (am_sh, am_mm U))) 3 (fun _ => rfl) ?_
      refine eu_iald 14 (n := 9) rfl (by decide) rfl (fun _ => rfl) h12a.1 ?_
      have h12aa := h12a.2
      refine ev_br (P := (U 14 x1.toNat) ≤ (U 13 x1.toNat)) (σ1 := (d, 133, 37, [some (.inr (.inr 3)), some (.inl x1)], [], (am_sh, am_mm U))) (σ2 := (d, 133, 33, [some (.inr (.inr 3)), some (.inl x1)], [], (am_sh, am_mm U))) 1 (fun _ => rfl) (fun hc => ?_) (fun hc => ?_)
      · have h12aa1 := h12aa.1 hc
        subst h12aa1
        exact ev_end 2 (fun _ => rfl)
      · have h12aa2 := h12aa.2 hc
        subst h12aa2
        exact ev_end 3 (fun _ => rfl)
  · have h2 := h.2 hc
    refine ev_br (P := x1 < (U 3 4)) (σ1 := (d, 133, 33, [some (.inr (.inr 3)), some (.inl x1)], [], (am_sh, am_mm U))) (σ2 := (d, 133, 12, [some (.inr (.inr 3)), some (.inl x1)], [], (am_sh, am_mm U))) 4 (fun _ => rfl) (fun hc => ?_) (fun hc => ?_)
    · have h21 := h2.1 hc
      subst h21
      exact ev_end 3 (fun _ => rfl)
    · have h22 := h2.2 hc
      refine ev_br (P := ¬ x1 = 8) (σ1 := (d, 133, 37, [some (.inr (.inr 3)), some (.inl x1)], [], (am_sh, am_mm U))) (σ2 := (d, 133, 18, [some (.inr (.inr 3)), some (.inl x1)], [], (am_sh, am_mm U))) 3 (fun _ => rfl) (fun hc => ?_) (fun hc => ?_)
      · have h221 := h22.1 hc
        subst h221
        exact ev_end 2 (fun _ => rfl)
      · have h222 := h22.2 hc
        refine ev_seg (σ1 := (d, 133, 23, [some (.inr (.inr 3)), some (.inl x1)], [.inl x1, .inr (.inr 13)], (am_sh, am_mm U))) 3 (fun _ => rfl) ?_
        refine eu_iald 13 (n := 9) rfl (by decide) rfl (fun _ => rfl) h222.1 ?_
        have h222a := h222.2
        refine ev_seg (σ1 := (d, 133, 29, [some (.inr (.inr 3)), some (.inl x1)], [.inl x1, .inr (.inr 14), .inl (U 13 x1.toNat)], (am_sh, am_mm U))) 3 (fun _ => rfl) ?_
        refine eu_iald 14 (n := 9) rfl (by decide) rfl (fun _ => rfl) h222a.1 ?_
        have h222aa := h222a.2
        refine ev_br (P := (U 14 x1.toNat) ≤ (U 13 x1.toNat)) (σ1 := (d, 133, 37, [some (.inr (.inr 3)), some (.inl x1)], [], (am_sh, am_mm U))) (σ2 := (d, 133, 33, [some (.inr (.inr 3)), some (.inl x1)], [], (am_sh, am_mm U))) 1 (fun _ => rfl) (fun hc => ?_) (fun hc => ?_)
        · have h222aa1 := h222aa.1 hc
          subst h222aa1
          exact ev_end 2 (fun _ => rfl)
        · have h222aa2 := h222aa.2 hc
          subst h222aa2
          exact ev_end 3 (fun _ => rfl)
set_option maxRecDepth 8000 in
theorem st134_45_0 (N : Nat) (X : Nat → Int) (d : Nat) (x1 x2 x3 : Int) (U : Nat → Nat → Int) (R : Option am_V × am_M) (h : (((x1 < 0 : Prop)) → R = (some (.inl 0), (am_sh, am_mm U))) ∧ (¬ (x1 < 0) → (((x1 ≤ 8 : Prop)) → (0 ≤ x1 ∧ x1 < 9) ∧ (0 ≤ x1 ∧ x1 < 9) ∧ Ev (am_kz N X) ((d + 1), 134, 50, [some (.inr (.inr 45)), some (.inl x1), some (.inl x2), some (.inl x3), some (.inl (if 1600 < ((am_upd U 45 3 0) 14 x1.toNat) then 1600 else ((am_upd U 45 3 0) 14 x1.toNat))), some (.inl ((am_upd U 45 3 0) 13 x1.toNat)), none, none, none], [], (am_sh, am_mm (am_upd U 45 3 0))) R) ∧ (¬ (x1 ≤ 8) → R = (some (.inl 0), (am_sh, am_mm U))))) : Ev (am_kz N X) ((d + 1), 134, 0, [some (.inr (.inr 45)), some (.inl x1), some (.inl x2), some (.inl x3), none, none, none, none, none], [], (am_sh, am_mm U)) R := by
  refine ev_br (P := x1 < 0) (σ1 := ((d + 1), 134, 10, [some (.inr (.inr 45)), some (.inl x1), some (.inl x2), some (.inl x3), none, none, none, none, none], [], (am_sh, am_mm U))) (σ2 := ((d + 1), 134, 4, [some (.inr (.inr 45)), some (.inl x1), some (.inl x2), some (.inl x3), none, none, none, none, none], [], (am_sh, am_mm U))) 2 (fun _ => rfl) (fun hc => ?_) (fun hc => ?_)
  · have h1 := h.1 hc
    subst h1
    exact ev_end 2 (fun _ => rfl)
  · have h2 := h.2 hc
    refine ev_br (P := x1 ≤ 8) (σ1 := ((d + 1), 134, 12, [some (.inr (.inr 45)), some (.inl x1), some (.inl x2), some (.inl x3), none, none, none, none, none], [], (am_sh, am_mm U))) (σ2 := ((d + 1), 134, 10, [some (.inr (.inr 45)), some (.inl x1), some (.inl x2), some (.inl x3), none, none, none, none, none], [], (am_sh, am_mm U))) 3 (fun _ => rfl) (fun hc => ?_) (fun hc => ?_)
    · have h21 := h2.1 hc
      refine ev_seg (σ1 := ((d + 1), 134, 14, [some (.inr (.inr 45)), some (.inl x1), some (.inl x2), some (.inl x3), none, none, none, none, none], [.inl 0, .inr (.inr 45)], (am_sh, am_mm U))) 2 (fun _ => rfl) ?_
      refine eu_puti 45 (n := 6) rfl (by decide) rfl rfl ?_
      refine ev_seg (σ1 := ((d + 1), 134, 25, [some (.inr (.inr 45)), some (.inl x1), some (.inl x2), some (.inl x3), none, none, none, none, none], [.inl x1, .inr (.inr 14)], (am_sh, am_mm (am_upd U 45 3 0)))) 4 (fun _ => rfl) ?_
      refine eu_iald 14 (n := 9) rfl (by decide) rfl (fun _ => rfl) h21.1 ?_
      have h21a := h21.2
      refine ev_seg (σ1 := ((d + 1), 134, 47, [some (.inr (.inr 45)), some (.inl x1), some (.inl x2), some (.inl x3), some (.inl (if 1600 < ((am_upd U 45 3 0) 14 x1.toNat) then 1600 else ((am_upd U 45 3 0) 14 x1.toNat))), none, none, none, none], [.inl x1, .inr (.inr 13)], (am_sh, am_mm (am_upd U 45 3 0)))) 10 (fun _ => rfl) ?_
      refine eu_iald 13 (n := 9) rfl (by decide) rfl (fun _ => rfl) h21a.1 ?_
      have h21aa := h21a.2
      refine ev_seg (σ1 := ((d + 1), 134, 50, [some (.inr (.inr 45)), some (.inl x1), some (.inl x2), some (.inl x3), some (.inl (if 1600 < ((am_upd U 45 3 0) 14 x1.toNat) then 1600 else ((am_upd U 45 3 0) 14 x1.toNat))), some (.inl ((am_upd U 45 3 0) 13 x1.toNat)), none, none, none], [], (am_sh, am_mm (am_upd U 45 3 0)))) 1 (fun _ => rfl) ?_
      exact h21aa
    · have h22 := h2.2 hc
      subst h22
      exact ev_end 2 (fun _ => rfl)
set_option maxRecDepth 8000 in
theorem st134_45_50 (N : Nat) (X : Nat → Int) (d : Nat) (x1 x2 x3 x4 x5 : Int) (U : Nat → Nat → Int) (R : Option am_V × am_M) (h : (((x4 ≤ x5 : Prop)) → ∃ (r1 : Int) (U1 : Nat → Nat → Int), Ev (am_kz N X) (d, 220, 0, [some (.inr (.inr 45))], [], (am_sh, am_mm U)) (some (.inl r1), (am_sh, am_mm U1)) ∧ (((r1 = 0 : Prop)) → R = (some (.inl 0), (am_sh, am_mm U1))) ∧ (¬ (r1 = 0) → R = (some (.inl 1), (am_sh, am_mm U1)))) ∧ (¬ (x4 ≤ x5) → (0 ≤ x5 ∧ x5 < 1600) ∧ ((((U 15 x5.toNat) < 0 : Prop)) → ((((-100) < (U 15 x5.toNat) : Prop)) → (((16 < (w32 ((-1) - (U 15 x5.toNat))) : Prop)) → ∃ U2 : Nat → Nat → Int, Ev (am_kz N X) (d, 223, 0, [some (.inr (.inr 45)), some (.inl (w32 ((-1) - (U 15 x5.toNat))))], [], (am_sh, am_mm U)) (none, (am_sh, am_mm U2)) ∧ Ev (am_kz N X) ((d + 1), 134, 50, [some (.inr (.inr 45)), some (.inl x1), some (.inl x2), some (.inl x3), some (.inl x4), some (.inl (w32 (x5 + 1))), some (.inl (U 15 x5.toNat)), some (.inl (w32 ((-1) - (U 15 x5.toNat)))), none], [], (am_sh, am_mm U2)) R) ∧ (¬ (16 < (w32 ((-1) - (U 15 x5.toNat)))) → ∃ (r3 : Int) (U3 : Nat → Nat → Int), Ev (am_kz N X) (d, 222, 0, [some (.inr (.inr 45)), some (.inl (w32 ((-1) - (U 15 x5.toNat)))), some (.inl x2), some (.inl x3), none, none], [], (am_sh, am_mm U)) (some (.inl r3), (am_sh, am_mm U3)) ∧ ∃ U4 : Nat → Nat → Int, Ev (am_kz N X) (d, 219, 0, [some (.inr (.inr 45)), some (.inl r3)], [], (am_sh, am_mm U3)) (none, (am_sh, am_mm U4)) ∧ Ev (am_kz N X) ((d + 1), 134, 50, [some (.inr (.inr 45)), some (.inl x1), some (.inl x2), some (.inl x3), some (.inl x4), some (.inl (w32 (x5 + 1))), some (.inl (U 15 x5.toNat)), some (.inl (w32 ((-1) - (U 15 x5.toNat)))), none], [], (am_sh, am_mm U4)) R)) ∧ (¬ ((-100) < (U 15 x5.toNat)) → ∃ (r5 : Int) (U5 : Nat → Nat → Int), Ev (am_kz N X) (d, 220, 0, [some (.inr (.inr 45))], [], (am_sh, am_mm U)) (some (.inl r5), (am_sh, am_mm U5)) ∧ ∃ (r6 : Int) (U6 : Nat → Nat → Int), Ev (am_kz N X) (d, 220, 0, [some (.inr (.inr 45))], [], (am_sh, am_mm U5)) (some (.inl r6), (am_sh, am_mm U6)) ∧ ∃ (r7 : Int) (U7 : Nat → Nat → Int), Ev (am_kz N X) (d, 221, 0, [some (.inl (w32 ((-100) - (U 15 x5.toNat)))), some (.inl r6), some (.inl r5), none, none], [], (am_sh, am_mm U6)) (some (.inl r7), (am_sh, am_mm U7)) ∧ ∃ U8 : Nat → Nat → Int, Ev (am_kz N X) (d, 219, 0, [some (.inr (.inr 45)), some (.inl r7)], [], (am_sh, am_mm U7)) (none, (am_sh, am_mm U8)) ∧ Ev (am_kz N X) ((d + 1), 134, 50, [some (.inr (.inr 45)), some (.inl x1), some (.inl x2), some (.inl x3), some (.inl x4), some (.inl (w32 (x5 + 1))), some (.inl (U 15 x5.toNat)), some (.inl (w32 ((-1) - (U 15 x5.toNat)))), some (.inl r5)], [], (am_sh, am_mm U8)) R)) ∧ (¬ ((U 15 x5.toNat) < 0) → ∃ U9 : Nat → Nat → Int, Ev (am_kz N X) (d, 219, 0, [some (.inr (.inr 45)), some (.inl (U 15 x5.toNat))], [], (am_sh, am_mm U)) (none, (am_sh, am_mm U9)) ∧ Ev (am_kz N X) ((d + 1), 134, 50, [some (.inr (.inr 45)), some (.inl x1), some (.inl x2), some (.inl x3), some (.inl x4), some (.inl (w32 (x5 + 1))), some (.inl (U 15 x5.toNat)), some (.inl (w32 ((-1) - (U 15 x5.toNat)))), none], [], (am_sh, am_mm U9)) R))) : Ev (am_kz N X) ((d + 1), 134, 50, [some (.inr (.inr 45)), some (.inl x1), some (.inl x2), some (.inl x3), some (.inl x4), some (.inl x5), none, none, none], [], (am_sh, am_mm U)) R := by
  refine ev_br (P := x4 ≤ x5) (σ1 := ((d + 1), 134, 157, [some (.inr (.inr 45)), some (.inl x1), some (.inl x2), some (.inl x3), some (.inl x4), some (.inl x5), none, none, none], [], (am_sh, am_mm U))) (σ2 := ((d + 1), 134, 57, [some (.inr (.inr 45)), some (.inl x1), some (.inl x2), some (.inl x3), some (.inl x4), some (.inl x5), none, none, none], [], (am_sh, am_mm U))) 3 (fun _ => rfl) (fun hc => ?_) (fun hc => ?_)
  · have h1 := h.1 hc
    refine ev_seg (σ1 := ((d + 1), 134, 158, [some (.inr (.inr 45)), some (.inl x1), some (.inl x2), some (.inl x3), some (.inl x4), some (.inl x5), none, none, none], [.inr (.inr 45)], (am_sh, am_mm U))) 1 (fun _ => rfl) ?_
    obtain ⟨r1, U1, h1c, h1a⟩ := h1
    refine ev_cal (σc := (d, 220, 0, [some (.inr (.inr 45))], [], (am_sh, am_mm U))) (fun _ => rfl) h1c ?_
    show Ev (am_kz N X) ((d + 1), 134, 161, [some (.inr (.inr 45)), some (.inl x1), some (.inl x2), some (.inl x3), some (.inl x4), some (.inl x5), none, none, none], [.inl r1], (am_sh, am_mm U1)) R
    refine ev_br (P := r1 = 0) (σ1 := ((d + 1), 134, 168, [some (.inr (.inr 45)), some (.inl x1), some (.inl x2), some (.inl x3), some (.inl x4), some (.inl x5), none, none, none], [], (am_sh, am_mm U1))) (σ2 := ((d + 1), 134, 164, [some (.inr (.inr 45)), some (.inl x1), some (.inl x2), some (.inl x3), some (.inl x4), some (.inl x5), none, none, none], [], (am_sh, am_mm U1))) 1 (fun _ => rfl) (fun hc => ?_) (fun hc => ?_)
    · have h1a1 := h1a.1 hc
      subst h1a1
      exact ev_end 2 (fun _ => rfl)
    · have h1a2 := h1a.2 hc
      subst h1a2
      exact ev_end 3 (fun _ => rfl)
  · have h2 := h.2 hc
    refine ev_seg (σ1 := ((d + 1), 134, 66, [some (.inr (.inr 45)), some (.inl x1), some (.inl x2), some (.inl x3), some (.inl x4), some (.inl x5), none, none, none], [.inl x5, .inr (.inr 15)], (am_sh, am_mm U))) 4 (fun _ => rfl) ?_
    refine eu_iald 15 (n := 1600) rfl (by decide) rfl (fun _ => rfl) h2.1 ?_
    have h2a := h2.2
    refine ev_br (P := (U 15 x5.toNat) < 0) (σ1 := ((d + 1), 134, 89, [some (.inr (.inr 45)), some (.inl x1), some (.inl x2), some (.inl x3), some (.inl x4), some (.inl x5), some (.inl (U 15 x5.toNat)), some (.inl (w32 ((-1) - (U 15 x5.toNat)))), none], [], (am_sh, am_mm U))) (σ2 := ((d + 1), 134, 80, [some (.inr (.inr 45)), some (.inl x1), some (.inl x2), some (.inl x3), some (.inl x4), some (.inl x5), some (.inl (U 15 x5.toNat)), some (.inl (w32 ((-1) - (U 15 x5.toNat)))), none], [], (am_sh, am_mm U))) 7 (fun _ => rfl) (fun hc => ?_) (fun hc => ?_)
    · have h2a1 := h2a.1 hc
      refine ev_br (P := (-100) < (U 15 x5.toNat)) (σ1 := ((d + 1), 134, 123, [some (.inr (.inr 45)), some (.inl x1), some (.inl x2), some (.inl x3), some (.inl x4), some (.inl x5), some (.inl (U 15 x5.toNat)), some (.inl (w32 ((-1) - (U 15 x5.toNat)))), none], [], (am_sh, am_mm U))) (σ2 := ((d + 1), 134, 96, [some (.inr (.inr 45)), some (.inl x1), some (.inl x2), some (.inl x3), some (.inl x4), some (.inl x5), some (.inl (U 15 x5.toNat)), some (.inl (w32 ((-1) - (U 15 x5.toNat)))), none], [], (am_sh, am_mm U))) 3 (fun _ => rfl) (fun hc => ?_) (fun hc => ?_)
      · have h2a11 := h2a1.1 hc
        refine ev_br (P := 16 < (w32 ((-1) - (U 15 x5.toNat)))) (σ1 := ((d + 1), 134, 145, [some (.inr (.inr 45)), some (.inl x1), some (.inl x2), some (.inl x3), some (.inl x4), some (.inl x5), some (.inl (U 15 x5.toNat)), some (.inl (w32 ((-1) - (U 15 x5.toNat)))), none], [], (am_sh, am_mm U))) (σ2 := ((d + 1), 134, 130, [some (.inr (.inr 45)), some (.inl x1), some (.inl x2), some (.inl x3), some (.inl x4), some (.inl x5), some (.inl (U 15 x5.toNat)), some (.inl (w32 ((-1) - (U 15 x5.toNat)))), none], [], (am_sh, am_mm U))) 3 (fun _ => rfl) (fun hc => ?_) (fun hc => ?_)
        · have h2a111 := h2a11.1 hc
          refine ev_seg (σ1 := ((d + 1), 134, 148, [some (.inr (.inr 45)), some (.inl x1), some (.inl x2), some (.inl x3), some (.inl x4), some (.inl x5), some (.inl (U 15 x5.toNat)), some (.inl (w32 ((-1) - (U 15 x5.toNat)))), none], [.inl (w32 ((-1) - (U 15 x5.toNat))), .inr (.inr 45)], (am_sh, am_mm U))) 2 (fun _ => rfl) ?_
          obtain ⟨U2, h2a111c, h2a111a⟩ := h2a111
          refine ev_cal (σc := (d, 223, 0, [some (.inr (.inr 45)), some (.inl (w32 ((-1) - (U 15 x5.toNat))))], [], (am_sh, am_mm U))) (fun _ => rfl) h2a111c ?_
          show Ev (am_kz N X) ((d + 1), 134, 151, [some (.inr (.inr 45)), some (.inl x1), some (.inl x2), some (.inl x3), some (.inl x4), some (.inl x5), some (.inl (U 15 x5.toNat)), some (.inl (w32 ((-1) - (U 15 x5.toNat)))), none], [], (am_sh, am_mm U2)) R
          refine ev_seg (σ1 := ((d + 1), 134, 50, [some (.inr (.inr 45)), some (.inl x1), some (.inl x2), some (.inl x3), some (.inl x4), some (.inl (w32 (x5 + 1))), some (.inl (U 15 x5.toNat)), some (.inl (w32 ((-1) - (U 15 x5.toNat)))), none], [], (am_sh, am_mm U2))) 2 (fun _ => rfl) ?_
          exact h2a111a
        · have h2a112 := h2a11.2 hc
          refine ev_seg (σ1 := ((d + 1), 134, 136, [some (.inr (.inr 45)), some (.inl x1), some (.inl x2), some (.inl x3), some (.inl x4), some (.inl x5), some (.inl (U 15 x5.toNat)), some (.inl (w32 ((-1) - (U 15 x5.toNat)))), none], [.inl x3, .inl x2, .inl (w32 ((-1) - (U 15 x5.toNat))), .inr (.inr 45), .inr (.inr 45)], (am_sh, am_mm U))) 5 (fun _ => rfl) ?_
          obtain ⟨r3, U3, h2a112c, h2a112a⟩ := h2a112
          refine ev_cal (σc := (d, 222, 0, [some (.inr (.inr 45)), some (.inl (w32 ((-1) - (U 15 x5.toNat)))), some (.inl x2), some (.inl x3), none, none], [], (am_sh, am_mm U))) (fun _ => rfl) h2a112c ?_
          show Ev (am_kz N X) ((d + 1), 134, 139, [some (.inr (.inr 45)), some (.inl x1), some (.inl x2), some (.inl x3), some (.inl x4), some (.inl x5), some (.inl (U 15 x5.toNat)), some (.inl (w32 ((-1) - (U 15 x5.toNat)))), none], [.inl r3, .inr (.inr 45)], (am_sh, am_mm U3)) R
          obtain ⟨U4, h2a112ac, h2a112aa⟩ := h2a112a
          refine ev_cal (σc := (d, 219, 0, [some (.inr (.inr 45)), some (.inl r3)], [], (am_sh, am_mm U3))) (fun _ => rfl) h2a112ac ?_
          show Ev (am_kz N X) ((d + 1), 134, 142, [some (.inr (.inr 45)), some (.inl x1), some (.inl x2), some (.inl x3), some (.inl x4), some (.inl x5), some (.inl (U 15 x5.toNat)), some (.inl (w32 ((-1) - (U 15 x5.toNat)))), none], [], (am_sh, am_mm U4)) R
          refine ev_seg (σ1 := ((d + 1), 134, 50, [some (.inr (.inr 45)), some (.inl x1), some (.inl x2), some (.inl x3), some (.inl x4), some (.inl (w32 (x5 + 1))), some (.inl (U 15 x5.toNat)), some (.inl (w32 ((-1) - (U 15 x5.toNat)))), none], [], (am_sh, am_mm U4))) 3 (fun _ => rfl) ?_
          exact h2a112aa
      · have h2a12 := h2a1.2 hc
        refine ev_seg (σ1 := ((d + 1), 134, 97, [some (.inr (.inr 45)), some (.inl x1), some (.inl x2), some (.inl x3), some (.inl x4), some (.inl x5), some (.inl (U 15 x5.toNat)), some (.inl (w32 ((-1) - (U 15 x5.toNat)))), none], [.inr (.inr 45)], (am_sh, am_mm U))) 1 (fun _ => rfl) ?_
        obtain ⟨r5, U5, h2a12c, h2a12a⟩ := h2a12
        refine ev_cal (σc := (d, 220, 0, [some (.inr (.inr 45))], [], (am_sh, am_mm U))) (fun _ => rfl) h2a12c ?_
        show Ev (am_kz N X) ((d + 1), 134, 100, [some (.inr (.inr 45)), some (.inl x1), some (.inl x2), some (.inl x3), some (.inl x4), some (.inl x5), some (.inl (U 15 x5.toNat)), some (.inl (w32 ((-1) - (U 15 x5.toNat)))), none], [.inl r5], (am_sh, am_mm U5)) R
        refine ev_seg (σ1 := ((d + 1), 134, 109, [some (.inr (.inr 45)), some (.inl x1), some (.inl x2), some (.inl x3), some (.inl x4), some (.inl x5), some (.inl (U 15 x5.toNat)), some (.inl (w32 ((-1) - (U 15 x5.toNat)))), some (.inl r5)], [.inr (.inr 45), .inl (w32 ((-100) - (U 15 x5.toNat))), .inr (.inr 45)], (am_sh, am_mm U5))) 6 (fun _ => rfl) ?_
        obtain ⟨r6, U6, h2a12ac, h2a12aa⟩ := h2a12a
        refine ev_cal (σc := (d, 220, 0, [some (.inr (.inr 45))], [], (am_sh, am_mm U5))) (fun _ => rfl) h2a12ac ?_
        show Ev (am_kz N X) ((d + 1), 134, 112, [some (.inr (.inr 45)), some (.inl x1), some (.inl x2), some (.inl x3), some (.inl x4), some (.inl x5), some (.inl (U 15 x5.toNat)), some (.inl (w32 ((-1) - (U 15 x5.toNat)))), some (.inl r5)], [.inl r6, .inl (w32 ((-100) - (U 15 x5.toNat))), .inr (.inr 45)], (am_sh, am_mm U6)) R
        refine ev_seg (σ1 := ((d + 1), 134, 114, [some (.inr (.inr 45)), some (.inl x1), some (.inl x2), some (.inl x3), some (.inl x4), some (.inl x5), some (.inl (U 15 x5.toNat)), some (.inl (w32 ((-1) - (U 15 x5.toNat)))), some (.inl r5)], [.inl r5, .inl r6, .inl (w32 ((-100) - (U 15 x5.toNat))), .inr (.inr 45)], (am_sh, am_mm U6))) 1 (fun _ => rfl) ?_
        obtain ⟨r7, U7, h2a12aac, h2a12aaa⟩ := h2a12aa
        refine ev_cal (σc := (d, 221, 0, [some (.inl (w32 ((-100) - (U 15 x5.toNat)))), some (.inl r6), some (.inl r5), none, none], [], (am_sh, am_mm U6))) (fun _ => rfl) h2a12aac ?_
        show Ev (am_kz N X) ((d + 1), 134, 117, [some (.inr (.inr 45)), some (.inl x1), some (.inl x2), some (.inl x3), some (.inl x4), some (.inl x5), some (.inl (U 15 x5.toNat)), some (.inl (w32 ((-1) - (U 15 x5.toNat)))), some (.inl r5)], [.inl r7, .inr (.inr 45)], (am_sh, am_mm U7)) R
        obtain ⟨U8, h2a12aaac, h2a12aaaa⟩ := h2a12aaa
        refine ev_cal (σc := (d, 219, 0, [some (.inr (.inr 45)), some (.inl r7)], [], (am_sh, am_mm U7))) (fun _ => rfl) h2a12aaac ?_
        show Ev (am_kz N X) ((d + 1), 134, 120, [some (.inr (.inr 45)), some (.inl x1), some (.inl x2), some (.inl x3), some (.inl x4), some (.inl x5), some (.inl (U 15 x5.toNat)), some (.inl (w32 ((-1) - (U 15 x5.toNat)))), some (.inl r5)], [], (am_sh, am_mm U8)) R
        refine ev_seg (σ1 := ((d + 1), 134, 50, [some (.inr (.inr 45)), some (.inl x1), some (.inl x2), some (.inl x3), some (.inl x4), some (.inl (w32 (x5 + 1))), some (.inl (U 15 x5.toNat)), some (.inl (w32 ((-1) - (U 15 x5.toNat)))), some (.inl r5)], [], (am_sh, am_mm U8))) 3 (fun _ => rfl) ?_
        exact h2a12aaaa
    · have h2a2 := h2a.2 hc
      refine ev_seg (σ1 := ((d + 1), 134, 83, [some (.inr (.inr 45)), some (.inl x1), some (.inl x2), some (.inl x3), some (.inl x4), some (.inl x5), some (.inl (U 15 x5.toNat)), some (.inl (w32 ((-1) - (U 15 x5.toNat)))), none], [.inl (U 15 x5.toNat), .inr (.inr 45)], (am_sh, am_mm U))) 2 (fun _ => rfl) ?_
      obtain ⟨U9, h2a2c, h2a2a⟩ := h2a2
      refine ev_cal (σc := (d, 219, 0, [some (.inr (.inr 45)), some (.inl (U 15 x5.toNat))], [], (am_sh, am_mm U))) (fun _ => rfl) h2a2c ?_
      show Ev (am_kz N X) ((d + 1), 134, 86, [some (.inr (.inr 45)), some (.inl x1), some (.inl x2), some (.inl x3), some (.inl x4), some (.inl x5), some (.inl (U 15 x5.toNat)), some (.inl (w32 ((-1) - (U 15 x5.toNat)))), none], [], (am_sh, am_mm U9)) R
      refine ev_seg (σ1 := ((d + 1), 134, 50, [some (.inr (.inr 45)), some (.inl x1), some (.inl x2), some (.inl x3), some (.inl x4), some (.inl (w32 (x5 + 1))), some (.inl (U 15 x5.toNat)), some (.inl (w32 ((-1) - (U 15 x5.toNat)))), none], [], (am_sh, am_mm U9))) 3 (fun _ => rfl) ?_
      exact h2a2a
set_option maxRecDepth 8000 in
theorem st135_86_0 (N : Nat) (X : Nat → Int) (d : Nat) (x1 x2 x3 x5 x6 : Int) (U : Nat → Nat → Int) (R : Option am_V × am_M) (h : ∃ (r1 : Int) (U1 : Nat → Nat → Int), Ev (am_kz N X) (d, 224, 0, [some (.inr (.inr 86)), some (.inl x5), some (.inl x6), none, none, none], [], (am_sh, am_mm (am_upd (am_upd (am_upd U 86 61 x1) 86 62 x2) 86 63 x3))) (some (.inl r1), (am_sh, am_mm U1)) ∧ (r1 = 0 ∨ r1 = 1) ∧ R = (some (.inl r1), (am_sh, am_mm U1))) : Ev (am_kz N X) ((d + 1), 135, 0, [some (.inr (.inr 86)), some (.inl x1), some (.inl x2), some (.inr (.inl x3)), none, some (.inl x5), some (.inl x6)], [], (am_sh, am_mm U)) R := by
  refine ev_seg (σ1 := ((d + 1), 135, 2, [some (.inr (.inr 86)), some (.inl x1), some (.inl x2), some (.inr (.inl x3)), none, some (.inl x5), some (.inl x6)], [.inl x1, .inr (.inr 86)], (am_sh, am_mm U))) 2 (fun _ => rfl) ?_
  refine eu_puti 86 (n := 90) rfl (by decide) rfl rfl ?_
  refine ev_seg (σ1 := ((d + 1), 135, 7, [some (.inr (.inr 86)), some (.inl x1), some (.inl x2), some (.inr (.inl x3)), none, some (.inl x5), some (.inl x6)], [.inl x2, .inr (.inr 86)], (am_sh, am_mm (am_upd U 86 61 x1)))) 2 (fun _ => rfl) ?_
  refine eu_puti 86 (n := 90) rfl (by decide) rfl rfl ?_
  refine ev_seg (σ1 := ((d + 1), 135, 12, [some (.inr (.inr 86)), some (.inl x1), some (.inl x2), some (.inr (.inl x3)), none, some (.inl x5), some (.inl x6)], [.inr (.inl x3), .inr (.inr 86)], (am_sh, am_mm (am_upd (am_upd U 86 61 x1) 86 62 x2)))) 2 (fun _ => rfl) ?_
  refine eu_putj 86 (n := 90) rfl (by decide) rfl rfl ?_
  refine ev_seg (σ1 := ((d + 1), 135, 20, [some (.inr (.inr 86)), some (.inl x1), some (.inl x2), some (.inr (.inl x3)), none, some (.inl x5), some (.inl x6)], [.inl x6, .inl x5, .inr (.inr 86)], (am_sh, am_mm (am_upd (am_upd (am_upd U 86 61 x1) 86 62 x2) 86 63 x3)))) 3 (fun _ => rfl) ?_
  obtain ⟨r1, U1, hc, ha⟩ := h
  refine ev_cal (σc := (d, 224, 0, [some (.inr (.inr 86)), some (.inl x5), some (.inl x6), none, none, none], [], (am_sh, am_mm (am_upd (am_upd (am_upd U 86 61 x1) 86 62 x2) 86 63 x3)))) (fun _ => rfl) hc ?_
  show Ev (am_kz N X) ((d + 1), 135, 23, [some (.inr (.inr 86)), some (.inl x1), some (.inl x2), some (.inr (.inl x3)), none, some (.inl x5), some (.inl x6)], [.inl r1], (am_sh, am_mm U1)) R
  rw [ha.2]
  exact ev_retz rfl rfl ha.1
set_option maxRecDepth 8000 in
theorem st136_86_0 (N : Nat) (X : Nat → Int) (d : Nat) (x1 x2 x3 x4 : Int) (U : Nat → Nat → Int) (R : Option am_V × am_M) (h : (0 ≤ (w32 ((w32 (8 * (U 86 13))) + x2)) ∧ (w32 ((w32 (8 * (U 86 13))) + x2)) < 16) ∧ (0 ≤ (w32 ((w32 (8 * (U 86 13))) + x2)) ∧ (w32 ((w32 (8 * (U 86 13))) + x2)) < 16) ∧ ∃ (r1 : Int) (U1 : Nat → Nat → Int), Ev (am_kz N X) (d, 135, 0, [some (.inr (.inr 86)), some (.inl x1), some (.inl x3), some (.inr (.inl x4)), none, some (.inl (U 102 (w32 ((w32 (8 * (U 86 13))) + x2)).toNat)), some (.inl (U 103 (w32 ((w32 (8 * (U 86 13))) + x2)).toNat))], [], (am_sh, am_mm U)) (some (.inl r1), (am_sh, am_mm U1)) ∧ (r1 = 0 ∨ r1 = 1) ∧ R = (some (.inl r1), (am_sh, am_mm U1))) : Ev (am_kz N X) ((d + 1), 136, 0, [some (.inr (.inr 86)), some (.inl x1), some (.inl x2), some (.inl x3), some (.inr (.inl x4)), none], [], (am_sh, am_mm U)) R := by
  refine ev_seg (σ1 := ((d + 1), 136, 18, [some (.inr (.inr 86)), some (.inl x1), some (.inl x2), some (.inl x3), some (.inr (.inl x4)), none], [.inl (w32 ((w32 (8 * (U 86 13))) + x2)), .inr (.inr 102), .inr (.inl x4), .inl x3, .inl x1, .inr (.inr 86)], (am_sh, am_mm U))) 12 (fun _ => rfl) ?_
  refine eu_iald 102 (n := 16) rfl (by decide) rfl (fun _ => rfl) h.1 ?_
  have ha := h.2
  refine ev_seg (σ1 := ((d + 1), 136, 32, [some (.inr (.inr 86)), some (.inl x1), some (.inl x2), some (.inl x3), some (.inr (.inl x4)), none], [.inl (w32 ((w32 (8 * (U 86 13))) + x2)), .inr (.inr 103), .inl (U 102 (w32 ((w32 (8 * (U 86 13))) + x2)).toNat), .inr (.inl x4), .inl x3, .inl x1, .inr (.inr 86)], (am_sh, am_mm U))) 8 (fun _ => rfl) ?_
  refine eu_iald 103 (n := 16) rfl (by decide) rfl (fun _ => rfl) ha.1 ?_
  have haa := ha.2
  obtain ⟨r1, U1, haac, haaa⟩ := haa
  refine ev_cal (σc := (d, 135, 0, [some (.inr (.inr 86)), some (.inl x1), some (.inl x3), some (.inr (.inl x4)), none, some (.inl (U 102 (w32 ((w32 (8 * (U 86 13))) + x2)).toNat)), some (.inl (U 103 (w32 ((w32 (8 * (U 86 13))) + x2)).toNat))], [], (am_sh, am_mm U))) (fun _ => rfl) haac ?_
  show Ev (am_kz N X) ((d + 1), 136, 36, [some (.inr (.inr 86)), some (.inl x1), some (.inl x2), some (.inl x3), some (.inr (.inl x4)), none], [.inl r1], (am_sh, am_mm U1)) R
  rw [haaa.2]
  exact ev_retz rfl rfl haaa.1
set_option maxRecDepth 8000 in
theorem st138_16_0 (N : Nat) (X : Nat → Int) (d : Nat) (x1 x2 : Int) (U : Nat → Nat → Int) (R : Option am_V × am_M) (h : (((x1 < 0 : Prop)) → R = (none, (am_sh, am_mm U))) ∧ (¬ (x1 < 0) → (((x1 < 16 : Prop)) → (0 ≤ x1 ∧ x1 < 16) ∧ ((((U 18 x1.toNat) < 0 : Prop)) → (0 ≤ x1 ∧ x1 < 16) ∧ (((x2 < 0 : Prop)) → R = (none, (am_sh, am_mm (am_upd U 18 x1.toNat (-1))))) ∧ (¬ (x2 < 0) → (((12 ≤ x2 : Prop)) → R = (none, (am_sh, am_mm (am_upd U 18 x1.toNat (-1))))) ∧ (¬ (12 ≤ x2) → (0 ≤ x1 ∧ x1 < 16) ∧ (0 ≤ x2 ∧ x2 < 12) ∧ (0 ≤ x2 ∧ x2 < 12) ∧ R = (none, (am_sh, am_mm (am_upd (am_upd (am_upd U 18 x1.toNat (-1)) 18 x1.toNat x2) 19 x2.toNat (am_or ((am_upd (am_upd U 18 x1.toNat (-1)) 18 x1.toNat x2) 19 x2.toNat) (am_shl 1 x1)))))))) ∧ (¬ ((U 18 x1.toNat) < 0) → (((12 ≤ (U 18 x1.toNat) : Prop)) → (0 ≤ x1 ∧ x1 < 16) ∧ (((x2 < 0 : Prop)) → R = (none, (am_sh, am_mm (am_upd U 18 x1.toNat (-1))))) ∧ (¬ (x2 < 0) → (((12 ≤ x2 : Prop)) → R = (none, (am_sh, am_mm (am_upd U 18 x1.toNat (-1))))) ∧ (¬ (12 ≤ x2) → (0 ≤ x1 ∧ x1 < 16) ∧ (0 ≤ x2 ∧ x2 < 12) ∧ (0 ≤ x2 ∧ x2 < 12) ∧ R = (none, (am_sh, am_mm (am_upd (am_upd (am_upd U 18 x1.toNat (-1)) 18 x1.toNat x2) 19 x2.toNat (am_or ((am_upd (am_upd U 18 x1.toNat (-1)) 18 x1.toNat x2) 19 x2.toNat) (am_shl 1 x1)))))))) ∧ (¬ (12 ≤ (U 18 x1.toNat)) → (0 ≤ (U 18 x1.toNat) ∧ (U 18 x1.toNat) < 12) ∧ (0 ≤ (U 18 x1.toNat) ∧ (U 18 x1.toNat) < 12) ∧ (0 ≤ x1 ∧ x1 < 16) ∧ (((x2 < 0 : Prop)) → R = (none, (am_sh, am_mm (am_upd (am_upd U 19 (U 18 x1.toNat).toNat (am_and (U 19 (U 18 x1.toNat).toNat) (am_xor (am_shl 1 x1) (-1)))) 18 x1.toNat (-1))))) ∧ (¬ (x2 < 0) → (((12 ≤ x2 : Prop)) → R = (none, (am_sh, am_mm (am_upd (am_upd U 19 (U 18 x1.toNat).toNat (am_and (U 19 (U 18 x1.toNat).toNat) (am_xor (am_shl 1 x1) (-1)))) 18 x1.toNat (-1))))) ∧ (¬ (12 ≤ x2) → (0 ≤ x1 ∧ x1 < 16) ∧ (0 ≤ x2 ∧ x2 < 12) ∧ (0 ≤ x2 ∧ x2 < 12) ∧ R = (none, (am_sh, am_mm (am_upd (am_upd (am_upd (am_upd U 19 (U 18 x1.toNat).toNat (am_and (U 19 (U 18 x1.toNat).toNat) (am_xor (am_shl 1 x1) (-1)))) 18 x1.toNat (-1)) 18 x1.toNat x2) 19 x2.toNat (am_or ((am_upd (am_upd (am_upd U 19 (U 18 x1.toNat).toNat (am_and (U 19 (U 18 x1.toNat).toNat) (am_xor (am_shl 1 x1) (-1)))) 18 x1.toNat (-1)) 18 x1.toNat x2) 19 x2.toNat) (am_shl 1 x1)))))))))) ∧ (¬ (x1 < 16) → R = (none, (am_sh, am_mm U))))) : Ev (am_kz N X) (d, 138, 0, [some (.inr (.inr 16)), some (.inl x1), some (.inl x2), none], [], (am_sh, am_mm U)) R := by
  refine ev_br (P := x1 < 0) (σ1 := (d, 138, 10, [some (.inr (.inr 16)), some (.inl x1), some (.inl x2), none], [], (am_sh, am_mm U))) (σ2 := (d, 138, 4, [some (.inr (.inr 16)), some (.inl x1), some (.inl x2), none], [], (am_sh, am_mm U))) 2 (fun _ => rfl) (fun hc => ?_) (fun hc => ?_)
  · have h1 := h.1 hc
    subst h1
    exact ev_end 1 (fun _ => rfl)
  · have h2 := h.2 hc
    refine ev_br (P := x1 < 16) (σ1 := (d, 138, 11, [some (.inr (.inr 16)), some (.inl x1), some (.inl x2), none], [], (am_sh, am_mm U))) (σ2 := (d, 138, 10, [some (.inr (.inr 16)), some (.inl x1), some (.inl x2), none], [], (am_sh, am_mm U))) 3 (fun _ => rfl) (fun hc => ?_) (fun hc => ?_)
    · have h21 := h2.1 hc
      refine ev_seg (σ1 := (d, 138, 16, [some (.inr (.inr 16)), some (.inl x1), some (.inl x2), none], [.inl x1, .inr (.inr 18)], (am_sh, am_mm U))) 3 (fun _ => rfl) ?_
      refine eu_iald 18 (n := 16) rfl (by decide) rfl (fun _ => rfl) h21.1 ?_
      have h21a := h21.2
      refine ev_br (P := (U 18 x1.toNat) < 0) (σ1 := (d, 138, 42, [some (.inr (.inr 16)), some (.inl x1), some (.inl x2), some (.inl (U 18 x1.toNat))], [], (am_sh, am_mm U))) (σ2 := (d, 138, 22, [some (.inr (.inr 16)), some (.inl x1), some (.inl x2), some (.inl (U 18 x1.toNat))], [], (am_sh, am_mm U))) 3 (fun _ => rfl) (fun hc => ?_) (fun hc => ?_)
      · have h21a1 := h21a.1 hc
        refine ev_seg (σ1 := (d, 138, 48, [some (.inr (.inr 16)), some (.inl x1), some (.inl x2), some (.inl (U 18 x1.toNat))], [.inl (-1), .inl x1, .inr (.inr 18)], (am_sh, am_mm U))) 4 (fun _ => rfl) ?_
        refine eu_iast 18 (n := 16) rfl (by decide) rfl (fun _ => rfl) h21a1.1 ?_
        have h21a1a := h21a1.2
        refine ev_br (P := x2 < 0) (σ1 := (d, 138, 78, [some (.inr (.inr 16)), some (.inl x1), some (.inl x2), some (.inl (U 18 x1.toNat))], [], (am_sh, am_mm (am_upd U 18 x1.toNat (-1))))) (σ2 := (d, 138, 53, [some (.inr (.inr 16)), some (.inl x1), some (.inl x2), some (.inl (U 18 x1.toNat))], [], (am_sh, am_mm (am_upd U 18 x1.toNat (-1))))) 2 (fun _ => rfl) (fun hc => ?_) (fun hc => ?_)
        · have h21a1a1 := h21a1a.1 hc
          subst h21a1a1
          exact ev_end 1 (fun _ => rfl)
        · have h21a1a2 := h21a1a.2 hc
          refine ev_br (P := 12 ≤ x2) (σ1 := (d, 138, 78, [some (.inr (.inr 16)), some (.inl x1), some (.inl x2), some (.inl (U 18 x1.toNat))], [], (am_sh, am_mm (am_upd U 18 x1.toNat (-1))))) (σ2 := (d, 138, 59, [some (.inr (.inr 16)), some (.inl x1), some (.inl x2), some (.inl (U 18 x1.toNat))], [], (am_sh, am_mm (am_upd U 18 x1.toNat (-1))))) 3 (fun _ => rfl) (fun hc => ?_) (fun hc => ?_)
          · have h21a1a21 := h21a1a2.1 hc
            subst h21a1a21
            exact ev_end 1 (fun _ => rfl)
          · have h21a1a22 := h21a1a2.2 hc
            refine ev_seg (σ1 := (d, 138, 65, [some (.inr (.inr 16)), some (.inl x1), some (.inl x2), some (.inl (U 18 x1.toNat))], [.inl x2, .inl x1, .inr (.inr 18)], (am_sh, am_mm (am_upd U 18 x1.toNat (-1))))) 4 (fun _ => rfl) ?_
            refine eu_iast 18 (n := 16) rfl (by decide) rfl (fun _ => rfl) h21a1a22.1 ?_
            have h21a1a22a := h21a1a22.2
            refine ev_seg (σ1 := (d, 138, 72, [some (.inr (.inr 16)), some (.inl x1), some (.inl x2), some (.inl (U 18 x1.toNat))], [.inl x2, .inr (.inr 19), .inl x2, .inr (.inr 19)], (am_sh, am_mm (am_upd (am_upd U 18 x1.toNat (-1)) 18 x1.toNat x2)))) 4 (fun _ => rfl) ?_
            refine eu_iald 19 (n := 12) rfl (by decide) rfl (fun _ => rfl) h21a1a22a.1 ?_
            have h21a1a22aa := h21a1a22a.2
            refine ev_seg (σ1 := (d, 138, 77, [some (.inr (.inr 16)), some (.inl x1), some (.inl x2), some (.inl (U 18 x1.toNat))], [.inl (am_or ((am_upd (am_upd U 18 x1.toNat (-1)) 18 x1.toNat x2) 19 x2.toNat) (am_shl 1 x1)), .inl x2, .inr (.inr 19)], (am_sh, am_mm (am_upd (am_upd U 18 x1.toNat (-1)) 18 x1.toNat x2)))) 4 (fun _ => rfl) ?_
            refine eu_iast 19 (n := 12) rfl (by decide) rfl (fun _ => rfl) h21a1a22aa.1 ?_
            have h21a1a22aaa := h21a1a22aa.2
            subst h21a1a22aaa
            exact ev_end 1 (fun _ => rfl)
      · have h21a2 := h21a.2 hc
        refine ev_br (P := 12 ≤ (U 18 x1.toNat)) (σ1 := (d, 138, 42, [some (.inr (.inr 16)), some (.inl x1), some (.inl x2), some (.inl (U 18 x1.toNat))], [], (am_sh, am_mm U))) (σ2 := (d, 138, 28, [some (.inr (.inr 16)), some (.inl x1), some (.inl x2), some (.inl (U 18 x1.toNat))], [], (am_sh, am_mm U))) 3 (fun _ => rfl) (fun hc => ?_) (fun hc => ?_)
        · have h21a21 := h21a2.1 hc
          refine ev_seg (σ1 := (d, 138, 48, [some (.inr (.inr 16)), some (.inl x1), some (.inl x2), some (.inl (U 18 x1.toNat))], [.inl (-1), .inl x1, .inr (.inr 18)], (am_sh, am_mm U))) 4 (fun _ => rfl) ?_
          refine eu_iast 18 (n := 16) rfl (by decide) rfl (fun _ => rfl) h21a21.1 ?_
          have h21a21a := h21a21.2
          refine ev_br (P := x2 < 0) (σ1 := (d, 138, 78, [some (.inr (.inr 16)), some (.inl x1), some (.inl x2), some (.inl (U 18 x1.toNat))], [], (am_sh, am_mm (am_upd U 18 x1.toNat (-1))))) (σ2 := (d, 138, 53, [some (.inr (.inr 16)), some (.inl x1), some (.inl x2), some (.inl (U 18 x1.toNat))], [], (am_sh, am_mm (am_upd U 18 x1.toNat (-1))))) 2 (fun _ => rfl) (fun hc => ?_) (fun hc => ?_)
          · have h21a21a1 := h21a21a.1 hc
            subst h21a21a1
            exact ev_end 1 (fun _ => rfl)
          · have h21a21a2 := h21a21a.2 hc
            refine ev_br (P := 12 ≤ x2) (σ1 := (d, 138, 78, [some (.inr (.inr 16)), some (.inl x1), some (.inl x2), some (.inl (U 18 x1.toNat))], [], (am_sh, am_mm (am_upd U 18 x1.toNat (-1))))) (σ2 := (d, 138, 59, [some (.inr (.inr 16)), some (.inl x1), some (.inl x2), some (.inl (U 18 x1.toNat))], [], (am_sh, am_mm (am_upd U 18 x1.toNat (-1))))) 3 (fun _ => rfl) (fun hc => ?_) (fun hc => ?_)
            · have h21a21a21 := h21a21a2.1 hc
              subst h21a21a21
              exact ev_end 1 (fun _ => rfl)
            · have h21a21a22 := h21a21a2.2 hc
              refine ev_seg (σ1 := (d, 138, 65, [some (.inr (.inr 16)), some (.inl x1), some (.inl x2), some (.inl (U 18 x1.toNat))], [.inl x2, .inl x1, .inr (.inr 18)], (am_sh, am_mm (am_upd U 18 x1.toNat (-1))))) 4 (fun _ => rfl) ?_
              refine eu_iast 18 (n := 16) rfl (by decide) rfl (fun _ => rfl) h21a21a22.1 ?_
              have h21a21a22a := h21a21a22.2
              refine ev_seg (σ1 := (d, 138, 72, [some (.inr (.inr 16)), some (.inl x1), some (.inl x2), some (.inl (U 18 x1.toNat))], [.inl x2, .inr (.inr 19), .inl x2, .inr (.inr 19)], (am_sh, am_mm (am_upd (am_upd U 18 x1.toNat (-1)) 18 x1.toNat x2)))) 4 (fun _ => rfl) ?_
              refine eu_iald 19 (n := 12) rfl (by decide) rfl (fun _ => rfl) h21a21a22a.1 ?_
              have h21a21a22aa := h21a21a22a.2
              refine ev_seg (σ1 := (d, 138, 77, [some (.inr (.inr 16)), some (.inl x1), some (.inl x2), some (.inl (U 18 x1.toNat))], [.inl (am_or ((am_upd (am_upd U 18 x1.toNat (-1)) 18 x1.toNat x2) 19 x2.toNat) (am_shl 1 x1)), .inl x2, .inr (.inr 19)], (am_sh, am_mm (am_upd (am_upd U 18 x1.toNat (-1)) 18 x1.toNat x2)))) 4 (fun _ => rfl) ?_
              refine eu_iast 19 (n := 12) rfl (by decide) rfl (fun _ => rfl) h21a21a22aa.1 ?_
              have h21a21a22aaa := h21a21a22aa.2
              subst h21a21a22aaa
              exact ev_end 1 (fun _ => rfl)
        · have h21a22 := h21a2.2 hc
          refine ev_seg (σ1 := (d, 138, 34, [some (.inr (.inr 16)), some (.inl x1), some (.inl x2), some (.inl (U 18 x1.toNat))], [.inl (U 18 x1.toNat), .inr (.inr 19), .inl (U 18 x1.toNat), .inr (.inr 19)], (am_sh, am_mm U))) 4 (fun _ => rfl) ?_
          refine eu_iald 19 (n := 12) rfl (by decide) rfl (fun _ => rfl) h21a22.1 ?_
          have h21a22a := h21a22.2
          refine ev_seg (σ1 := (d, 138, 41, [some (.inr (.inr 16)), some (.inl x1), some (.inl x2), some (.inl (U 18 x1.toNat))], [.inl (am_and (U 19 (U 18 x1.toNat).toNat) (am_xor (am_shl 1 x1) (-1))), .inl (U 18 x1.toNat), .inr (.inr 19)], (am_sh, am_mm U))) 6 (fun _ => rfl) ?_
          refine eu_iast 19 (n := 12) rfl (by decide) rfl (fun _ => rfl) h21a22a.1 ?_
          have h21a22aa := h21a22a.2
          refine ev_seg (σ1 := (d, 138, 48, [some (.inr (.inr 16)), some (.inl x1), some (.inl x2), some (.inl (U 18 x1.toNat))], [.inl (-1), .inl x1, .inr (.inr 18)], (am_sh, am_mm (am_upd U 19 (U 18 x1.toNat).toNat (am_and (U 19 (U 18 x1.toNat).toNat) (am_xor (am_shl 1 x1) (-1))))))) 4 (fun _ => rfl) ?_
          refine eu_iast 18 (n := 16) rfl (by decide) rfl (fun _ => rfl) h21a22aa.1 ?_
          have h21a22aaa := h21a22aa.2
          refine ev_br (P := x2 < 0) (σ1 := (d, 138, 78, [some (.inr (.inr 16)), some (.inl x1), some (.inl x2), some (.inl (U 18 x1.toNat))], [], (am_sh, am_mm (am_upd (am_upd U 19 (U 18 x1.toNat).toNat (am_and (U 19 (U 18 x1.toNat).toNat) (am_xor (am_shl 1 x1) (-1)))) 18 x1.toNat (-1))))) (σ2 := (d, 138, 53, [some (.inr (.inr 16)), some (.inl x1), some (.inl x2), some (.inl (U 18 x1.toNat))], [], (am_sh, am_mm (am_upd (am_upd U 19 (U 18 x1.toNat).toNat (am_and (U 19 (U 18 x1.toNat).toNat) (am_xor (am_shl 1 x1) (-1)))) 18 x1.toNat (-1))))) 2 (fun _ => rfl) (fun hc => ?_) (fun hc => ?_)
          · have h21a22aaa1 := h21a22aaa.1 hc
            subst h21a22aaa1
            exact ev_end 1 (fun _ => rfl)
          · have h21a22aaa2 := h21a22aaa.2 hc
            refine ev_br (P := 12 ≤ x2) (σ1 := (d, 138, 78, [some (.inr (.inr 16)), some (.inl x1), some (.inl x2), some (.inl (U 18 x1.toNat))], [], (am_sh, am_mm (am_upd (am_upd U 19 (U 18 x1.toNat).toNat (am_and (U 19 (U 18 x1.toNat).toNat) (am_xor (am_shl 1 x1) (-1)))) 18 x1.toNat (-1))))) (σ2 := (d, 138, 59, [some (.inr (.inr 16)), some (.inl x1), some (.inl x2), some (.inl (U 18 x1.toNat))], [], (am_sh, am_mm (am_upd (am_upd U 19 (U 18 x1.toNat).toNat (am_and (U 19 (U 18 x1.toNat).toNat) (am_xor (am_shl 1 x1) (-1)))) 18 x1.toNat (-1))))) 3 (fun _ => rfl) (fun hc => ?_) (fun hc => ?_)
            · have h21a22aaa21 := h21a22aaa2.1 hc
              subst h21a22aaa21
              exact ev_end 1 (fun _ => rfl)
            · have h21a22aaa22 := h21a22aaa2.2 hc
              refine ev_seg (σ1 := (d, 138, 65, [some (.inr (.inr 16)), some (.inl x1), some (.inl x2), some (.inl (U 18 x1.toNat))], [.inl x2, .inl x1, .inr (.inr 18)], (am_sh, am_mm (am_upd (am_upd U 19 (U 18 x1.toNat).toNat (am_and (U 19 (U 18 x1.toNat).toNat) (am_xor (am_shl 1 x1) (-1)))) 18 x1.toNat (-1))))) 4 (fun _ => rfl) ?_
              refine eu_iast 18 (n := 16) rfl (by decide) rfl (fun _ => rfl) h21a22aaa22.1 ?_
              have h21a22aaa22a := h21a22aaa22.2
              refine ev_seg (σ1 := (d, 138, 72, [some (.inr (.inr 16)), some (.inl x1), some (.inl x2), some (.inl (U 18 x1.toNat))], [.inl x2, .inr (.inr 19), .inl x2, .inr (.inr 19)], (am_sh, am_mm (am_upd (am_upd (am_upd U 19 (U 18 x1.toNat).toNat (am_and (U 19 (U 18 x1.toNat).toNat) (am_xor (am_shl 1 x1) (-1)))) 18 x1.toNat (-1)) 18 x1.toNat x2)))) 4 (fun _ => rfl) ?_
              refine eu_iald 19 (n := 12) rfl (by decide) rfl (fun _ => rfl) h21a22aaa22a.1 ?_
              have h21a22aaa22aa := h21a22aaa22a.2
              refine ev_seg (σ1 := (d, 138, 77, [some (.inr (.inr 16)), some (.inl x1), some (.inl x2), some (.inl (U 18 x1.toNat))], [.inl (am_or ((am_upd (am_upd (am_upd U 19 (U 18 x1.toNat).toNat (am_and (U 19 (U 18 x1.toNat).toNat) (am_xor (am_shl 1 x1) (-1)))) 18 x1.toNat (-1)) 18 x1.toNat x2) 19 x2.toNat) (am_shl 1 x1)), .inl x2, .inr (.inr 19)], (am_sh, am_mm (am_upd (am_upd (am_upd U 19 (U 18 x1.toNat).toNat (am_and (U 19 (U 18 x1.toNat).toNat) (am_xor (am_shl 1 x1) (-1)))) 18 x1.toNat (-1)) 18 x1.toNat x2)))) 4 (fun _ => rfl) ?_
              refine eu_iast 19 (n := 12) rfl (by decide) rfl (fun _ => rfl) h21a22aaa22aa.1 ?_
              have h21a22aaa22aaa := h21a22aaa22aa.2
              subst h21a22aaa22aaa
              exact ev_end 1 (fun _ => rfl)
    · have h22 := h2.2 hc
      subst h22
      exact ev_end 1 (fun _ => rfl)
set_option maxRecDepth 8000 in
theorem st139_86_0 (N : Nat) (X : Nat → Int) (d : Nat) (U : Nat → Nat → Int) (R : Option am_V × am_M) (h : (((¬ (U 86 58) = 20 : Prop)) → ∃ (r1 : Int) (U1 : Nat → Nat → Int), Ev (am_kz N X) (d, 143, 0, [some (.inr (.inr 86)), some (.inl (U 86 58))], [], (am_sh, am_mm U)) (some (.inl r1), (am_sh, am_mm U1)) ∧ ∃ U2 : Nat → Nat → Int, Ev (am_kz N X) (d, 144, 0, [some (.inr (.inr 86)), some (.inl r1), some (.inl 0), none], [], (am_sh, am_mm U1)) (none, (am_sh, am_mm U2)) ∧ R = (none, (am_sh, am_mm (am_upd U2 86 58 (w32 ((U2 86 58) + 1)))))) ∧ (¬ (¬ (U 86 58) = 20) → ∃ (r3 : Int) (U3 : Nat → Nat → Int), Ev (am_kz N X) (d, 143, 0, [some (.inr (.inr 86)), some (.inl ((am_upd (am_upd U 86 57 (Int.tmod (w32 ((U 86 57) + 1)) 20)) 86 58 (w32 (((am_upd U 86 57 (Int.tmod (w32 ((U 86 57) + 1)) 20)) 86 58) - 1))) 86 58))], [], (am_sh, am_mm (am_upd (am_upd U 86 57 (Int.tmod (w32 ((U 86 57) + 1)) 20)) 86 58 (w32 (((am_upd U 86 57 (Int.tmod (w32 ((U 86 57) + 1)) 20)) 86 58) - 1))))) (some (.inl r3), (am_sh, am_mm U3)) ∧ ∃ U4 : Nat → Nat → Int, Ev (am_kz N X) (d, 144, 0, [some (.inr (.inr 86)), some (.inl r3), some (.inl 0), none], [], (am_sh, am_mm U3)) (none, (am_sh, am_mm U4)) ∧ R = (none, (am_sh, am_mm (am_upd U4 86 58 (w32 ((U4 86 58) + 1))))))) : Ev (am_kz N X) ((d + 1), 139, 0, [some (.inr (.inr 86))], [], (am_sh, am_mm U)) R := by
  refine ev_br (P := ¬ (U 86 58) = 20) (σ1 := ((d + 1), 139, 32, [some (.inr (.inr 86))], [], (am_sh, am_mm U))) (σ2 := ((d + 1), 139, 9, [some (.inr (.inr 86))], [], (am_sh, am_mm U))) 4 (fun _ => rfl) (fun hc => ?_) (fun hc => ?_)
  · have h1 := h.1 hc
    refine ev_seg (σ1 := ((d + 1), 139, 38, [some (.inr (.inr 86))], [.inl (U 86 58), .inr (.inr 86), .inr (.inr 86)], (am_sh, am_mm U))) 4 (fun _ => rfl) ?_
    obtain ⟨r1, U1, h1c, h1a⟩ := h1
    refine ev_cal (σc := (d, 143, 0, [some (.inr (.inr 86)), some (.inl (U 86 58))], [], (am_sh, am_mm U))) (fun _ => rfl) h1c ?_
    show Ev (am_kz N X) ((d + 1), 139, 41, [some (.inr (.inr 86))], [.inl r1, .inr (.inr 86)], (am_sh, am_mm U1)) R
    refine ev_seg (σ1 := ((d + 1), 139, 42, [some (.inr (.inr 86))], [.inl 0, .inl r1, .inr (.inr 86)], (am_sh, am_mm U1))) 1 (fun _ => rfl) ?_
    obtain ⟨U2, h1ac, h1aa⟩ := h1a
    refine ev_cal (σc := (d, 144, 0, [some (.inr (.inr 86)), some (.inl r1), some (.inl 0), none], [], (am_sh, am_mm U1))) (fun _ => rfl) h1ac ?_
    show Ev (am_kz N X) ((d + 1), 139, 45, [some (.inr (.inr 86))], [], (am_sh, am_mm U2)) R
    refine ev_seg (σ1 := ((d + 1), 139, 52, [some (.inr (.inr 86))], [.inl (w32 ((U2 86 58) + 1)), .inr (.inr 86)], (am_sh, am_mm U2))) 5 (fun _ => rfl) ?_
    refine eu_puti 86 (n := 90) rfl (by decide) rfl rfl ?_
    subst h1aa
    exact ev_end 1 (fun _ => rfl)
  · have h2 := h.2 hc
    refine ev_seg (σ1 := ((d + 1), 139, 18, [some (.inr (.inr 86))], [.inl 20, .inl (w32 ((U 86 57) + 1)), .inr (.inr 86)], (am_sh, am_mm U))) 6 (fun _ => rfl) ?_
    refine ev_irem rfl (by decide) ?_
    refine eu_puti 86 (n := 90) rfl (by decide) rfl rfl ?_
    refine ev_seg (σ1 := ((d + 1), 139, 29, [some (.inr (.inr 86))], [.inl (w32 (((am_upd U 86 57 (Int.tmod (w32 ((U 86 57) + 1)) 20)) 86 58) - 1)), .inr (.inr 86)], (am_sh, am_mm (am_upd U 86 57 (Int.tmod (w32 ((U 86 57) + 1)) 20))))) 5 (fun _ => rfl) ?_
    refine eu_puti 86 (n := 90) rfl (by decide) rfl rfl ?_
    refine ev_seg (σ1 := ((d + 1), 139, 38, [some (.inr (.inr 86))], [.inl ((am_upd (am_upd U 86 57 (Int.tmod (w32 ((U 86 57) + 1)) 20)) 86 58 (w32 (((am_upd U 86 57 (Int.tmod (w32 ((U 86 57) + 1)) 20)) 86 58) - 1))) 86 58), .inr (.inr 86), .inr (.inr 86)], (am_sh, am_mm (am_upd (am_upd U 86 57 (Int.tmod (w32 ((U 86 57) + 1)) 20)) 86 58 (w32 (((am_upd U 86 57 (Int.tmod (w32 ((U 86 57) + 1)) 20)) 86 58) - 1)))))) 4 (fun _ => rfl) ?_
    obtain ⟨r3, U3, h2c, h2a⟩ := h2
    refine ev_cal (σc := (d, 143, 0, [some (.inr (.inr 86)), some (.inl ((am_upd (am_upd U 86 57 (Int.tmod (w32 ((U 86 57) + 1)) 20)) 86 58 (w32 (((am_upd U 86 57 (Int.tmod (w32 ((U 86 57) + 1)) 20)) 86 58) - 1))) 86 58))], [], (am_sh, am_mm (am_upd (am_upd U 86 57 (Int.tmod (w32 ((U 86 57) + 1)) 20)) 86 58 (w32 (((am_upd U 86 57 (Int.tmod (w32 ((U 86 57) + 1)) 20)) 86 58) - 1)))))) (fun _ => rfl) h2c ?_
    show Ev (am_kz N X) ((d + 1), 139, 41, [some (.inr (.inr 86))], [.inl r3, .inr (.inr 86)], (am_sh, am_mm U3)) R
    refine ev_seg (σ1 := ((d + 1), 139, 42, [some (.inr (.inr 86))], [.inl 0, .inl r3, .inr (.inr 86)], (am_sh, am_mm U3))) 1 (fun _ => rfl) ?_
    obtain ⟨U4, h2ac, h2aa⟩ := h2a
    refine ev_cal (σc := (d, 144, 0, [some (.inr (.inr 86)), some (.inl r3), some (.inl 0), none], [], (am_sh, am_mm U3))) (fun _ => rfl) h2ac ?_
    show Ev (am_kz N X) ((d + 1), 139, 45, [some (.inr (.inr 86))], [], (am_sh, am_mm U4)) R
    refine ev_seg (σ1 := ((d + 1), 139, 52, [some (.inr (.inr 86))], [.inl (w32 ((U4 86 58) + 1)), .inr (.inr 86)], (am_sh, am_mm U4))) 5 (fun _ => rfl) ?_
    refine eu_puti 86 (n := 90) rfl (by decide) rfl rfl ?_
    subst h2aa
    exact ev_end 1 (fun _ => rfl)
set_option maxRecDepth 8000 in
theorem st140_1_0 (N : Nat) (X : Nat → Int) (d : Nat) (U : Nat → Nat → Int) (R : Option am_V × am_M) (h : ((((U 3 1) ≤ 0 : Prop)) → ∃ (r1 : Int) (U1 : Nat → Nat → Int), Ev (am_kz N X) (d, 228, 0, [some (.inr (.inr 1)), some (.inl 1000)], [], (am_sh, am_mm U)) (some (.inl r1), (am_sh, am_mm U1)) ∧ ∃ (r2 : Int) (U2 : Nat → Nat → Int), Ev (am_kz N X) (d, 229, 0, [some (.inr (.inr 1)), some (.inl (w32 (r1 + 1))), some (.inl (-1))], [], (am_sh, am_mm U1)) (some (.inl r2), (am_sh, am_mm U2)) ∧ R = (some (.inl (w32 (0 + r2))), (am_sh, am_mm (am_upd U2 16 1 (w32 ((U2 16 1) + 1)))))) ∧ (¬ ((U 3 1) ≤ 0) → ∃ U3 : Nat → Nat → Int, Ev (am_kz N X) (d, 226, 0, [some (.inr (.inr 1)), none, none], [], (am_sh, am_mm U)) (none, (am_sh, am_mm U3)) ∧ ∃ (r4 : Int) (U4 : Nat → Nat → Int), Ev (am_kz N X) (d, 227, 0, [some (.inr (.inr 1)), none, none, none], [], (am_sh, am_mm U3)) (some (.inl r4), (am_sh, am_mm U4)) ∧ ∃ (r5 : Int) (U5 : Nat → Nat → Int), Ev (am_kz N X) (d, 228, 0, [some (.inr (.inr 1)), some (.inl 1000)], [], (am_sh, am_mm U4)) (some (.inl r5), (am_sh, am_mm U5)) ∧ ∃ (r6 : Int) (U6 : Nat → Nat → Int), Ev (am_kz N X) (d, 229, 0, [some (.inr (.inr 1)), some (.inl (w32 (r5 + 1))), some (.inl (-1))], [], (am_sh, am_mm U5)) (some (.inl r6), (am_sh, am_mm U6)) ∧ R = (some (.inl (w32 (r4 + r6))), (am_sh, am_mm (am_upd U6 16 1 (w32 ((U6 16 1) + 1))))))) : Ev (am_kz N X) ((d + 1), 140, 0, [some (.inr (.inr 1)), none], [], (am_sh, am_mm U)) R := by
  refine ev_br (P := (U 3 1) ≤ 0) (σ1 := ((d + 1), 140, 21, [some (.inr (.inr 1)), some (.inl 0)], [], (am_sh, am_mm U))) (σ2 := ((d + 1), 140, 12, [some (.inr (.inr 1)), some (.inl 0)], [], (am_sh, am_mm U))) 6 (fun _ => rfl) (fun hc => ?_) (fun hc => ?_)
  · have h1 := h.1 hc
    refine ev_seg (σ1 := ((d + 1), 140, 27, [some (.inr (.inr 1)), some (.inl 0)], [.inl 1000, .inr (.inr 1), .inr (.inr 1), .inl 0], (am_sh, am_mm U))) 4 (fun _ => rfl) ?_
    obtain ⟨r1, U1, h1c, h1a⟩ := h1
    refine ev_cal (σc := (d, 228, 0, [some (.inr (.inr 1)), some (.inl 1000)], [], (am_sh, am_mm U))) (fun _ => rfl) h1c ?_
    show Ev (am_kz N X) ((d + 1), 140, 30, [some (.inr (.inr 1)), some (.inl 0)], [.inl r1, .inr (.inr 1), .inl 0], (am_sh, am_mm U1)) R
    refine ev_seg (σ1 := ((d + 1), 140, 33, [some (.inr (.inr 1)), some (.inl 0)], [.inl (-1), .inl (w32 (r1 + 1)), .inr (.inr 1), .inl 0], (am_sh, am_mm U1))) 3 (fun _ => rfl) ?_
    obtain ⟨r2, U2, h1ac, h1aa⟩ := h1a
    refine ev_cal (σc := (d, 229, 0, [some (.inr (.inr 1)), some (.inl (w32 (r1 + 1))), some (.inl (-1))], [], (am_sh, am_mm U1))) (fun _ => rfl) h1ac ?_
    show Ev (am_kz N X) ((d + 1), 140, 36, [some (.inr (.inr 1)), some (.inl 0)], [.inl r2, .inl 0], (am_sh, am_mm U2)) R
    refine ev_seg (σ1 := ((d + 1), 140, 48, [some (.inr (.inr 1)), some (.inl (w32 (0 + r2)))], [.inl (w32 ((U2 16 1) + 1)), .inr (.inr 16)], (am_sh, am_mm U2))) 8 (fun _ => rfl) ?_
    refine eu_puti 16 (n := 7) rfl (by decide) rfl rfl ?_
    subst h1aa
    exact ev_end 2 (fun _ => rfl)
  · have h2 := h.2 hc
    refine ev_seg (σ1 := ((d + 1), 140, 13, [some (.inr (.inr 1)), some (.inl 0)], [.inr (.inr 1)], (am_sh, am_mm U))) 1 (fun _ => rfl) ?_
    obtain ⟨U3, h2c, h2a⟩ := h2
    refine ev_cal (σc := (d, 226, 0, [some (.inr (.inr 1)), none, none], [], (am_sh, am_mm U))) (fun _ => rfl) h2c ?_
    show Ev (am_kz N X) ((d + 1), 140, 16, [some (.inr (.inr 1)), some (.inl 0)], [], (am_sh, am_mm U3)) R
    refine ev_seg (σ1 := ((d + 1), 140, 17, [some (.inr (.inr 1)), some (.inl 0)], [.inr (.inr 1)], (am_sh, am_mm U3))) 1 (fun _ => rfl) ?_
    obtain ⟨r4, U4, h2ac, h2aa⟩ := h2a
    refine ev_cal (σc := (d, 227, 0, [some (.inr (.inr 1)), none, none, none], [], (am_sh, am_mm U3))) (fun _ => rfl) h2ac ?_
    show Ev (am_kz N X) ((d + 1), 140, 20, [some (.inr (.inr 1)), some (.inl 0)], [.inl r4], (am_sh, am_mm U4)) R
    refine ev_seg (σ1 := ((d + 1), 140, 27, [some (.inr (.inr 1)), some (.inl r4)], [.inl 1000, .inr (.inr 1), .inr (.inr 1), .inl r4], (am_sh, am_mm U4))) 5 (fun _ => rfl) ?_
    obtain ⟨r5, U5, h2aac, h2aaa⟩ := h2aa
    refine ev_cal (σc := (d, 228, 0, [some (.inr (.inr 1)), some (.inl 1000)], [], (am_sh, am_mm U4))) (fun _ => rfl) h2aac ?_
    show Ev (am_kz N X) ((d + 1), 140, 30, [some (.inr (.inr 1)), some (.inl r4)], [.inl r5, .inr (.inr 1), .inl r4], (am_sh, am_mm U5)) R
    refine ev_seg (σ1 := ((d + 1), 140, 33, [some (.inr (.inr 1)), some (.inl r4)], [.inl (-1), .inl (w32 (r5 + 1)), .inr (.inr 1), .inl r4], (am_sh, am_mm U5))) 3 (fun _ => rfl) ?_
    obtain ⟨r6, U6, h2aaac, h2aaaa⟩ := h2aaa
    refine ev_cal (σc := (d, 229, 0, [some (.inr (.inr 1)), some (.inl (w32 (r5 + 1))), some (.inl (-1))], [], (am_sh, am_mm U5))) (fun _ => rfl) h2aaac ?_
    show Ev (am_kz N X) ((d + 1), 140, 36, [some (.inr (.inr 1)), some (.inl r4)], [.inl r6, .inl r4], (am_sh, am_mm U6)) R
    refine ev_seg (σ1 := ((d + 1), 140, 48, [some (.inr (.inr 1)), some (.inl (w32 (r4 + r6)))], [.inl (w32 ((U6 16 1) + 1)), .inr (.inr 16)], (am_sh, am_mm U6))) 8 (fun _ => rfl) ?_
    refine eu_puti 16 (n := 7) rfl (by decide) rfl rfl ?_
    subst h2aaaa
    exact ev_end 2 (fun _ => rfl)
set_option maxRecDepth 8000 in
theorem st141_86_0 (N : Nat) (X : Nat → Int) (d : Nat) (U : Nat → Nat → Int) (R : Option am_V × am_M) (h : (0 ≤ (U 86 13) ∧ (U 86 13) < 2) ∧ ((((U 90 (U 86 13).toNat) ≤ 0 : Prop)) → ∃ (r1 : Int) (U1 : Nat → Nat → Int), Ev (am_kz N X) (d, 230, 0, [some (.inr (.inr 86)), some (.inl 1000)], [], (am_sh, am_mm U)) (some (.inl r1), (am_sh, am_mm U1)) ∧ ∃ (r2 : Int) (U2 : Nat → Nat → Int), Ev (am_kz N X) (d, 233, 0, [some (.inr (.inr 86)), some (.inl (w32 (r1 + 1))), some (.inl (-1)), none, none], [], (am_sh, am_mm U1)) (some (.inl r2), (am_sh, am_mm U2)) ∧ R = (some (.inl (w32 (0 + r2))), (am_sh, am_mm (am_upd U2 120 0 (w32 ((U2 120 0) + 1)))))) ∧ (¬ ((U 90 (U 86 13).toNat) ≤ 0) → (0 ≤ (U 86 13) ∧ (U 86 13) < 2) ∧ ∃ (r3 : Int) (U3 : Nat → Nat → Int), Ev (am_kz N X) (d, 230, 0, [some (.inr (.inr 86)), some (.inl (U 90 (U 86 13).toNat))], [], (am_sh, am_mm U)) (some (.inl r3), (am_sh, am_mm U3)) ∧ ∃ (r4 : Int) (U4 : Nat → Nat → Int), Ev (am_kz N X) (d, 230, 0, [some (.inr (.inr 86)), some (.inl 100)], [], (am_sh, am_mm U3)) (some (.inl r4), (am_sh, am_mm U4)) ∧ (0 ≤ (U4 86 13) ∧ (U4 86 13) < 2) ∧ ((((U4 110 (U4 86 13).toNat) ≤ r4 : Prop)) → (0 ≤ (U4 86 13) ∧ (U4 86 13) < 2) ∧ ∃ (r5 : Int) (U5 : Nat → Nat → Int), Ev (am_kz N X) (d, 230, 0, [some (.inr (.inr 86)), some (.inl (U4 90 (U4 86 13).toNat))], [], (am_sh, am_mm U4)) (some (.inl r5), (am_sh, am_mm U5)) ∧ ∃ (r6 : Int) (U6 : Nat → Nat → Int), Ev (am_kz N X) (d, 232, 0, [some (.inr (.inr 86)), some (.inl r5), none, none], [], (am_sh, am_mm U5)) (some (.inl r6), (am_sh, am_mm U6)) ∧ ∃ (r7 : Int) (U7 : Nat → Nat → Int), Ev (am_kz N X) (d, 230, 0, [some (.inr (.inr 86)), some (.inl 1000)], [], (am_sh, am_mm U6)) (some (.inl r7), (am_sh, am_mm U7)) ∧ ∃ (r8 : Int) (U8 : Nat → Nat → Int), Ev (am_kz N X) (d, 233, 0, [some (.inr (.inr 86)), some (.inl (w32 (r7 + 1))), some (.inl (-1)), none, none], [], (am_sh, am_mm U7)) (some (.inl r8), (am_sh, am_mm U8)) ∧ R = (some (.inl (w32 ((w32 (0 + r6)) + r8))), (am_sh, am_mm (am_upd U8 120 0 (w32 ((U8 120 0) + 1)))))) ∧ (¬ ((U4 110 (U4 86 13).toNat) ≤ r4) → ∃ U9 : Nat → Nat → Int, Ev (am_kz N X) (d, 231, 0, [some (.inr (.inr 86)), some (.inl r3), none], [], (am_sh, am_mm U4)) (none, (am_sh, am_mm U9)) ∧ (0 ≤ (U9 86 13) ∧ (U9 86 13) < 2) ∧ ∃ (r10 : Int) (U10 : Nat → Nat → Int), Ev (am_kz N X) (d, 230, 0, [some (.inr (.inr 86)), some (.inl (U9 90 (U9 86 13).toNat))], [], (am_sh, am_mm U9)) (some (.inl r10), (am_sh, am_mm U10)) ∧ ∃ (r11 : Int) (U11 : Nat → Nat → Int), Ev (am_kz N X) (d, 232, 0, [some (.inr (.inr 86)), some (.inl r10), none, none], [], (am_sh, am_mm U10)) (some (.inl r11), (am_sh, am_mm U11)) ∧ ∃ (r12 : Int) (U12 : Nat → Nat → Int), Ev (am_kz N X) (d, 230, 0, [some (.inr (.inr 86)), some (.inl 1000)], [], (am_sh, am_mm U11)) (some (.inl r12), (am_sh, am_mm U12)) ∧ ∃ (r13 : Int) (U13 : Nat → Nat → Int), Ev (am_kz N X) (d, 233, 0, [some (.inr (.inr 86)), some (.inl (w32 (r12 + 1))), some (.inl (-1)), none, none], [], (am_sh, am_mm U12)) (some (.inl r13), (am_sh, am_mm U13)) ∧ R = (some (.inl (w32 ((w32 (0 + r11)) + r13))), (am_sh, am_mm (am_upd U13 120 0 (w32 ((U13 120 0) + 1)))))))) : Ev (am_kz N X) ((d + 1), 141, 0, [some (.inr (.inr 86)), none, none], [], (am_sh, am_mm U)) R := by
  refine ev_seg (σ1 := ((d + 1), 141, 10, [some (.inr (.inr 86)), some (.inl 0), none], [.inl (U 86 13), .inr (.inr 90)], (am_sh, am_mm U))) 6 (fun _ => rfl) ?_
  refine eu_iald 90 (n := 2) rfl (by decide) rfl (fun _ => rfl) h.1 ?_
  have ha := h.2
  refine ev_br (P := (U 90 (U 86 13).toNat) ≤ 0) (σ1 := ((d + 1), 141, 71, [some (.inr (.inr 86)), some (.inl 0), none], [], (am_sh, am_mm U))) (σ2 := ((d + 1), 141, 14, [some (.inr (.inr 86)), some (.inl 0), none], [], (am_sh, am_mm U))) 1 (fun _ => rfl) (fun hc => ?_) (fun hc => ?_)
  · have ha1 := ha.1 hc
    refine ev_seg (σ1 := ((d + 1), 141, 77, [some (.inr (.inr 86)), some (.inl 0), none], [.inl 1000, .inr (.inr 86), .inr (.inr 86), .inl 0], (am_sh, am_mm U))) 4 (fun _ => rfl) ?_
    obtain ⟨r1, U1, ha1c, ha1a⟩ := ha1
    refine ev_cal (σc := (d, 230, 0, [some (.inr (.inr 86)), some (.inl 1000)], [], (am_sh, am_mm U))) (fun _ => rfl) ha1c ?_
    show Ev (am_kz N X) ((d + 1), 141, 80, [some (.inr (.inr 86)), some (.inl 0), none], [.inl r1, .inr (.inr 86), .inl 0], (am_sh, am_mm U1)) R
    refine ev_seg (σ1 := ((d + 1), 141, 83, [some (.inr (.inr 86)), some (.inl 0), none], [.inl (-1), .inl (w32 (r1 + 1)), .inr (.inr 86), .inl 0], (am_sh, am_mm U1))) 3 (fun _ => rfl) ?_
    obtain ⟨r2, U2, ha1ac, ha1aa⟩ := ha1a
    refine ev_cal (σc := (d, 233, 0, [some (.inr (.inr 86)), some (.inl (w32 (r1 + 1))), some (.inl (-1)), none, none], [], (am_sh, am_mm U1))) (fun _ => rfl) ha1ac ?_
    show Ev (am_kz N X) ((d + 1), 141, 86, [some (.inr (.inr 86)), some (.inl 0), none], [.inl r2, .inl 0], (am_sh, am_mm U2)) R
    refine ev_seg (σ1 := ((d + 1), 141, 94, [some (.inr (.inr 86)), some (.inl (w32 (0 + r2))), none], [.inl 0, .inr (.inr 120), .inl 0, .inr (.inr 120)], (am_sh, am_mm U2))) 6 (fun _ => rfl) ?_
    refine eu_iald 120 (n := 22) rfl (by decide) rfl (fun _ => rfl) (by decide) ?_
    show Ev (am_kz N X) ((d + 1), 141, 95, [some (.inr (.inr 86)), some (.inl (w32 (0 + r2))), none], [.inl (U2 120 0), .inl 0, .inr (.inr 120)], (am_sh, am_mm U2)) R
    refine ev_seg (σ1 := ((d + 1), 141, 97, [some (.inr (.inr 86)), some (.inl (w32 (0 + r2))), none], [.inl (w32 ((U2 120 0) + 1)), .inl 0, .inr (.inr 120)], (am_sh, am_mm U2))) 2 (fun _ => rfl) ?_
    refine eu_iast 120 (n := 22) rfl (by decide) rfl (fun _ => rfl) (by decide) ?_
    show Ev (am_kz N X) ((d + 1), 141, 98, [some (.inr (.inr 86)), some (.inl (w32 (0 + r2))), none], [], (am_sh, am_mm (am_upd U2 120 0 (w32 ((U2 120 0) + 1))))) R
    subst ha1aa
    exact ev_end 2 (fun _ => rfl)
  · have ha2 := ha.2 hc
    refine ev_seg (σ1 := ((d + 1), 141, 23, [some (.inr (.inr 86)), some (.inl 0), none], [.inl (U 86 13), .inr (.inr 90), .inr (.inr 86)], (am_sh, am_mm U))) 5 (fun _ => rfl) ?_
    refine eu_iald 90 (n := 2) rfl (by decide) rfl (fun _ => rfl) ha2.1 ?_
    have ha2a := ha2.2
    obtain ⟨r3, U3, ha2ac, ha2aa⟩ := ha2a
    refine ev_cal (σc := (d, 230, 0, [some (.inr (.inr 86)), some (.inl (U 90 (U 86 13).toNat))], [], (am_sh, am_mm U))) (fun _ => rfl) ha2ac ?_
    show Ev (am_kz N X) ((d + 1), 141, 27, [some (.inr (.inr 86)), some (.inl 0), none], [.inl r3], (am_sh, am_mm U3)) R
    refine ev_seg (σ1 := ((d + 1), 141, 31, [some (.inr (.inr 86)), some (.inl 0), some (.inl r3)], [.inl 100, .inr (.inr 86)], (am_sh, am_mm U3))) 3 (fun _ => rfl) ?_
    obtain ⟨r4, U4, ha2aac, ha2aaa⟩ := ha2aa
    refine ev_cal (σc := (d, 230, 0, [some (.inr (.inr 86)), some (.inl 100)], [], (am_sh, am_mm U3))) (fun _ => rfl) ha2aac ?_
    show Ev (am_kz N X) ((d + 1), 141, 34, [some (.inr (.inr 86)), some (.inl 0), some (.inl r3)], [.inl r4], (am_sh, am_mm U4)) R
    refine ev_seg (σ1 := ((d + 1), 141, 42, [some (.inr (.inr 86)), some (.inl 0), some (.inl r3)], [.inl (U4 86 13), .inr (.inr 110), .inl r4], (am_sh, am_mm U4))) 4 (fun _ => rfl) ?_
    refine eu_iald 110 (n := 2) rfl (by decide) rfl (fun _ => rfl) ha2aaa.1 ?_
    have ha2aaaa := ha2aaa.2
    refine ev_br (P := (U4 110 (U4 86 13).toNat) ≤ r4) (σ1 := ((d + 1), 141, 51, [some (.inr (.inr 86)), some (.inl 0), some (.inl r3)], [], (am_sh, am_mm U4))) (σ2 := ((d + 1), 141, 46, [some (.inr (.inr 86)), some (.inl 0), some (.inl r3)], [], (am_sh, am_mm U4))) 1 (fun _ => rfl) (fun hc => ?_) (fun hc => ?_)
    · have ha2aaaa1 := ha2aaaa.1 hc
      refine ev_seg (σ1 := ((d + 1), 141, 62, [some (.inr (.inr 86)), some (.inl 0), some (.inl r3)], [.inl (U4 86 13), .inr (.inr 90), .inr (.inr 86), .inr (.inr 86), .inl 0], (am_sh, am_mm U4))) 7 (fun _ => rfl) ?_
      refine eu_iald 90 (n := 2) rfl (by decide) rfl (fun _ => rfl) ha2aaaa1.1 ?_
      have ha2aaaa1a := ha2aaaa1.2
      obtain ⟨r5, U5, ha2aaaa1ac, ha2aaaa1aa⟩ := ha2aaaa1a
      refine ev_cal (σc := (d, 230, 0, [some (.inr (.inr 86)), some (.inl (U4 90 (U4 86 13).toNat))], [], (am_sh, am_mm U4))) (fun _ => rfl) ha2aaaa1ac ?_
      show Ev (am_kz N X) ((d + 1), 141, 66, [some (.inr (.inr 86)), some (.inl 0), some (.inl r3)], [.inl r5, .inr (.inr 86), .inl 0], (am_sh, am_mm U5)) R
      obtain ⟨r6, U6, ha2aaaa1aac, ha2aaaa1aaa⟩ := ha2aaaa1aa
      refine ev_cal (σc := (d, 232, 0, [some (.inr (.inr 86)), some (.inl r5), none, none], [], (am_sh, am_mm U5))) (fun _ => rfl) ha2aaaa1aac ?_
      show Ev (am_kz N X) ((d + 1), 141, 69, [some (.inr (.inr 86)), some (.inl 0), some (.inl r3)], [.inl r6, .inl 0], (am_sh, am_mm U6)) R
      refine ev_seg (σ1 := ((d + 1), 141, 77, [some (.inr (.inr 86)), some (.inl (w32 (0 + r6))), some (.inl r3)], [.inl 1000, .inr (.inr 86), .inr (.inr 86), .inl (w32 (0 + r6))], (am_sh, am_mm U6))) 6 (fun _ => rfl) ?_
      obtain ⟨r7, U7, ha2aaaa1aaac, ha2aaaa1aaaa⟩ := ha2aaaa1aaa
      refine ev_cal (σc := (d, 230, 0, [some (.inr (.inr 86)), some (.inl 1000)], [], (am_sh, am_mm U6))) (fun _ => rfl) ha2aaaa1aaac ?_
      show Ev (am_kz N X) ((d + 1), 141, 80, [some (.inr (.inr 86)), some (.inl (w32 (0 + r6))), some (.inl r3)], [.inl r7, .inr (.inr 86), .inl (w32 (0 + r6))], (am_sh, am_mm U7)) R
      refine ev_seg (σ1 := ((d + 1), 141, 83, [some (.inr (.inr 86)), some (.inl (w32 (0 + r6))), some (.inl r3)], [.inl (-1), .inl (w32 (r7 + 1)), .inr (.inr 86), .inl (w32 (0 + r6))], (am_sh, am_mm U7))) 3 (fun _ => rfl) ?_
      obtain ⟨r8, U8, ha2aaaa1aaaac, ha2aaaa1aaaaa⟩ := ha2aaaa1aaaa
      refine ev_cal (σc := (d, 233, 0, [some (.inr (.inr 86)), some (.inl (w32 (r7 + 1))), some (.inl (-1)), none, none], [], (am_sh, am_mm U7))) (fun _ => rfl) ha2aaaa1aaaac ?_
      show Ev (am_kz N X) ((d + 1), 141, 86, [some (.inr (.inr 86)), some (.inl (w32 (0 + r6))), some (.inl r3)], [.inl r8, .inl (w32 (0 + r6))], (am_sh, am_mm U8)) R
      refine ev_seg (σ1 := ((d + 1), 141, 94, [some (.inr (.inr 86)), some (.inl (w32 ((w32 (0 + r6)) + r8))), some (.inl r3)], [.inl 0, .inr (.inr 120), .inl 0, .inr (.inr 120)], (am_sh, am_mm U8))) 6 (fun _ => rfl) ?_
      refine eu_iald 120 (n := 22) rfl (by decide) rfl (fun _ => rfl) (by decide) ?_
      show Ev (am_kz N X) ((d + 1), 141, 95, [some (.inr (.inr 86)), some (.inl (w32 ((w32 (0 + r6)) + r8))), some (.inl r3)], [.inl (U8 120 0), .inl 0, .inr (.inr 120)], (am_sh, am_mm U8)) R
      refine ev_seg (σ1 := ((d + 1), 141, 97, [some (.inr (.inr 86)), some (.inl (w32 ((w32 (0 + r6)) + r8))), some (.inl r3)], [.inl (w32 ((U8 120 0) + 1)), .inl 0, .inr (.inr 120)], (am_sh, am_mm U8))) 2 (fun _ => rfl) ?_
      refine eu_iast 120 (n := 22) rfl (by decide) rfl (fun _ => rfl) (by decide) ?_
      show Ev (am_kz N X) ((d + 1), 141, 98, [some (.inr (.inr 86)), some (.inl (w32 ((w32 (0 + r6)) + r8))), some (.inl r3)], [], (am_sh, am_mm (am_upd U8 120 0 (w32 ((U8 120 0) + 1))))) R
      subst ha2aaaa1aaaaa
      exact ev_end 2 (fun _ => rfl)
    · have ha2aaaa2 := ha2aaaa.2 hc
      refine ev_seg (σ1 := ((d + 1), 141, 48, [some (.inr (.inr 86)), some (.inl 0), some (.inl r3)], [.inl r3, .inr (.inr 86)], (am_sh, am_mm U4))) 2 (fun _ => rfl) ?_
      obtain ⟨U9, ha2aaaa2c, ha2aaaa2a⟩ := ha2aaaa2
      refine ev_cal (σc := (d, 231, 0, [some (.inr (.inr 86)), some (.inl r3), none], [], (am_sh, am_mm U4))) (fun _ => rfl) ha2aaaa2c ?_
      show Ev (am_kz N X) ((d + 1), 141, 51, [some (.inr (.inr 86)), some (.inl 0), some (.inl r3)], [], (am_sh, am_mm U9)) R
      refine ev_seg (σ1 := ((d + 1), 141, 62, [some (.inr (.inr 86)), some (.inl 0), some (.inl r3)], [.inl (U9 86 13), .inr (.inr 90), .inr (.inr 86), .inr (.inr 86), .inl 0], (am_sh, am_mm U9))) 7 (fun _ => rfl) ?_
      refine eu_iald 90 (n := 2) rfl (by decide) rfl (fun _ => rfl) ha2aaaa2a.1 ?_
      have ha2aaaa2aa := ha2aaaa2a.2
      obtain ⟨r10, U10, ha2aaaa2aac, ha2aaaa2aaa⟩ := ha2aaaa2aa
      refine ev_cal (σc := (d, 230, 0, [some (.inr (.inr 86)), some (.inl (U9 90 (U9 86 13).toNat))], [], (am_sh, am_mm U9))) (fun _ => rfl) ha2aaaa2aac ?_
      show Ev (am_kz N X) ((d + 1), 141, 66, [some (.inr (.inr 86)), some (.inl 0), some (.inl r3)], [.inl r10, .inr (.inr 86), .inl 0], (am_sh, am_mm U10)) R
      obtain ⟨r11, U11, ha2aaaa2aaac, ha2aaaa2aaaa⟩ := ha2aaaa2aaa
      refine ev_cal (σc := (d, 232, 0, [some (.inr (.inr 86)), some (.inl r10), none, none], [], (am_sh, am_mm U10))) (fun _ => rfl) ha2aaaa2aaac ?_
      show Ev (am_kz N X) ((d + 1), 141, 69, [some (.inr (.inr 86)), some (.inl 0), some (.inl r3)], [.inl r11, .inl 0], (am_sh, am_mm U11)) R
      refine ev_seg (σ1 := ((d + 1), 141, 77, [some (.inr (.inr 86)), some (.inl (w32 (0 + r11))), some (.inl r3)], [.inl 1000, .inr (.inr 86), .inr (.inr 86), .inl (w32 (0 + r11))], (am_sh, am_mm U11))) 6 (fun _ => rfl) ?_
      obtain ⟨r12, U12, ha2aaaa2aaaac, ha2aaaa2aaaaa⟩ := ha2aaaa2aaaa
      refine ev_cal (σc := (d, 230, 0, [some (.inr (.inr 86)), some (.inl 1000)], [], (am_sh, am_mm U11))) (fun _ => rfl) ha2aaaa2aaaac ?_
      show Ev (am_kz N X) ((d + 1), 141, 80, [some (.inr (.inr 86)), some (.inl (w32 (0 + r11))), some (.inl r3)], [.inl r12, .inr (.inr 86), .inl (w32 (0 + r11))], (am_sh, am_mm U12)) R
      refine ev_seg (σ1 := ((d + 1), 141, 83, [some (.inr (.inr 86)), some (.inl (w32 (0 + r11))), some (.inl r3)], [.inl (-1), .inl (w32 (r12 + 1)), .inr (.inr 86), .inl (w32 (0 + r11))], (am_sh, am_mm U12))) 3 (fun _ => rfl) ?_
      obtain ⟨r13, U13, ha2aaaa2aaaaac, ha2aaaa2aaaaaa⟩ := ha2aaaa2aaaaa
      refine ev_cal (σc := (d, 233, 0, [some (.inr (.inr 86)), some (.inl (w32 (r12 + 1))), some (.inl (-1)), none, none], [], (am_sh, am_mm U12))) (fun _ => rfl) ha2aaaa2aaaaac ?_
      show Ev (am_kz N X) ((d + 1), 141, 86, [some (.inr (.inr 86)), some (.inl (w32 (0 + r11))), some (.inl r3)], [.inl r13, .inl (w32 (0 + r11))], (am_sh, am_mm U13)) R
      refine ev_seg (σ1 := ((d + 1), 141, 94, [some (.inr (.inr 86)), some (.inl (w32 ((w32 (0 + r11)) + r13))), some (.inl r3)], [.inl 0, .inr (.inr 120), .inl 0, .inr (.inr 120)], (am_sh, am_mm U13))) 6 (fun _ => rfl) ?_
      refine eu_iald 120 (n := 22) rfl (by decide) rfl (fun _ => rfl) (by decide) ?_
      show Ev (am_kz N X) ((d + 1), 141, 95, [some (.inr (.inr 86)), some (.inl (w32 ((w32 (0 + r11)) + r13))), some (.inl r3)], [.inl (U13 120 0), .inl 0, .inr (.inr 120)], (am_sh, am_mm U13)) R
      refine ev_seg (σ1 := ((d + 1), 141, 97, [some (.inr (.inr 86)), some (.inl (w32 ((w32 (0 + r11)) + r13))), some (.inl r3)], [.inl (w32 ((U13 120 0) + 1)), .inl 0, .inr (.inr 120)], (am_sh, am_mm U13))) 2 (fun _ => rfl) ?_
      refine eu_iast 120 (n := 22) rfl (by decide) rfl (fun _ => rfl) (by decide) ?_
      show Ev (am_kz N X) ((d + 1), 141, 98, [some (.inr (.inr 86)), some (.inl (w32 ((w32 (0 + r11)) + r13))), some (.inl r3)], [], (am_sh, am_mm (am_upd U13 120 0 (w32 ((U13 120 0) + 1))))) R
      subst ha2aaaa2aaaaaa
      exact ev_end 2 (fun _ => rfl)
set_option maxRecDepth 8000 in
theorem st144_86_0 (N : Nat) (X : Nat → Int) (d : Nat) (x1 x2 : Int) (U : Nat → Nat → Int) (R : Option am_V × am_M) (h : (0 ≤ x2 ∧ x2 < 22) ∧ (0 ≤ x1 ∧ x1 < 22) ∧ (0 ≤ x2 ∧ x2 < 22) ∧ (0 ≤ x1 ∧ x1 < 22) ∧ (0 ≤ x2 ∧ x2 < 22) ∧ (0 ≤ x1 ∧ x1 < 22) ∧ Ev (am_kz N X) (d, 144, 38, [some (.inr (.inr 86)), some (.inl x1), some (.inl x2), some (.inl 0)], [], (am_sh, am_mm (am_upd (am_upd (am_upd U 120 x1.toNat (U 120 x2.toNat)) 121 x1.toNat ((am_upd U 120 x1.toNat (U 120 x2.toNat)) 121 x2.toNat)) 122 x1.toNat ((am_upd (am_upd U 120 x1.toNat (U 120 x2.toNat)) 121 x1.toNat ((am_upd U 120 x1.toNat (U 120 x2.toNat)) 121 x2.toNat)) 122 x2.toNat)))) R) : Ev (am_kz N X) (d, 144, 0, [some (.inr (.inr 86)), some (.inl x1), some (.inl x2), none], [], (am_sh, am_mm U)) R := by
  refine ev_seg (σ1 := (d, 144, 10, [some (.inr (.inr 86)), some (.inl x1), some (.inl x2), none], [.inl x2, .inr (.inr 120), .inl x1, .inr (.inr 120)], (am_sh, am_mm U))) 6 (fun _ => rfl) ?_
  refine eu_iald 120 (n := 22) rfl (by decide) rfl (fun _ => rfl) h.1 ?_
  have ha := h.2
  refine eu_iast 120 (n := 22) rfl (by decide) rfl (fun _ => rfl) ha.1 ?_
  have haa := ha.2
  refine ev_seg (σ1 := (d, 144, 22, [some (.inr (.inr 86)), some (.inl x1), some (.inl x2), none], [.inl x2, .inr (.inr 121), .inl x1, .inr (.inr 121)], (am_sh, am_mm (am_upd U 120 x1.toNat (U 120 x2.toNat))))) 6 (fun _ => rfl) ?_
  refine eu_iald 121 (n := 22) rfl (by decide) rfl (fun _ => rfl) haa.1 ?_
  have haaa := haa.2
  refine eu_iast 121 (n := 22) rfl (by decide) rfl (fun _ => rfl) haaa.1 ?_
  have haaaa := haaa.2
  refine ev_seg (σ1 := (d, 144, 34, [some (.inr (.inr 86)), some (.inl x1), some (.inl x2), none], [.inl x2, .inr (.inr 122), .inl x1, .inr (.inr 122)], (am_sh, am_mm (am_upd (am_upd U 120 x1.toNat (U 120 x2.toNat)) 121 x1.toNat ((am_upd U 120 x1.toNat (U 120 x2.toNat)) 121 x2.toNat))))) 6 (fun _ => rfl) ?_
  refine eu_iald 122 (n := 22) rfl (by decide) rfl (fun _ => rfl) haaaa.1 ?_
  have haaaaa := haaaa.2
  refine eu_iast 122 (n := 22) rfl (by decide) rfl (fun _ => rfl) haaaaa.1 ?_
  have haaaaaa := haaaaa.2
  refine ev_seg (σ1 := (d, 144, 38, [some (.inr (.inr 86)), some (.inl x1), some (.inl x2), some (.inl 0)], [], (am_sh, am_mm (am_upd (am_upd (am_upd U 120 x1.toNat (U 120 x2.toNat)) 121 x1.toNat ((am_upd U 120 x1.toNat (U 120 x2.toNat)) 121 x2.toNat)) 122 x1.toNat ((am_upd (am_upd U 120 x1.toNat (U 120 x2.toNat)) 121 x1.toNat ((am_upd U 120 x1.toNat (U 120 x2.toNat)) 121 x2.toNat)) 122 x2.toNat))))) 2 (fun _ => rfl) ?_
  exact haaaaaa
set_option maxRecDepth 8000 in
theorem st144_86_38 (N : Nat) (X : Nat → Int) (d : Nat) (x1 x2 x3 : Int) (U : Nat → Nat → Int) (R : Option am_V × am_M) (h : (((16 ≤ x3 : Prop)) → R = (none, (am_sh, am_mm U))) ∧ (¬ (16 ≤ x3) → (0 ≤ (w32 ((w32 (16 * x2)) + x3)) ∧ (w32 ((w32 (16 * x2)) + x3)) < 352) ∧ (0 ≤ (w32 ((w32 (16 * x1)) + x3)) ∧ (w32 ((w32 (16 * x1)) + x3)) < 352) ∧ (0 ≤ (w32 ((w32 (16 * x2)) + x3)) ∧ (w32 ((w32 (16 * x2)) + x3)) < 352) ∧ (0 ≤ (w32 ((w32 (16 * x1)) + x3)) ∧ (w32 ((w32 (16 * x1)) + x3)) < 352) ∧ Ev (am_kz N X) (d, 144, 38, [some (.inr (.inr 86)), some (.inl x1), some (.inl x2), some (.inl (w32 (x3 + 1)))], [], (am_sh, am_mm (am_upd (am_upd U 123 (w32 ((w32 (16 * x1)) + x3)).toNat (U 123 (w32 ((w32 (16 * x2)) + x3)).toNat)) 124 (w32 ((w32 (16 * x1)) + x3)).toNat ((am_upd U 123 (w32 ((w32 (16 * x1)) + x3)).toNat (U 123 (w32 ((w32 (16 * x2)) + x3)).toNat)) 124 (w32 ((w32 (16 * x2)) + x3)).toNat)))) R)) : Ev (am_kz N X) (d, 144, 38, [some (.inr (.inr 86)), some (.inl x1), some (.inl x2), some (.inl x3)], [], (am_sh, am_mm U)) R := by
  refine ev_br (P := 16 ≤ x3) (σ1 := (d, 144, 94, [some (.inr (.inr 86)), some (.inl x1), some (.inl x2), some (.inl x3)], [], (am_sh, am_mm U))) (σ2 := (d, 144, 44, [some (.inr (.inr 86)), some (.inl x1), some (.inl x2), some (.inl x3)], [], (am_sh, am_mm U))) 3 (fun _ => rfl) (fun hc => ?_) (fun hc => ?_)
  · have h1 := h.1 hc
    subst h1
    exact ev_end 1 (fun _ => rfl)
  · have h2 := h.2 hc
    refine ev_seg (σ1 := (d, 144, 64, [some (.inr (.inr 86)), some (.inl x1), some (.inl x2), some (.inl x3)], [.inl (w32 ((w32 (16 * x2)) + x3)), .inr (.inr 123), .inl (w32 ((w32 (16 * x1)) + x3)), .inr (.inr 123)], (am_sh, am_mm U))) 14 (fun _ => rfl) ?_
    refine eu_iald 123 (n := 352) rfl (by decide) rfl (fun _ => rfl) h2.1 ?_
    have h2a := h2.2
    refine eu_iast 123 (n := 352) rfl (by decide) rfl (fun _ => rfl) h2a.1 ?_
    have h2aa := h2a.2
    refine ev_seg (σ1 := (d, 144, 86, [some (.inr (.inr 86)), some (.inl x1), some (.inl x2), some (.inl x3)], [.inl (w32 ((w32 (16 * x2)) + x3)), .inr (.inr 124), .inl (w32 ((w32 (16 * x1)) + x3)), .inr (.inr 124)], (am_sh, am_mm (am_upd U 123 (w32 ((w32 (16 * x1)) + x3)).toNat (U 123 (w32 ((w32 (16 * x2)) + x3)).toNat))))) 14 (fun _ => rfl) ?_
    refine eu_iald 124 (n := 352) rfl (by decide) rfl (fun _ => rfl) h2aa.1 ?_
    have h2aaa := h2aa.2
    refine eu_iast 124 (n := 352) rfl (by decide) rfl (fun _ => rfl) h2aaa.1 ?_
    have h2aaaa := h2aaa.2
    refine ev_seg (σ1 := (d, 144, 38, [some (.inr (.inr 86)), some (.inl x1), some (.inl x2), some (.inl (w32 (x3 + 1)))], [], (am_sh, am_mm (am_upd (am_upd U 123 (w32 ((w32 (16 * x1)) + x3)).toNat (U 123 (w32 ((w32 (16 * x2)) + x3)).toNat)) 124 (w32 ((w32 (16 * x1)) + x3)).toNat ((am_upd U 123 (w32 ((w32 (16 * x1)) + x3)).toNat (U 123 (w32 ((w32 (16 * x2)) + x3)).toNat)) 124 (w32 ((w32 (16 * x2)) + x3)).toNat))))) 2 (fun _ => rfl) ?_
    exact h2aaaa
set_option maxRecDepth 8000 in
theorem st143_86_0 (N : Nat) (X : Nat → Int) (d : Nat) (x1 : Int) (U : Nat → Nat → Int) (R : Option am_V × am_M) (h : R = (some (.inl (w32 (2 + (Int.tmod (w32 ((U 86 57) + x1)) 20)))), (am_sh, am_mm U))) : Ev (am_kz N X) (d, 143, 0, [some (.inr (.inr 86)), some (.inl x1)], [], (am_sh, am_mm U)) R := by
  refine ev_seg (σ1 := (d, 143, 9, [some (.inr (.inr 86)), some (.inl x1)], [.inl 20, .inl (w32 ((U 86 57) + x1)), .inl 2], (am_sh, am_mm U))) 6 (fun _ => rfl) ?_
  refine ev_irem rfl (by decide) ?_
  subst h
  exact ev_end 2 (fun _ => rfl)
set_option maxRecDepth 8000 in
theorem st145_52_0 (N : Nat) (X : Nat → Int) (d : Nat) (x1 : Int) (U : Nat → Nat → Int) (R : Option am_V × am_M) (h : (((x1 = (-1) : Prop)) → ∃ U1 : Nat → Nat → Int, Ev (am_kz N X) (d, 235, 0, [some (.inr (.inr 52))], [], (am_sh, am_mm U)) (none, (am_sh, am_mm U1)) ∧ (((¬ x1 = (-1) : Prop)) → (0 ≤ x1 ∧ x1 < 16) ∧ R = (some (.inl (U1 55 x1.toNat)), (am_sh, am_mm U1))) ∧ (¬ (¬ x1 = (-1)) → R = (some (.inl (U1 52 7)), (am_sh, am_mm U1)))) ∧ (¬ (x1 = (-1)) → (((x1 < 0 : Prop)) → R = (some (.inl (-1)), (am_sh, am_mm U))) ∧ (¬ (x1 < 0) → (((x1 < (U 16 0) : Prop)) → ∃ U2 : Nat → Nat → Int, Ev (am_kz N X) (d, 235, 0, [some (.inr (.inr 52))], [], (am_sh, am_mm U)) (none, (am_sh, am_mm U2)) ∧ (((¬ x1 = (-1) : Prop)) → (0 ≤ x1 ∧ x1 < 16) ∧ R = (some (.inl (U2 55 x1.toNat)), (am_sh, am_mm U2))) ∧ (¬ (¬ x1 = (-1)) → R = (some (.inl (U2 52 7)), (am_sh, am_mm U2)))) ∧ (¬ (x1 < (U 16 0)) → R = (some (.inl (-1)), (am_sh, am_mm U)))))) : Ev (am_kz N X) ((d + 1), 145, 0, [some (.inr (.inr 52)), some (.inl x1)], [], (am_sh, am_mm U)) R := by
  refine ev_br (P := x1 = (-1)) (σ1 := ((d + 1), 145, 22, [some (.inr (.inr 52)), some (.inl x1)], [], (am_sh, am_mm U))) (σ2 := ((d + 1), 145, 5, [some (.inr (.inr 52)), some (.inl x1)], [], (am_sh, am_mm U))) 3 (fun _ => rfl) (fun hc => ?_) (fun hc => ?_)
  · have h1 := h.1 hc
    refine ev_seg (σ1 := ((d + 1), 145, 23, [some (.inr (.inr 52)), some (.inl x1)], [.inr (.inr 52)], (am_sh, am_mm U))) 1 (fun _ => rfl) ?_
    obtain ⟨U1, h1c, h1a⟩ := h1
    refine ev_cal (σc := (d, 235, 0, [some (.inr (.inr 52))], [], (am_sh, am_mm U))) (fun _ => rfl) h1c ?_
    show Ev (am_kz N X) ((d + 1), 145, 26, [some (.inr (.inr 52)), some (.inl x1)], [], (am_sh, am_mm U1)) R
    refine ev_br (P := ¬ x1 = (-1)) (σ1 := ((d + 1), 145, 38, [some (.inr (.inr 52)), some (.inl x1)], [], (am_sh, am_mm U1))) (σ2 := ((d + 1), 145, 31, [some (.inr (.inr 52)), some (.inl x1)], [], (am_sh, am_mm U1))) 3 (fun _ => rfl) (fun hc => ?_) (fun hc => ?_)
    · have h1a1 := h1a.1 hc
      refine ev_seg (σ1 := ((d + 1), 145, 43, [some (.inr (.inr 52)), some (.inl x1)], [.inl x1, .inr (.inr 55)], (am_sh, am_mm U1))) 3 (fun _ => rfl) ?_
      refine eu_iald 55 (n := 16) rfl (by decide) rfl (fun _ => rfl) h1a1.1 ?_
      have h1a1a := h1a1.2
      subst h1a1a
      exact ev_end 1 (fun _ => rfl)
    · have h1a2 := h1a.2 hc
      subst h1a2
      exact ev_end 4 (fun _ => rfl)
  · have h2 := h.2 hc
    refine ev_br (P := x1 < 0) (σ1 := ((d + 1), 145, 20, [some (.inr (.inr 52)), some (.inl x1)], [], (am_sh, am_mm U))) (σ2 := ((d + 1), 145, 9, [some (.inr (.inr 52)), some (.inl x1)], [], (am_sh, am_mm U))) 2 (fun _ => rfl) (fun hc => ?_) (fun hc => ?_)
    · have h21 := h2.1 hc
      subst h21
      exact ev_end 2 (fun _ => rfl)
    · have h22 := h2.2 hc
      refine ev_br (P := x1 < (U 16 0)) (σ1 := ((d + 1), 145, 22, [some (.inr (.inr 52)), some (.inl x1)], [], (am_sh, am_mm U))) (σ2 := ((d + 1), 145, 20, [some (.inr (.inr 52)), some (.inl x1)], [], (am_sh, am_mm U))) 5 (fun _ => rfl) (fun hc => ?_) (fun hc => ?_)
      · have h221 := h22.1 hc
        refine ev_seg (σ1 := ((d + 1), 145, 23, [some (.inr (.inr 52)), some (.inl x1)], [.inr (.inr 52)], (am_sh, am_mm U))) 1 (fun _ => rfl) ?_
        obtain ⟨U2, h221c, h221a⟩ := h221
        refine ev_cal (σc := (d, 235, 0, [some (.inr (.inr 52))], [], (am_sh, am_mm U))) (fun _ => rfl) h221c ?_
        show Ev (am_kz N X) ((d + 1), 145, 26, [some (.inr (.inr 52)), some (.inl x1)], [], (am_sh, am_mm U2)) R
        refine ev_br (P := ¬ x1 = (-1)) (σ1 := ((d + 1), 145, 38, [some (.inr (.inr 52)), some (.inl x1)], [], (am_sh, am_mm U2))) (σ2 := ((d + 1), 145, 31, [some (.inr (.inr 52)), some (.inl x1)], [], (am_sh, am_mm U2))) 3 (fun _ => rfl) (fun hc => ?_) (fun hc => ?_)
        · have h221a1 := h221a.1 hc
          refine ev_seg (σ1 := ((d + 1), 145, 43, [some (.inr (.inr 52)), some (.inl x1)], [.inl x1, .inr (.inr 55)], (am_sh, am_mm U2))) 3 (fun _ => rfl) ?_
          refine eu_iald 55 (n := 16) rfl (by decide) rfl (fun _ => rfl) h221a1.1 ?_
          have h221a1a := h221a1.2
          subst h221a1a
          exact ev_end 1 (fun _ => rfl)
        · have h221a2 := h221a.2 hc
          subst h221a2
          exact ev_end 4 (fun _ => rfl)
      · have h222 := h22.2 hc
        subst h222
        exact ev_end 2 (fun _ => rfl)
set_option maxRecDepth 8000 in
theorem st146_86_0 (N : Nat) (X : Nat → Int) (d : Nat) (U : Nat → Nat → Int) (R : Option am_V × am_M) (h : Ev (am_kz N X) ((d + 1), 146, 9, [some (.inr (.inr 86)), some (.inl (U 122 0)), some (.inl 0), none, none, none, none, none], [], (am_sh, am_mm U)) R) : Ev (am_kz N X) ((d + 1), 146, 0, [some (.inr (.inr 86)), none, none, none, none, none, none, none], [], (am_sh, am_mm U)) R := by
  refine ev_seg (σ1 := ((d + 1), 146, 5, [some (.inr (.inr 86)), none, none, none, none, none, none, none], [.inl 0, .inr (.inr 122)], (am_sh, am_mm U))) 3 (fun _ => rfl) ?_
  refine eu_iald 122 (n := 22) rfl (by decide) rfl (fun _ => rfl) (by decide) ?_
  show Ev (am_kz N X) ((d + 1), 146, 6, [some (.inr (.inr 86)), none, none, none, none, none, none, none], [.inl (U 122 0)], (am_sh, am_mm U)) R
  refine ev_seg (σ1 := ((d + 1), 146, 9, [some (.inr (.inr 86)), some (.inl (U 122 0)), some (.inl 0), none, none, none, none, none], [], (am_sh, am_mm U))) 3 (fun _ => rfl) ?_
  exact h
set_option maxRecDepth 8000 in
theorem st146_86_9 (N : Nat) (X : Nat → Int) (d : Nat) (x1 x2 : Int) (U : Nat → Nat → Int) (R : Option am_V × am_M) (h : (((x1 ≤ x2 : Prop)) → Ev (am_kz N X) ((d + 1), 146, 92, [some (.inr (.inr 86)), some (.inl x1), some (.inl 1), none, none, none, none, none], [], (am_sh, am_mm U)) R) ∧ (¬ (x1 ≤ x2) → (0 ≤ x2 ∧ x2 < 16) ∧ Ev (am_kz N X) ((d + 1), 146, 23, [some (.inr (.inr 86)), some (.inl x1), some (.inl x2), some (.inl 0), none, none, none, none], [], (am_sh, am_mm (am_upd U 130 x2.toNat 0))) R)) : Ev (am_kz N X) ((d + 1), 146, 9, [some (.inr (.inr 86)), some (.inl x1), some (.inl x2), none, none, none, none, none], [], (am_sh, am_mm U)) R := by
  refine ev_br (P := x1 ≤ x2) (σ1 := ((d + 1), 146, 90, [some (.inr (.inr 86)), some (.inl x1), some (.inl x2), none, none, none, none, none], [], (am_sh, am_mm U))) (σ2 := ((d + 1), 146, 14, [some (.inr (.inr 86)), some (.inl x1), some (.inl x2), none, none, none, none, none], [], (am_sh, am_mm U))) 3 (fun _ => rfl) (fun hc => ?_) (fun hc => ?_)
  · have h1 := h.1 hc
    refine ev_seg (σ1 := ((d + 1), 146, 92, [some (.inr (.inr 86)), some (.inl x1), some (.inl 1), none, none, none, none, none], [], (am_sh, am_mm U))) 2 (fun _ => rfl) ?_
    exact h1
  · have h2 := h.2 hc
    refine ev_seg (σ1 := ((d + 1), 146, 20, [some (.inr (.inr 86)), some (.inl x1), some (.inl x2), none, none, none, none, none], [.inl 0, .inl x2, .inr (.inr 130)], (am_sh, am_mm U))) 4 (fun _ => rfl) ?_
    refine eu_iast 130 (n := 16) rfl (by decide) rfl (fun _ => rfl) h2.1 ?_
    have h2a := h2.2
    refine ev_seg (σ1 := ((d + 1), 146, 23, [some (.inr (.inr 86)), some (.inl x1), some (.inl x2), some (.inl 0), none, none, none, none], [], (am_sh, am_mm (am_upd U 130 x2.toNat 0)))) 2 (fun _ => rfl) ?_
    exact h2a
set_option maxRecDepth 8000 in
theorem st146_86_92 (N : Nat) (X : Nat → Int) (d : Nat) (x1 x2 : Int) (U : Nat → Nat → Int) (R : Option am_V × am_M) (h : ((((am_shl 1 x1) ≤ x2 : Prop)) → Ev (am_kz N X) ((d + 1), 146, 213, [some (.inr (.inr 86)), some (.inl x1), some (.inl (w32 ((am_shl 1 x1) - 1))), none, none, none, none, none], [], (am_sh, am_mm U)) R) ∧ (¬ ((am_shl 1 x1) ≤ x2) → ∃ (r1 : Int) (U1 : Nat → Nat → Int), Ev (am_kz N X) (d, 237, 0, [some (.inl x2), none], [], (am_sh, am_mm U)) (some (.inl r1), (am_sh, am_mm U1)) ∧ (0 ≤ (am_and x2 (am_xor (am_shl 1 r1) (-1))) ∧ (am_and x2 (am_xor (am_shl 1 r1) (-1))) < 65536) ∧ Ev (am_kz N X) ((d + 1), 146, 127, [some (.inr (.inr 86)), some (.inl x1), some (.inl x2), some (.inl r1), some (.inl (am_and x2 (am_xor (am_shl 1 r1) (-1)))), some (.inl (U1 131 (am_and x2 (am_xor (am_shl 1 r1) (-1))).toNat)), some (.inl (w32 (r1 + 1))), none], [], (am_sh, am_mm U1)) R)) : Ev (am_kz N X) ((d + 1), 146, 92, [some (.inr (.inr 86)), some (.inl x1), some (.inl x2), none, none, none, none, none], [], (am_sh, am_mm U)) R := by
  refine ev_br (P := (am_shl 1 x1) ≤ x2) (σ1 := ((d + 1), 146, 207, [some (.inr (.inr 86)), some (.inl x1), some (.inl x2), none, none, none, none, none], [], (am_sh, am_mm U))) (σ2 := ((d + 1), 146, 99, [some (.inr (.inr 86)), some (.inl x1), some (.inl x2), none, none, none, none, none], [], (am_sh, am_mm U))) 5 (fun _ => rfl) (fun hc => ?_) (fun hc => ?_)
  · have h1 := h.1 hc
    refine ev_seg (σ1 := ((d + 1), 146, 213, [some (.inr (.inr 86)), some (.inl x1), some (.inl (w32 ((am_shl 1 x1) - 1))), none, none, none, none, none], [], (am_sh, am_mm U))) 6 (fun _ => rfl) ?_
    exact h1
  · have h2 := h.2 hc
    refine ev_seg (σ1 := ((d + 1), 146, 100, [some (.inr (.inr 86)), some (.inl x1), some (.inl x2), none, none, none, none, none], [.inl x2], (am_sh, am_mm U))) 1 (fun _ => rfl) ?_
    obtain ⟨r1, U1, h2c, h2a⟩ := h2
    refine ev_cal (σc := (d, 237, 0, [some (.inl x2), none], [], (am_sh, am_mm U))) (fun _ => rfl) h2c ?_
    show Ev (am_kz N X) ((d + 1), 146, 103, [some (.inr (.inr 86)), some (.inl x1), some (.inl x2), none, none, none, none, none], [.inl r1], (am_sh, am_mm U1)) R
    refine ev_seg (σ1 := ((d + 1), 146, 119, [some (.inr (.inr 86)), some (.inl x1), some (.inl x2), some (.inl r1), some (.inl (am_and x2 (am_xor (am_shl 1 r1) (-1)))), none, none, none], [.inl (am_and x2 (am_xor (am_shl 1 r1) (-1))), .inr (.inr 131)], (am_sh, am_mm U1))) 12 (fun _ => rfl) ?_
    refine eu_iald 131 (n := 65536) rfl (by decide) rfl (fun _ => rfl) h2a.1 ?_
    have h2aa := h2a.2
    refine ev_seg (σ1 := ((d + 1), 146, 127, [some (.inr (.inr 86)), some (.inl x1), some (.inl x2), some (.inl r1), some (.inl (am_and x2 (am_xor (am_shl 1 r1) (-1)))), some (.inl (U1 131 (am_and x2 (am_xor (am_shl 1 r1) (-1))).toNat)), some (.inl (w32 (r1 + 1))), none], [], (am_sh, am_mm U1))) 5 (fun _ => rfl) ?_
    exact h2aa
set_option maxRecDepth 8000 in
theorem st146_86_23 (N : Nat) (X : Nat → Int) (d : Nat) (x1 x2 x3 : Int) (U : Nat → Nat → Int) (R : Option am_V × am_M) (h : (((x1 ≤ x3 : Prop)) → (0 ≤ x2 ∧ x2 < 16) ∧ Ev (am_kz N X) ((d + 1), 146, 9, [some (.inr (.inr 86)), some (.inl x1), some (.inl (w32 (x2 + 1))), some (.inl x3), none, none, none, none], [], (am_sh, am_mm (am_upd U 132 x2.toNat (-1)))) R) ∧ (¬ (x1 ≤ x3) → (0 ≤ x2 ∧ x2 < 16) ∧ (((x2 = x3 : Prop)) → (0 ≤ x2 ∧ x2 < 16) ∧ Ev (am_kz N X) ((d + 1), 146, 23, [some (.inr (.inr 86)), some (.inl x1), some (.inl x2), some (.inl (w32 (x3 + 1))), none, none, none, none], [], (am_sh, am_mm (am_upd U 130 x2.toNat (am_or (U 130 x2.toNat) 0)))) R) ∧ (¬ (x2 = x3) → (0 ≤ (U 86 13) ∧ (U 86 13) < 2) ∧ ((((U 104 (U 86 13).toNat) = (-1) : Prop)) → (0 ≤ x2 ∧ x2 < 16) ∧ Ev (am_kz N X) ((d + 1), 146, 23, [some (.inr (.inr 86)), some (.inl x1), some (.inl x2), some (.inl (w32 (x3 + 1))), none, none, none, none], [], (am_sh, am_mm (am_upd U 130 x2.toNat (am_or (U 130 x2.toNat) 0)))) R) ∧ (¬ ((U 104 (U 86 13).toNat) = (-1)) → ∃ (r1 : Int) (U1 : Nat → Nat → Int), Ev (am_kz N X) (d, 236, 0, [some (.inr (.inr 86)), some (.inl x2), some (.inl x3)], [], (am_sh, am_mm U)) (some (.inl r1), (am_sh, am_mm U1)) ∧ (((r1 = 0 : Prop)) → (0 ≤ x2 ∧ x2 < 16) ∧ Ev (am_kz N X) ((d + 1), 146, 23, [some (.inr (.inr 86)), some (.inl x1), some (.inl x2), some (.inl (w32 (x3 + 1))), none, none, none, none], [], (am_sh, am_mm (am_upd U1 130 x2.toNat (am_or (U 130 x2.toNat) 0)))) R) ∧ (¬ (r1 = 0) → (0 ≤ x2 ∧ x2 < 16) ∧ Ev (am_kz N X) ((d + 1), 146, 23, [some (.inr (.inr 86)), some (.inl x1), some (.inl x2), some (.inl (w32 (x3 + 1))), none, none, none, none], [], (am_sh, am_mm (am_upd U1 130 x2.toNat (am_or (U 130 x2.toNat) (am_shl 1 x3))))) R))))) : Ev (am_kz N X) ((d + 1), 146, 23, [some (.inr (.inr 86)), some (.inl x1), some (.inl x2), some (.inl x3), none, none, none, none], [], (am_sh, am_mm U)) R := by
  refine ev_br (P := x1 ≤ x3) (σ1 := ((d + 1), 146, 77, [some (.inr (.inr 86)), some (.inl x1), some (.inl x2), some (.inl x3), none, none, none, none], [], (am_sh, am_mm U))) (σ2 := ((d + 1), 146, 28, [some (.inr (.inr 86)), some (.inl x1), some (.inl x2), some (.inl x3), none, none, none, none], [], (am_sh, am_mm U))) 3 (fun _ => rfl) (fun hc => ?_) (fun hc => ?_)
  · have h1 := h.1 hc
    refine ev_seg (σ1 := ((d + 1), 146, 83, [some (.inr (.inr 86)), some (.inl x1), some (.inl x2), some (.inl x3), none, none, none, none], [.inl (-1), .inl x2, .inr (.inr 132)], (am_sh, am_mm U))) 4 (fun _ => rfl) ?_
    refine eu_iast 132 (n := 16) rfl (by decide) rfl (fun _ => rfl) h1.1 ?_
    have h1a := h1.2
    refine ev_seg (σ1 := ((d + 1), 146, 9, [some (.inr (.inr 86)), some (.inl x1), some (.inl (w32 (x2 + 1))), some (.inl x3), none, none, none, none], [], (am_sh, am_mm (am_upd U 132 x2.toNat (-1))))) 2 (fun _ => rfl) ?_
    exact h1a
  · have h2 := h.2 hc
    refine ev_seg (σ1 := ((d + 1), 146, 34, [some (.inr (.inr 86)), some (.inl x1), some (.inl x2), some (.inl x3), none, none, none, none], [.inl x2, .inr (.inr 130), .inl x2, .inr (.inr 130)], (am_sh, am_mm U))) 4 (fun _ => rfl) ?_
    refine eu_iald 130 (n := 16) rfl (by decide) rfl (fun _ => rfl) h2.1 ?_
    have h2a := h2.2
    refine ev_br (P := x2 = x3) (σ1 := ((d + 1), 146, 68, [some (.inr (.inr 86)), some (.inl x1), some (.inl x2), some (.inl x3), none, none, none, none], [.inl (U 130 x2.toNat), .inl x2, .inr (.inr 130)], (am_sh, am_mm U))) (σ2 := ((d + 1), 146, 40, [some (.inr (.inr 86)), some (.inl x1), some (.inl x2), some (.inl x3), none, none, none, none], [.inl (U 130 x2.toNat), .inl x2, .inr (.inr 130)], (am_sh, am_mm U))) 3 (fun _ => rfl) (fun hc => ?_) (fun hc => ?_)
    · have h2a1 := h2a.1 hc
      refine ev_seg (σ1 := ((d + 1), 146, 70, [some (.inr (.inr 86)), some (.inl x1), some (.inl x2), some (.inl x3), none, none, none, none], [.inl (am_or (U 130 x2.toNat) 0), .inl x2, .inr (.inr 130)], (am_sh, am_mm U))) 2 (fun _ => rfl) ?_
      refine eu_iast 130 (n := 16) rfl (by decide) rfl (fun _ => rfl) h2a1.1 ?_
      have h2a1a := h2a1.2
      refine ev_seg (σ1 := ((d + 1), 146, 23, [some (.inr (.inr 86)), some (.inl x1), some (.inl x2), some (.inl (w32 (x3 + 1))), none, none, none, none], [], (am_sh, am_mm (am_upd U 130 x2.toNat (am_or (U 130 x2.toNat) 0))))) 2 (fun _ => rfl) ?_
      exact h2a1a
    · have h2a2 := h2a.2 hc
      refine ev_seg (σ1 := ((d + 1), 146, 48, [some (.inr (.inr 86)), some (.inl x1), some (.inl x2), some (.inl x3), none, none, none, none], [.inl (U 86 13), .inr (.inr 104), .inl (U 130 x2.toNat), .inl x2, .inr (.inr 130)], (am_sh, am_mm U))) 4 (fun _ => rfl) ?_
      refine eu_iald 104 (n := 2) rfl (by decide) rfl (fun _ => rfl) h2a2.1 ?_
      have h2a2a := h2a2.2
      refine ev_br (P := (U 104 (U 86 13).toNat) = (-1)) (σ1 := ((d + 1), 146, 68, [some (.inr (.inr 86)), some (.inl x1), some (.inl x2), some (.inl x3), none, none, none, none], [.inl (U 130 x2.toNat), .inl x2, .inr (.inr 130)], (am_sh, am_mm U))) (σ2 := ((d + 1), 146, 53, [some (.inr (.inr 86)), some (.inl x1), some (.inl x2), some (.inl x3), none, none, none, none], [.inl (U 130 x2.toNat), .inl x2, .inr (.inr 130)], (am_sh, am_mm U))) 2 (fun _ => rfl) (fun hc => ?_) (fun hc => ?_)
      · have h2a2a1 := h2a2a.1 hc
        refine ev_seg (σ1 := ((d + 1), 146, 70, [some (.inr (.inr 86)), some (.inl x1), some (.inl x2), some (.inl x3), none, none, none, none], [.inl (am_or (U 130 x2.toNat) 0), .inl x2, .inr (.inr 130)], (am_sh, am_mm U))) 2 (fun _ => rfl) ?_
        refine eu_iast 130 (n := 16) rfl (by decide) rfl (fun _ => rfl) h2a2a1.1 ?_
        have h2a2a1a := h2a2a1.2
        refine ev_seg (σ1 := ((d + 1), 146, 23, [some (.inr (.inr 86)), some (.inl x1), some (.inl x2), some (.inl (w32 (x3 + 1))), none, none, none, none], [], (am_sh, am_mm (am_upd U 130 x2.toNat (am_or (U 130 x2.toNat) 0))))) 2 (fun _ => rfl) ?_
        exact h2a2a1a
      · have h2a2a2 := h2a2a.2 hc
        refine ev_seg (σ1 := ((d + 1), 146, 56, [some (.inr (.inr 86)), some (.inl x1), some (.inl x2), some (.inl x3), none, none, none, none], [.inl x3, .inl x2, .inr (.inr 86), .inl (U 130 x2.toNat), .inl x2, .inr (.inr 130)], (am_sh, am_mm U))) 3 (fun _ => rfl) ?_
        obtain ⟨r1, U1, h2a2a2c, h2a2a2a⟩ := h2a2a2
        refine ev_cal (σc := (d, 236, 0, [some (.inr (.inr 86)), some (.inl x2), some (.inl x3)], [], (am_sh, am_mm U))) (fun _ => rfl) h2a2a2c ?_
        show Ev (am_kz N X) ((d + 1), 146, 59, [some (.inr (.inr 86)), some (.inl x1), some (.inl x2), some (.inl x3), none, none, none, none], [.inl r1, .inl (U 130 x2.toNat), .inl x2, .inr (.inr 130)], (am_sh, am_mm U1)) R
        refine ev_br (P := r1 = 0) (σ1 := ((d + 1), 146, 68, [some (.inr (.inr 86)), some (.inl x1), some (.inl x2), some (.inl x3), none, none, none, none], [.inl (U 130 x2.toNat), .inl x2, .inr (.inr 130)], (am_sh, am_mm U1))) (σ2 := ((d + 1), 146, 62, [some (.inr (.inr 86)), some (.inl x1), some (.inl x2), some (.inl x3), none, none, none, none], [.inl (U 130 x2.toNat), .inl x2, .inr (.inr 130)], (am_sh, am_mm U1))) 1 (fun _ => rfl) (fun hc => ?_) (fun hc => ?_)
        · have h2a2a2a1 := h2a2a2a.1 hc
          refine ev_seg (σ1 := ((d + 1), 146, 70, [some (.inr (.inr 86)), some (.inl x1), some (.inl x2), some (.inl x3), none, none, none, none], [.inl (am_or (U 130 x2.toNat) 0), .inl x2, .inr (.inr 130)], (am_sh, am_mm U1))) 2 (fun _ => rfl) ?_
          refine eu_iast 130 (n := 16) rfl (by decide) rfl (fun _ => rfl) h2a2a2a1.1 ?_
          have h2a2a2a1a := h2a2a2a1.2
          refine ev_seg (σ1 := ((d + 1), 146, 23, [some (.inr (.inr 86)), some (.inl x1), some (.inl x2), some (.inl (w32 (x3 + 1))), none, none, none, none], [], (am_sh, am_mm (am_upd U1 130 x2.toNat (am_or (U 130 x2.toNat) 0))))) 2 (fun _ => rfl) ?_
          exact h2a2a2a1a
        · have h2a2a2a2 := h2a2a2a.2 hc
          refine ev_seg (σ1 := ((d + 1), 146, 70, [some (.inr (.inr 86)), some (.inl x1), some (.inl x2), some (.inl x3), none, none, none, none], [.inl (am_or (U 130 x2.toNat) (am_shl 1 x3)), .inl x2, .inr (.inr 130)], (am_sh, am_mm U1))) 5 (fun _ => rfl) ?_
          refine eu_iast 130 (n := 16) rfl (by decide) rfl (fun _ => rfl) h2a2a2a2.1 ?_
          have h2a2a2a2a := h2a2a2a2.2
          refine ev_seg (σ1 := ((d + 1), 146, 23, [some (.inr (.inr 86)), some (.inl x1), some (.inl x2), some (.inl (w32 (x3 + 1))), none, none, none, none], [], (am_sh, am_mm (am_upd U1 130 x2.toNat (am_or (U 130 x2.toNat) (am_shl 1 x3)))))) 2 (fun _ => rfl) ?_
          exact h2a2a2a2a
set_option maxRecDepth 8000 in
theorem st146_86_213 (N : Nat) (X : Nat → Int) (d : Nat) (x1 x2 : Int) (U : Nat → Nat → Int) (R : Option am_V × am_M) (h : (((x2 = 0 : Prop)) → R = (none, (am_sh, am_mm U))) ∧ (¬ (x2 = 0) → ∃ (r1 : Int) (U1 : Nat → Nat → Int), Ev (am_kz N X) (d, 237, 0, [some (.inl x2), none], [], (am_sh, am_mm U)) (some (.inl r1), (am_sh, am_mm U1)) ∧ Ev (am_kz N X) ((d + 1), 146, 239, [some (.inr (.inr 86)), some (.inl x1), some (.inl x2), some (.inl r1), some (.inl (am_and x2 (am_xor (am_shl 1 r1) (-1)))), some (.inl (-1)), some (.inl (w32 (r1 + 1))), none], [], (am_sh, am_mm U1)) R)) : Ev (am_kz N X) ((d + 1), 146, 213, [some (.inr (.inr 86)), some (.inl x1), some (.inl x2), none, none, none, none, none], [], (am_sh, am_mm U)) R := by
  refine ev_br (P := x2 = 0) (σ1 := ((d + 1), 146, 342, [some (.inr (.inr 86)), some (.inl x1), some (.inl x2), none, none, none, none, none], [], (am_sh, am_mm U))) (σ2 := ((d + 1), 146, 217, [some (.inr (.inr 86)), some (.inl x1), some (.inl x2), none, none, none, none, none], [], (am_sh, am_mm U))) 2 (fun _ => rfl) (fun hc => ?_) (fun hc => ?_)
  · have h1 := h.1 hc
    subst h1
    exact ev_end 1 (fun _ => rfl)
  · have h2 := h.2 hc
    refine ev_seg (σ1 := ((d + 1), 146, 218, [some (.inr (.inr 86)), some (.inl x1), some (.inl x2), none, none, none, none, none], [.inl x2], (am_sh, am_mm U))) 1 (fun _ => rfl) ?_
    obtain ⟨r1, U1, h2c, h2a⟩ := h2
    refine ev_cal (σc := (d, 237, 0, [some (.inl x2), none], [], (am_sh, am_mm U))) (fun _ => rfl) h2c ?_
    show Ev (am_kz N X) ((d + 1), 146, 221, [some (.inr (.inr 86)), some (.inl x1), some (.inl x2), none, none, none, none, none], [.inl r1], (am_sh, am_mm U1)) R
    refine ev_seg (σ1 := ((d + 1), 146, 239, [some (.inr (.inr 86)), some (.inl x1), some (.inl x2), some (.inl r1), some (.inl (am_and x2 (am_xor (am_shl 1 r1) (-1)))), some (.inl (-1)), some (.inl (w32 (r1 + 1))), none], [], (am_sh, am_mm U1))) 15 (fun _ => rfl) ?_
    exact h2a
set_option maxRecDepth 8000 in
theorem st146_86_127 (N : Nat) (X : Nat → Int) (d : Nat) (x1 x2 x3 x4 x5 x6 : Int) (U : Nat → Nat → Int) (R : Option am_V × am_M) (h : (((x1 ≤ x6 : Prop)) → (0 ≤ x2 ∧ x2 < 65536) ∧ Ev (am_kz N X) ((d + 1), 146, 92, [some (.inr (.inr 86)), some (.inl x1), some (.inl (w32 (x2 + 1))), some (.inl x3), some (.inl x4), some (.inl x5), some (.inl x6), none], [], (am_sh, am_mm (am_upd U 131 x2.toNat x5))) R) ∧ (¬ (x1 ≤ x6) → (0 ≤ x3 ∧ x3 < 16) ∧ (((¬ (am_and (am_and x4 (U 130 x3.toNat)) (am_shl 1 x6)) = 0 : Prop)) → (0 ≤ (am_and x4 (am_xor (am_shl 1 x6) (-1))) ∧ (am_and x4 (am_xor (am_shl 1 x6) (-1))) < 65536) ∧ ((((w32 (1 + (U 131 (am_and x4 (am_xor (am_shl 1 x6) (-1))).toNat))) ≤ x5 : Prop)) → Ev (am_kz N X) ((d + 1), 146, 127, [some (.inr (.inr 86)), some (.inl x1), some (.inl x2), some (.inl x3), some (.inl x4), some (.inl x5), some (.inl (w32 (x6 + 1))), some (.inl (w32 (1 + (U 131 (am_and x4 (am_xor (am_shl 1 x6) (-1))).toNat))))], [], (am_sh, am_mm U)) R) ∧ (¬ ((w32 (1 + (U 131 (am_and x4 (am_xor (am_shl 1 x6) (-1))).toNat))) ≤ x5) → Ev (am_kz N X) ((d + 1), 146, 127, [some (.inr (.inr 86)), some (.inl x1), some (.inl x2), some (.inl x3), some (.inl x4), some (.inl (w32 (1 + (U 131 (am_and x4 (am_xor (am_shl 1 x6) (-1))).toNat)))), some (.inl (w32 (x6 + 1))), some (.inl (w32 (1 + (U 131 (am_and x4 (am_xor (am_shl 1 x6) (-1))).toNat))))], [], (am_sh, am_mm U)) R)) ∧ (¬ (¬ (am_and (am_and x4 (U 130 x3.toNat)) (am_shl 1 x6)) = 0) → Ev (am_kz N X) ((d + 1), 146, 127, [some (.inr (.inr 86)), some (.inl x1), some (.inl x2), some (.inl x3), some (.inl x4), some (.inl x5), some (.inl (w32 (x6 + 1))), none], [], (am_sh, am_mm U)) R))) : Ev (am_kz N X) ((d + 1), 146, 127, [some (.inr (.inr 86)), some (.inl x1), some (.inl x2), some (.inl x3), some (.inl x4), some (.inl x5), some (.inl x6), none], [], (am_sh, am_mm U)) R := by
  refine ev_br (P := x1 ≤ x6) (σ1 := ((d + 1), 146, 193, [some (.inr (.inr 86)), some (.inl x1), some (.inl x2), some (.inl x3), some (.inl x4), some (.inl x5), some (.inl x6), none], [], (am_sh, am_mm U))) (σ2 := ((d + 1), 146, 133, [some (.inr (.inr 86)), some (.inl x1), some (.inl x2), some (.inl x3), some (.inl x4), some (.inl x5), some (.inl x6), none], [], (am_sh, am_mm U))) 3 (fun _ => rfl) (fun hc => ?_) (fun hc => ?_)
  · have h1 := h.1 hc
    refine ev_seg (σ1 := ((d + 1), 146, 200, [some (.inr (.inr 86)), some (.inl x1), some (.inl x2), some (.inl x3), some (.inl x4), some (.inl x5), some (.inl x6), none], [.inl x5, .inl x2, .inr (.inr 131)], (am_sh, am_mm U))) 4 (fun _ => rfl) ?_
    refine eu_iast 131 (n := 65536) rfl (by decide) rfl (fun _ => rfl) h1.1 ?_
    have h1a := h1.2
    refine ev_seg (σ1 := ((d + 1), 146, 92, [some (.inr (.inr 86)), some (.inl x1), some (.inl (w32 (x2 + 1))), some (.inl x3), some (.inl x4), some (.inl x5), some (.inl x6), none], [], (am_sh, am_mm (am_upd U 131 x2.toNat x5)))) 2 (fun _ => rfl) ?_
    exact h1a
  · have h2 := h.2 hc
    refine ev_seg (σ1 := ((d + 1), 146, 140, [some (.inr (.inr 86)), some (.inl x1), some (.inl x2), some (.inl x3), some (.inl x4), some (.inl x5), some (.inl x6), none], [.inl x3, .inr (.inr 130), .inl x4], (am_sh, am_mm U))) 4 (fun _ => rfl) ?_
    refine eu_iald 130 (n := 16) rfl (by decide) rfl (fun _ => rfl) h2.1 ?_
    have h2a := h2.2
    refine ev_br (P := ¬ (am_and (am_and x4 (U 130 x3.toNat)) (am_shl 1 x6)) = 0) (σ1 := ((d + 1), 146, 153, [some (.inr (.inr 86)), some (.inl x1), some (.inl x2), some (.inl x3), some (.inl x4), some (.inl x5), some (.inl x6), none], [], (am_sh, am_mm U))) (σ2 := ((d + 1), 146, 150, [some (.inr (.inr 86)), some (.inl x1), some (.inl x2), some (.inl x3), some (.inl x4), some (.inl x5), some (.inl x6), none], [], (am_sh, am_mm U))) 6 (fun _ => rfl) (fun hc => ?_) (fun hc => ?_)
    · have h2a1 := h2a.1 hc
      refine ev_seg (σ1 := ((d + 1), 146, 167, [some (.inr (.inr 86)), some (.inl x1), some (.inl x2), some (.inl x3), some (.inl x4), some (.inl x5), some (.inl x6), none], [.inl (am_and x4 (am_xor (am_shl 1 x6) (-1))), .inr (.inr 131), .inl 1], (am_sh, am_mm U))) 10 (fun _ => rfl) ?_
      refine eu_iald 131 (n := 65536) rfl (by decide) rfl (fun _ => rfl) h2a1.1 ?_
      have h2a1a := h2a1.2
      refine ev_br (P := (w32 (1 + (U 131 (am_and x4 (am_xor (am_shl 1 x6) (-1))).toNat))) ≤ x5) (σ1 := ((d + 1), 146, 183, [some (.inr (.inr 86)), some (.inl x1), some (.inl x2), some (.inl x3), some (.inl x4), some (.inl x5), some (.inl x6), some (.inl (w32 (1 + (U 131 (am_and x4 (am_xor (am_shl 1 x6) (-1))).toNat))))], [], (am_sh, am_mm U))) (σ2 := ((d + 1), 146, 178, [some (.inr (.inr 86)), some (.inl x1), some (.inl x2), some (.inl x3), some (.inl x4), some (.inl x5), some (.inl x6), some (.inl (w32 (1 + (U 131 (am_and x4 (am_xor (am_shl 1 x6) (-1))).toNat))))], [], (am_sh, am_mm U))) 5 (fun _ => rfl) (fun hc => ?_) (fun hc => ?_)
      · have h2a1a1 := h2a1a.1 hc
        refine ev_seg (σ1 := ((d + 1), 146, 127, [some (.inr (.inr 86)), some (.inl x1), some (.inl x2), some (.inl x3), some (.inl x4), some (.inl x5), some (.inl (w32 (x6 + 1))), some (.inl (w32 (1 + (U 131 (am_and x4 (am_xor (am_shl 1 x6) (-1))).toNat))))], [], (am_sh, am_mm U))) 4 (fun _ => rfl) ?_
        exact h2a1a1
      · have h2a1a2 := h2a1a.2 hc
        refine ev_seg (σ1 := ((d + 1), 146, 127, [some (.inr (.inr 86)), some (.inl x1), some (.inl x2), some (.inl x3), some (.inl x4), some (.inl (w32 (1 + (U 131 (am_and x4 (am_xor (am_shl 1 x6) (-1))).toNat)))), some (.inl (w32 (x6 + 1))), some (.inl (w32 (1 + (U 131 (am_and x4 (am_xor (am_shl 1 x6) (-1))).toNat))))], [], (am_sh, am_mm U))) 5 (fun _ => rfl) ?_
        exact h2a1a2
    · have h2a2 := h2a.2 hc
      refine ev_seg (σ1 := ((d + 1), 146, 127, [some (.inr (.inr 86)), some (.inl x1), some (.inl x2), some (.inl x3), some (.inl x4), some (.inl x5), some (.inl (w32 (x6 + 1))), none], [], (am_sh, am_mm U))) 3 (fun _ => rfl) ?_
      exact h2a2
set_option maxRecDepth 8000 in
theorem st146_86_239 (N : Nat) (X : Nat → Int) (d : Nat) (x1 x2 x3 x4 x5 x6 : Int) (U : Nat → Nat → Int) (R : Option am_V × am_M) (h : (((x1 ≤ x6 : Prop)) → (((x5 = (-1) : Prop)) → Ev (am_kz N X) ((d + 1), 146, 213, [some (.inr (.inr 86)), some (.inl x1), some (.inl x4), some (.inl x3), some (.inl x4), some (.inl x5), some (.inl x6), none], [], (am_sh, am_mm U)) R) ∧ (¬ (x5 = (-1)) → (0 ≤ x3 ∧ x3 < 16) ∧ (0 ≤ x5 ∧ x5 < 16) ∧ Ev (am_kz N X) ((d + 1), 146, 213, [some (.inr (.inr 86)), some (.inl x1), some (.inl (am_and x4 (am_xor (am_shl 1 x5) (-1)))), some (.inl x3), some (.inl (am_and x4 (am_xor (am_shl 1 x5) (-1)))), some (.inl x5), some (.inl x6), none], [], (am_sh, am_mm (am_upd (am_upd U 132 x3.toNat x5) 132 x5.toNat x3))) R)) ∧ (¬ (x1 ≤ x6) → (((¬ x5 = (-1) : Prop)) → (((x5 = (-1) : Prop)) → Ev (am_kz N X) ((d + 1), 146, 213, [some (.inr (.inr 86)), some (.inl x1), some (.inl x4), some (.inl x3), some (.inl x4), some (.inl x5), some (.inl x6), none], [], (am_sh, am_mm U)) R) ∧ (¬ (x5 = (-1)) → (0 ≤ x3 ∧ x3 < 16) ∧ (0 ≤ x5 ∧ x5 < 16) ∧ Ev (am_kz N X) ((d + 1), 146, 213, [some (.inr (.inr 86)), some (.inl x1), some (.inl (am_and x4 (am_xor (am_shl 1 x5) (-1)))), some (.inl x3), some (.inl (am_and x4 (am_xor (am_shl 1 x5) (-1)))), some (.inl x5), some (.inl x6), none], [], (am_sh, am_mm (am_upd (am_upd U 132 x3.toNat x5) 132 x5.toNat x3))) R)) ∧ (¬ (¬ x5 = (-1)) → (0 ≤ x3 ∧ x3 < 16) ∧ ((((am_and (am_and x4 (U 130 x3.toNat)) (am_shl 1 x6)) = 0 : Prop)) → Ev (am_kz N X) ((d + 1), 146, 239, [some (.inr (.inr 86)), some (.inl x1), some (.inl x2), some (.inl x3), some (.inl x4), some (.inl x5), some (.inl (w32 (x6 + 1))), none], [], (am_sh, am_mm U)) R) ∧ (¬ ((am_and (am_and x4 (U 130 x3.toNat)) (am_shl 1 x6)) = 0) → (0 ≤ (am_and x4 (am_xor (am_shl 1 x6) (-1))) ∧ (am_and x4 (am_xor (am_shl 1 x6) (-1))) < 65536) ∧ (0 ≤ x2 ∧ x2 < 65536) ∧ (((¬ (w32 (1 + (U 131 (am_and x4 (am_xor (am_shl 1 x6) (-1))).toNat))) = (U 131 x2.toNat) : Prop)) → Ev (am_kz N X) ((d + 1), 146, 239, [some (.inr (.inr 86)), some (.inl x1), some (.inl x2), some (.inl x3), some (.inl x4), some (.inl x5), some (.inl (w32 (x6 + 1))), none], [], (am_sh, am_mm U)) R) ∧ (¬ (¬ (w32 (1 + (U 131 (am_and x4 (am_xor (am_shl 1 x6) (-1))).toNat))) = (U 131 x2.toNat)) → Ev (am_kz N X) ((d + 1), 146, 239, [some (.inr (.inr 86)), some (.inl x1), some (.inl x2), some (.inl x3), some (.inl x4), some (.inl x6), some (.inl (w32 (x6 + 1))), none], [], (am_sh, am_mm U)) R))))) : Ev (am_kz N X) ((d + 1), 146, 239, [some (.inr (.inr 86)), some (.inl x1), some (.inl x2), some (.inl x3), some (.inl x4), some (.inl x5), some (.inl x6), none], [], (am_sh, am_mm U)) R := by
  refine ev_br (P := x1 ≤ x6) (σ1 := ((d + 1), 146, 303, [some (.inr (.inr 86)), some (.inl x1), some (.inl x2), some (.inl x3), some (.inl x4), some (.inl x5), some (.inl x6), none], [], (am_sh, am_mm U))) (σ2 := ((d + 1), 146, 245, [some (.inr (.inr 86)), some (.inl x1), some (.inl x2), some (.inl x3), some (.inl x4), some (.inl x5), some (.inl x6), none], [], (am_sh, am_mm U))) 3 (fun _ => rfl) (fun hc => ?_) (fun hc => ?_)
  · have h1 := h.1 hc
    refine ev_br (P := x5 = (-1)) (σ1 := ((d + 1), 146, 336, [some (.inr (.inr 86)), some (.inl x1), some (.inl x2), some (.inl x3), some (.inl x4), some (.inl x5), some (.inl x6), none], [], (am_sh, am_mm U))) (σ2 := ((d + 1), 146, 309, [some (.inr (.inr 86)), some (.inl x1), some (.inl x2), some (.inl x3), some (.inl x4), some (.inl x5), some (.inl x6), none], [], (am_sh, am_mm U))) 3 (fun _ => rfl) (fun hc => ?_) (fun hc => ?_)
    · have h11 := h1.1 hc
      refine ev_seg (σ1 := ((d + 1), 146, 213, [some (.inr (.inr 86)), some (.inl x1), some (.inl x4), some (.inl x3), some (.inl x4), some (.inl x5), some (.inl x6), none], [], (am_sh, am_mm U))) 3 (fun _ => rfl) ?_
      exact h11
    · have h12 := h1.2 hc
      refine ev_seg (σ1 := ((d + 1), 146, 316, [some (.inr (.inr 86)), some (.inl x1), some (.inl x2), some (.inl x3), some (.inl x4), some (.inl x5), some (.inl x6), none], [.inl x5, .inl x3, .inr (.inr 132)], (am_sh, am_mm U))) 4 (fun _ => rfl) ?_
      refine eu_iast 132 (n := 16) rfl (by decide) rfl (fun _ => rfl) h12.1 ?_
      have h12a := h12.2
      refine ev_seg (σ1 := ((d + 1), 146, 324, [some (.inr (.inr 86)), some (.inl x1), some (.inl x2), some (.inl x3), some (.inl x4), some (.inl x5), some (.inl x6), none], [.inl x3, .inl x5, .inr (.inr 132)], (am_sh, am_mm (am_upd U 132 x3.toNat x5)))) 4 (fun _ => rfl) ?_
      refine eu_iast 132 (n := 16) rfl (by decide) rfl (fun _ => rfl) h12a.1 ?_
      have h12aa := h12a.2
      refine ev_seg (σ1 := ((d + 1), 146, 213, [some (.inr (.inr 86)), some (.inl x1), some (.inl (am_and x4 (am_xor (am_shl 1 x5) (-1)))), some (.inl x3), some (.inl (am_and x4 (am_xor (am_shl 1 x5) (-1)))), some (.inl x5), some (.inl x6), none], [], (am_sh, am_mm (am_upd (am_upd U 132 x3.toNat x5) 132 x5.toNat x3)))) 11 (fun _ => rfl) ?_
      exact h12aa
  · have h2 := h.2 hc
    refine ev_br (P := ¬ x5 = (-1)) (σ1 := ((d + 1), 146, 303, [some (.inr (.inr 86)), some (.inl x1), some (.inl x2), some (.inl x3), some (.inl x4), some (.inl x5), some (.inl x6), none], [], (am_sh, am_mm U))) (σ2 := ((d + 1), 146, 251, [some (.inr (.inr 86)), some (.inl x1), some (.inl x2), some (.inl x3), some (.inl x4), some (.inl x5), some (.inl x6), none], [], (am_sh, am_mm U))) 3 (fun _ => rfl) (fun hc => ?_) (fun hc => ?_)
    · have h21 := h2.1 hc
      refine ev_br (P := x5 = (-1)) (σ1 := ((d + 1), 146, 336, [some (.inr (.inr 86)), some (.inl x1), some (.inl x2), some (.inl x3), some (.inl x4), some (.inl x5), some (.inl x6), none], [], (am_sh, am_mm U))) (σ2 := ((d + 1), 146, 309, [some (.inr (.inr 86)), some (.inl x1), some (.inl x2), some (.inl x3), some (.inl x4), some (.inl x5), some (.inl x6), none], [], (am_sh, am_mm U))) 3 (fun _ => rfl) (fun hc => ?_) (fun hc => ?_)
      · have h211 := h21.1 hc
        refine ev_seg (σ1 := ((d + 1), 146, 213, [some (.inr (.inr 86)), some (.inl x1), some (.inl x4), some (.inl x3), some (.inl x4), some (.inl x5), some (.inl x6), none], [], (am_sh, am_mm U))) 3 (fun _ => rfl) ?_
        exact h211
      · have h212 := h21.2 hc
        refine ev_seg (σ1 := ((d + 1), 146, 316, [some (.inr (.inr 86)), some (.inl x1), some (.inl x2), some (.inl x3), some (.inl x4), some (.inl x5), some (.inl x6), none], [.inl x5, .inl x3, .inr (.inr 132)], (am_sh, am_mm U))) 4 (fun _ => rfl) ?_
        refine eu_iast 132 (n := 16) rfl (by decide) rfl (fun _ => rfl) h212.1 ?_
        have h212a := h212.2
        refine ev_seg (σ1 := ((d + 1), 146, 324, [some (.inr (.inr 86)), some (.inl x1), some (.inl x2), some (.inl x3), some (.inl x4), some (.inl x5), some (.inl x6), none], [.inl x3, .inl x5, .inr (.inr 132)], (am_sh, am_mm (am_upd U 132 x3.toNat x5)))) 4 (fun _ => rfl) ?_
        refine eu_iast 132 (n := 16) rfl (by decide) rfl (fun _ => rfl) h212a.1 ?_
        have h212aa := h212a.2
        refine ev_seg (σ1 := ((d + 1), 146, 213, [some (.inr (.inr 86)), some (.inl x1), some (.inl (am_and x4 (am_xor (am_shl 1 x5) (-1)))), some (.inl x3), some (.inl (am_and x4 (am_xor (am_shl 1 x5) (-1)))), some (.inl x5), some (.inl x6), none], [], (am_sh, am_mm (am_upd (am_upd U 132 x3.toNat x5) 132 x5.toNat x3)))) 11 (fun _ => rfl) ?_
        exact h212aa
    · have h22 := h2.2 hc
      refine ev_seg (σ1 := ((d + 1), 146, 258, [some (.inr (.inr 86)), some (.inl x1), some (.inl x2), some (.inl x3), some (.inl x4), some (.inl x5), some (.inl x6), none], [.inl x3, .inr (.inr 130), .inl x4], (am_sh, am_mm U))) 4 (fun _ => rfl) ?_
      refine eu_iald 130 (n := 16) rfl (by decide) rfl (fun _ => rfl) h22.1 ?_
      have h22a := h22.2
      refine ev_br (P := (am_and (am_and x4 (U 130 x3.toNat)) (am_shl 1 x6)) = 0) (σ1 := ((d + 1), 146, 297, [some (.inr (.inr 86)), some (.inl x1), some (.inl x2), some (.inl x3), some (.inl x4), some (.inl x5), some (.inl x6), none], [], (am_sh, am_mm U))) (σ2 := ((d + 1), 146, 268, [some (.inr (.inr 86)), some (.inl x1), some (.inl x2), some (.inl x3), some (.inl x4), some (.inl x5), some (.inl x6), none], [], (am_sh, am_mm U))) 6 (fun _ => rfl) (fun hc => ?_) (fun hc => ?_)
      · have h22a1 := h22a.1 hc
        refine ev_seg (σ1 := ((d + 1), 146, 239, [some (.inr (.inr 86)), some (.inl x1), some (.inl x2), some (.inl x3), some (.inl x4), some (.inl x5), some (.inl (w32 (x6 + 1))), none], [], (am_sh, am_mm U))) 2 (fun _ => rfl) ?_
        exact h22a1
      · have h22a2 := h22a.2 hc
        refine ev_seg (σ1 := ((d + 1), 146, 282, [some (.inr (.inr 86)), some (.inl x1), some (.inl x2), some (.inl x3), some (.inl x4), some (.inl x5), some (.inl x6), none], [.inl (am_and x4 (am_xor (am_shl 1 x6) (-1))), .inr (.inr 131), .inl 1], (am_sh, am_mm U))) 10 (fun _ => rfl) ?_
        refine eu_iald 131 (n := 65536) rfl (by decide) rfl (fun _ => rfl) h22a2.1 ?_
        have h22a2a := h22a2.2
        refine ev_seg (σ1 := ((d + 1), 146, 289, [some (.inr (.inr 86)), some (.inl x1), some (.inl x2), some (.inl x3), some (.inl x4), some (.inl x5), some (.inl x6), none], [.inl x2, .inr (.inr 131), .inl (w32 (1 + (U 131 (am_and x4 (am_xor (am_shl 1 x6) (-1))).toNat)))], (am_sh, am_mm U))) 4 (fun _ => rfl) ?_
        refine eu_iald 131 (n := 65536) rfl (by decide) rfl (fun _ => rfl) h22a2a.1 ?_
        have h22a2aa := h22a2a.2
        refine ev_br (P := ¬ (w32 (1 + (U 131 (am_and x4 (am_xor (am_shl 1 x6) (-1))).toNat))) = (U 131 x2.toNat)) (σ1 := ((d + 1), 146, 297, [some (.inr (.inr 86)), some (.inl x1), some (.inl x2), some (.inl x3), some (.inl x4), some (.inl x5), some (.inl x6), none], [], (am_sh, am_mm U))) (σ2 := ((d + 1), 146, 293, [some (.inr (.inr 86)), some (.inl x1), some (.inl x2), some (.inl x3), some (.inl x4), some (.inl x5), some (.inl x6), none], [], (am_sh, am_mm U))) 1 (fun _ => rfl) (fun hc => ?_) (fun hc => ?_)
        · have h22a2aa1 := h22a2aa.1 hc
          refine ev_seg (σ1 := ((d + 1), 146, 239, [some (.inr (.inr 86)), some (.inl x1), some (.inl x2), some (.inl x3), some (.inl x4), some (.inl x5), some (.inl (w32 (x6 + 1))), none], [], (am_sh, am_mm U))) 2 (fun _ => rfl) ?_
          exact h22a2aa1
        · have h22a2aa2 := h22a2aa.2 hc
          refine ev_seg (σ1 := ((d + 1), 146, 239, [some (.inr (.inr 86)), some (.inl x1), some (.inl x2), some (.inl x3), some (.inl x4), some (.inl x6), some (.inl (w32 (x6 + 1))), none], [], (am_sh, am_mm U))) 4 (fun _ => rfl) ?_
          exact h22a2aa2
set_option maxRecDepth 8000 in
theorem st147_82_0 (N : Nat) (X : Nat → Int) (d : Nat) (x1 : Int) (U : Nat → Nat → Int) (R : Option am_V × am_M) (h : ∃ U1 : Nat → Nat → Int, Ev (am_kz N X) (d, 211, 0, [some (.inr (.inr 83)), some (.inl 0), none, none], [], (am_sh, am_mm U)) (none, (am_sh, am_mm U1)) ∧ Ev (am_kz N X) ((d + 1), 147, 28, [some (.inr (.inr 82)), some (.inr (.inl x1)), none, some (.inr (.inl x1)), none, some (.inl 0)], [], (am_sh, am_mm (am_upd (am_upd (am_upd U1 82 2 0) 82 3 0) 82 1 1))) R) : Ev (am_kz N X) ((d + 1), 147, 0, [some (.inr (.inr 82)), some (.inr (.inl x1)), none, none, none, none], [], (am_sh, am_mm U)) R := by
  refine ev_seg (σ1 := ((d + 1), 147, 5, [some (.inr (.inr 82)), some (.inr (.inl x1)), none, none, none, none], [.inl 0, .inr (.inr 83)], (am_sh, am_mm U))) 3 (fun _ => rfl) ?_
  obtain ⟨U1, hc, ha⟩ := h
  refine ev_cal (σc := (d, 211, 0, [some (.inr (.inr 83)), some (.inl 0), none, none], [], (am_sh, am_mm U))) (fun _ => rfl) hc ?_
  show Ev (am_kz N X) ((d + 1), 147, 8, [some (.inr (.inr 82)), some (.inr (.inl x1)), none, none, none, none], [], (am_sh, am_mm U1)) R
  refine ev_seg (σ1 := ((d + 1), 147, 10, [some (.inr (.inr 82)), some (.inr (.inl x1)), none, none, none, none], [.inl 0, .inr (.inr 82)], (am_sh, am_mm U1))) 2 (fun _ => rfl) ?_
  refine eu_puti 82 (n := 4) rfl (by decide) rfl rfl ?_
  refine ev_seg (σ1 := ((d + 1), 147, 15, [some (.inr (.inr 82)), some (.inr (.inl x1)), none, none, none, none], [.inl 0, .inr (.inr 82)], (am_sh, am_mm (am_upd U1 82 2 0)))) 2 (fun _ => rfl) ?_
  refine eu_puti 82 (n := 4) rfl (by decide) rfl rfl ?_
  refine ev_seg (σ1 := ((d + 1), 147, 20, [some (.inr (.inr 82)), some (.inr (.inl x1)), none, none, none, none], [.inl 1, .inr (.inr 82)], (am_sh, am_mm (am_upd (am_upd U1 82 2 0) 82 3 0)))) 2 (fun _ => rfl) ?_
  refine eu_puti 82 (n := 4) rfl (by decide) rfl rfl ?_
  refine ev_seg (σ1 := ((d + 1), 147, 28, [some (.inr (.inr 82)), some (.inr (.inl x1)), none, some (.inr (.inl x1)), none, some (.inl 0)], [], (am_sh, am_mm (am_upd (am_upd (am_upd U1 82 2 0) 82 3 0) 82 1 1)))) 4 (fun _ => rfl) ?_
  exact ha
set_option maxRecDepth 8000 in
theorem st147_82_28 (N : Nat) (X : Nat → Int) (d : Nat) (x1 x3 x5 : Int) (U : Nat → Nat → Int) (R : Option am_V × am_M) (h : (((64 ≤ x5 : Prop)) → R = (none, (am_sh, am_mm U))) ∧ (¬ (64 ≤ x5) → ((((am_lcmp x3 0) ≤ 0 : Prop)) → R = (none, (am_sh, am_mm U))) ∧ (¬ ((am_lcmp x3 0) ≤ 0) → (0 ≤ x5 ∧ x5 < 64) ∧ Ev (am_kz N X) ((d + 1), 147, 28, [some (.inr (.inr 82)), some (.inr (.inl x1)), none, some (.inr (.inl (w64 (Int.tdiv x3 10)))), none, some (.inl (w32 (x5 + 1)))], [], (am_sh, am_mm (am_upd (am_upd U 83 x5.toNat (w32 (Int.tmod x3 10))) 82 1 (w32 (x5 + 1))))) R))) : Ev (am_kz N X) ((d + 1), 147, 28, [some (.inr (.inr 82)), some (.inr (.inl x1)), none, some (.inr (.inl x3)), none, some (.inl x5)], [], (am_sh, am_mm U)) R := by
  refine ev_br (P := 64 ≤ x5) (σ1 := ((d + 1), 147, 74, [some (.inr (.inr 82)), some (.inr (.inl x1)), none, some (.inr (.inl x3)), none, some (.inl x5)], [], (am_sh, am_mm U))) (σ2 := ((d + 1), 147, 35, [some (.inr (.inr 82)), some (.inr (.inl x1)), none, some (.inr (.inl x3)), none, some (.inl x5)], [], (am_sh, am_mm U))) 3 (fun _ => rfl) (fun hc => ?_) (fun hc => ?_)
  · have h1 := h.1 hc
    subst h1
    exact ev_end 1 (fun _ => rfl)
  · have h2 := h.2 hc
    refine ev_br (P := (am_lcmp x3 0) ≤ 0) (σ1 := ((d + 1), 147, 74, [some (.inr (.inr 82)), some (.inr (.inl x1)), none, some (.inr (.inl x3)), none, some (.inl x5)], [], (am_sh, am_mm U))) (σ2 := ((d + 1), 147, 41, [some (.inr (.inr 82)), some (.inr (.inl x1)), none, some (.inr (.inl x3)), none, some (.inl x5)], [], (am_sh, am_mm U))) 4 (fun _ => rfl) (fun hc => ?_) (fun hc => ?_)
    · have h21 := h2.1 hc
      subst h21
      exact ev_end 1 (fun _ => rfl)
    · have h22 := h2.2 hc
      refine ev_seg (σ1 := ((d + 1), 147, 51, [some (.inr (.inr 82)), some (.inr (.inl x1)), none, some (.inr (.inl x3)), none, some (.inl x5)], [.inr (.inl 10), .inr (.inl x3), .inl x5, .inr (.inr 83)], (am_sh, am_mm U))) 5 (fun _ => rfl) ?_
      refine ev_lrem rfl (by decide) ?_
      refine ev_seg (σ1 := ((d + 1), 147, 53, [some (.inr (.inr 82)), some (.inr (.inl x1)), none, some (.inr (.inl x3)), none, some (.inl x5)], [.inl (w32 (Int.tmod x3 10)), .inl x5, .inr (.inr 83)], (am_sh, am_mm U))) 1 (fun _ => rfl) ?_
      refine eu_iast 83 (n := 64) rfl (by decide) rfl (fun _ => rfl) h22.1 ?_
      have h22a := h22.2
      refine ev_seg (σ1 := ((d + 1), 147, 58, [some (.inr (.inr 82)), some (.inr (.inl x1)), none, some (.inr (.inl x3)), none, some (.inl x5)], [.inr (.inl 10), .inr (.inl x3)], (am_sh, am_mm (am_upd U 83 x5.toNat (w32 (Int.tmod x3 10)))))) 2 (fun _ => rfl) ?_
      refine ev_ldiv rfl (by decide) ?_
      refine ev_seg (σ1 := ((d + 1), 147, 65, [some (.inr (.inr 82)), some (.inr (.inl x1)), none, some (.inr (.inl (w64 (Int.tdiv x3 10)))), none, some (.inl x5)], [.inl (w32 (x5 + 1)), .inr (.inr 82)], (am_sh, am_mm (am_upd U 83 x5.toNat (w32 (Int.tmod x3 10)))))) 5 (fun _ => rfl) ?_
      refine eu_puti 82 (n := 4) rfl (by decide) rfl rfl ?_
      refine ev_seg (σ1 := ((d + 1), 147, 28, [some (.inr (.inr 82)), some (.inr (.inl x1)), none, some (.inr (.inl (w64 (Int.tdiv x3 10)))), none, some (.inl (w32 (x5 + 1)))], [], (am_sh, am_mm (am_upd (am_upd U 83 x5.toNat (w32 (Int.tmod x3 10))) 82 1 (w32 (x5 + 1)))))) 2 (fun _ => rfl) ?_
      exact h22a
set_option maxRecDepth 8000 in
theorem st148_82_0 (N : Nat) (X : Nat → Int) (d : Nat) (x1 : Int) (U : Nat → Nat → Int) (R : Option am_V × am_M) (h : (((¬ x1 = (-1) : Prop)) → (((x1 < 0 : Prop)) → R = (some (.inl (-1)), (am_sh, am_mm U))) ∧ (¬ (x1 < 0) → ((((U 82 1) ≤ x1 : Prop)) → R = (some (.inl (-1)), (am_sh, am_mm U))) ∧ (¬ ((U 82 1) ≤ x1) → (0 ≤ x1 ∧ x1 < 64) ∧ R = (some (.inl (U 83 x1.toNat)), (am_sh, am_mm U))))) ∧ (¬ (¬ x1 = (-1)) → R = (some (.inl (U 82 1)), (am_sh, am_mm U)))) : Ev (am_kz N X) (d, 148, 0, [some (.inr (.inr 82)), some (.inl x1)], [], (am_sh, am_mm U)) R := by
  refine ev_br (P := ¬ x1 = (-1)) (σ1 := (d, 148, 10, [some (.inr (.inr 82)), some (.inl x1)], [], (am_sh, am_mm U))) (σ2 := (d, 148, 5, [some (.inr (.inr 82)), some (.inl x1)], [], (am_sh, am_mm U))) 3 (fun _ => rfl) (fun hc => ?_) (fun hc => ?_)
  · have h1 := h.1 hc
    refine ev_br (P := x1 < 0) (σ1 := (d, 148, 31, [some (.inr (.inr 82)), some (.inl x1)], [], (am_sh, am_mm U))) (σ2 := (d, 148, 14, [some (.inr (.inr 82)), some (.inl x1)], [], (am_sh, am_mm U))) 2 (fun _ => rfl) (fun hc => ?_) (fun hc => ?_)
    · have h11 := h1.1 hc
      subst h11
      exact ev_end 2 (fun _ => rfl)
    · have h12 := h1.2 hc
      refine ev_br (P := (U 82 1) ≤ x1) (σ1 := (d, 148, 31, [some (.inr (.inr 82)), some (.inl x1)], [], (am_sh, am_mm U))) (σ2 := (d, 148, 22, [some (.inr (.inr 82)), some (.inl x1)], [], (am_sh, am_mm U))) 4 (fun _ => rfl) (fun hc => ?_) (fun hc => ?_)
      · have h121 := h12.1 hc
        subst h121
        exact ev_end 2 (fun _ => rfl)
      · have h122 := h12.2 hc
        refine ev_seg (σ1 := (d, 148, 27, [some (.inr (.inr 82)), some (.inl x1)], [.inl x1, .inr (.inr 83)], (am_sh, am_mm U))) 3 (fun _ => rfl) ?_
        refine eu_iald 83 (n := 64) rfl (by decide) rfl (fun _ => rfl) h122.1 ?_
        have h122a := h122.2
        subst h122a
        exact ev_end 2 (fun _ => rfl)
  · have h2 := h.2 hc
    subst h2
    exact ev_end 3 (fun _ => rfl)
set_option maxRecDepth 8000 in
theorem st150_0 (N : Nat) (X : Nat → Int) (d : Nat) (x0 x2 : Int) (U : Nat → Nat → Int) (R : Option am_V × am_M) (h : (((x2 < 0 : Prop)) → R = (some (.inl (-1)), (am_sh, am_mm U))) ∧ (¬ (x2 < 0) → ∃ (r1 : Int) (U1 : Nat → Nat → Int), Ev (am_kz N X) (d, 149, 0, [some (.inr (.inl x0)), none, none, none, none], [], (am_sh, am_mm U)) (some (.inl r1), (am_sh, am_mm U1)) ∧ (((x2 < r1 : Prop)) → Ev (am_kz N X) ((d + 1), 150, 19, [some (.inr (.inl x0)), none, some (.inl x2), some (.inr (.inl x0)), none, some (.inl 0)], [], (am_sh, am_mm U1)) R) ∧ (¬ (x2 < r1) → R = (some (.inl (-1)), (am_sh, am_mm U1))))) : Ev (am_kz N X) ((d + 1), 150, 0, [some (.inr (.inl x0)), none, some (.inl x2), none, none, none], [], (am_sh, am_mm U)) R := by
  refine ev_br (P := x2 < 0) (σ1 := ((d + 1), 150, 12, [some (.inr (.inl x0)), none, some (.inl x2), none, none, none], [], (am_sh, am_mm U))) (σ2 := ((d + 1), 150, 4, [some (.inr (.inl x0)), none, some (.inl x2), none, none, none], [], (am_sh, am_mm U))) 2 (fun _ => rfl) (fun hc => ?_) (fun hc => ?_)
  · have h1 := h.1 hc
    subst h1
    exact ev_end 2 (fun _ => rfl)
  · have h2 := h.2 hc
    refine ev_seg (σ1 := ((d + 1), 150, 6, [some (.inr (.inl x0)), none, some (.inl x2), none, none, none], [.inr (.inl x0), .inl x2], (am_sh, am_mm U))) 2 (fun _ => rfl) ?_
    obtain ⟨r1, U1, h2c, h2a⟩ := h2
    refine ev_cal (σc := (d, 149, 0, [some (.inr (.inl x0)), none, none, none, none], [], (am_sh, am_mm U))) (fun _ => rfl) h2c ?_
    show Ev (am_kz N X) ((d + 1), 150, 9, [some (.inr (.inl x0)), none, some (.inl x2), none, none, none], [.inl r1, .inl x2], (am_sh, am_mm U1)) R
    refine ev_br (P := x2 < r1) (σ1 := ((d + 1), 150, 14, [some (.inr (.inl x0)), none, some (.inl x2), none, none, none], [], (am_sh, am_mm U1))) (σ2 := ((d + 1), 150, 12, [some (.inr (.inl x0)), none, some (.inl x2), none, none, none], [], (am_sh, am_mm U1))) 1 (fun _ => rfl) (fun hc => ?_) (fun hc => ?_)
    · have h2a1 := h2a.1 hc
      refine ev_seg (σ1 := ((d + 1), 150, 19, [some (.inr (.inl x0)), none, some (.inl x2), some (.inr (.inl x0)), none, some (.inl 0)], [], (am_sh, am_mm U1))) 4 (fun _ => rfl) ?_
      exact h2a1
    · have h2a2 := h2a.2 hc
      subst h2a2
      exact ev_end 2 (fun _ => rfl)
set_option maxRecDepth 8000 in
theorem st150_19 (N : Nat) (X : Nat → Int) (d : Nat) (x0 x2 x3 x5 : Int) (U : Nat → Nat → Int) (R : Option am_V × am_M) (h : (((x2 ≤ x5 : Prop)) → R = (some (.inl (w32 (Int.tmod x3 10))), (am_sh, am_mm U))) ∧ (¬ (x2 ≤ x5) → Ev (am_kz N X) ((d + 1), 150, 19, [some (.inr (.inl x0)), none, some (.inl x2), some (.inr (.inl (w64 (Int.tdiv x3 10)))), none, some (.inl (w32 (x5 + 1)))], [], (am_sh, am_mm U)) R)) : Ev (am_kz N X) ((d + 1), 150, 19, [some (.inr (.inl x0)), none, some (.inl x2), some (.inr (.inl x3)), none, some (.inl x5)], [], (am_sh, am_mm U)) R := by
  refine ev_br (P := x2 ≤ x5) (σ1 := ((d + 1), 150, 37, [some (.inr (.inl x0)), none, some (.inl x2), some (.inr (.inl x3)), none, some (.inl x5)], [], (am_sh, am_mm U))) (σ2 := ((d + 1), 150, 25, [some (.inr (.inl x0)), none, some (.inl x2), some (.inr (.inl x3)), none, some (.inl x5)], [], (am_sh, am_mm U))) 3 (fun _ => rfl) (fun hc => ?_) (fun hc => ?_)
  · have h1 := h.1 hc
    refine ev_seg (σ1 := ((d + 1), 150, 41, [some (.inr (.inl x0)), none, some (.inl x2), some (.inr (.inl x3)), none, some (.inl x5)], [.inr (.inl 10), .inr (.inl x3)], (am_sh, am_mm U))) 2 (fun _ => rfl) ?_
    refine ev_lrem rfl (by decide) ?_
    subst h1
    exact ev_end 2 (fun _ => rfl)
  · have h2 := h.2 hc
    refine ev_seg (σ1 := ((d + 1), 150, 29, [some (.inr (.inl x0)), none, some (.inl x2), some (.inr (.inl x3)), none, some (.inl x5)], [.inr (.inl 10), .inr (.inl x3)], (am_sh, am_mm U))) 2 (fun _ => rfl) ?_
    refine ev_ldiv rfl (by decide) ?_
    refine ev_seg (σ1 := ((d + 1), 150, 19, [some (.inr (.inl x0)), none, some (.inl x2), some (.inr (.inl (w64 (Int.tdiv x3 10)))), none, some (.inl (w32 (x5 + 1)))], [], (am_sh, am_mm U))) 3 (fun _ => rfl) ?_
    exact h2
set_option maxRecDepth 8000 in
theorem st149_0 (N : Nat) (X : Nat → Int) (d : Nat) (x0 : Int) (U : Nat → Nat → Int) (R : Option am_V × am_M) (h : Ev (am_kz N X) (d, 149, 8, [some (.inr (.inl x0)), none, some (.inl 1), some (.inr (.inl (w64 (Int.tdiv x0 10)))), none], [], (am_sh, am_mm U)) R) : Ev (am_kz N X) (d, 149, 0, [some (.inr (.inl x0)), none, none, none, none], [], (am_sh, am_mm U)) R := by
  refine ev_seg (σ1 := (d, 149, 6, [some (.inr (.inl x0)), none, some (.inl 1), none, none], [.inr (.inl 10), .inr (.inl x0)], (am_sh, am_mm U))) 4 (fun _ => rfl) ?_
  refine ev_ldiv rfl (by decide) ?_
  refine ev_seg (σ1 := (d, 149, 8, [some (.inr (.inl x0)), none, some (.inl 1), some (.inr (.inl (w64 (Int.tdiv x0 10)))), none], [], (am_sh, am_mm U))) 1 (fun _ => rfl) ?_
  exact h
set_option maxRecDepth 8000 in
theorem st149_8 (N : Nat) (X : Nat → Int) (d : Nat) (x0 x2 x3 : Int) (U : Nat → Nat → Int) (R : Option am_V × am_M) (h : ((((am_lcmp x3 0) ≤ 0 : Prop)) → R = (some (.inl x2), (am_sh, am_mm U))) ∧ (¬ ((am_lcmp x3 0) ≤ 0) → Ev (am_kz N X) (d, 149, 8, [some (.inr (.inl x0)), none, some (.inl (w32 (x2 + 1))), some (.inr (.inl (w64 (Int.tdiv x3 10)))), none], [], (am_sh, am_mm U)) R)) : Ev (am_kz N X) (d, 149, 8, [some (.inr (.inl x0)), none, some (.inl x2), some (.inr (.inl x3)), none], [], (am_sh, am_mm U)) R := by
  refine ev_br (P := (am_lcmp x3 0) ≤ 0) (σ1 := (d, 149, 26, [some (.inr (.inl x0)), none, some (.inl x2), some (.inr (.inl x3)), none], [], (am_sh, am_mm U))) (σ2 := (d, 149, 14, [some (.inr (.inl x0)), none, some (.inl x2), some (.inr (.inl x3)), none], [], (am_sh, am_mm U))) 4 (fun _ => rfl) (fun hc => ?_) (fun hc => ?_)
  · have h1 := h.1 hc
    subst h1
    exact ev_end 2 (fun _ => rfl)
  · have h2 := h.2 hc
    refine ev_seg (σ1 := (d, 149, 21, [some (.inr (.inl x0)), none, some (.inl (w32 (x2 + 1))), some (.inr (.inl x3)), none], [.inr (.inl 10), .inr (.inl x3)], (am_sh, am_mm U))) 3 (fun _ => rfl) ?_
    refine ev_ldiv rfl (by decide) ?_
    refine ev_seg (σ1 := (d, 149, 8, [some (.inr (.inl x0)), none, some (.inl (w32 (x2 + 1))), some (.inr (.inl (w64 (Int.tdiv x3 10)))), none], [], (am_sh, am_mm U))) 2 (fun _ => rfl) ?_
    exact h2
set_option maxRecDepth 8000 in
theorem st151_1_0 (N : Nat) (X : Nat → Int) (d : Nat) (x1 x2 : Int) (U : Nat → Nat → Int) (R : Option am_V × am_M) (h : (0 ≤ x1 ∧ x1 < 16) ∧ (0 ≤ x2 ∧ x2 < 16) ∧ ((((if 0 ≤ (U 17 x1.toNat) then (U 17 x1.toNat) else w32 (-(U 17 x1.toNat))) = (if 0 ≤ (U 17 x2.toNat) then (U 17 x2.toNat) else w32 (-(U 17 x2.toNat))) : Prop)) → R = (some (.inl 0), (am_sh, am_mm U))) ∧ (¬ ((if 0 ≤ (U 17 x1.toNat) then (U 17 x1.toNat) else w32 (-(U 17 x1.toNat))) = (if 0 ≤ (U 17 x2.toNat) then (U 17 x2.toNat) else w32 (-(U 17 x2.toNat)))) → ∃ (r1 : Int) (U1 : Nat → Nat → Int), Ev (am_kz N X) (d, 119, 0, [some (.inr (.inr 16)), some (.inl x1)], [], (am_sh, am_mm U)) (some (.inr (.inl r1)), (am_sh, am_mm U1)) ∧ (((¬ (am_lcmp r1 (if 0 ≤ (U 17 x2.toNat) then (U 17 x2.toNat) else w32 (-(U 17 x2.toNat)))) = 0 : Prop)) → R = (some (.inl 0), (am_sh, am_mm U1))) ∧ (¬ (¬ (am_lcmp r1 (if 0 ≤ (U 17 x2.toNat) then (U 17 x2.toNat) else w32 (-(U 17 x2.toNat)))) = 0) → ∃ (r2 : Int) (U2 : Nat → Nat → Int), Ev (am_kz N X) (d, 119, 0, [some (.inr (.inr 16)), some (.inl x2)], [], (am_sh, am_mm U1)) (some (.inr (.inl r2)), (am_sh, am_mm U2)) ∧ (((¬ (am_lcmp r2 (if 0 ≤ (U 17 x1.toNat) then (U 17 x1.toNat) else w32 (-(U 17 x1.toNat)))) = 0 : Prop)) → R = (some (.inl 0), (am_sh, am_mm U2))) ∧ (¬ (¬ (am_lcmp r2 (if 0 ≤ (U 17 x1.toNat) then (U 17 x1.toNat) else w32 (-(U 17 x1.toNat)))) = 0) → R = (some (.inl 1), (am_sh, am_mm U2)))))) : Ev (am_kz N X) ((d + 1), 151, 0, [some (.inr (.inr 1)), some (.inl x1), some (.inl x2), none, none], [], (am_sh, am_mm U)) R := by
  refine ev_seg (σ1 := ((d + 1), 151, 8, [some (.inr (.inr 1)), some (.inl x1), some (.inl x2), none, none], [.inl x1, .inr (.inr 17)], (am_sh, am_mm U))) 4 (fun _ => rfl) ?_
  refine eu_iald 17 (n := 16) rfl (by decide) rfl (fun _ => rfl) h.1 ?_
  have ha := h.2
  refine ev_seg (σ1 := ((d + 1), 151, 21, [some (.inr (.inr 1)), some (.inl x1), some (.inl x2), some (.inl (if 0 ≤ (U 17 x1.toNat) then (U 17 x1.toNat) else w32 (-(U 17 x1.toNat)))), none], [.inl x2, .inr (.inr 17)], (am_sh, am_mm U))) 6 (fun _ => rfl) ?_
  refine eu_iald 17 (n := 16) rfl (by decide) rfl (fun _ => rfl) ha.1 ?_
  have haa := ha.2
  refine ev_br (P := (if 0 ≤ (U 17 x1.toNat) then (U 17 x1.toNat) else w32 (-(U 17 x1.toNat))) = (if 0 ≤ (U 17 x2.toNat) then (U 17 x2.toNat) else w32 (-(U 17 x2.toNat)))) (σ1 := ((d + 1), 151, 66, [some (.inr (.inr 1)), some (.inl x1), some (.inl x2), some (.inl (if 0 ≤ (U 17 x1.toNat) then (U 17 x1.toNat) else w32 (-(U 17 x1.toNat)))), some (.inl (if 0 ≤ (U 17 x2.toNat) then (U 17 x2.toNat) else w32 (-(U 17 x2.toNat))))], [], (am_sh, am_mm U))) (σ2 := ((d + 1), 151, 33, [some (.inr (.inr 1)), some (.inl x1), some (.inl x2), some (.inl (if 0 ≤ (U 17 x1.toNat) then (U 17 x1.toNat) else w32 (-(U 17 x1.toNat)))), some (.inl (if 0 ≤ (U 17 x2.toNat) then (U 17 x2.toNat) else w32 (-(U 17 x2.toNat))))], [], (am_sh, am_mm U))) 5 (fun _ => rfl) (fun hc => ?_) (fun hc => ?_)
  · have haa1 := haa.1 hc
    subst haa1
    exact ev_end 2 (fun _ => rfl)
  · have haa2 := haa.2 hc
    refine ev_seg (σ1 := ((d + 1), 151, 38, [some (.inr (.inr 1)), some (.inl x1), some (.inl x2), some (.inl (if 0 ≤ (U 17 x1.toNat) then (U 17 x1.toNat) else w32 (-(U 17 x1.toNat)))), some (.inl (if 0 ≤ (U 17 x2.toNat) then (U 17 x2.toNat) else w32 (-(U 17 x2.toNat))))], [.inl x1, .inr (.inr 16)], (am_sh, am_mm U))) 3 (fun _ => rfl) ?_
    obtain ⟨r1, U1, haa2c, haa2a⟩ := haa2
    refine ev_cal (σc := (d, 119, 0, [some (.inr (.inr 16)), some (.inl x1)], [], (am_sh, am_mm U))) (fun _ => rfl) haa2c ?_
    show Ev (am_kz N X) ((d + 1), 151, 41, [some (.inr (.inr 1)), some (.inl x1), some (.inl x2), some (.inl (if 0 ≤ (U 17 x1.toNat) then (U 17 x1.toNat) else w32 (-(U 17 x1.toNat)))), some (.inl (if 0 ≤ (U 17 x2.toNat) then (U 17 x2.toNat) else w32 (-(U 17 x2.toNat))))], [.inr (.inl r1)], (am_sh, am_mm U1)) R
    refine ev_br (P := ¬ (am_lcmp r1 (if 0 ≤ (U 17 x2.toNat) then (U 17 x2.toNat) else w32 (-(U 17 x2.toNat)))) = 0) (σ1 := ((d + 1), 151, 66, [some (.inr (.inr 1)), some (.inl x1), some (.inl x2), some (.inl (if 0 ≤ (U 17 x1.toNat) then (U 17 x1.toNat) else w32 (-(U 17 x1.toNat)))), some (.inl (if 0 ≤ (U 17 x2.toNat) then (U 17 x2.toNat) else w32 (-(U 17 x2.toNat))))], [], (am_sh, am_mm U1))) (σ2 := ((d + 1), 151, 48, [some (.inr (.inr 1)), some (.inl x1), some (.inl x2), some (.inl (if 0 ≤ (U 17 x1.toNat) then (U 17 x1.toNat) else w32 (-(U 17 x1.toNat)))), some (.inl (if 0 ≤ (U 17 x2.toNat) then (U 17 x2.toNat) else w32 (-(U 17 x2.toNat))))], [], (am_sh, am_mm U1))) 4 (fun _ => rfl) (fun hc => ?_) (fun hc => ?_)
    · have haa2a1 := haa2a.1 hc
      subst haa2a1
      exact ev_end 2 (fun _ => rfl)
    · have haa2a2 := haa2a.2 hc
      refine ev_seg (σ1 := ((d + 1), 151, 53, [some (.inr (.inr 1)), some (.inl x1), some (.inl x2), some (.inl (if 0 ≤ (U 17 x1.toNat) then (U 17 x1.toNat) else w32 (-(U 17 x1.toNat)))), some (.inl (if 0 ≤ (U 17 x2.toNat) then (U 17 x2.toNat) else w32 (-(U 17 x2.toNat))))], [.inl x2, .inr (.inr 16)], (am_sh, am_mm U1))) 3 (fun _ => rfl) ?_
      obtain ⟨r2, U2, haa2a2c, haa2a2a⟩ := haa2a2
      refine ev_cal (σc := (d, 119, 0, [some (.inr (.inr 16)), some (.inl x2)], [], (am_sh, am_mm U1))) (fun _ => rfl) haa2a2c ?_
      show Ev (am_kz N X) ((d + 1), 151, 56, [some (.inr (.inr 1)), some (.inl x1), some (.inl x2), some (.inl (if 0 ≤ (U 17 x1.toNat) then (U 17 x1.toNat) else w32 (-(U 17 x1.toNat)))), some (.inl (if 0 ≤ (U 17 x2.toNat) then (U 17 x2.toNat) else w32 (-(U 17 x2.toNat))))], [.inr (.inl r2)], (am_sh, am_mm U2)) R
      refine ev_br (P := ¬ (am_lcmp r2 (if 0 ≤ (U 17 x1.toNat) then (U 17 x1.toNat) else w32 (-(U 17 x1.toNat)))) = 0) (σ1 := ((d + 1), 151, 66, [some (.inr (.inr 1)), some (.inl x1), some (.inl x2), some (.inl (if 0 ≤ (U 17 x1.toNat) then (U 17 x1.toNat) else w32 (-(U 17 x1.toNat)))), some (.inl (if 0 ≤ (U 17 x2.toNat) then (U 17 x2.toNat) else w32 (-(U 17 x2.toNat))))], [], (am_sh, am_mm U2))) (σ2 := ((d + 1), 151, 62, [some (.inr (.inr 1)), some (.inl x1), some (.inl x2), some (.inl (if 0 ≤ (U 17 x1.toNat) then (U 17 x1.toNat) else w32 (-(U 17 x1.toNat)))), some (.inl (if 0 ≤ (U 17 x2.toNat) then (U 17 x2.toNat) else w32 (-(U 17 x2.toNat))))], [], (am_sh, am_mm U2))) 4 (fun _ => rfl) (fun hc => ?_) (fun hc => ?_)
      · have haa2a2a1 := haa2a2a.1 hc
        subst haa2a2a1
        exact ev_end 2 (fun _ => rfl)
      · have haa2a2a2 := haa2a2a.2 hc
        subst haa2a2a2
        exact ev_end 3 (fun _ => rfl)
set_option maxRecDepth 8000 in
theorem st152_86_0 (N : Nat) (X : Nat → Int) (d : Nat) (x1 x2 : Int) (U : Nat → Nat → Int) (R : Option am_V × am_M) (h : Ev (am_kz N X) ((d + 1), 152, 5, [some (.inr (.inr 86)), some (.inl x1), some (.inl x2), some (.inl 0), some (.inl 0), none], [], (am_sh, am_mm U)) R) : Ev (am_kz N X) ((d + 1), 152, 0, [some (.inr (.inr 86)), some (.inl x1), some (.inl x2), none, none, none], [], (am_sh, am_mm U)) R := by
  refine ev_seg (σ1 := ((d + 1), 152, 5, [some (.inr (.inr 86)), some (.inl x1), some (.inl x2), some (.inl 0), some (.inl 0), none], [], (am_sh, am_mm U))) 4 (fun _ => rfl) ?_
  exact h
set_option maxRecDepth 8000 in
theorem st152_86_5 (N : Nat) (X : Nat → Int) (d : Nat) (x1 x2 x3 x4 : Int) (U : Nat → Nat → Int) (R : Option am_V × am_M) (h : ((((U 122 0) ≤ x4 : Prop)) → R = (some (.inl (-1)), (am_sh, am_mm U))) ∧ (¬ ((U 122 0) ≤ x4) → Ev (am_kz N X) ((d + 1), 152, 22, [some (.inr (.inr 86)), some (.inl x1), some (.inl x2), some (.inl x3), some (.inl x4), some (.inl (w32 (x4 + 1)))], [], (am_sh, am_mm U)) R)) : Ev (am_kz N X) ((d + 1), 152, 5, [some (.inr (.inr 86)), some (.inl x1), some (.inl x2), some (.inl x3), some (.inl x4), none], [], (am_sh, am_mm U)) R := by
  refine ev_seg (σ1 := ((d + 1), 152, 12, [some (.inr (.inr 86)), some (.inl x1), some (.inl x2), some (.inl x3), some (.inl x4), none], [.inl 0, .inr (.inr 122), .inl x4], (am_sh, am_mm U))) 4 (fun _ => rfl) ?_
  refine eu_iald 122 (n := 22) rfl (by decide) rfl (fun _ => rfl) (by decide) ?_
  show Ev (am_kz N X) ((d + 1), 152, 13, [some (.inr (.inr 86)), some (.inl x1), some (.inl x2), some (.inl x3), some (.inl x4), none], [.inl (U 122 0), .inl x4], (am_sh, am_mm U)) R
  refine ev_br (P := (U 122 0) ≤ x4) (σ1 := ((d + 1), 152, 94, [some (.inr (.inr 86)), some (.inl x1), some (.inl x2), some (.inl x3), some (.inl x4), none], [], (am_sh, am_mm U))) (σ2 := ((d + 1), 152, 16, [some (.inr (.inr 86)), some (.inl x1), some (.inl x2), some (.inl x3), some (.inl x4), none], [], (am_sh, am_mm U))) 1 (fun _ => rfl) (fun hc => ?_) (fun hc => ?_)
  · have h1 := h.1 hc
    subst h1
    exact ev_end 2 (fun _ => rfl)
  · have h2 := h.2 hc
    refine ev_seg (σ1 := ((d + 1), 152, 22, [some (.inr (.inr 86)), some (.inl x1), some (.inl x2), some (.inl x3), some (.inl x4), some (.inl (w32 (x4 + 1)))], [], (am_sh, am_mm U))) 4 (fun _ => rfl) ?_
    exact h2
set_option maxRecDepth 8000 in
theorem st152_86_22 (N : Nat) (X : Nat → Int) (d : Nat) (x1 x2 x3 x4 x5 : Int) (U : Nat → Nat → Int) (R : Option am_V × am_M) (h : ((((U 122 0) ≤ x5 : Prop)) → Ev (am_kz N X) ((d + 1), 152, 5, [some (.inr (.inr 86)), some (.inl x1), some (.inl x2), some (.inl x3), some (.inl (w32 (x4 + 1))), some (.inl x5)], [], (am_sh, am_mm U)) R) ∧ (¬ ((U 122 0) ≤ x5) → (((x2 = 0 : Prop)) → ∃ (r1 : Int) (U1 : Nat → Nat → Int), Ev (am_kz N X) (d, 120, 0, [some (.inr (.inr 86)), some (.inl x4), some (.inl x5)], [], (am_sh, am_mm U)) (some (.inl r1), (am_sh, am_mm U1)) ∧ (((¬ r1 = 0 : Prop)) → (((¬ x3 = x1 : Prop)) → Ev (am_kz N X) ((d + 1), 152, 22, [some (.inr (.inr 86)), some (.inl x1), some (.inl x2), some (.inl (w32 (x3 + 1))), some (.inl x4), some (.inl (w32 (x5 + 1)))], [], (am_sh, am_mm U1)) R) ∧ (¬ (¬ x3 = x1) → R = (some (.inl (w32 ((w32 (100 * x4)) + x5))), (am_sh, am_mm U1)))) ∧ (¬ (¬ r1 = 0) → Ev (am_kz N X) ((d + 1), 152, 22, [some (.inr (.inr 86)), some (.inl x1), some (.inl x2), some (.inl x3), some (.inl x4), some (.inl (w32 (x5 + 1)))], [], (am_sh, am_mm U1)) R)) ∧ (¬ (x2 = 0) → ∃ (r2 : Int) (U2 : Nat → Nat → Int), Ev (am_kz N X) (d, 238, 0, [some (.inr (.inr 86)), some (.inl x4), some (.inl x5)], [], (am_sh, am_mm U)) (some (.inl r2), (am_sh, am_mm U2)) ∧ (((¬ r2 = 0 : Prop)) → (((¬ x3 = x1 : Prop)) → Ev (am_kz N X) ((d + 1), 152, 22, [some (.inr (.inr 86)), some (.inl x1), some (.inl x2), some (.inl (w32 (x3 + 1))), some (.inl x4), some (.inl (w32 (x5 + 1)))], [], (am_sh, am_mm U2)) R) ∧ (¬ (¬ x3 = x1) → R = (some (.inl (w32 ((w32 (100 * x4)) + x5))), (am_sh, am_mm U2)))) ∧ (¬ (¬ r2 = 0) → Ev (am_kz N X) ((d + 1), 152, 22, [some (.inr (.inr 86)), some (.inl x1), some (.inl x2), some (.inl x3), some (.inl x4), some (.inl (w32 (x5 + 1)))], [], (am_sh, am_mm U2)) R)))) : Ev (am_kz N X) ((d + 1), 152, 22, [some (.inr (.inr 86)), some (.inl x1), some (.inl x2), some (.inl x3), some (.inl x4), some (.inl x5)], [], (am_sh, am_mm U)) R := by
  refine ev_seg (σ1 := ((d + 1), 152, 29, [some (.inr (.inr 86)), some (.inl x1), some (.inl x2), some (.inl x3), some (.inl x4), some (.inl x5)], [.inl 0, .inr (.inr 122), .inl x5], (am_sh, am_mm U))) 4 (fun _ => rfl) ?_
  refine eu_iald 122 (n := 22) rfl (by decide) rfl (fun _ => rfl) (by decide) ?_
  show Ev (am_kz N X) ((d + 1), 152, 30, [some (.inr (.inr 86)), some (.inl x1), some (.inl x2), some (.inl x3), some (.inl x4), some (.inl x5)], [.inl (U 122 0), .inl x5], (am_sh, am_mm U)) R
  refine ev_br (P := (U 122 0) ≤ x5) (σ1 := ((d + 1), 152, 88, [some (.inr (.inr 86)), some (.inl x1), some (.inl x2), some (.inl x3), some (.inl x4), some (.inl x5)], [], (am_sh, am_mm U))) (σ2 := ((d + 1), 152, 33, [some (.inr (.inr 86)), some (.inl x1), some (.inl x2), some (.inl x3), some (.inl x4), some (.inl x5)], [], (am_sh, am_mm U))) 1 (fun _ => rfl) (fun hc => ?_) (fun hc => ?_)
  · have h1 := h.1 hc
    refine ev_seg (σ1 := ((d + 1), 152, 5, [some (.inr (.inr 86)), some (.inl x1), some (.inl x2), some (.inl x3), some (.inl (w32 (x4 + 1))), some (.inl x5)], [], (am_sh, am_mm U))) 2 (fun _ => rfl) ?_
    exact h1
  · have h2 := h.2 hc
    refine ev_br (P := x2 = 0) (σ1 := ((d + 1), 152, 51, [some (.inr (.inr 86)), some (.inl x1), some (.inl x2), some (.inl x3), some (.inl x4), some (.inl x5)], [], (am_sh, am_mm U))) (σ2 := ((d + 1), 152, 37, [some (.inr (.inr 86)), some (.inl x1), some (.inl x2), some (.inl x3), some (.inl x4), some (.inl x5)], [], (am_sh, am_mm U))) 2 (fun _ => rfl) (fun hc => ?_) (fun hc => ?_)
    · have h21 := h2.1 hc
      refine ev_seg (σ1 := ((d + 1), 152, 56, [some (.inr (.inr 86)), some (.inl x1), some (.inl x2), some (.inl x3), some (.inl x4), some (.inl x5)], [.inl x5, .inl x4, .inr (.inr 86)], (am_sh, am_mm U))) 3 (fun _ => rfl) ?_
      obtain ⟨r1, U1, h21c, h21a⟩ := h21
      refine ev_cal (σc := (d, 120, 0, [some (.inr (.inr 86)), some (.inl x4), some (.inl x5)], [], (am_sh, am_mm U))) (fun _ => rfl) h21c ?_
      show Ev (am_kz N X) ((d + 1), 152, 59, [some (.inr (.inr 86)), some (.inl x1), some (.inl x2), some (.inl x3), some (.inl x4), some (.inl x5)], [.inl r1], (am_sh, am_mm U1)) R
      refine ev_br (P := ¬ r1 = 0) (σ1 := ((d + 1), 152, 65, [some (.inr (.inr 86)), some (.inl x1), some (.inl x2), some (.inl x3), some (.inl x4), some (.inl x5)], [], (am_sh, am_mm U1))) (σ2 := ((d + 1), 152, 62, [some (.inr (.inr 86)), some (.inl x1), some (.inl x2), some (.inl x3), some (.inl x4), some (.inl x5)], [], (am_sh, am_mm U1))) 1 (fun _ => rfl) (fun hc => ?_) (fun hc => ?_)
      · have h21a1 := h21a.1 hc
        refine ev_br (P := ¬ x3 = x1) (σ1 := ((d + 1), 152, 79, [some (.inr (.inr 86)), some (.inl x1), some (.inl x2), some (.inl x3), some (.inl x4), some (.inl x5)], [], (am_sh, am_mm U1))) (σ2 := ((d + 1), 152, 70, [some (.inr (.inr 86)), some (.inl x1), some (.inl x2), some (.inl x3), some (.inl x4), some (.inl x5)], [], (am_sh, am_mm U1))) 3 (fun _ => rfl) (fun hc => ?_) (fun hc => ?_)
        · have h21a11 := h21a1.1 hc
          refine ev_seg (σ1 := ((d + 1), 152, 22, [some (.inr (.inr 86)), some (.inl x1), some (.inl x2), some (.inl (w32 (x3 + 1))), some (.inl x4), some (.inl (w32 (x5 + 1)))], [], (am_sh, am_mm U1))) 3 (fun _ => rfl) ?_
          exact h21a11
        · have h21a12 := h21a1.2 hc
          subst h21a12
          exact ev_end 6 (fun _ => rfl)
      · have h21a2 := h21a.2 hc
        refine ev_seg (σ1 := ((d + 1), 152, 22, [some (.inr (.inr 86)), some (.inl x1), some (.inl x2), some (.inl x3), some (.inl x4), some (.inl (w32 (x5 + 1)))], [], (am_sh, am_mm U1))) 3 (fun _ => rfl) ?_
        exact h21a2
    · have h22 := h2.2 hc
      refine ev_seg (σ1 := ((d + 1), 152, 42, [some (.inr (.inr 86)), some (.inl x1), some (.inl x2), some (.inl x3), some (.inl x4), some (.inl x5)], [.inl x5, .inl x4, .inr (.inr 86)], (am_sh, am_mm U))) 3 (fun _ => rfl) ?_
      obtain ⟨r2, U2, h22c, h22a⟩ := h22
      refine ev_cal (σc := (d, 238, 0, [some (.inr (.inr 86)), some (.inl x4), some (.inl x5)], [], (am_sh, am_mm U))) (fun _ => rfl) h22c ?_
      show Ev (am_kz N X) ((d + 1), 152, 45, [some (.inr (.inr 86)), some (.inl x1), some (.inl x2), some (.inl x3), some (.inl x4), some (.inl x5)], [.inl r2], (am_sh, am_mm U2)) R
      refine ev_br (P := ¬ r2 = 0) (σ1 := ((d + 1), 152, 65, [some (.inr (.inr 86)), some (.inl x1), some (.inl x2), some (.inl x3), some (.inl x4), some (.inl x5)], [], (am_sh, am_mm U2))) (σ2 := ((d + 1), 152, 48, [some (.inr (.inr 86)), some (.inl x1), some (.inl x2), some (.inl x3), some (.inl x4), some (.inl x5)], [], (am_sh, am_mm U2))) 1 (fun _ => rfl) (fun hc => ?_) (fun hc => ?_)
      · have h22a1 := h22a.1 hc
        refine ev_br (P := ¬ x3 = x1) (σ1 := ((d + 1), 152, 79, [some (.inr (.inr 86)), some (.inl x1), some (.inl x2), some (.inl x3), some (.inl x4), some (.inl x5)], [], (am_sh, am_mm U2))) (σ2 := ((d + 1), 152, 70, [some (.inr (.inr 86)), some (.inl x1), some (.inl x2), some (.inl x3), some (.inl x4), some (.inl x5)], [], (am_sh, am_mm U2))) 3 (fun _ => rfl) (fun hc => ?_) (fun hc => ?_)
        · have h22a11 := h22a1.1 hc
          refine ev_seg (σ1 := ((d + 1), 152, 22, [some (.inr (.inr 86)), some (.inl x1), some (.inl x2), some (.inl (w32 (x3 + 1))), some (.inl x4), some (.inl (w32 (x5 + 1)))], [], (am_sh, am_mm U2))) 3 (fun _ => rfl) ?_
          exact h22a11
        · have h22a12 := h22a1.2 hc
          subst h22a12
          exact ev_end 6 (fun _ => rfl)
      · have h22a2 := h22a.2 hc
        refine ev_seg (σ1 := ((d + 1), 152, 22, [some (.inr (.inr 86)), some (.inl x1), some (.inl x2), some (.inl x3), some (.inl x4), some (.inl (w32 (x5 + 1)))], [], (am_sh, am_mm U2))) 3 (fun _ => rfl) ?_
        exact h22a2
set_option maxRecDepth 8000 in
theorem st153_0 (N : Nat) (X : Nat → Int) (d : Nat) (x0 x1 : Int) (U : Nat → Nat → Int) (R : Option am_V × am_M) (h : (((0 ≤ x0 : Prop)) → (((0 ≤ x1 : Prop)) → Ev (am_kz N X) (d, 153, 25, [some (.inl x0), some (.inl x1), some (.inl x0), some (.inl x1), some (.inl 0), none], [], (am_sh, am_mm U)) R) ∧ (¬ (0 ≤ x1) → Ev (am_kz N X) (d, 153, 25, [some (.inl x0), some (.inl x1), some (.inl x0), some (.inl (w32 (-x1))), some (.inl 0), none], [], (am_sh, am_mm U)) R)) ∧ (¬ (0 ≤ x0) → (((0 ≤ x1 : Prop)) → Ev (am_kz N X) (d, 153, 25, [some (.inl x0), some (.inl x1), some (.inl (w32 (-x0))), some (.inl x1), some (.inl 0), none], [], (am_sh, am_mm U)) R) ∧ (¬ (0 ≤ x1) → Ev (am_kz N X) (d, 153, 25, [some (.inl x0), some (.inl x1), some (.inl (w32 (-x0))), some (.inl (w32 (-x1))), some (.inl 0), none], [], (am_sh, am_mm U)) R))) : Ev (am_kz N X) (d, 153, 0, [some (.inl x0), some (.inl x1), none, none, none, none], [], (am_sh, am_mm U)) R := by
  refine ev_br (P := 0 ≤ x0) (σ1 := (d, 153, 9, [some (.inl x0), some (.inl x1), none, none, none, none], [], (am_sh, am_mm U))) (σ2 := (d, 153, 4, [some (.inl x0), some (.inl x1), none, none, none, none], [], (am_sh, am_mm U))) 2 (fun _ => rfl) (fun hc => ?_) (fun hc => ?_)
  · have h1 := h.1 hc
    refine ev_br (P := 0 ≤ x1) (σ1 := (d, 153, 20, [some (.inl x0), some (.inl x1), some (.inl x0), none, none, none], [], (am_sh, am_mm U))) (σ2 := (d, 153, 15, [some (.inl x0), some (.inl x1), some (.inl x0), none, none, none], [], (am_sh, am_mm U))) 4 (fun _ => rfl) (fun hc => ?_) (fun hc => ?_)
    · have h11 := h1.1 hc
      refine ev_seg (σ1 := (d, 153, 25, [some (.inl x0), some (.inl x1), some (.inl x0), some (.inl x1), some (.inl 0), none], [], (am_sh, am_mm U))) 4 (fun _ => rfl) ?_
      exact h11
    · have h12 := h1.2 hc
      refine ev_seg (σ1 := (d, 153, 25, [some (.inl x0), some (.inl x1), some (.inl x0), some (.inl (w32 (-x1))), some (.inl 0), none], [], (am_sh, am_mm U))) 6 (fun _ => rfl) ?_
      exact h12
  · have h2 := h.2 hc
    refine ev_br (P := 0 ≤ x1) (σ1 := (d, 153, 20, [some (.inl x0), some (.inl x1), some (.inl (w32 (-x0))), none, none, none], [], (am_sh, am_mm U))) (σ2 := (d, 153, 15, [some (.inl x0), some (.inl x1), some (.inl (w32 (-x0))), none, none, none], [], (am_sh, am_mm U))) 6 (fun _ => rfl) (fun hc => ?_) (fun hc => ?_)
    · have h21 := h2.1 hc
      refine ev_seg (σ1 := (d, 153, 25, [some (.inl x0), some (.inl x1), some (.inl (w32 (-x0))), some (.inl x1), some (.inl 0), none], [], (am_sh, am_mm U))) 4 (fun _ => rfl) ?_
      exact h21
    · have h22 := h2.2 hc
      refine ev_seg (σ1 := (d, 153, 25, [some (.inl x0), some (.inl x1), some (.inl (w32 (-x0))), some (.inl (w32 (-x1))), some (.inl 0), none], [], (am_sh, am_mm U))) 6 (fun _ => rfl) ?_
      exact h22
set_option maxRecDepth 8000 in
theorem st153_25 (N : Nat) (X : Nat → Int) (d : Nat) (x0 x1 x2 x3 x4 : Int) (U : Nat → Nat → Int) (R : Option am_V × am_M) (h : (((64 ≤ x4 : Prop)) → R = (some (.inl x2), (am_sh, am_mm U))) ∧ (¬ (64 ≤ x4) → (((x3 = 0 : Prop)) → R = (some (.inl x2), (am_sh, am_mm U))) ∧ (¬ (x3 = 0) → x3 ≠ 0 ∧ Ev (am_kz N X) (d, 153, 25, [some (.inl x0), some (.inl x1), some (.inl x3), some (.inl (Int.tmod x2 x3)), some (.inl (w32 (x4 + 1))), some (.inl (Int.tmod x2 x3))], [], (am_sh, am_mm U)) R))) : Ev (am_kz N X) (d, 153, 25, [some (.inl x0), some (.inl x1), some (.inl x2), some (.inl x3), some (.inl x4), none], [], (am_sh, am_mm U)) R := by
  refine ev_br (P := 64 ≤ x4) (σ1 := (d, 153, 52, [some (.inl x0), some (.inl x1), some (.inl x2), some (.inl x3), some (.inl x4), none], [], (am_sh, am_mm U))) (σ2 := (d, 153, 32, [some (.inl x0), some (.inl x1), some (.inl x2), some (.inl x3), some (.inl x4), none], [], (am_sh, am_mm U))) 3 (fun _ => rfl) (fun hc => ?_) (fun hc => ?_)
  · have h1 := h.1 hc
    subst h1
    exact ev_end 2 (fun _ => rfl)
  · have h2 := h.2 hc
    refine ev_br (P := x3 = 0) (σ1 := (d, 153, 52, [some (.inl x0), some (.inl x1), some (.inl x2), some (.inl x3), some (.inl x4), none], [], (am_sh, am_mm U))) (σ2 := (d, 153, 36, [some (.inl x0), some (.inl x1), some (.inl x2), some (.inl x3), some (.inl x4), none], [], (am_sh, am_mm U))) 2 (fun _ => rfl) (fun hc => ?_) (fun hc => ?_)
    · have h21 := h2.1 hc
      subst h21
      exact ev_end 2 (fun _ => rfl)
    · have h22 := h2.2 hc
      refine ev_seg (σ1 := (d, 153, 38, [some (.inl x0), some (.inl x1), some (.inl x2), some (.inl x3), some (.inl x4), none], [.inl x3, .inl x2], (am_sh, am_mm U))) 2 (fun _ => rfl) ?_
      refine ev_irem rfl h22.1 ?_
      have h22a := h22.2
      refine ev_seg (σ1 := (d, 153, 25, [some (.inl x0), some (.inl x1), some (.inl x3), some (.inl (Int.tmod x2 x3)), some (.inl (w32 (x4 + 1))), some (.inl (Int.tmod x2 x3))], [], (am_sh, am_mm U))) 7 (fun _ => rfl) ?_
      exact h22a
set_option maxRecDepth 8000 in
theorem st154_0 (N : Nat) (X : Nat → Int) (d : Nat) (x0 x2 : Int) (U : Nat → Nat → Int) (R : Option am_V × am_M) (h : ∃ (r1 : Int) (U1 : Nat → Nat → Int), Ev (am_kz N X) (d, 208, 0, [some (.inr (.inl x0)), none], [], (am_sh, am_mm U)) (some (.inr (.inl r1)), (am_sh, am_mm U1)) ∧ ∃ (r2 : Int) (U2 : Nat → Nat → Int), Ev (am_kz N X) (d, 208, 0, [some (.inr (.inl x2)), none], [], (am_sh, am_mm U1)) (some (.inr (.inl r2)), (am_sh, am_mm U2)) ∧ Ev (am_kz N X) ((d + 1), 154, 12, [some (.inr (.inl x0)), none, some (.inr (.inl x2)), none, some (.inr (.inl r1)), none, some (.inr (.inl r2)), none, none, none], [], (am_sh, am_mm U2)) R) : Ev (am_kz N X) ((d + 1), 154, 0, [some (.inr (.inl x0)), none, some (.inr (.inl x2)), none, none, none, none, none, none, none], [], (am_sh, am_mm U)) R := by
  refine ev_seg (σ1 := ((d + 1), 154, 1, [some (.inr (.inl x0)), none, some (.inr (.inl x2)), none, none, none, none, none, none, none], [.inr (.inl x0)], (am_sh, am_mm U))) 1 (fun _ => rfl) ?_
  obtain ⟨r1, U1, hc, ha⟩ := h
  refine ev_cal (σc := (d, 208, 0, [some (.inr (.inl x0)), none], [], (am_sh, am_mm U))) (fun _ => rfl) hc ?_
  show Ev (am_kz N X) ((d + 1), 154, 4, [some (.inr (.inl x0)), none, some (.inr (.inl x2)), none, none, none, none, none, none, none], [.inr (.inl r1)], (am_sh, am_mm U1)) R
  refine ev_seg (σ1 := ((d + 1), 154, 7, [some (.inr (.inl x0)), none, some (.inr (.inl x2)), none, some (.inr (.inl r1)), none, none, none, none, none], [.inr (.inl x2)], (am_sh, am_mm U1))) 2 (fun _ => rfl) ?_
  obtain ⟨r2, U2, hac, haa⟩ := ha
  refine ev_cal (σc := (d, 208, 0, [some (.inr (.inl x2)), none], [], (am_sh, am_mm U1))) (fun _ => rfl) hac ?_
  show Ev (am_kz N X) ((d + 1), 154, 10, [some (.inr (.inl x0)), none, some (.inr (.inl x2)), none, some (.inr (.inl r1)), none, none, none, none, none], [.inr (.inl r2)], (am_sh, am_mm U2)) R
  refine ev_seg (σ1 := ((d + 1), 154, 12, [some (.inr (.inl x0)), none, some (.inr (.inl x2)), none, some (.inr (.inl r1)), none, some (.inr (.inl r2)), none, none, none], [], (am_sh, am_mm U2))) 1 (fun _ => rfl) ?_
  exact haa
set_option maxRecDepth 8000 in
theorem st154_12 (N : Nat) (X : Nat → Int) (d : Nat) (x0 x2 x4 x6 : Int) (U : Nat → Nat → Int) (R : Option am_V × am_M) (h : ((((am_lcmp x6 0) ≤ 0 : Prop)) → R = (some (.inr (.inl x4)), (am_sh, am_mm U))) ∧ (¬ ((am_lcmp x6 0) ≤ 0) → x6 ≠ 0 ∧ Ev (am_kz N X) ((d + 1), 154, 12, [some (.inr (.inl x0)), none, some (.inr (.inl x2)), none, some (.inr (.inl x6)), none, some (.inr (.inl (Int.tmod x4 x6))), none, some (.inr (.inl (Int.tmod x4 x6))), none], [], (am_sh, am_mm U)) R)) : Ev (am_kz N X) ((d + 1), 154, 12, [some (.inr (.inl x0)), none, some (.inr (.inl x2)), none, some (.inr (.inl x4)), none, some (.inr (.inl x6)), none, none, none], [], (am_sh, am_mm U)) R := by
  refine ev_br (P := (am_lcmp x6 0) ≤ 0) (σ1 := ((d + 1), 154, 37, [some (.inr (.inl x0)), none, some (.inr (.inl x2)), none, some (.inr (.inl x4)), none, some (.inr (.inl x6)), none, none, none], [], (am_sh, am_mm U))) (σ2 := ((d + 1), 154, 19, [some (.inr (.inl x0)), none, some (.inr (.inl x2)), none, some (.inr (.inl x4)), none, some (.inr (.inl x6)), none, none, none], [], (am_sh, am_mm U))) 4 (fun _ => rfl) (fun hc => ?_) (fun hc => ?_)
  · have h1 := h.1 hc
    subst h1
    exact ev_end 2 (fun _ => rfl)
  · have h2 := h.2 hc
    refine ev_seg (σ1 := ((d + 1), 154, 23, [some (.inr (.inl x0)), none, some (.inr (.inl x2)), none, some (.inr (.inl x4)), none, some (.inr (.inl x6)), none, none, none], [.inr (.inl x6), .inr (.inl x4)], (am_sh, am_mm U))) 2 (fun _ => rfl) ?_
    refine ev_lrem rfl h2.1 ?_
    have h2a := h2.2
    refine ev_seg (σ1 := ((d + 1), 154, 12, [some (.inr (.inl x0)), none, some (.inr (.inl x2)), none, some (.inr (.inl x6)), none, some (.inr (.inl (Int.tmod x4 x6))), none, some (.inr (.inl (Int.tmod x4 x6))), none], [], (am_sh, am_mm U))) 6 (fun _ => rfl) ?_
    exact h2a
set_option maxRecDepth 8000 in
theorem st155_1_0 (N : Nat) (X : Nat → Int) (d : Nat) (x1 : Int) (U : Nat → Nat → Int) (R : Option am_V × am_M) (h : Ev (am_kz N X) ((d + 1), 155, 4, [some (.inr (.inr 1)), some (.inl x1), some (.inl 0), some (.inl 0)], [], (am_sh, am_mm U)) R) : Ev (am_kz N X) ((d + 1), 155, 0, [some (.inr (.inr 1)), some (.inl x1), none, none], [], (am_sh, am_mm U)) R := by
  refine ev_seg (σ1 := ((d + 1), 155, 4, [some (.inr (.inr 1)), some (.inl x1), some (.inl 0), some (.inl 0)], [], (am_sh, am_mm U))) 4 (fun _ => rfl) ?_
  exact h
set_option maxRecDepth 8000 in
theorem st155_1_4 (N : Nat) (X : Nat → Int) (d : Nat) (x1 x2 x3 : Int) (U : Nat → Nat → Int) (R : Option am_V × am_M) (h : ((((U 16 0) ≤ x3 : Prop)) → R = (some (.inl x2), (am_sh, am_mm U))) ∧ (¬ ((U 16 0) ≤ x3) → ∃ (r1 : Int) (U1 : Nat → Nat → Int), Ev (am_kz N X) (d, 156, 0, [some (.inr (.inr 1)), some (.inl x1), some (.inl x3), some (.inl x3), none, none], [], (am_sh, am_mm U)) (some (.inl r1), (am_sh, am_mm U1)) ∧ (((¬ r1 = 0 : Prop)) → Ev (am_kz N X) ((d + 1), 155, 4, [some (.inr (.inr 1)), some (.inl x1), some (.inl x2), some (.inl (w32 (x3 + 1)))], [], (am_sh, am_mm U1)) R) ∧ (¬ (¬ r1 = 0) → Ev (am_kz N X) ((d + 1), 155, 4, [some (.inr (.inr 1)), some (.inl x1), some (.inl (w32 (x2 + 1))), some (.inl (w32 (x3 + 1)))], [], (am_sh, am_mm U1)) R))) : Ev (am_kz N X) ((d + 1), 155, 4, [some (.inr (.inr 1)), some (.inl x1), some (.inl x2), some (.inl x3)], [], (am_sh, am_mm U)) R := by
  refine ev_br (P := (U 16 0) ≤ x3) (σ1 := ((d + 1), 155, 34, [some (.inr (.inr 1)), some (.inl x1), some (.inl x2), some (.inl x3)], [], (am_sh, am_mm U))) (σ2 := ((d + 1), 155, 15, [some (.inr (.inr 1)), some (.inl x1), some (.inl x2), some (.inl x3)], [], (am_sh, am_mm U))) 5 (fun _ => rfl) (fun hc => ?_) (fun hc => ?_)
  · have h1 := h.1 hc
    subst h1
    exact ev_end 2 (fun _ => rfl)
  · have h2 := h.2 hc
    refine ev_seg (σ1 := ((d + 1), 155, 19, [some (.inr (.inr 1)), some (.inl x1), some (.inl x2), some (.inl x3)], [.inl x3, .inl x3, .inl x1, .inr (.inr 1)], (am_sh, am_mm U))) 4 (fun _ => rfl) ?_
    obtain ⟨r1, U1, h2c, h2a⟩ := h2
    refine ev_cal (σc := (d, 156, 0, [some (.inr (.inr 1)), some (.inl x1), some (.inl x3), some (.inl x3), none, none], [], (am_sh, am_mm U))) (fun _ => rfl) h2c ?_
    show Ev (am_kz N X) ((d + 1), 155, 22, [some (.inr (.inr 1)), some (.inl x1), some (.inl x2), some (.inl x3)], [.inl r1], (am_sh, am_mm U1)) R
    refine ev_br (P := ¬ r1 = 0) (σ1 := ((d + 1), 155, 28, [some (.inr (.inr 1)), some (.inl x1), some (.inl x2), some (.inl x3)], [], (am_sh, am_mm U1))) (σ2 := ((d + 1), 155, 25, [some (.inr (.inr 1)), some (.inl x1), some (.inl x2), some (.inl x3)], [], (am_sh, am_mm U1))) 1 (fun _ => rfl) (fun hc => ?_) (fun hc => ?_)
    · have h2a1 := h2a.1 hc
      refine ev_seg (σ1 := ((d + 1), 155, 4, [some (.inr (.inr 1)), some (.inl x1), some (.inl x2), some (.inl (w32 (x3 + 1)))], [], (am_sh, am_mm U1))) 2 (fun _ => rfl) ?_
      exact h2a1
    · have h2a2 := h2a.2 hc
      refine ev_seg (σ1 := ((d + 1), 155, 4, [some (.inr (.inr 1)), some (.inl x1), some (.inl (w32 (x2 + 1))), some (.inl (w32 (x3 + 1)))], [], (am_sh, am_mm U1))) 3 (fun _ => rfl) ?_
      exact h2a2
set_option maxRecDepth 8000 in
theorem st156_1_0 (N : Nat) (X : Nat → Int) (d : Nat) (x1 x2 x3 : Int) (U : Nat → Nat → Int) (R : Option am_V × am_M) (h : Ev (am_kz N X) ((d + 1), 156, 6, [some (.inr (.inr 1)), some (.inl x1), some (.inl x2), some (.inl x3), some (.inl 0), some (.inl 0)], [], (am_sh, am_mm U)) R) : Ev (am_kz N X) ((d + 1), 156, 0, [some (.inr (.inr 1)), some (.inl x1), some (.inl x2), some (.inl x3), none, none], [], (am_sh, am_mm U)) R := by
  refine ev_seg (σ1 := ((d + 1), 156, 6, [some (.inr (.inr 1)), some (.inl x1), some (.inl x2), some (.inl x3), some (.inl 0), some (.inl 0)], [], (am_sh, am_mm U))) 4 (fun _ => rfl) ?_
  exact h
set_option maxRecDepth 8000 in
theorem st156_1_6 (N : Nat) (X : Nat → Int) (d : Nat) (x1 x2 x3 x4 x5 : Int) (U : Nat → Nat → Int) (R : Option am_V × am_M) (h : (((x3 ≤ x5 : Prop)) → R = (some (.inl x4), (am_sh, am_mm U))) ∧ (¬ (x3 ≤ x5) → (((x1 = 0 : Prop)) → R = (some (.inl x4), (am_sh, am_mm U))) ∧ (¬ (x1 = 0) → (0 ≤ x5 ∧ x5 < 16) ∧ x1 ≠ 0 ∧ (0 ≤ x2 ∧ x2 < 16) ∧ x1 ≠ 0 ∧ (((¬ (Int.fmod (U 17 x5.toNat) x1) = (Int.fmod (U 17 x2.toNat) x1) : Prop)) → Ev (am_kz N X) ((d + 1), 156, 6, [some (.inr (.inr 1)), some (.inl x1), some (.inl x2), some (.inl x3), some (.inl x4), some (.inl (w32 (x5 + 1)))], [], (am_sh, am_mm U)) R) ∧ (¬ (¬ (Int.fmod (U 17 x5.toNat) x1) = (Int.fmod (U 17 x2.toNat) x1)) → Ev (am_kz N X) ((d + 1), 156, 6, [some (.inr (.inr 1)), some (.inl x1), some (.inl x2), some (.inl x3), some (.inl (w32 (x4 + 1))), some (.inl (w32 (x5 + 1)))], [], (am_sh, am_mm U)) R)))) : Ev (am_kz N X) ((d + 1), 156, 6, [some (.inr (.inr 1)), some (.inl x1), some (.inl x2), some (.inl x3), some (.inl x4), some (.inl x5)], [], (am_sh, am_mm U)) R := by
  refine ev_br (P := x3 ≤ x5) (σ1 := ((d + 1), 156, 55, [some (.inr (.inr 1)), some (.inl x1), some (.inl x2), some (.inl x3), some (.inl x4), some (.inl x5)], [], (am_sh, am_mm U))) (σ2 := ((d + 1), 156, 12, [some (.inr (.inr 1)), some (.inl x1), some (.inl x2), some (.inl x3), some (.inl x4), some (.inl x5)], [], (am_sh, am_mm U))) 3 (fun _ => rfl) (fun hc => ?_) (fun hc => ?_)
  · have h1 := h.1 hc
    subst h1
    exact ev_end 2 (fun _ => rfl)
  · have h2 := h.2 hc
    refine ev_br (P := x1 = 0) (σ1 := ((d + 1), 156, 55, [some (.inr (.inr 1)), some (.inl x1), some (.inl x2), some (.inl x3), some (.inl x4), some (.inl x5)], [], (am_sh, am_mm U))) (σ2 := ((d + 1), 156, 16, [some (.inr (.inr 1)), some (.inl x1), some (.inl x2), some (.inl x3), some (.inl x4), some (.inl x5)], [], (am_sh, am_mm U))) 2 (fun _ => rfl) (fun hc => ?_) (fun hc => ?_)
    · have h21 := h2.1 hc
      subst h21
      exact ev_end 2 (fun _ => rfl)
    · have h22 := h2.2 hc
      refine ev_seg (σ1 := ((d + 1), 156, 25, [some (.inr (.inr 1)), some (.inl x1), some (.inl x2), some (.inl x3), some (.inl x4), some (.inl x5)], [.inl x5, .inr (.inr 17)], (am_sh, am_mm U))) 4 (fun _ => rfl) ?_
      refine eu_iald 17 (n := 16) rfl (by decide) rfl (fun _ => rfl) h22.1 ?_
      have h22a := h22.2
      refine ev_seg (σ1 := ((d + 1), 156, 27, [some (.inr (.inr 1)), some (.inl x1), some (.inl x2), some (.inl x3), some (.inl x4), some (.inl x5)], [.inl x1, .inl (U 17 x5.toNat)], (am_sh, am_mm U))) 1 (fun _ => rfl) ?_
      refine ev_flm rfl (by omega) (by simp [am_cat]) h22a.1 ?_
      have h22aa := h22a.2
      refine ev_seg (σ1 := ((d + 1), 156, 38, [some (.inr (.inr 1)), some (.inl x1), some (.inl x2), some (.inl x3), some (.inl x4), some (.inl x5)], [.inl x2, .inr (.inr 17), .inl (Int.fmod (U 17 x5.toNat) x1)], (am_sh, am_mm U))) 4 (fun _ => rfl) ?_
      refine eu_iald 17 (n := 16) rfl (by decide) rfl (fun _ => rfl) h22aa.1 ?_
      have h22aaa := h22aa.2
      refine ev_seg (σ1 := ((d + 1), 156, 40, [some (.inr (.inr 1)), some (.inl x1), some (.inl x2), some (.inl x3), some (.inl x4), some (.inl x5)], [.inl x1, .inl (U 17 x2.toNat), .inl (Int.fmod (U 17 x5.toNat) x1)], (am_sh, am_mm U))) 1 (fun _ => rfl) ?_
      refine ev_flm rfl (by omega) (by simp [am_cat]) h22aaa.1 ?_
      have h22aaaa := h22aaa.2
      refine ev_br (P := ¬ (Int.fmod (U 17 x5.toNat) x1) = (Int.fmod (U 17 x2.toNat) x1)) (σ1 := ((d + 1), 156, 49, [some (.inr (.inr 1)), some (.inl x1), some (.inl x2), some (.inl x3), some (.inl x4), some (.inl x5)], [], (am_sh, am_mm U))) (σ2 := ((d + 1), 156, 46, [some (.inr (.inr 1)), some (.inl x1), some (.inl x2), some (.inl x3), some (.inl x4), some (.inl x5)], [], (am_sh, am_mm U))) 1 (fun _ => rfl) (fun hc => ?_) (fun hc => ?_)
      · have h22aaaa1 := h22aaaa.1 hc
        refine ev_seg (σ1 := ((d + 1), 156, 6, [some (.inr (.inr 1)), some (.inl x1), some (.inl x2), some (.inl x3), some (.inl x4), some (.inl (w32 (x5 + 1)))], [], (am_sh, am_mm U))) 2 (fun _ => rfl) ?_
        exact h22aaaa1
      · have h22aaaa2 := h22aaaa.2 hc
        refine ev_seg (σ1 := ((d + 1), 156, 6, [some (.inr (.inr 1)), some (.inl x1), some (.inl x2), some (.inl x3), some (.inl (w32 (x4 + 1))), some (.inl (w32 (x5 + 1)))], [], (am_sh, am_mm U))) 3 (fun _ => rfl) ?_
        exact h22aaaa2
set_option maxRecDepth 8000 in
theorem st157_86_0 (N : Nat) (X : Nat → Int) (d : Nat) (x1 x2 x3 : Int) (U : Nat → Nat → Int) (R : Option am_V × am_M) (h : (0 ≤ x2 ∧ x2 < 352) ∧ (0 ≤ x3 ∧ x3 < 352) ∧ x1 ≠ 0 ∧ (((¬ (Int.tmod (w32 ((U 123 x2.toNat) - (U 123 x3.toNat))) x1) = 0 : Prop)) → R = (some (.inl 0), (am_sh, am_mm U))) ∧ (¬ (¬ (Int.tmod (w32 ((U 123 x2.toNat) - (U 123 x3.toNat))) x1) = 0) → R = (some (.inl 1), (am_sh, am_mm U)))) : Ev (am_kz N X) (d, 157, 0, [some (.inr (.inr 86)), some (.inl x1), some (.inl x2), some (.inl x3)], [], (am_sh, am_mm U)) R := by
  refine ev_seg (σ1 := (d, 157, 5, [some (.inr (.inr 86)), some (.inl x1), some (.inl x2), some (.inl x3)], [.inl x2, .inr (.inr 123)], (am_sh, am_mm U))) 3 (fun _ => rfl) ?_
  refine eu_iald 123 (n := 352) rfl (by decide) rfl (fun _ => rfl) h.1 ?_
  have ha := h.2
  refine ev_seg (σ1 := (d, 157, 11, [some (.inr (.inr 86)), some (.inl x1), some (.inl x2), some (.inl x3)], [.inl x3, .inr (.inr 123), .inl (U 123 x2.toNat)], (am_sh, am_mm U))) 3 (fun _ => rfl) ?_
  refine eu_iald 123 (n := 352) rfl (by decide) rfl (fun _ => rfl) ha.1 ?_
  have haa := ha.2
  refine ev_seg (σ1 := (d, 157, 14, [some (.inr (.inr 86)), some (.inl x1), some (.inl x2), some (.inl x3)], [.inl x1, .inl (w32 ((U 123 x2.toNat) - (U 123 x3.toNat)))], (am_sh, am_mm U))) 2 (fun _ => rfl) ?_
  refine ev_irem rfl haa.1 ?_
  have haaa := haa.2
  refine ev_br (P := ¬ (Int.tmod (w32 ((U 123 x2.toNat) - (U 123 x3.toNat))) x1) = 0) (σ1 := (d, 157, 22, [some (.inr (.inr 86)), some (.inl x1), some (.inl x2), some (.inl x3)], [], (am_sh, am_mm U))) (σ2 := (d, 157, 18, [some (.inr (.inr 86)), some (.inl x1), some (.inl x2), some (.inl x3)], [], (am_sh, am_mm U))) 1 (fun _ => rfl) (fun hc => ?_) (fun hc => ?_)
  · have haaa1 := haaa.1 hc
    subst haaa1
    exact ev_end 2 (fun _ => rfl)
  · have haaa2 := haaa.2 hc
    subst haaa2
    exact ev_end 3 (fun _ => rfl)
set_option maxRecDepth 8000 in
theorem st158_1_0 (N : Nat) (X : Nat → Int) (d : Nat) (x1 : Int) (U : Nat → Nat → Int) (R : Option am_V × am_M) (h : Ev (am_kz N X) ((d + 1), 158, 2, [some (.inr (.inr 1)), some (.inl x1), some (.inl 0)], [], (am_sh, am_mm U)) R) : Ev (am_kz N X) ((d + 1), 158, 0, [some (.inr (.inr 1)), some (.inl x1), none], [], (am_sh, am_mm U)) R := by
  refine ev_seg (σ1 := ((d + 1), 158, 2, [some (.inr (.inr 1)), some (.inl x1), some (.inl 0)], [], (am_sh, am_mm U))) 2 (fun _ => rfl) ?_
  exact h
set_option maxRecDepth 8000 in
theorem st158_1_2 (N : Nat) (X : Nat → Int) (d : Nat) (x1 x2 : Int) (U : Nat → Nat → Int) (R : Option am_V × am_M) (h : ((((U 16 0) ≤ x2 : Prop)) → R = (none, (am_sh, am_mm U))) ∧ (¬ ((U 16 0) ≤ x2) → (0 ≤ x2 ∧ x2 < 16) ∧ (((¬ (U 18 x2.toNat) = x1 : Prop)) → Ev (am_kz N X) ((d + 1), 158, 2, [some (.inr (.inr 1)), some (.inl x1), some (.inl (w32 (x2 + 1)))], [], (am_sh, am_mm U)) R) ∧ (¬ (¬ (U 18 x2.toNat) = x1) → (0 ≤ x2 ∧ x2 < 16) ∧ ∃ U1 : Nat → Nat → Int, Ev (am_kz N X) (d, 239, 0, [some (.inr (.inr 82)), some (.inl (if 0 ≤ (U 17 x2.toNat) then (U 17 x2.toNat) else w32 (-(U 17 x2.toNat)))), none, none, none, none, none], [], (am_sh, am_mm U)) (none, (am_sh, am_mm U1)) ∧ Ev (am_kz N X) ((d + 1), 158, 2, [some (.inr (.inr 1)), some (.inl x1), some (.inl (w32 (x2 + 1)))], [], (am_sh, am_mm U1)) R))) : Ev (am_kz N X) ((d + 1), 158, 2, [some (.inr (.inr 1)), some (.inl x1), some (.inl x2)], [], (am_sh, am_mm U)) R := by
  refine ev_br (P := (U 16 0) ≤ x2) (σ1 := ((d + 1), 158, 51, [some (.inr (.inr 1)), some (.inl x1), some (.inl x2)], [], (am_sh, am_mm U))) (σ2 := ((d + 1), 158, 13, [some (.inr (.inr 1)), some (.inl x1), some (.inl x2)], [], (am_sh, am_mm U))) 5 (fun _ => rfl) (fun hc => ?_) (fun hc => ?_)
  · have h1 := h.1 hc
    subst h1
    exact ev_end 1 (fun _ => rfl)
  · have h2 := h.2 hc
    refine ev_seg (σ1 := ((d + 1), 158, 21, [some (.inr (.inr 1)), some (.inl x1), some (.inl x2)], [.inl x2, .inr (.inr 18)], (am_sh, am_mm U))) 4 (fun _ => rfl) ?_
    refine eu_iald 18 (n := 16) rfl (by decide) rfl (fun _ => rfl) h2.1 ?_
    have h2a := h2.2
    refine ev_br (P := ¬ (U 18 x2.toNat) = x1) (σ1 := ((d + 1), 158, 45, [some (.inr (.inr 1)), some (.inl x1), some (.inl x2)], [], (am_sh, am_mm U))) (σ2 := ((d + 1), 158, 26, [some (.inr (.inr 1)), some (.inl x1), some (.inl x2)], [], (am_sh, am_mm U))) 2 (fun _ => rfl) (fun hc => ?_) (fun hc => ?_)
    · have h2a1 := h2a.1 hc
      refine ev_seg (σ1 := ((d + 1), 158, 2, [some (.inr (.inr 1)), some (.inl x1), some (.inl (w32 (x2 + 1)))], [], (am_sh, am_mm U))) 2 (fun _ => rfl) ?_
      exact h2a1
    · have h2a2 := h2a.2 hc
      refine ev_seg (σ1 := ((d + 1), 158, 38, [some (.inr (.inr 1)), some (.inl x1), some (.inl x2)], [.inl x2, .inr (.inr 17), .inr (.inr 82)], (am_sh, am_mm U))) 6 (fun _ => rfl) ?_
      refine eu_iald 17 (n := 16) rfl (by decide) rfl (fun _ => rfl) h2a2.1 ?_
      have h2a2a := h2a2.2
      refine ev_seg (σ1 := ((d + 1), 158, 42, [some (.inr (.inr 1)), some (.inl x1), some (.inl x2)], [.inl (if 0 ≤ (U 17 x2.toNat) then (U 17 x2.toNat) else w32 (-(U 17 x2.toNat))), .inr (.inr 82)], (am_sh, am_mm U))) 1 (fun _ => rfl) ?_
      obtain ⟨U1, h2a2ac, h2a2aa⟩ := h2a2a
      refine ev_cal (σc := (d, 239, 0, [some (.inr (.inr 82)), some (.inl (if 0 ≤ (U 17 x2.toNat) then (U 17 x2.toNat) else w32 (-(U 17 x2.toNat)))), none, none, none, none, none], [], (am_sh, am_mm U))) (fun _ => rfl) h2a2ac ?_
      show Ev (am_kz N X) ((d + 1), 158, 45, [some (.inr (.inr 1)), some (.inl x1), some (.inl x2)], [], (am_sh, am_mm U1)) R
      refine ev_seg (σ1 := ((d + 1), 158, 2, [some (.inr (.inr 1)), some (.inl x1), some (.inl (w32 (x2 + 1)))], [], (am_sh, am_mm U1))) 2 (fun _ => rfl) ?_
      exact h2a2aa
set_option maxRecDepth 8000 in
theorem st159_86_0 (N : Nat) (X : Nat → Int) (d : Nat) (x1 : Int) (U : Nat → Nat → Int) (R : Option am_V × am_M) (h : (((x1 < 0 : Prop)) → R = (some (.inl 0), (am_sh, am_mm U))) ∧ (¬ (x1 < 0) → (0 ≤ (U 86 13) ∧ (U 86 13) < 2) ∧ ((((U 88 (U 86 13).toNat) ≤ x1 : Prop)) → R = (some (.inl 0), (am_sh, am_mm U))) ∧ (¬ ((U 88 (U 86 13).toNat) ≤ x1) → R = (some (.inl 1), (am_sh, am_mm U))))) : Ev (am_kz N X) (d, 159, 0, [some (.inr (.inr 86)), some (.inl x1)], [], (am_sh, am_mm U)) R := by
  refine ev_br (P := x1 < 0) (σ1 := (d, 159, 21, [some (.inr (.inr 86)), some (.inl x1)], [], (am_sh, am_mm U))) (σ2 := (d, 159, 4, [some (.inr (.inr 86)), some (.inl x1)], [], (am_sh, am_mm U))) 2 (fun _ => rfl) (fun hc => ?_) (fun hc => ?_)
  · have h1 := h.1 hc
    subst h1
    exact ev_end 2 (fun _ => rfl)
  · have h2 := h.2 hc
    refine ev_seg (σ1 := (d, 159, 13, [some (.inr (.inr 86)), some (.inl x1)], [.inl (U 86 13), .inr (.inr 88), .inl x1], (am_sh, am_mm U))) 5 (fun _ => rfl) ?_
    refine eu_iald 88 (n := 2) rfl (by decide) rfl (fun _ => rfl) h2.1 ?_
    have h2a := h2.2
    refine ev_br (P := (U 88 (U 86 13).toNat) ≤ x1) (σ1 := (d, 159, 21, [some (.inr (.inr 86)), some (.inl x1)], [], (am_sh, am_mm U))) (σ2 := (d, 159, 17, [some (.inr (.inr 86)), some (.inl x1)], [], (am_sh, am_mm U))) 1 (fun _ => rfl) (fun hc => ?_) (fun hc => ?_)
    · have h2a1 := h2a.1 hc
      subst h2a1
      exact ev_end 2 (fun _ => rfl)
    · have h2a2 := h2a.2 hc
      subst h2a2
      exact ev_end 3 (fun _ => rfl)
set_option maxRecDepth 8000 in
theorem st160_86_0 (N : Nat) (X : Nat → Int) (d : Nat) (x1 : Int) (U : Nat → Nat → Int) (R : Option am_V × am_M) (h : Ev (am_kz N X) (d, 160, 14, [some (.inr (.inr 86)), some (.inr (.inl x1)), none, some (.inr (.inl (U 86 76))), none, some (.inr (.inl x1)), none, some (.inl 0), some (.inl 0)], [], (am_sh, am_mm U)) R) : Ev (am_kz N X) (d, 160, 0, [some (.inr (.inr 86)), some (.inr (.inl x1)), none, none, none, none, none, none, none], [], (am_sh, am_mm U)) R := by
  refine ev_seg (σ1 := (d, 160, 14, [some (.inr (.inr 86)), some (.inr (.inl x1)), none, some (.inr (.inl (U 86 76))), none, some (.inr (.inl x1)), none, some (.inl 0), some (.inl 0)], [], (am_sh, am_mm U))) 9 (fun _ => rfl) ?_
  exact h
set_option maxRecDepth 8000 in
theorem st160_86_14 (N : Nat) (X : Nat → Int) (d : Nat) (x1 x3 x5 x7 x8 : Int) (U : Nat → Nat → Int) (R : Option am_V × am_M) (h : (((0 < (am_lcmp x3 0) : Prop)) → ((((w32 ((w32 (w64 ((Int.tmod x3 10) + (Int.tmod x5 10)))) + x7)) ≤ 9 : Prop)) → (((¬ 0 = 1 : Prop)) → (((0 ≤ ((am_upd U 86 77 (w32 ((U 86 77) + 0))) 86 78) : Prop)) → Ev (am_kz N X) (d, 160, 14, [some (.inr (.inr 86)), some (.inr (.inl x1)), none, some (.inr (.inl (w64 (Int.tdiv x3 10)))), none, some (.inr (.inl (w64 (Int.tdiv x5 10)))), none, some (.inl 0), some (.inl 0)], [], (am_sh, am_mm (am_upd (am_upd U 86 77 (w32 ((U 86 77) + 0))) 86 78 ((am_upd U 86 77 (w32 ((U 86 77) + 0))) 86 78)))) R) ∧ (¬ (0 ≤ ((am_upd U 86 77 (w32 ((U 86 77) + 0))) 86 78)) → Ev (am_kz N X) (d, 160, 14, [some (.inr (.inr 86)), some (.inr (.inl x1)), none, some (.inr (.inl (w64 (Int.tdiv x3 10)))), none, some (.inr (.inl (w64 (Int.tdiv x5 10)))), none, some (.inl 0), some (.inl 0)], [], (am_sh, am_mm (am_upd (am_upd U 86 77 (w32 ((U 86 77) + 0))) 86 78 0))) R)) ∧ (¬ (¬ 0 = 1) → ((((w32 (x8 + 1)) ≤ ((am_upd U 86 77 (w32 ((U 86 77) + 0))) 86 78) : Prop)) → Ev (am_kz N X) (d, 160, 14, [some (.inr (.inr 86)), some (.inr (.inl x1)), none, some (.inr (.inl (w64 (Int.tdiv x3 10)))), none, some (.inr (.inl (w64 (Int.tdiv x5 10)))), none, some (.inl 0), some (.inl (w32 (x8 + 1)))], [], (am_sh, am_mm (am_upd (am_upd U 86 77 (w32 ((U 86 77) + 0))) 86 78 ((am_upd U 86 77 (w32 ((U 86 77) + 0))) 86 78)))) R) ∧ (¬ ((w32 (x8 + 1)) ≤ ((am_upd U 86 77 (w32 ((U 86 77) + 0))) 86 78)) → Ev (am_kz N X) (d, 160, 14, [some (.inr (.inr 86)), some (.inr (.inl x1)), none, some (.inr (.inl (w64 (Int.tdiv x3 10)))), none, some (.inr (.inl (w64 (Int.tdiv x5 10)))), none, some (.inl 0), some (.inl (w32 (x8 + 1)))], [], (am_sh, am_mm (am_upd (am_upd U 86 77 (w32 ((U 86 77) + 0))) 86 78 (w32 (x8 + 1))))) R))) ∧ (¬ ((w32 ((w32 (w64 ((Int.tmod x3 10) + (Int.tmod x5 10)))) + x7)) ≤ 9) → (((¬ 1 = 1 : Prop)) → (((0 ≤ ((am_upd U 86 77 (w32 ((U 86 77) + 1))) 86 78) : Prop)) → Ev (am_kz N X) (d, 160, 14, [some (.inr (.inr 86)), some (.inr (.inl x1)), none, some (.inr (.inl (w64 (Int.tdiv x3 10)))), none, some (.inr (.inl (w64 (Int.tdiv x5 10)))), none, some (.inl 1), some (.inl 0)], [], (am_sh, am_mm (am_upd (am_upd U 86 77 (w32 ((U 86 77) + 1))) 86 78 ((am_upd U 86 77 (w32 ((U 86 77) + 1))) 86 78)))) R) ∧ (¬ (0 ≤ ((am_upd U 86 77 (w32 ((U 86 77) + 1))) 86 78)) → Ev (am_kz N X) (d, 160, 14, [some (.inr (.inr 86)), some (.inr (.inl x1)), none, some (.inr (.inl (w64 (Int.tdiv x3 10)))), none, some (.inr (.inl (w64 (Int.tdiv x5 10)))), none, some (.inl 1), some (.inl 0)], [], (am_sh, am_mm (am_upd (am_upd U 86 77 (w32 ((U 86 77) + 1))) 86 78 0))) R)) ∧ (¬ (¬ 1 = 1) → ((((w32 (x8 + 1)) ≤ ((am_upd U 86 77 (w32 ((U 86 77) + 1))) 86 78) : Prop)) → Ev (am_kz N X) (d, 160, 14, [some (.inr (.inr 86)), some (.inr (.inl x1)), none, some (.inr (.inl (w64 (Int.tdiv x3 10)))), none, some (.inr (.inl (w64 (Int.tdiv x5 10)))), none, some (.inl 1), some (.inl (w32 (x8 + 1)))], [], (am_sh, am_mm (am_upd (am_upd U 86 77 (w32 ((U 86 77) + 1))) 86 78 ((am_upd U 86 77 (w32 ((U 86 77) + 1))) 86 78)))) R) ∧ (¬ ((w32 (x8 + 1)) ≤ ((am_upd U 86 77 (w32 ((U 86 77) + 1))) 86 78)) → Ev (am_kz N X) (d, 160, 14, [some (.inr (.inr 86)), some (.inr (.inl x1)), none, some (.inr (.inl (w64 (Int.tdiv x3 10)))), none, some (.inr (.inl (w64 (Int.tdiv x5 10)))), none, some (.inl 1), some (.inl (w32 (x8 + 1)))], [], (am_sh, am_mm (am_upd (am_upd U 86 77 (w32 ((U 86 77) + 1))) 86 78 (w32 (x8 + 1))))) R)))) ∧ (¬ (0 < (am_lcmp x3 0)) → ((((am_lcmp x5 0) ≤ 0 : Prop)) → R = (none, (am_sh, am_mm (am_upd U 86 76 (w64 ((U 86 76) + x1)))))) ∧ (¬ ((am_lcmp x5 0) ≤ 0) → ((((w32 ((w32 (w64 ((Int.tmod x3 10) + (Int.tmod x5 10)))) + x7)) ≤ 9 : Prop)) → (((¬ 0 = 1 : Prop)) → (((0 ≤ ((am_upd U 86 77 (w32 ((U 86 77) + 0))) 86 78) : Prop)) → Ev (am_kz N X) (d, 160, 14, [some (.inr (.inr 86)), some (.inr (.inl x1)), none, some (.inr (.inl (w64 (Int.tdiv x3 10)))), none, some (.inr (.inl (w64 (Int.tdiv x5 10)))), none, some (.inl 0), some (.inl 0)], [], (am_sh, am_mm (am_upd (am_upd U 86 77 (w32 ((U 86 77) + 0))) 86 78 ((am_upd U 86 77 (w32 ((U 86 77) + 0))) 86 78)))) R) ∧ (¬ (0 ≤ ((am_upd U 86 77 (w32 ((U 86 77) + 0))) 86 78)) → Ev (am_kz N X) (d, 160, 14, [some (.inr (.inr 86)), some (.inr (.inl x1)), none, some (.inr (.inl (w64 (Int.tdiv x3 10)))), none, some (.inr (.inl (w64 (Int.tdiv x5 10)))), none, some (.inl 0), some (.inl 0)], [], (am_sh, am_mm (am_upd (am_upd U 86 77 (w32 ((U 86 77) + 0))) 86 78 0))) R)) ∧ (¬ (¬ 0 = 1) → ((((w32 (x8 + 1)) ≤ ((am_upd U 86 77 (w32 ((U 86 77) + 0))) 86 78) : Prop)) → Ev (am_kz N X) (d, 160, 14, [some (.inr (.inr 86)), some (.inr (.inl x1)), none, some (.inr (.inl (w64 (Int.tdiv x3 10)))), none, some (.inr (.inl (w64 (Int.tdiv x5 10)))), none, some (.inl 0), some (.inl (w32 (x8 + 1)))], [], (am_sh, am_mm (am_upd (am_upd U 86 77 (w32 ((U 86 77) + 0))) 86 78 ((am_upd U 86 77 (w32 ((U 86 77) + 0))) 86 78)))) R) ∧ (¬ ((w32 (x8 + 1)) ≤ ((am_upd U 86 77 (w32 ((U 86 77) + 0))) 86 78)) → Ev (am_kz N X) (d, 160, 14, [some (.inr (.inr 86)), some (.inr (.inl x1)), none, some (.inr (.inl (w64 (Int.tdiv x3 10)))), none, some (.inr (.inl (w64 (Int.tdiv x5 10)))), none, some (.inl 0), some (.inl (w32 (x8 + 1)))], [], (am_sh, am_mm (am_upd (am_upd U 86 77 (w32 ((U 86 77) + 0))) 86 78 (w32 (x8 + 1))))) R))) ∧ (¬ ((w32 ((w32 (w64 ((Int.tmod x3 10) + (Int.tmod x5 10)))) + x7)) ≤ 9) → (((¬ 1 = 1 : Prop)) → (((0 ≤ ((am_upd U 86 77 (w32 ((U 86 77) + 1))) 86 78) : Prop)) → Ev (am_kz N X) (d, 160, 14, [some (.inr (.inr 86)), some (.inr (.inl x1)), none, some (.inr (.inl (w64 (Int.tdiv x3 10)))), none, some (.inr (.inl (w64 (Int.tdiv x5 10)))), none, some (.inl 1), some (.inl 0)], [], (am_sh, am_mm (am_upd (am_upd U 86 77 (w32 ((U 86 77) + 1))) 86 78 ((am_upd U 86 77 (w32 ((U 86 77) + 1))) 86 78)))) R) ∧ (¬ (0 ≤ ((am_upd U 86 77 (w32 ((U 86 77) + 1))) 86 78)) → Ev (am_kz N X) (d, 160, 14, [some (.inr (.inr 86)), some (.inr (.inl x1)), none, some (.inr (.inl (w64 (Int.tdiv x3 10)))), none, some (.inr (.inl (w64 (Int.tdiv x5 10)))), none, some (.inl 1), some (.inl 0)], [], (am_sh, am_mm (am_upd (am_upd U 86 77 (w32 ((U 86 77) + 1))) 86 78 0))) R)) ∧ (¬ (¬ 1 = 1) → ((((w32 (x8 + 1)) ≤ ((am_upd U 86 77 (w32 ((U 86 77) + 1))) 86 78) : Prop)) → Ev (am_kz N X) (d, 160, 14, [some (.inr (.inr 86)), some (.inr (.inl x1)), none, some (.inr (.inl (w64 (Int.tdiv x3 10)))), none, some (.inr (.inl (w64 (Int.tdiv x5 10)))), none, some (.inl 1), some (.inl (w32 (x8 + 1)))], [], (am_sh, am_mm (am_upd (am_upd U 86 77 (w32 ((U 86 77) + 1))) 86 78 ((am_upd U 86 77 (w32 ((U 86 77) + 1))) 86 78)))) R) ∧ (¬ ((w32 (x8 + 1)) ≤ ((am_upd U 86 77 (w32 ((U 86 77) + 1))) 86 78)) → Ev (am_kz N X) (d, 160, 14, [some (.inr (.inr 86)), some (.inr (.inl x1)), none, some (.inr (.inl (w64 (Int.tdiv x3 10)))), none, some (.inr (.inl (w64 (Int.tdiv x5 10)))), none, some (.inl 1), some (.inl (w32 (x8 + 1)))], [], (am_sh, am_mm (am_upd (am_upd U 86 77 (w32 ((U 86 77) + 1))) 86 78 (w32 (x8 + 1))))) R)))))) : Ev (am_kz N X) (d, 160, 14, [some (.inr (.inr 86)), some (.inr (.inl x1)), none, some (.inr (.inl x3)), none, some (.inr (.inl x5)), none, some (.inl x7), some (.inl x8)], [], (am_sh, am_mm U)) R := by
  refine ev_br (P := 0 < (am_lcmp x3 0)) (σ1 := (d, 160, 27, [some (.inr (.inr 86)), some (.inr (.inl x1)), none, some (.inr (.inl x3)), none, some (.inr (.inl x5)), none, some (.inl x7), some (.inl x8)], [], (am_sh, am_mm U))) (σ2 := (d, 160, 20, [some (.inr (.inr 86)), some (.inr (.inl x1)), none, some (.inr (.inl x3)), none, some (.inr (.inl x5)), none, some (.inl x7), some (.inl x8)], [], (am_sh, am_mm U))) 4 (fun _ => rfl) (fun hc => ?_) (fun hc => ?_)
  · have h1 := h.1 hc
    refine ev_seg (σ1 := (d, 160, 31, [some (.inr (.inr 86)), some (.inr (.inl x1)), none, some (.inr (.inl x3)), none, some (.inr (.inl x5)), none, some (.inl x7), some (.inl x8)], [.inr (.inl 10), .inr (.inl x3)], (am_sh, am_mm U))) 2 (fun _ => rfl) ?_
    refine ev_lrem rfl (by decide) ?_
    refine ev_seg (σ1 := (d, 160, 37, [some (.inr (.inr 86)), some (.inr (.inl x1)), none, some (.inr (.inl x3)), none, some (.inr (.inl x5)), none, some (.inl x7), some (.inl x8)], [.inr (.inl 10), .inr (.inl x5), .inr (.inl (Int.tmod x3 10))], (am_sh, am_mm U))) 2 (fun _ => rfl) ?_
    refine ev_lrem rfl (by decide) ?_
    refine ev_br (P := (w32 ((w32 (w64 ((Int.tmod x3 10) + (Int.tmod x5 10)))) + x7)) ≤ 9) (σ1 := (d, 160, 52, [some (.inr (.inr 86)), some (.inr (.inl x1)), none, some (.inr (.inl x3)), none, some (.inr (.inl x5)), none, some (.inl x7), some (.inl x8)], [], (am_sh, am_mm U))) (σ2 := (d, 160, 48, [some (.inr (.inr 86)), some (.inr (.inl x1)), none, some (.inr (.inl x3)), none, some (.inr (.inl x5)), none, some (.inl x7), some (.inl x8)], [], (am_sh, am_mm U))) 6 (fun _ => rfl) (fun hc => ?_) (fun hc => ?_)
    · have h11 := h1.1 hc
      refine ev_seg (σ1 := (d, 160, 63, [some (.inr (.inr 86)), some (.inr (.inl x1)), none, some (.inr (.inl x3)), none, some (.inr (.inl x5)), none, some (.inl 0), some (.inl x8)], [.inl (w32 ((U 86 77) + 0)), .inr (.inr 86)], (am_sh, am_mm U))) 7 (fun _ => rfl) ?_
      refine eu_puti 86 (n := 90) rfl (by decide) rfl rfl ?_
      refine ev_br (P := ¬ 0 = 1) (σ1 := (d, 160, 79, [some (.inr (.inr 86)), some (.inr (.inl x1)), none, some (.inr (.inl x3)), none, some (.inr (.inl x5)), none, some (.inl 0), some (.inl x8)], [], (am_sh, am_mm (am_upd U 86 77 (w32 ((U 86 77) + 0)))))) (σ2 := (d, 160, 72, [some (.inr (.inr 86)), some (.inr (.inl x1)), none, some (.inr (.inl x3)), none, some (.inr (.inl x5)), none, some (.inl 0), some (.inl x8)], [], (am_sh, am_mm (am_upd U 86 77 (w32 ((U 86 77) + 0)))))) 3 (fun _ => rfl) (fun hc => ?_) (fun hc => ?_)
      · have h111 := h11.1 hc
        refine ev_br (P := 0 ≤ ((am_upd U 86 77 (w32 ((U 86 77) + 0))) 86 78)) (σ1 := (d, 160, 97, [some (.inr (.inr 86)), some (.inr (.inl x1)), none, some (.inr (.inl x3)), none, some (.inr (.inl x5)), none, some (.inl 0), some (.inl 0)], [.inr (.inr 86)], (am_sh, am_mm (am_upd U 86 77 (w32 ((U 86 77) + 0)))))) (σ2 := (d, 160, 92, [some (.inr (.inr 86)), some (.inr (.inl x1)), none, some (.inr (.inl x3)), none, some (.inr (.inl x5)), none, some (.inl 0), some (.inl 0)], [.inr (.inr 86)], (am_sh, am_mm (am_upd U 86 77 (w32 ((U 86 77) + 0)))))) 7 (fun _ => rfl) (fun hc => ?_) (fun hc => ?_)
        · have h1111 := h111.1 hc
          refine ev_seg (σ1 := (d, 160, 101, [some (.inr (.inr 86)), some (.inr (.inl x1)), none, some (.inr (.inl x3)), none, some (.inr (.inl x5)), none, some (.inl 0), some (.inl 0)], [.inl ((am_upd U 86 77 (w32 ((U 86 77) + 0))) 86 78), .inr (.inr 86)], (am_sh, am_mm (am_upd U 86 77 (w32 ((U 86 77) + 0)))))) 2 (fun _ => rfl) ?_
          refine eu_puti 86 (n := 90) rfl (by decide) rfl rfl ?_
          refine ev_seg (σ1 := (d, 160, 108, [some (.inr (.inr 86)), some (.inr (.inl x1)), none, some (.inr (.inl x3)), none, some (.inr (.inl x5)), none, some (.inl 0), some (.inl 0)], [.inr (.inl 10), .inr (.inl x3)], (am_sh, am_mm (am_upd (am_upd U 86 77 (w32 ((U 86 77) + 0))) 86 78 ((am_upd U 86 77 (w32 ((U 86 77) + 0))) 86 78))))) 2 (fun _ => rfl) ?_
          refine ev_ldiv rfl (by decide) ?_
          refine ev_seg (σ1 := (d, 160, 115, [some (.inr (.inr 86)), some (.inr (.inl x1)), none, some (.inr (.inl (w64 (Int.tdiv x3 10)))), none, some (.inr (.inl x5)), none, some (.inl 0), some (.inl 0)], [.inr (.inl 10), .inr (.inl x5)], (am_sh, am_mm (am_upd (am_upd U 86 77 (w32 ((U 86 77) + 0))) 86 78 ((am_upd U 86 77 (w32 ((U 86 77) + 0))) 86 78))))) 3 (fun _ => rfl) ?_
          refine ev_ldiv rfl (by decide) ?_
          refine ev_seg (σ1 := (d, 160, 14, [some (.inr (.inr 86)), some (.inr (.inl x1)), none, some (.inr (.inl (w64 (Int.tdiv x3 10)))), none, some (.inr (.inl (w64 (Int.tdiv x5 10)))), none, some (.inl 0), some (.inl 0)], [], (am_sh, am_mm (am_upd (am_upd U 86 77 (w32 ((U 86 77) + 0))) 86 78 ((am_upd U 86 77 (w32 ((U 86 77) + 0))) 86 78))))) 2 (fun _ => rfl) ?_
          exact h1111
        · have h1112 := h111.2 hc
          refine ev_seg (σ1 := (d, 160, 101, [some (.inr (.inr 86)), some (.inr (.inl x1)), none, some (.inr (.inl x3)), none, some (.inr (.inl x5)), none, some (.inl 0), some (.inl 0)], [.inl 0, .inr (.inr 86)], (am_sh, am_mm (am_upd U 86 77 (w32 ((U 86 77) + 0)))))) 2 (fun _ => rfl) ?_
          refine eu_puti 86 (n := 90) rfl (by decide) rfl rfl ?_
          refine ev_seg (σ1 := (d, 160, 108, [some (.inr (.inr 86)), some (.inr (.inl x1)), none, some (.inr (.inl x3)), none, some (.inr (.inl x5)), none, some (.inl 0), some (.inl 0)], [.inr (.inl 10), .inr (.inl x3)], (am_sh, am_mm (am_upd (am_upd U 86 77 (w32 ((U 86 77) + 0))) 86 78 0)))) 2 (fun _ => rfl) ?_
          refine ev_ldiv rfl (by decide) ?_
          refine ev_seg (σ1 := (d, 160, 115, [some (.inr (.inr 86)), some (.inr (.inl x1)), none, some (.inr (.inl (w64 (Int.tdiv x3 10)))), none, some (.inr (.inl x5)), none, some (.inl 0), some (.inl 0)], [.inr (.inl 10), .inr (.inl x5)], (am_sh, am_mm (am_upd (am_upd U 86 77 (w32 ((U 86 77) + 0))) 86 78 0)))) 3 (fun _ => rfl) ?_
          refine ev_ldiv rfl (by decide) ?_
          refine ev_seg (σ1 := (d, 160, 14, [some (.inr (.inr 86)), some (.inr (.inl x1)), none, some (.inr (.inl (w64 (Int.tdiv x3 10)))), none, some (.inr (.inl (w64 (Int.tdiv x5 10)))), none, some (.inl 0), some (.inl 0)], [], (am_sh, am_mm (am_upd (am_upd U 86 77 (w32 ((U 86 77) + 0))) 86 78 0)))) 2 (fun _ => rfl) ?_
          exact h1112
      · have h112 := h11.2 hc
        refine ev_br (P := (w32 (x8 + 1)) ≤ ((am_upd U 86 77 (w32 ((U 86 77) + 0))) 86 78)) (σ1 := (d, 160, 97, [some (.inr (.inr 86)), some (.inr (.inl x1)), none, some (.inr (.inl x3)), none, some (.inr (.inl x5)), none, some (.inl 0), some (.inl (w32 (x8 + 1)))], [.inr (.inr 86)], (am_sh, am_mm (am_upd U 86 77 (w32 ((U 86 77) + 0)))))) (σ2 := (d, 160, 92, [some (.inr (.inr 86)), some (.inr (.inl x1)), none, some (.inr (.inl x3)), none, some (.inr (.inl x5)), none, some (.inl 0), some (.inl (w32 (x8 + 1)))], [.inr (.inr 86)], (am_sh, am_mm (am_upd U 86 77 (w32 ((U 86 77) + 0)))))) 10 (fun _ => rfl) (fun hc => ?_) (fun hc => ?_)
        · have h1121 := h112.1 hc
          refine ev_seg (σ1 := (d, 160, 101, [some (.inr (.inr 86)), some (.inr (.inl x1)), none, some (.inr (.inl x3)), none, some (.inr (.inl x5)), none, some (.inl 0), some (.inl (w32 (x8 + 1)))], [.inl ((am_upd U 86 77 (w32 ((U 86 77) + 0))) 86 78), .inr (.inr 86)], (am_sh, am_mm (am_upd U 86 77 (w32 ((U 86 77) + 0)))))) 2 (fun _ => rfl) ?_
          refine eu_puti 86 (n := 90) rfl (by decide) rfl rfl ?_
          refine ev_seg (σ1 := (d, 160, 108, [some (.inr (.inr 86)), some (.inr (.inl x1)), none, some (.inr (.inl x3)), none, some (.inr (.inl x5)), none, some (.inl 0), some (.inl (w32 (x8 + 1)))], [.inr (.inl 10), .inr (.inl x3)], (am_sh, am_mm (am_upd (am_upd U 86 77 (w32 ((U 86 77) + 0))) 86 78 ((am_upd U 86 77 (w32 ((U 86 77) + 0))) 86 78))))) 2 (fun _ => rfl) ?_
          refine ev_ldiv rfl (by decide) ?_
          refine ev_seg (σ1 := (d, 160, 115, [some (.inr (.inr 86)), some (.inr (.inl x1)), none, some (.inr (.inl (w64 (Int.tdiv x3 10)))), none, some (.inr (.inl x5)), none, some (.inl 0), some (.inl (w32 (x8 + 1)))], [.inr (.inl 10), .inr (.inl x5)], (am_sh, am_mm (am_upd (am_upd U 86 77 (w32 ((U 86 77) + 0))) 86 78 ((am_upd U 86 77 (w32 ((U 86 77) + 0))) 86 78))))) 3 (fun _ => rfl) ?_
          refine ev_ldiv rfl (by decide) ?_
          refine ev_seg (σ1 := (d, 160, 14, [some (.inr (.inr 86)), some (.inr (.inl x1)), none, some (.inr (.inl (w64 (Int.tdiv x3 10)))), none, some (.inr (.inl (w64 (Int.tdiv x5 10)))), none, some (.inl 0), some (.inl (w32 (x8 + 1)))], [], (am_sh, am_mm (am_upd (am_upd U 86 77 (w32 ((U 86 77) + 0))) 86 78 ((am_upd U 86 77 (w32 ((U 86 77) + 0))) 86 78))))) 2 (fun _ => rfl) ?_
          exact h1121
        · have h1122 := h112.2 hc
          refine ev_seg (σ1 := (d, 160, 101, [some (.inr (.inr 86)), some (.inr (.inl x1)), none, some (.inr (.inl x3)), none, some (.inr (.inl x5)), none, some (.inl 0), some (.inl (w32 (x8 + 1)))], [.inl (w32 (x8 + 1)), .inr (.inr 86)], (am_sh, am_mm (am_upd U 86 77 (w32 ((U 86 77) + 0)))))) 2 (fun _ => rfl) ?_
          refine eu_puti 86 (n := 90) rfl (by decide) rfl rfl ?_
          refine ev_seg (σ1 := (d, 160, 108, [some (.inr (.inr 86)), some (.inr (.inl x1)), none, some (.inr (.inl x3)), none, some (.inr (.inl x5)), none, some (.inl 0), some (.inl (w32 (x8 + 1)))], [.inr (.inl 10), .inr (.inl x3)], (am_sh, am_mm (am_upd (am_upd U 86 77 (w32 ((U 86 77) + 0))) 86 78 (w32 (x8 + 1)))))) 2 (fun _ => rfl) ?_
          refine ev_ldiv rfl (by decide) ?_
          refine ev_seg (σ1 := (d, 160, 115, [some (.inr (.inr 86)), some (.inr (.inl x1)), none, some (.inr (.inl (w64 (Int.tdiv x3 10)))), none, some (.inr (.inl x5)), none, some (.inl 0), some (.inl (w32 (x8 + 1)))], [.inr (.inl 10), .inr (.inl x5)], (am_sh, am_mm (am_upd (am_upd U 86 77 (w32 ((U 86 77) + 0))) 86 78 (w32 (x8 + 1)))))) 3 (fun _ => rfl) ?_
          refine ev_ldiv rfl (by decide) ?_
          refine ev_seg (σ1 := (d, 160, 14, [some (.inr (.inr 86)), some (.inr (.inl x1)), none, some (.inr (.inl (w64 (Int.tdiv x3 10)))), none, some (.inr (.inl (w64 (Int.tdiv x5 10)))), none, some (.inl 0), some (.inl (w32 (x8 + 1)))], [], (am_sh, am_mm (am_upd (am_upd U 86 77 (w32 ((U 86 77) + 0))) 86 78 (w32 (x8 + 1)))))) 2 (fun _ => rfl) ?_
          exact h1122
    · have h12 := h1.2 hc
      refine ev_seg (σ1 := (d, 160, 63, [some (.inr (.inr 86)), some (.inr (.inl x1)), none, some (.inr (.inl x3)), none, some (.inr (.inl x5)), none, some (.inl 1), some (.inl x8)], [.inl (w32 ((U 86 77) + 1)), .inr (.inr 86)], (am_sh, am_mm U))) 8 (fun _ => rfl) ?_
      refine eu_puti 86 (n := 90) rfl (by decide) rfl rfl ?_
      refine ev_br (P := ¬ 1 = 1) (σ1 := (d, 160, 79, [some (.inr (.inr 86)), some (.inr (.inl x1)), none, some (.inr (.inl x3)), none, some (.inr (.inl x5)), none, some (.inl 1), some (.inl x8)], [], (am_sh, am_mm (am_upd U 86 77 (w32 ((U 86 77) + 1)))))) (σ2 := (d, 160, 72, [some (.inr (.inr 86)), some (.inr (.inl x1)), none, some (.inr (.inl x3)), none, some (.inr (.inl x5)), none, some (.inl 1), some (.inl x8)], [], (am_sh, am_mm (am_upd U 86 77 (w32 ((U 86 77) + 1)))))) 3 (fun _ => rfl) (fun hc => ?_) (fun hc => ?_)
      · have h121 := h12.1 hc
        refine ev_br (P := 0 ≤ ((am_upd U 86 77 (w32 ((U 86 77) + 1))) 86 78)) (σ1 := (d, 160, 97, [some (.inr (.inr 86)), some (.inr (.inl x1)), none, some (.inr (.inl x3)), none, some (.inr (.inl x5)), none, some (.inl 1), some (.inl 0)], [.inr (.inr 86)], (am_sh, am_mm (am_upd U 86 77 (w32 ((U 86 77) + 1)))))) (σ2 := (d, 160, 92, [some (.inr (.inr 86)), some (.inr (.inl x1)), none, some (.inr (.inl x3)), none, some (.inr (.inl x5)), none, some (.inl 1), some (.inl 0)], [.inr (.inr 86)], (am_sh, am_mm (am_upd U 86 77 (w32 ((U 86 77) + 1)))))) 7 (fun _ => rfl) (fun hc => ?_) (fun hc => ?_)
        · have h1211 := h121.1 hc
          refine ev_seg (σ1 := (d, 160, 101, [some (.inr (.inr 86)), some (.inr (.inl x1)), none, some (.inr (.inl x3)), none, some (.inr (.inl x5)), none, some (.inl 1), some (.inl 0)], [.inl ((am_upd U 86 77 (w32 ((U 86 77) + 1))) 86 78), .inr (.inr 86)], (am_sh, am_mm (am_upd U 86 77 (w32 ((U 86 77) + 1)))))) 2 (fun _ => rfl) ?_
          refine eu_puti 86 (n := 90) rfl (by decide) rfl rfl ?_
          refine ev_seg (σ1 := (d, 160, 108, [some (.inr (.inr 86)), some (.inr (.inl x1)), none, some (.inr (.inl x3)), none, some (.inr (.inl x5)), none, some (.inl 1), some (.inl 0)], [.inr (.inl 10), .inr (.inl x3)], (am_sh, am_mm (am_upd (am_upd U 86 77 (w32 ((U 86 77) + 1))) 86 78 ((am_upd U 86 77 (w32 ((U 86 77) + 1))) 86 78))))) 2 (fun _ => rfl) ?_
          refine ev_ldiv rfl (by decide) ?_
          refine ev_seg (σ1 := (d, 160, 115, [some (.inr (.inr 86)), some (.inr (.inl x1)), none, some (.inr (.inl (w64 (Int.tdiv x3 10)))), none, some (.inr (.inl x5)), none, some (.inl 1), some (.inl 0)], [.inr (.inl 10), .inr (.inl x5)], (am_sh, am_mm (am_upd (am_upd U 86 77 (w32 ((U 86 77) + 1))) 86 78 ((am_upd U 86 77 (w32 ((U 86 77) + 1))) 86 78))))) 3 (fun _ => rfl) ?_
          refine ev_ldiv rfl (by decide) ?_
          refine ev_seg (σ1 := (d, 160, 14, [some (.inr (.inr 86)), some (.inr (.inl x1)), none, some (.inr (.inl (w64 (Int.tdiv x3 10)))), none, some (.inr (.inl (w64 (Int.tdiv x5 10)))), none, some (.inl 1), some (.inl 0)], [], (am_sh, am_mm (am_upd (am_upd U 86 77 (w32 ((U 86 77) + 1))) 86 78 ((am_upd U 86 77 (w32 ((U 86 77) + 1))) 86 78))))) 2 (fun _ => rfl) ?_
          exact h1211
        · have h1212 := h121.2 hc
          refine ev_seg (σ1 := (d, 160, 101, [some (.inr (.inr 86)), some (.inr (.inl x1)), none, some (.inr (.inl x3)), none, some (.inr (.inl x5)), none, some (.inl 1), some (.inl 0)], [.inl 0, .inr (.inr 86)], (am_sh, am_mm (am_upd U 86 77 (w32 ((U 86 77) + 1)))))) 2 (fun _ => rfl) ?_
          refine eu_puti 86 (n := 90) rfl (by decide) rfl rfl ?_
          refine ev_seg (σ1 := (d, 160, 108, [some (.inr (.inr 86)), some (.inr (.inl x1)), none, some (.inr (.inl x3)), none, some (.inr (.inl x5)), none, some (.inl 1), some (.inl 0)], [.inr (.inl 10), .inr (.inl x3)], (am_sh, am_mm (am_upd (am_upd U 86 77 (w32 ((U 86 77) + 1))) 86 78 0)))) 2 (fun _ => rfl) ?_
          refine ev_ldiv rfl (by decide) ?_
          refine ev_seg (σ1 := (d, 160, 115, [some (.inr (.inr 86)), some (.inr (.inl x1)), none, some (.inr (.inl (w64 (Int.tdiv x3 10)))), none, some (.inr (.inl x5)), none, some (.inl 1), some (.inl 0)], [.inr (.inl 10), .inr (.inl x5)], (am_sh, am_mm (am_upd (am_upd U 86 77 (w32 ((U 86 77) + 1))) 86 78 0)))) 3 (fun _ => rfl) ?_
          refine ev_ldiv rfl (by decide) ?_
          refine ev_seg (σ1 := (d, 160, 14, [some (.inr (.inr 86)), some (.inr (.inl x1)), none, some (.inr (.inl (w64 (Int.tdiv x3 10)))), none, some (.inr (.inl (w64 (Int.tdiv x5 10)))), none, some (.inl 1), some (.inl 0)], [], (am_sh, am_mm (am_upd (am_upd U 86 77 (w32 ((U 86 77) + 1))) 86 78 0)))) 2 (fun _ => rfl) ?_
          exact h1212
      · have h122 := h12.2 hc
        refine ev_br (P := (w32 (x8 + 1)) ≤ ((am_upd U 86 77 (w32 ((U 86 77) + 1))) 86 78)) (σ1 := (d, 160, 97, [some (.inr (.inr 86)), some (.inr (.inl x1)), none, some (.inr (.inl x3)), none, some (.inr (.inl x5)), none, some (.inl 1), some (.inl (w32 (x8 + 1)))], [.inr (.inr 86)], (am_sh, am_mm (am_upd U 86 77 (w32 ((U 86 77) + 1)))))) (σ2 := (d, 160, 92, [some (.inr (.inr 86)), some (.inr (.inl x1)), none, some (.inr (.inl x3)), none, some (.inr (.inl x5)), none, some (.inl 1), some (.inl (w32 (x8 + 1)))], [.inr (.inr 86)], (am_sh, am_mm (am_upd U 86 77 (w32 ((U 86 77) + 1)))))) 10 (fun _ => rfl) (fun hc => ?_) (fun hc => ?_)
        · have h1221 := h122.1 hc
          refine ev_seg (σ1 := (d, 160, 101, [some (.inr (.inr 86)), some (.inr (.inl x1)), none, some (.inr (.inl x3)), none, some (.inr (.inl x5)), none, some (.inl 1), some (.inl (w32 (x8 + 1)))], [.inl ((am_upd U 86 77 (w32 ((U 86 77) + 1))) 86 78), .inr (.inr 86)], (am_sh, am_mm (am_upd U 86 77 (w32 ((U 86 77) + 1)))))) 2 (fun _ => rfl) ?_
          refine eu_puti 86 (n := 90) rfl (by decide) rfl rfl ?_
          refine ev_seg (σ1 := (d, 160, 108, [some (.inr (.inr 86)), some (.inr (.inl x1)), none, some (.inr (.inl x3)), none, some (.inr (.inl x5)), none, some (.inl 1), some (.inl (w32 (x8 + 1)))], [.inr (.inl 10), .inr (.inl x3)], (am_sh, am_mm (am_upd (am_upd U 86 77 (w32 ((U 86 77) + 1))) 86 78 ((am_upd U 86 77 (w32 ((U 86 77) + 1))) 86 78))))) 2 (fun _ => rfl) ?_
          refine ev_ldiv rfl (by decide) ?_
          refine ev_seg (σ1 := (d, 160, 115, [some (.inr (.inr 86)), some (.inr (.inl x1)), none, some (.inr (.inl (w64 (Int.tdiv x3 10)))), none, some (.inr (.inl x5)), none, some (.inl 1), some (.inl (w32 (x8 + 1)))], [.inr (.inl 10), .inr (.inl x5)], (am_sh, am_mm (am_upd (am_upd U 86 77 (w32 ((U 86 77) + 1))) 86 78 ((am_upd U 86 77 (w32 ((U 86 77) + 1))) 86 78))))) 3 (fun _ => rfl) ?_
          refine ev_ldiv rfl (by decide) ?_
          refine ev_seg (σ1 := (d, 160, 14, [some (.inr (.inr 86)), some (.inr (.inl x1)), none, some (.inr (.inl (w64 (Int.tdiv x3 10)))), none, some (.inr (.inl (w64 (Int.tdiv x5 10)))), none, some (.inl 1), some (.inl (w32 (x8 + 1)))], [], (am_sh, am_mm (am_upd (am_upd U 86 77 (w32 ((U 86 77) + 1))) 86 78 ((am_upd U 86 77 (w32 ((U 86 77) + 1))) 86 78))))) 2 (fun _ => rfl) ?_
          exact h1221
        · have h1222 := h122.2 hc
          refine ev_seg (σ1 := (d, 160, 101, [some (.inr (.inr 86)), some (.inr (.inl x1)), none, some (.inr (.inl x3)), none, some (.inr (.inl x5)), none, some (.inl 1), some (.inl (w32 (x8 + 1)))], [.inl (w32 (x8 + 1)), .inr (.inr 86)], (am_sh, am_mm (am_upd U 86 77 (w32 ((U 86 77) + 1)))))) 2 (fun _ => rfl) ?_
          refine eu_puti 86 (n := 90) rfl (by decide) rfl rfl ?_
          refine ev_seg (σ1 := (d, 160, 108, [some (.inr (.inr 86)), some (.inr (.inl x1)), none, some (.inr (.inl x3)), none, some (.inr (.inl x5)), none, some (.inl 1), some (.inl (w32 (x8 + 1)))], [.inr (.inl 10), .inr (.inl x3)], (am_sh, am_mm (am_upd (am_upd U 86 77 (w32 ((U 86 77) + 1))) 86 78 (w32 (x8 + 1)))))) 2 (fun _ => rfl) ?_
          refine ev_ldiv rfl (by decide) ?_
          refine ev_seg (σ1 := (d, 160, 115, [some (.inr (.inr 86)), some (.inr (.inl x1)), none, some (.inr (.inl (w64 (Int.tdiv x3 10)))), none, some (.inr (.inl x5)), none, some (.inl 1), some (.inl (w32 (x8 + 1)))], [.inr (.inl 10), .inr (.inl x5)], (am_sh, am_mm (am_upd (am_upd U 86 77 (w32 ((U 86 77) + 1))) 86 78 (w32 (x8 + 1)))))) 3 (fun _ => rfl) ?_
          refine ev_ldiv rfl (by decide) ?_
          refine ev_seg (σ1 := (d, 160, 14, [some (.inr (.inr 86)), some (.inr (.inl x1)), none, some (.inr (.inl (w64 (Int.tdiv x3 10)))), none, some (.inr (.inl (w64 (Int.tdiv x5 10)))), none, some (.inl 1), some (.inl (w32 (x8 + 1)))], [], (am_sh, am_mm (am_upd (am_upd U 86 77 (w32 ((U 86 77) + 1))) 86 78 (w32 (x8 + 1)))))) 2 (fun _ => rfl) ?_
          exact h1222
  · have h2 := h.2 hc
    refine ev_br (P := (am_lcmp x5 0) ≤ 0) (σ1 := (d, 160, 121, [some (.inr (.inr 86)), some (.inr (.inl x1)), none, some (.inr (.inl x3)), none, some (.inr (.inl x5)), none, some (.inl x7), some (.inl x8)], [], (am_sh, am_mm U))) (σ2 := (d, 160, 27, [some (.inr (.inr 86)), some (.inr (.inl x1)), none, some (.inr (.inl x3)), none, some (.inr (.inl x5)), none, some (.inl x7), some (.inl x8)], [], (am_sh, am_mm U))) 4 (fun _ => rfl) (fun hc => ?_) (fun hc => ?_)
    · have h21 := h2.1 hc
      refine ev_seg (σ1 := (d, 160, 128, [some (.inr (.inr 86)), some (.inr (.inl x1)), none, some (.inr (.inl x3)), none, some (.inr (.inl x5)), none, some (.inl x7), some (.inl x8)], [.inr (.inl (w64 ((U 86 76) + x1))), .inr (.inr 86)], (am_sh, am_mm U))) 5 (fun _ => rfl) ?_
      refine eu_putj 86 (n := 90) rfl (by decide) rfl rfl ?_
      subst h21
      exact ev_end 1 (fun _ => rfl)
    · have h22 := h2.2 hc
      refine ev_seg (σ1 := (d, 160, 31, [some (.inr (.inr 86)), some (.inr (.inl x1)), none, some (.inr (.inl x3)), none, some (.inr (.inl x5)), none, some (.inl x7), some (.inl x8)], [.inr (.inl 10), .inr (.inl x3)], (am_sh, am_mm U))) 2 (fun _ => rfl) ?_
      refine ev_lrem rfl (by decide) ?_
      refine ev_seg (σ1 := (d, 160, 37, [some (.inr (.inr 86)), some (.inr (.inl x1)), none, some (.inr (.inl x3)), none, some (.inr (.inl x5)), none, some (.inl x7), some (.inl x8)], [.inr (.inl 10), .inr (.inl x5), .inr (.inl (Int.tmod x3 10))], (am_sh, am_mm U))) 2 (fun _ => rfl) ?_
      refine ev_lrem rfl (by decide) ?_
      refine ev_br (P := (w32 ((w32 (w64 ((Int.tmod x3 10) + (Int.tmod x5 10)))) + x7)) ≤ 9) (σ1 := (d, 160, 52, [some (.inr (.inr 86)), some (.inr (.inl x1)), none, some (.inr (.inl x3)), none, some (.inr (.inl x5)), none, some (.inl x7), some (.inl x8)], [], (am_sh, am_mm U))) (σ2 := (d, 160, 48, [some (.inr (.inr 86)), some (.inr (.inl x1)), none, some (.inr (.inl x3)), none, some (.inr (.inl x5)), none, some (.inl x7), some (.inl x8)], [], (am_sh, am_mm U))) 6 (fun _ => rfl) (fun hc => ?_) (fun hc => ?_)
      · have h221 := h22.1 hc
        refine ev_seg (σ1 := (d, 160, 63, [some (.inr (.inr 86)), some (.inr (.inl x1)), none, some (.inr (.inl x3)), none, some (.inr (.inl x5)), none, some (.inl 0), some (.inl x8)], [.inl (w32 ((U 86 77) + 0)), .inr (.inr 86)], (am_sh, am_mm U))) 7 (fun _ => rfl) ?_
        refine eu_puti 86 (n := 90) rfl (by decide) rfl rfl ?_
        refine ev_br (P := ¬ 0 = 1) (σ1 := (d, 160, 79, [some (.inr (.inr 86)), some (.inr (.inl x1)), none, some (.inr (.inl x3)), none, some (.inr (.inl x5)), none, some (.inl 0), some (.inl x8)], [], (am_sh, am_mm (am_upd U 86 77 (w32 ((U 86 77) + 0)))))) (σ2 := (d, 160, 72, [some (.inr (.inr 86)), some (.inr (.inl x1)), none, some (.inr (.inl x3)), none, some (.inr (.inl x5)), none, some (.inl 0), some (.inl x8)], [], (am_sh, am_mm (am_upd U 86 77 (w32 ((U 86 77) + 0)))))) 3 (fun _ => rfl) (fun hc => ?_) (fun hc => ?_)
        · have h2211 := h221.1 hc
          refine ev_br (P := 0 ≤ ((am_upd U 86 77 (w32 ((U 86 77) + 0))) 86 78)) (σ1 := (d, 160, 97, [some (.inr (.inr 86)), some (.inr (.inl x1)), none, some (.inr (.inl x3)), none, some (.inr (.inl x5)), none, some (.inl 0), some (.inl 0)], [.inr (.inr 86)], (am_sh, am_mm (am_upd U 86 77 (w32 ((U 86 77) + 0)))))) (σ2 := (d, 160, 92, [some (.inr (.inr 86)), some (.inr (.inl x1)), none, some (.inr (.inl x3)), none, some (.inr (.inl x5)), none, some (.inl 0), some (.inl 0)], [.inr (.inr 86)], (am_sh, am_mm (am_upd U 86 77 (w32 ((U 86 77) + 0)))))) 7 (fun _ => rfl) (fun hc => ?_) (fun hc => ?_)
          · have h22111 := h2211.1 hc
            refine ev_seg (σ1 := (d, 160, 101, [some (.inr (.inr 86)), some (.inr (.inl x1)), none, some (.inr (.inl x3)), none, some (.inr (.inl x5)), none, some (.inl 0), some (.inl 0)], [.inl ((am_upd U 86 77 (w32 ((U 86 77) + 0))) 86 78), .inr (.inr 86)], (am_sh, am_mm (am_upd U 86 77 (w32 ((U 86 77) + 0)))))) 2 (fun _ => rfl) ?_
            refine eu_puti 86 (n := 90) rfl (by decide) rfl rfl ?_
            refine ev_seg (σ1 := (d, 160, 108, [some (.inr (.inr 86)), some (.inr (.inl x1)), none, some (.inr (.inl x3)), none, some (.inr (.inl x5)), none, some (.inl 0), some (.inl 0)], [.inr (.inl 10), .inr (.inl x3)], (am_sh, am_mm (am_upd (am_upd U 86 77 (w32 ((U 86 77) + 0))) 86 78 ((am_upd U 86 77 (w32 ((U 86 77) + 0))) 86 78))))) 2 (fun _ => rfl) ?_
            refine ev_ldiv rfl (by decide) ?_
            refine ev_seg (σ1 := (d, 160, 115, [some (.inr (.inr 86)), some (.inr (.inl x1)), none, some (.inr (.inl (w64 (Int.tdiv x3 10)))), none, some (.inr (.inl x5)), none, some (.inl 0), some (.inl 0)], [.inr (.inl 10), .inr (.inl x5)], (am_sh, am_mm (am_upd (am_upd U 86 77 (w32 ((U 86 77) + 0))) 86 78 ((am_upd U 86 77 (w32 ((U 86 77) + 0))) 86 78))))) 3 (fun _ => rfl) ?_
            refine ev_ldiv rfl (by decide) ?_
            refine ev_seg (σ1 := (d, 160, 14, [some (.inr (.inr 86)), some (.inr (.inl x1)), none, some (.inr (.inl (w64 (Int.tdiv x3 10)))), none, some (.inr (.inl (w64 (Int.tdiv x5 10)))), none, some (.inl 0), some (.inl 0)], [], (am_sh, am_mm (am_upd (am_upd U 86 77 (w32 ((U 86 77) + 0))) 86 78 ((am_upd U 86 77 (w32 ((U 86 77) + 0))) 86 78))))) 2 (fun _ => rfl) ?_
            exact h22111
          · have h22112 := h2211.2 hc
            refine ev_seg (σ1 := (d, 160, 101, [some (.inr (.inr 86)), some (.inr (.inl x1)), none, some (.inr (.inl x3)), none, some (.inr (.inl x5)), none, some (.inl 0), some (.inl 0)], [.inl 0, .inr (.inr 86)], (am_sh, am_mm (am_upd U 86 77 (w32 ((U 86 77) + 0)))))) 2 (fun _ => rfl) ?_
            refine eu_puti 86 (n := 90) rfl (by decide) rfl rfl ?_
            refine ev_seg (σ1 := (d, 160, 108, [some (.inr (.inr 86)), some (.inr (.inl x1)), none, some (.inr (.inl x3)), none, some (.inr (.inl x5)), none, some (.inl 0), some (.inl 0)], [.inr (.inl 10), .inr (.inl x3)], (am_sh, am_mm (am_upd (am_upd U 86 77 (w32 ((U 86 77) + 0))) 86 78 0)))) 2 (fun _ => rfl) ?_
            refine ev_ldiv rfl (by decide) ?_
            refine ev_seg (σ1 := (d, 160, 115, [some (.inr (.inr 86)), some (.inr (.inl x1)), none, some (.inr (.inl (w64 (Int.tdiv x3 10)))), none, some (.inr (.inl x5)), none, some (.inl 0), some (.inl 0)], [.inr (.inl 10), .inr (.inl x5)], (am_sh, am_mm (am_upd (am_upd U 86 77 (w32 ((U 86 77) + 0))) 86 78 0)))) 3 (fun _ => rfl) ?_
            refine ev_ldiv rfl (by decide) ?_
            refine ev_seg (σ1 := (d, 160, 14, [some (.inr (.inr 86)), some (.inr (.inl x1)), none, some (.inr (.inl (w64 (Int.tdiv x3 10)))), none, some (.inr (.inl (w64 (Int.tdiv x5 10)))), none, some (.inl 0), some (.inl 0)], [], (am_sh, am_mm (am_upd (am_upd U 86 77 (w32 ((U 86 77) + 0))) 86 78 0)))) 2 (fun _ => rfl) ?_
            exact h22112
        · have h2212 := h221.2 hc
          refine ev_br (P := (w32 (x8 + 1)) ≤ ((am_upd U 86 77 (w32 ((U 86 77) + 0))) 86 78)) (σ1 := (d, 160, 97, [some (.inr (.inr 86)), some (.inr (.inl x1)), none, some (.inr (.inl x3)), none, some (.inr (.inl x5)), none, some (.inl 0), some (.inl (w32 (x8 + 1)))], [.inr (.inr 86)], (am_sh, am_mm (am_upd U 86 77 (w32 ((U 86 77) + 0)))))) (σ2 := (d, 160, 92, [some (.inr (.inr 86)), some (.inr (.inl x1)), none, some (.inr (.inl x3)), none, some (.inr (.inl x5)), none, some (.inl 0), some (.inl (w32 (x8 + 1)))], [.inr (.inr 86)], (am_sh, am_mm (am_upd U 86 77 (w32 ((U 86 77) + 0)))))) 10 (fun _ => rfl) (fun hc => ?_) (fun hc => ?_)
          · have h22121 := h2212.1 hc
            refine ev_seg (σ1 := (d, 160, 101, [some (.inr (.inr 86)), some (.inr (.inl x1)), none, some (.inr (.inl x3)), none, some (.inr (.inl x5)), none, some (.inl 0), some (.inl (w32 (x8 + 1)))], [.inl ((am_upd U 86 77 (w32 ((U 86 77) + 0))) 86 78), .inr (.inr 86)], (am_sh, am_mm (am_upd U 86 77 (w32 ((U 86 77) + 0)))))) 2 (fun _ => rfl) ?_
            refine eu_puti 86 (n := 90) rfl (by decide) rfl rfl ?_
            refine ev_seg (σ1 := (d, 160, 108, [some (.inr (.inr 86)), some (.inr (.inl x1)), none, some (.inr (.inl x3)), none, some (.inr (.inl x5)), none, some (.inl 0), some (.inl (w32 (x8 + 1)))], [.inr (.inl 10), .inr (.inl x3)], (am_sh, am_mm (am_upd (am_upd U 86 77 (w32 ((U 86 77) + 0))) 86 78 ((am_upd U 86 77 (w32 ((U 86 77) + 0))) 86 78))))) 2 (fun _ => rfl) ?_
            refine ev_ldiv rfl (by decide) ?_
            refine ev_seg (σ1 := (d, 160, 115, [some (.inr (.inr 86)), some (.inr (.inl x1)), none, some (.inr (.inl (w64 (Int.tdiv x3 10)))), none, some (.inr (.inl x5)), none, some (.inl 0), some (.inl (w32 (x8 + 1)))], [.inr (.inl 10), .inr (.inl x5)], (am_sh, am_mm (am_upd (am_upd U 86 77 (w32 ((U 86 77) + 0))) 86 78 ((am_upd U 86 77 (w32 ((U 86 77) + 0))) 86 78))))) 3 (fun _ => rfl) ?_
            refine ev_ldiv rfl (by decide) ?_
            refine ev_seg (σ1 := (d, 160, 14, [some (.inr (.inr 86)), some (.inr (.inl x1)), none, some (.inr (.inl (w64 (Int.tdiv x3 10)))), none, some (.inr (.inl (w64 (Int.tdiv x5 10)))), none, some (.inl 0), some (.inl (w32 (x8 + 1)))], [], (am_sh, am_mm (am_upd (am_upd U 86 77 (w32 ((U 86 77) + 0))) 86 78 ((am_upd U 86 77 (w32 ((U 86 77) + 0))) 86 78))))) 2 (fun _ => rfl) ?_
            exact h22121
          · have h22122 := h2212.2 hc
            refine ev_seg (σ1 := (d, 160, 101, [some (.inr (.inr 86)), some (.inr (.inl x1)), none, some (.inr (.inl x3)), none, some (.inr (.inl x5)), none, some (.inl 0), some (.inl (w32 (x8 + 1)))], [.inl (w32 (x8 + 1)), .inr (.inr 86)], (am_sh, am_mm (am_upd U 86 77 (w32 ((U 86 77) + 0)))))) 2 (fun _ => rfl) ?_
            refine eu_puti 86 (n := 90) rfl (by decide) rfl rfl ?_
            refine ev_seg (σ1 := (d, 160, 108, [some (.inr (.inr 86)), some (.inr (.inl x1)), none, some (.inr (.inl x3)), none, some (.inr (.inl x5)), none, some (.inl 0), some (.inl (w32 (x8 + 1)))], [.inr (.inl 10), .inr (.inl x3)], (am_sh, am_mm (am_upd (am_upd U 86 77 (w32 ((U 86 77) + 0))) 86 78 (w32 (x8 + 1)))))) 2 (fun _ => rfl) ?_
            refine ev_ldiv rfl (by decide) ?_
            refine ev_seg (σ1 := (d, 160, 115, [some (.inr (.inr 86)), some (.inr (.inl x1)), none, some (.inr (.inl (w64 (Int.tdiv x3 10)))), none, some (.inr (.inl x5)), none, some (.inl 0), some (.inl (w32 (x8 + 1)))], [.inr (.inl 10), .inr (.inl x5)], (am_sh, am_mm (am_upd (am_upd U 86 77 (w32 ((U 86 77) + 0))) 86 78 (w32 (x8 + 1)))))) 3 (fun _ => rfl) ?_
            refine ev_ldiv rfl (by decide) ?_
            refine ev_seg (σ1 := (d, 160, 14, [some (.inr (.inr 86)), some (.inr (.inl x1)), none, some (.inr (.inl (w64 (Int.tdiv x3 10)))), none, some (.inr (.inl (w64 (Int.tdiv x5 10)))), none, some (.inl 0), some (.inl (w32 (x8 + 1)))], [], (am_sh, am_mm (am_upd (am_upd U 86 77 (w32 ((U 86 77) + 0))) 86 78 (w32 (x8 + 1)))))) 2 (fun _ => rfl) ?_
            exact h22122
      · have h222 := h22.2 hc
        refine ev_seg (σ1 := (d, 160, 63, [some (.inr (.inr 86)), some (.inr (.inl x1)), none, some (.inr (.inl x3)), none, some (.inr (.inl x5)), none, some (.inl 1), some (.inl x8)], [.inl (w32 ((U 86 77) + 1)), .inr (.inr 86)], (am_sh, am_mm U))) 8 (fun _ => rfl) ?_
        refine eu_puti 86 (n := 90) rfl (by decide) rfl rfl ?_
        refine ev_br (P := ¬ 1 = 1) (σ1 := (d, 160, 79, [some (.inr (.inr 86)), some (.inr (.inl x1)), none, some (.inr (.inl x3)), none, some (.inr (.inl x5)), none, some (.inl 1), some (.inl x8)], [], (am_sh, am_mm (am_upd U 86 77 (w32 ((U 86 77) + 1)))))) (σ2 := (d, 160, 72, [some (.inr (.inr 86)), some (.inr (.inl x1)), none, some (.inr (.inl x3)), none, some (.inr (.inl x5)), none, some (.inl 1), some (.inl x8)], [], (am_sh, am_mm (am_upd U 86 77 (w32 ((U 86 77) + 1)))))) 3 (fun _ => rfl) (fun hc => ?_) (fun hc => ?_)
        · have h2221 := h222.1 hc
          refine ev_br (P := 0 ≤ ((am_upd U 86 77 (w32 ((U 86 77) + 1))) 86 78)) (σ1 := (d, 160, 97, [some (.inr (.inr 86)), some (.inr (.inl x1)), none, some (.inr (.inl x3)), none, some (.inr (.inl x5)), none, some (.inl 1), some (.inl 0)], [.inr (.inr 86)], (am_sh, am_mm (am_upd U 86 77 (w32 ((U 86 77) + 1)))))) (σ2 := (d, 160, 92, [some (.inr (.inr 86)), some (.inr (.inl x1)), none, some (.inr (.inl x3)), none, some (.inr (.inl x5)), none, some (.inl 1), some (.inl 0)], [.inr (.inr 86)], (am_sh, am_mm (am_upd U 86 77 (w32 ((U 86 77) + 1)))))) 7 (fun _ => rfl) (fun hc => ?_) (fun hc => ?_)
          · have h22211 := h2221.1 hc
            refine ev_seg (σ1 := (d, 160, 101, [some (.inr (.inr 86)), some (.inr (.inl x1)), none, some (.inr (.inl x3)), none, some (.inr (.inl x5)), none, some (.inl 1), some (.inl 0)], [.inl ((am_upd U 86 77 (w32 ((U 86 77) + 1))) 86 78), .inr (.inr 86)], (am_sh, am_mm (am_upd U 86 77 (w32 ((U 86 77) + 1)))))) 2 (fun _ => rfl) ?_
            refine eu_puti 86 (n := 90) rfl (by decide) rfl rfl ?_
            refine ev_seg (σ1 := (d, 160, 108, [some (.inr (.inr 86)), some (.inr (.inl x1)), none, some (.inr (.inl x3)), none, some (.inr (.inl x5)), none, some (.inl 1), some (.inl 0)], [.inr (.inl 10), .inr (.inl x3)], (am_sh, am_mm (am_upd (am_upd U 86 77 (w32 ((U 86 77) + 1))) 86 78 ((am_upd U 86 77 (w32 ((U 86 77) + 1))) 86 78))))) 2 (fun _ => rfl) ?_
            refine ev_ldiv rfl (by decide) ?_
            refine ev_seg (σ1 := (d, 160, 115, [some (.inr (.inr 86)), some (.inr (.inl x1)), none, some (.inr (.inl (w64 (Int.tdiv x3 10)))), none, some (.inr (.inl x5)), none, some (.inl 1), some (.inl 0)], [.inr (.inl 10), .inr (.inl x5)], (am_sh, am_mm (am_upd (am_upd U 86 77 (w32 ((U 86 77) + 1))) 86 78 ((am_upd U 86 77 (w32 ((U 86 77) + 1))) 86 78))))) 3 (fun _ => rfl) ?_
            refine ev_ldiv rfl (by decide) ?_
            refine ev_seg (σ1 := (d, 160, 14, [some (.inr (.inr 86)), some (.inr (.inl x1)), none, some (.inr (.inl (w64 (Int.tdiv x3 10)))), none, some (.inr (.inl (w64 (Int.tdiv x5 10)))), none, some (.inl 1), some (.inl 0)], [], (am_sh, am_mm (am_upd (am_upd U 86 77 (w32 ((U 86 77) + 1))) 86 78 ((am_upd U 86 77 (w32 ((U 86 77) + 1))) 86 78))))) 2 (fun _ => rfl) ?_
            exact h22211
          · have h22212 := h2221.2 hc
            refine ev_seg (σ1 := (d, 160, 101, [some (.inr (.inr 86)), some (.inr (.inl x1)), none, some (.inr (.inl x3)), none, some (.inr (.inl x5)), none, some (.inl 1), some (.inl 0)], [.inl 0, .inr (.inr 86)], (am_sh, am_mm (am_upd U 86 77 (w32 ((U 86 77) + 1)))))) 2 (fun _ => rfl) ?_
            refine eu_puti 86 (n := 90) rfl (by decide) rfl rfl ?_
            refine ev_seg (σ1 := (d, 160, 108, [some (.inr (.inr 86)), some (.inr (.inl x1)), none, some (.inr (.inl x3)), none, some (.inr (.inl x5)), none, some (.inl 1), some (.inl 0)], [.inr (.inl 10), .inr (.inl x3)], (am_sh, am_mm (am_upd (am_upd U 86 77 (w32 ((U 86 77) + 1))) 86 78 0)))) 2 (fun _ => rfl) ?_
            refine ev_ldiv rfl (by decide) ?_
            refine ev_seg (σ1 := (d, 160, 115, [some (.inr (.inr 86)), some (.inr (.inl x1)), none, some (.inr (.inl (w64 (Int.tdiv x3 10)))), none, some (.inr (.inl x5)), none, some (.inl 1), some (.inl 0)], [.inr (.inl 10), .inr (.inl x5)], (am_sh, am_mm (am_upd (am_upd U 86 77 (w32 ((U 86 77) + 1))) 86 78 0)))) 3 (fun _ => rfl) ?_
            refine ev_ldiv rfl (by decide) ?_
            refine ev_seg (σ1 := (d, 160, 14, [some (.inr (.inr 86)), some (.inr (.inl x1)), none, some (.inr (.inl (w64 (Int.tdiv x3 10)))), none, some (.inr (.inl (w64 (Int.tdiv x5 10)))), none, some (.inl 1), some (.inl 0)], [], (am_sh, am_mm (am_upd (am_upd U 86 77 (w32 ((U 86 77) + 1))) 86 78 0)))) 2 (fun _ => rfl) ?_
            exact h22212
        · have h2222 := h222.2 hc
          refine ev_br (P := (w32 (x8 + 1)) ≤ ((am_upd U 86 77 (w32 ((U 86 77) + 1))) 86 78)) (σ1 := (d, 160, 97, [some (.inr (.inr 86)), some (.inr (.inl x1)), none, some (.inr (.inl x3)), none, some (.inr (.inl x5)), none, some (.inl 1), some (.inl (w32 (x8 + 1)))], [.inr (.inr 86)], (am_sh, am_mm (am_upd U 86 77 (w32 ((U 86 77) + 1)))))) (σ2 := (d, 160, 92, [some (.inr (.inr 86)), some (.inr (.inl x1)), none, some (.inr (.inl x3)), none, some (.inr (.inl x5)), none, some (.inl 1), some (.inl (w32 (x8 + 1)))], [.inr (.inr 86)], (am_sh, am_mm (am_upd U 86 77 (w32 ((U 86 77) + 1)))))) 10 (fun _ => rfl) (fun hc => ?_) (fun hc => ?_)
          · have h22221 := h2222.1 hc
            refine ev_seg (σ1 := (d, 160, 101, [some (.inr (.inr 86)), some (.inr (.inl x1)), none, some (.inr (.inl x3)), none, some (.inr (.inl x5)), none, some (.inl 1), some (.inl (w32 (x8 + 1)))], [.inl ((am_upd U 86 77 (w32 ((U 86 77) + 1))) 86 78), .inr (.inr 86)], (am_sh, am_mm (am_upd U 86 77 (w32 ((U 86 77) + 1)))))) 2 (fun _ => rfl) ?_
            refine eu_puti 86 (n := 90) rfl (by decide) rfl rfl ?_
            refine ev_seg (σ1 := (d, 160, 108, [some (.inr (.inr 86)), some (.inr (.inl x1)), none, some (.inr (.inl x3)), none, some (.inr (.inl x5)), none, some (.inl 1), some (.inl (w32 (x8 + 1)))], [.inr (.inl 10), .inr (.inl x3)], (am_sh, am_mm (am_upd (am_upd U 86 77 (w32 ((U 86 77) + 1))) 86 78 ((am_upd U 86 77 (w32 ((U 86 77) + 1))) 86 78))))) 2 (fun _ => rfl) ?_
            refine ev_ldiv rfl (by decide) ?_
            refine ev_seg (σ1 := (d, 160, 115, [some (.inr (.inr 86)), some (.inr (.inl x1)), none, some (.inr (.inl (w64 (Int.tdiv x3 10)))), none, some (.inr (.inl x5)), none, some (.inl 1), some (.inl (w32 (x8 + 1)))], [.inr (.inl 10), .inr (.inl x5)], (am_sh, am_mm (am_upd (am_upd U 86 77 (w32 ((U 86 77) + 1))) 86 78 ((am_upd U 86 77 (w32 ((U 86 77) + 1))) 86 78))))) 3 (fun _ => rfl) ?_
            refine ev_ldiv rfl (by decide) ?_
            refine ev_seg (σ1 := (d, 160, 14, [some (.inr (.inr 86)), some (.inr (.inl x1)), none, some (.inr (.inl (w64 (Int.tdiv x3 10)))), none, some (.inr (.inl (w64 (Int.tdiv x5 10)))), none, some (.inl 1), some (.inl (w32 (x8 + 1)))], [], (am_sh, am_mm (am_upd (am_upd U 86 77 (w32 ((U 86 77) + 1))) 86 78 ((am_upd U 86 77 (w32 ((U 86 77) + 1))) 86 78))))) 2 (fun _ => rfl) ?_
            exact h22221
          · have h22222 := h2222.2 hc
            refine ev_seg (σ1 := (d, 160, 101, [some (.inr (.inr 86)), some (.inr (.inl x1)), none, some (.inr (.inl x3)), none, some (.inr (.inl x5)), none, some (.inl 1), some (.inl (w32 (x8 + 1)))], [.inl (w32 (x8 + 1)), .inr (.inr 86)], (am_sh, am_mm (am_upd U 86 77 (w32 ((U 86 77) + 1)))))) 2 (fun _ => rfl) ?_
            refine eu_puti 86 (n := 90) rfl (by decide) rfl rfl ?_
            refine ev_seg (σ1 := (d, 160, 108, [some (.inr (.inr 86)), some (.inr (.inl x1)), none, some (.inr (.inl x3)), none, some (.inr (.inl x5)), none, some (.inl 1), some (.inl (w32 (x8 + 1)))], [.inr (.inl 10), .inr (.inl x3)], (am_sh, am_mm (am_upd (am_upd U 86 77 (w32 ((U 86 77) + 1))) 86 78 (w32 (x8 + 1)))))) 2 (fun _ => rfl) ?_
            refine ev_ldiv rfl (by decide) ?_
            refine ev_seg (σ1 := (d, 160, 115, [some (.inr (.inr 86)), some (.inr (.inl x1)), none, some (.inr (.inl (w64 (Int.tdiv x3 10)))), none, some (.inr (.inl x5)), none, some (.inl 1), some (.inl (w32 (x8 + 1)))], [.inr (.inl 10), .inr (.inl x5)], (am_sh, am_mm (am_upd (am_upd U 86 77 (w32 ((U 86 77) + 1))) 86 78 (w32 (x8 + 1)))))) 3 (fun _ => rfl) ?_
            refine ev_ldiv rfl (by decide) ?_
            refine ev_seg (σ1 := (d, 160, 14, [some (.inr (.inr 86)), some (.inr (.inl x1)), none, some (.inr (.inl (w64 (Int.tdiv x3 10)))), none, some (.inr (.inl (w64 (Int.tdiv x5 10)))), none, some (.inl 1), some (.inl (w32 (x8 + 1)))], [], (am_sh, am_mm (am_upd (am_upd U 86 77 (w32 ((U 86 77) + 1))) 86 78 (w32 (x8 + 1)))))) 2 (fun _ => rfl) ?_
            exact h22222
set_option maxRecDepth 8000 in
theorem st161_82_0 (N : Nat) (X : Nat → Int) (d : Nat) (x1 : Int) (U : Nat → Nat → Int) (R : Option am_V × am_M) (h : Ev (am_kz N X) (d, 161, 10, [some (.inr (.inr 82)), some (.inl x1), some (.inl (U 82 1)), some (.inr (.inl 0)), none, some (.inl 0), none, none], [], (am_sh, am_mm U)) R) : Ev (am_kz N X) (d, 161, 0, [some (.inr (.inr 82)), some (.inl x1), none, none, none, none, none, none], [], (am_sh, am_mm U)) R := by
  refine ev_seg (σ1 := (d, 161, 10, [some (.inr (.inr 82)), some (.inl x1), some (.inl (U 82 1)), some (.inr (.inl 0)), none, some (.inl 0), none, none], [], (am_sh, am_mm U))) 7 (fun _ => rfl) ?_
  exact h
set_option maxRecDepth 8000 in
theorem st161_82_10 (N : Nat) (X : Nat → Int) (d : Nat) (x1 x2 x3 x5 : Int) (U : Nat → Nat → Int) (R : Option am_V × am_M) (h : (((64 ≤ x5 : Prop)) → R = (none, (am_sh, am_mm U))) ∧ (¬ (64 ≤ x5) → (((x5 < x2 : Prop)) → (0 ≤ x5 ∧ x5 < 64) ∧ (0 ≤ x5 ∧ x5 < 64) ∧ Ev (am_kz N X) (d, 161, 10, [some (.inr (.inr 82)), some (.inl x1), some (.inl x2), some (.inr (.inl (w64 (Int.tdiv (w64 ((w64 ((U 83 x5.toNat) * x1)) + x3)) 10)))), none, some (.inl (w32 (x5 + 1))), some (.inr (.inl (w64 ((w64 ((U 83 x5.toNat) * x1)) + x3)))), none], [], (am_sh, am_mm (am_upd (am_upd U 83 x5.toNat (w32 (Int.tmod (w64 ((w64 ((U 83 x5.toNat) * x1)) + x3)) 10))) 82 1 (w32 (x5 + 1))))) R) ∧ (¬ (x5 < x2) → ((((am_lcmp x3 0) ≤ 0 : Prop)) → R = (none, (am_sh, am_mm U))) ∧ (¬ ((am_lcmp x3 0) ≤ 0) → (0 ≤ x5 ∧ x5 < 64) ∧ (0 ≤ x5 ∧ x5 < 64) ∧ Ev (am_kz N X) (d, 161, 10, [some (.inr (.inr 82)), some (.inl x1), some (.inl x2), some (.inr (.inl (w64 (Int.tdiv (w64 ((w64 ((U 83 x5.toNat) * x1)) + x3)) 10)))), none, some (.inl (w32 (x5 + 1))), some (.inr (.inl (w64 ((w64 ((U 83 x5.toNat) * x1)) + x3)))), none], [], (am_sh, am_mm (am_upd (am_upd U 83 x5.toNat (w32 (Int.tmod (w64 ((w64 ((U 83 x5.toNat) * x1)) + x3)) 10))) 82 1 (w32 (x5 + 1))))) R)))) : Ev (am_kz N X) (d, 161, 10, [some (.inr (.inr 82)), some (.inl x1), some (.inl x2), some (.inr (.inl x3)), none, some (.inl x5), none, none], [], (am_sh, am_mm U)) R := by
  refine ev_br (P := 64 ≤ x5) (σ1 := (d, 161, 79, [some (.inr (.inr 82)), some (.inl x1), some (.inl x2), some (.inr (.inl x3)), none, some (.inl x5), none, none], [], (am_sh, am_mm U))) (σ2 := (d, 161, 17, [some (.inr (.inr 82)), some (.inl x1), some (.inl x2), some (.inr (.inl x3)), none, some (.inl x5), none, none], [], (am_sh, am_mm U))) 3 (fun _ => rfl) (fun hc => ?_) (fun hc => ?_)
  · have h1 := h.1 hc
    subst h1
    exact ev_end 1 (fun _ => rfl)
  · have h2 := h.2 hc
    refine ev_br (P := x5 < x2) (σ1 := (d, 161, 29, [some (.inr (.inr 82)), some (.inl x1), some (.inl x2), some (.inr (.inl x3)), none, some (.inl x5), none, none], [], (am_sh, am_mm U))) (σ2 := (d, 161, 23, [some (.inr (.inr 82)), some (.inl x1), some (.inl x2), some (.inr (.inl x3)), none, some (.inl x5), none, none], [], (am_sh, am_mm U))) 3 (fun _ => rfl) (fun hc => ?_) (fun hc => ?_)
    · have h21 := h2.1 hc
      refine ev_seg (σ1 := (d, 161, 35, [some (.inr (.inr 82)), some (.inl x1), some (.inl x2), some (.inr (.inl x3)), none, some (.inl x5), none, none], [.inl x5, .inr (.inr 83)], (am_sh, am_mm U))) 3 (fun _ => rfl) ?_
      refine eu_iald 83 (n := 64) rfl (by decide) rfl (fun _ => rfl) h21.1 ?_
      have h21a := h21.2
      refine ev_seg (σ1 := (d, 161, 55, [some (.inr (.inr 82)), some (.inl x1), some (.inl x2), some (.inr (.inl x3)), none, some (.inl x5), some (.inr (.inl (w64 ((w64 ((U 83 x5.toNat) * x1)) + x3)))), none], [.inr (.inl 10), .inr (.inl (w64 ((w64 ((U 83 x5.toNat) * x1)) + x3))), .inl x5, .inr (.inr 83)], (am_sh, am_mm U))) 12 (fun _ => rfl) ?_
      refine ev_lrem rfl (by decide) ?_
      refine ev_seg (σ1 := (d, 161, 57, [some (.inr (.inr 82)), some (.inl x1), some (.inl x2), some (.inr (.inl x3)), none, some (.inl x5), some (.inr (.inl (w64 ((w64 ((U 83 x5.toNat) * x1)) + x3)))), none], [.inl (w32 (Int.tmod (w64 ((w64 ((U 83 x5.toNat) * x1)) + x3)) 10)), .inl x5, .inr (.inr 83)], (am_sh, am_mm U))) 1 (fun _ => rfl) ?_
      refine eu_iast 83 (n := 64) rfl (by decide) rfl (fun _ => rfl) h21a.1 ?_
      have h21aa := h21a.2
      refine ev_seg (σ1 := (d, 161, 63, [some (.inr (.inr 82)), some (.inl x1), some (.inl x2), some (.inr (.inl x3)), none, some (.inl x5), some (.inr (.inl (w64 ((w64 ((U 83 x5.toNat) * x1)) + x3)))), none], [.inr (.inl 10), .inr (.inl (w64 ((w64 ((U 83 x5.toNat) * x1)) + x3)))], (am_sh, am_mm (am_upd U 83 x5.toNat (w32 (Int.tmod (w64 ((w64 ((U 83 x5.toNat) * x1)) + x3)) 10)))))) 2 (fun _ => rfl) ?_
      refine ev_ldiv rfl (by decide) ?_
      refine ev_seg (σ1 := (d, 161, 70, [some (.inr (.inr 82)), some (.inl x1), some (.inl x2), some (.inr (.inl (w64 (Int.tdiv (w64 ((w64 ((U 83 x5.toNat) * x1)) + x3)) 10)))), none, some (.inl x5), some (.inr (.inl (w64 ((w64 ((U 83 x5.toNat) * x1)) + x3)))), none], [.inl (w32 (x5 + 1)), .inr (.inr 82)], (am_sh, am_mm (am_upd U 83 x5.toNat (w32 (Int.tmod (w64 ((w64 ((U 83 x5.toNat) * x1)) + x3)) 10)))))) 5 (fun _ => rfl) ?_
      refine eu_puti 82 (n := 4) rfl (by decide) rfl rfl ?_
      refine ev_seg (σ1 := (d, 161, 10, [some (.inr (.inr 82)), some (.inl x1), some (.inl x2), some (.inr (.inl (w64 (Int.tdiv (w64 ((w64 ((U 83 x5.toNat) * x1)) + x3)) 10)))), none, some (.inl (w32 (x5 + 1))), some (.inr (.inl (w64 ((w64 ((U 83 x5.toNat) * x1)) + x3)))), none], [], (am_sh, am_mm (am_upd (am_upd U 83 x5.toNat (w32 (Int.tmod (w64 ((w64 ((U 83 x5.toNat) * x1)) + x3)) 10))) 82 1 (w32 (x5 + 1)))))) 2 (fun _ => rfl) ?_
      exact h21aa
    · have h22 := h2.2 hc
      refine ev_br (P := (am_lcmp x3 0) ≤ 0) (σ1 := (d, 161, 79, [some (.inr (.inr 82)), some (.inl x1), some (.inl x2), some (.inr (.inl x3)), none, some (.inl x5), none, none], [], (am_sh, am_mm U))) (σ2 := (d, 161, 29, [some (.inr (.inr 82)), some (.inl x1), some (.inl x2), some (.inr (.inl x3)), none, some (.inl x5), none, none], [], (am_sh, am_mm U))) 4 (fun _ => rfl) (fun hc => ?_) (fun hc => ?_)
      · have h221 := h22.1 hc
        subst h221
        exact ev_end 1 (fun _ => rfl)
      · have h222 := h22.2 hc
        refine ev_seg (σ1 := (d, 161, 35, [some (.inr (.inr 82)), some (.inl x1), some (.inl x2), some (.inr (.inl x3)), none, some (.inl x5), none, none], [.inl x5, .inr (.inr 83)], (am_sh, am_mm U))) 3 (fun _ => rfl) ?_
        refine eu_iald 83 (n := 64) rfl (by decide) rfl (fun _ => rfl) h222.1 ?_
        have h222a := h222.2
        refine ev_seg (σ1 := (d, 161, 55, [some (.inr (.inr 82)), some (.inl x1), some (.inl x2), some (.inr (.inl x3)), none, some (.inl x5), some (.inr (.inl (w64 ((w64 ((U 83 x5.toNat) * x1)) + x3)))), none], [.inr (.inl 10), .inr (.inl (w64 ((w64 ((U 83 x5.toNat) * x1)) + x3))), .inl x5, .inr (.inr 83)], (am_sh, am_mm U))) 12 (fun _ => rfl) ?_
        refine ev_lrem rfl (by decide) ?_
        refine ev_seg (σ1 := (d, 161, 57, [some (.inr (.inr 82)), some (.inl x1), some (.inl x2), some (.inr (.inl x3)), none, some (.inl x5), some (.inr (.inl (w64 ((w64 ((U 83 x5.toNat) * x1)) + x3)))), none], [.inl (w32 (Int.tmod (w64 ((w64 ((U 83 x5.toNat) * x1)) + x3)) 10)), .inl x5, .inr (.inr 83)], (am_sh, am_mm U))) 1 (fun _ => rfl) ?_
        refine eu_iast 83 (n := 64) rfl (by decide) rfl (fun _ => rfl) h222a.1 ?_
        have h222aa := h222a.2
        refine ev_seg (σ1 := (d, 161, 63, [some (.inr (.inr 82)), some (.inl x1), some (.inl x2), some (.inr (.inl x3)), none, some (.inl x5), some (.inr (.inl (w64 ((w64 ((U 83 x5.toNat) * x1)) + x3)))), none], [.inr (.inl 10), .inr (.inl (w64 ((w64 ((U 83 x5.toNat) * x1)) + x3)))], (am_sh, am_mm (am_upd U 83 x5.toNat (w32 (Int.tmod (w64 ((w64 ((U 83 x5.toNat) * x1)) + x3)) 10)))))) 2 (fun _ => rfl) ?_
        refine ev_ldiv rfl (by decide) ?_
        refine ev_seg (σ1 := (d, 161, 70, [some (.inr (.inr 82)), some (.inl x1), some (.inl x2), some (.inr (.inl (w64 (Int.tdiv (w64 ((w64 ((U 83 x5.toNat) * x1)) + x3)) 10)))), none, some (.inl x5), some (.inr (.inl (w64 ((w64 ((U 83 x5.toNat) * x1)) + x3)))), none], [.inl (w32 (x5 + 1)), .inr (.inr 82)], (am_sh, am_mm (am_upd U 83 x5.toNat (w32 (Int.tmod (w64 ((w64 ((U 83 x5.toNat) * x1)) + x3)) 10)))))) 5 (fun _ => rfl) ?_
        refine eu_puti 82 (n := 4) rfl (by decide) rfl rfl ?_
        refine ev_seg (σ1 := (d, 161, 10, [some (.inr (.inr 82)), some (.inl x1), some (.inl x2), some (.inr (.inl (w64 (Int.tdiv (w64 ((w64 ((U 83 x5.toNat) * x1)) + x3)) 10)))), none, some (.inl (w32 (x5 + 1))), some (.inr (.inl (w64 ((w64 ((U 83 x5.toNat) * x1)) + x3)))), none], [], (am_sh, am_mm (am_upd (am_upd U 83 x5.toNat (w32 (Int.tmod (w64 ((w64 ((U 83 x5.toNat) * x1)) + x3)) 10))) 82 1 (w32 (x5 + 1)))))) 2 (fun _ => rfl) ?_
        exact h222aa
set_option maxRecDepth 8000 in
theorem st162_86_0 (N : Nat) (X : Nat → Int) (d : Nat) (x1 : Int) (U : Nat → Nat → Int) (R : Option am_V × am_M) (h : Ev (am_kz N X) (d, 162, 5, [some (.inr (.inr 86)), some (.inr (.inl x1)), none, some (.inr (.inl 0)), none, some (.inl 0)], [], (am_sh, am_mm U)) R) : Ev (am_kz N X) (d, 162, 0, [some (.inr (.inr 86)), some (.inr (.inl x1)), none, none, none, none], [], (am_sh, am_mm U)) R := by
  refine ev_seg (σ1 := (d, 162, 5, [some (.inr (.inr 86)), some (.inr (.inl x1)), none, some (.inr (.inl 0)), none, some (.inl 0)], [], (am_sh, am_mm U))) 4 (fun _ => rfl) ?_
  exact h
set_option maxRecDepth 8000 in
theorem st162_86_5 (N : Nat) (X : Nat → Int) (d : Nat) (x1 x3 x5 : Int) (U : Nat → Nat → Int) (R : Option am_V × am_M) (h : ((((U 86 80) ≤ x5 : Prop)) → Ev (am_kz N X) (d, 162, 52, [some (.inr (.inr 86)), some (.inr (.inl x1)), none, some (.inr (.inl x3)), none, some (.inl x5)], [], (am_sh, am_mm U)) R) ∧ (¬ ((U 86 80) ≤ x5) → (0 ≤ x5 ∧ x5 < 80) ∧ (0 ≤ x5 ∧ x5 < 80) ∧ Ev (am_kz N X) (d, 162, 5, [some (.inr (.inr 86)), some (.inr (.inl x1)), none, some (.inr (.inl (w64 (Int.tdiv (w64 (x3 + (w64 ((U 133 x5.toNat) * x1)))) 10)))), none, some (.inl (w32 (x5 + 1)))], [], (am_sh, am_mm (am_upd U 133 x5.toNat (w32 (Int.tmod (w64 (x3 + (w64 ((U 133 x5.toNat) * x1)))) 10))))) R)) : Ev (am_kz N X) (d, 162, 5, [some (.inr (.inr 86)), some (.inr (.inl x1)), none, some (.inr (.inl x3)), none, some (.inl x5)], [], (am_sh, am_mm U)) R := by
  refine ev_br (P := (U 86 80) ≤ x5) (σ1 := (d, 162, 52, [some (.inr (.inr 86)), some (.inr (.inl x1)), none, some (.inr (.inl x3)), none, some (.inl x5)], [], (am_sh, am_mm U))) (σ2 := (d, 162, 14, [some (.inr (.inr 86)), some (.inr (.inl x1)), none, some (.inr (.inl x3)), none, some (.inl x5)], [], (am_sh, am_mm U))) 4 (fun _ => rfl) (fun hc => ?_) (fun hc => ?_)
  · have h1 := h.1 hc
    exact h1
  · have h2 := h.2 hc
    refine ev_seg (σ1 := (d, 162, 21, [some (.inr (.inr 86)), some (.inr (.inl x1)), none, some (.inr (.inl x3)), none, some (.inl x5)], [.inl x5, .inr (.inr 133), .inr (.inl x3)], (am_sh, am_mm U))) 4 (fun _ => rfl) ?_
    refine eu_iald 133 (n := 80) rfl (by decide) rfl (fun _ => rfl) h2.1 ?_
    have h2a := h2.2
    refine ev_seg (σ1 := (d, 162, 37, [some (.inr (.inr 86)), some (.inr (.inl x1)), none, some (.inr (.inl (w64 (x3 + (w64 ((U 133 x5.toNat) * x1)))))), none, some (.inl x5)], [.inr (.inl 10), .inr (.inl (w64 (x3 + (w64 ((U 133 x5.toNat) * x1))))), .inl x5, .inr (.inr 133)], (am_sh, am_mm U))) 10 (fun _ => rfl) ?_
    refine ev_lrem rfl (by decide) ?_
    refine ev_seg (σ1 := (d, 162, 39, [some (.inr (.inr 86)), some (.inr (.inl x1)), none, some (.inr (.inl (w64 (x3 + (w64 ((U 133 x5.toNat) * x1)))))), none, some (.inl x5)], [.inl (w32 (Int.tmod (w64 (x3 + (w64 ((U 133 x5.toNat) * x1)))) 10)), .inl x5, .inr (.inr 133)], (am_sh, am_mm U))) 1 (fun _ => rfl) ?_
    refine eu_iast 133 (n := 80) rfl (by decide) rfl (fun _ => rfl) h2a.1 ?_
    have h2aa := h2a.2
    refine ev_seg (σ1 := (d, 162, 44, [some (.inr (.inr 86)), some (.inr (.inl x1)), none, some (.inr (.inl (w64 (x3 + (w64 ((U 133 x5.toNat) * x1)))))), none, some (.inl x5)], [.inr (.inl 10), .inr (.inl (w64 (x3 + (w64 ((U 133 x5.toNat) * x1)))))], (am_sh, am_mm (am_upd U 133 x5.toNat (w32 (Int.tmod (w64 (x3 + (w64 ((U 133 x5.toNat) * x1)))) 10)))))) 2 (fun _ => rfl) ?_
    refine ev_ldiv rfl (by decide) ?_
    refine ev_seg (σ1 := (d, 162, 5, [some (.inr (.inr 86)), some (.inr (.inl x1)), none, some (.inr (.inl (w64 (Int.tdiv (w64 (x3 + (w64 ((U 133 x5.toNat) * x1)))) 10)))), none, some (.inl (w32 (x5 + 1)))], [], (am_sh, am_mm (am_upd U 133 x5.toNat (w32 (Int.tmod (w64 (x3 + (w64 ((U 133 x5.toNat) * x1)))) 10)))))) 3 (fun _ => rfl) ?_
    exact h2aa
set_option maxRecDepth 8000 in
theorem st162_86_52 (N : Nat) (X : Nat → Int) (d : Nat) (x1 x3 x5 : Int) (U : Nat → Nat → Int) (R : Option am_V × am_M) (h : ((((am_lcmp x3 0) ≤ 0 : Prop)) → R = (none, (am_sh, am_mm U))) ∧ (¬ ((am_lcmp x3 0) ≤ 0) → (0 ≤ (U 86 80) ∧ (U 86 80) < 80) ∧ Ev (am_kz N X) (d, 162, 52, [some (.inr (.inr 86)), some (.inr (.inl x1)), none, some (.inr (.inl (w64 (Int.tdiv x3 10)))), none, some (.inl x5)], [], (am_sh, am_mm (am_upd (am_upd U 133 (U 86 80).toNat (w32 (Int.tmod x3 10))) 86 80 (w32 (((am_upd U 133 (U 86 80).toNat (w32 (Int.tmod x3 10))) 86 80) + 1))))) R)) : Ev (am_kz N X) (d, 162, 52, [some (.inr (.inr 86)), some (.inr (.inl x1)), none, some (.inr (.inl x3)), none, some (.inl x5)], [], (am_sh, am_mm U)) R := by
  refine ev_br (P := (am_lcmp x3 0) ≤ 0) (σ1 := (d, 162, 92, [some (.inr (.inr 86)), some (.inr (.inl x1)), none, some (.inr (.inl x3)), none, some (.inl x5)], [], (am_sh, am_mm U))) (σ2 := (d, 162, 58, [some (.inr (.inr 86)), some (.inr (.inl x1)), none, some (.inr (.inl x3)), none, some (.inl x5)], [], (am_sh, am_mm U))) 4 (fun _ => rfl) (fun hc => ?_) (fun hc => ?_)
  · have h1 := h.1 hc
    subst h1
    exact ev_end 1 (fun _ => rfl)
  · have h2 := h.2 hc
    refine ev_seg (σ1 := (d, 162, 70, [some (.inr (.inr 86)), some (.inr (.inl x1)), none, some (.inr (.inl x3)), none, some (.inl x5)], [.inr (.inl 10), .inr (.inl x3), .inl (U 86 80), .inr (.inr 133)], (am_sh, am_mm U))) 6 (fun _ => rfl) ?_
    refine ev_lrem rfl (by decide) ?_
    refine ev_seg (σ1 := (d, 162, 72, [some (.inr (.inr 86)), some (.inr (.inl x1)), none, some (.inr (.inl x3)), none, some (.inl x5)], [.inl (w32 (Int.tmod x3 10)), .inl (U 86 80), .inr (.inr 133)], (am_sh, am_mm U))) 1 (fun _ => rfl) ?_
    refine eu_iast 133 (n := 80) rfl (by decide) rfl (fun _ => rfl) h2.1 ?_
    have h2a := h2.2
    refine ev_seg (σ1 := (d, 162, 77, [some (.inr (.inr 86)), some (.inr (.inl x1)), none, some (.inr (.inl x3)), none, some (.inl x5)], [.inr (.inl 10), .inr (.inl x3)], (am_sh, am_mm (am_upd U 133 (U 86 80).toNat (w32 (Int.tmod x3 10)))))) 2 (fun _ => rfl) ?_
    refine ev_ldiv rfl (by decide) ?_
    refine ev_seg (σ1 := (d, 162, 86, [some (.inr (.inr 86)), some (.inr (.inl x1)), none, some (.inr (.inl (w64 (Int.tdiv x3 10)))), none, some (.inl x5)], [.inl (w32 (((am_upd U 133 (U 86 80).toNat (w32 (Int.tmod x3 10))) 86 80) + 1)), .inr (.inr 86)], (am_sh, am_mm (am_upd U 133 (U 86 80).toNat (w32 (Int.tmod x3 10)))))) 6 (fun _ => rfl) ?_
    refine eu_puti 86 (n := 90) rfl (by decide) rfl rfl ?_
    refine ev_seg (σ1 := (d, 162, 52, [some (.inr (.inr 86)), some (.inr (.inl x1)), none, some (.inr (.inl (w64 (Int.tdiv x3 10)))), none, some (.inl x5)], [], (am_sh, am_mm (am_upd (am_upd U 133 (U 86 80).toNat (w32 (Int.tmod x3 10))) 86 80 (w32 (((am_upd U 133 (U 86 80).toNat (w32 (Int.tmod x3 10))) 86 80) + 1)))))) 1 (fun _ => rfl) ?_
    exact h2a
set_option maxRecDepth 8000 in
theorem st163_86_0 (N : Nat) (X : Nat → Int) (d : Nat) (x1 : Int) (U : Nat → Nat → Int) (R : Option am_V × am_M) (h : Ev (am_kz N X) (d, 163, 4, [some (.inr (.inr 86)), some (.inl x1), some (.inl 0), some (.inl 0), none], [], (am_sh, am_mm U)) R) : Ev (am_kz N X) (d, 163, 0, [some (.inr (.inr 86)), some (.inl x1), none, none, none], [], (am_sh, am_mm U)) R := by
  refine ev_seg (σ1 := (d, 163, 4, [some (.inr (.inr 86)), some (.inl x1), some (.inl 0), some (.inl 0), none], [], (am_sh, am_mm U))) 4 (fun _ => rfl) ?_
  exact h
set_option maxRecDepth 8000 in
theorem st163_86_4 (N : Nat) (X : Nat → Int) (d : Nat) (x1 x2 x3 : Int) (U : Nat → Nat → Int) (R : Option am_V × am_M) (h : (0 ≤ (U 86 13) ∧ (U 86 13) < 2) ∧ ((((U 106 (U 86 13).toNat) ≤ x3 : Prop)) → R = (some (.inl x2), (am_sh, am_mm U))) ∧ (¬ ((U 106 (U 86 13).toNat) ≤ x3) → (0 ≤ (w32 ((w32 (16 * (U 86 13))) + x3)) ∧ (w32 ((w32 (16 * (U 86 13))) + x3)) < 32) ∧ (((¬ (U 108 (w32 ((w32 (16 * (U 86 13))) + x3)).toNat) = x1 : Prop)) → (0 ≤ (w32 ((w32 (16 * (U 86 13))) + x3)) ∧ (w32 ((w32 (16 * (U 86 13))) + x3)) < 32) ∧ (((¬ (U 107 (w32 ((w32 (16 * (U 86 13))) + x3)).toNat) = x1 : Prop)) → Ev (am_kz N X) (d, 163, 4, [some (.inr (.inr 86)), some (.inl x1), some (.inl (w32 ((w32 (x2 + 0)) - 0))), some (.inl (w32 (x3 + 1))), some (.inl (w32 ((w32 (16 * (U 86 13))) + x3)))], [], (am_sh, am_mm U)) R) ∧ (¬ (¬ (U 107 (w32 ((w32 (16 * (U 86 13))) + x3)).toNat) = x1) → (0 ≤ (w32 ((w32 (16 * (U 86 13))) + x3)) ∧ (w32 ((w32 (16 * (U 86 13))) + x3)) < 32) ∧ Ev (am_kz N X) (d, 163, 4, [some (.inr (.inr 86)), some (.inl x1), some (.inl (w32 ((w32 (x2 + 0)) - (U 109 (w32 ((w32 (16 * (U 86 13))) + x3)).toNat)))), some (.inl (w32 (x3 + 1))), some (.inl (w32 ((w32 (16 * (U 86 13))) + x3)))], [], (am_sh, am_mm U)) R)) ∧ (¬ (¬ (U 108 (w32 ((w32 (16 * (U 86 13))) + x3)).toNat) = x1) → (0 ≤ (w32 ((w32 (16 * (U 86 13))) + x3)) ∧ (w32 ((w32 (16 * (U 86 13))) + x3)) < 32) ∧ (0 ≤ (w32 ((w32 (16 * (U 86 13))) + x3)) ∧ (w32 ((w32 (16 * (U 86 13))) + x3)) < 32) ∧ (((¬ (U 107 (w32 ((w32 (16 * (U 86 13))) + x3)).toNat) = x1 : Prop)) → Ev (am_kz N X) (d, 163, 4, [some (.inr (.inr 86)), some (.inl x1), some (.inl (w32 ((w32 (x2 + (U 109 (w32 ((w32 (16 * (U 86 13))) + x3)).toNat))) - 0))), some (.inl (w32 (x3 + 1))), some (.inl (w32 ((w32 (16 * (U 86 13))) + x3)))], [], (am_sh, am_mm U)) R) ∧ (¬ (¬ (U 107 (w32 ((w32 (16 * (U 86 13))) + x3)).toNat) = x1) → (0 ≤ (w32 ((w32 (16 * (U 86 13))) + x3)) ∧ (w32 ((w32 (16 * (U 86 13))) + x3)) < 32) ∧ Ev (am_kz N X) (d, 163, 4, [some (.inr (.inr 86)), some (.inl x1), some (.inl (w32 ((w32 (x2 + (U 109 (w32 ((w32 (16 * (U 86 13))) + x3)).toNat))) - (U 109 (w32 ((w32 (16 * (U 86 13))) + x3)).toNat)))), some (.inl (w32 (x3 + 1))), some (.inl (w32 ((w32 (16 * (U 86 13))) + x3)))], [], (am_sh, am_mm U)) R)))) : Ev (am_kz N X) (d, 163, 4, [some (.inr (.inr 86)), some (.inl x1), some (.inl x2), some (.inl x3), none], [], (am_sh, am_mm U)) R := by
  refine ev_seg (σ1 := (d, 163, 13, [some (.inr (.inr 86)), some (.inl x1), some (.inl x2), some (.inl x3), none], [.inl (U 86 13), .inr (.inr 106), .inl x3], (am_sh, am_mm U))) 5 (fun _ => rfl) ?_
  refine eu_iald 106 (n := 2) rfl (by decide) rfl (fun _ => rfl) h.1 ?_
  have ha := h.2
  refine ev_br (P := (U 106 (U 86 13).toNat) ≤ x3) (σ1 := (d, 163, 84, [some (.inr (.inr 86)), some (.inl x1), some (.inl x2), some (.inl x3), none], [], (am_sh, am_mm U))) (σ2 := (d, 163, 17, [some (.inr (.inr 86)), some (.inl x1), some (.inl x2), some (.inl x3), none], [], (am_sh, am_mm U))) 1 (fun _ => rfl) (fun hc => ?_) (fun hc => ?_)
  · have ha1 := ha.1 hc
    subst ha1
    exact ev_end 2 (fun _ => rfl)
  · have ha2 := ha.2 hc
    refine ev_seg (σ1 := (d, 163, 35, [some (.inr (.inr 86)), some (.inl x1), some (.inl x2), some (.inl x3), some (.inl (w32 ((w32 (16 * (U 86 13))) + x3)))], [.inl (w32 ((w32 (16 * (U 86 13))) + x3)), .inr (.inr 108), .inl x2], (am_sh, am_mm U))) 11 (fun _ => rfl) ?_
    refine eu_iald 108 (n := 32) rfl (by decide) rfl (fun _ => rfl) ha2.1 ?_
    have ha2a := ha2.2
    refine ev_br (P := ¬ (U 108 (w32 ((w32 (16 * (U 86 13))) + x3)).toNat) = x1) (σ1 := (d, 163, 50, [some (.inr (.inr 86)), some (.inl x1), some (.inl x2), some (.inl x3), some (.inl (w32 ((w32 (16 * (U 86 13))) + x3)))], [.inl x2], (am_sh, am_mm U))) (σ2 := (d, 163, 40, [some (.inr (.inr 86)), some (.inl x1), some (.inl x2), some (.inl x3), some (.inl (w32 ((w32 (16 * (U 86 13))) + x3)))], [.inl x2], (am_sh, am_mm U))) 2 (fun _ => rfl) (fun hc => ?_) (fun hc => ?_)
    · have ha2a1 := ha2a.1 hc
      refine ev_seg (σ1 := (d, 163, 60, [some (.inr (.inr 86)), some (.inl x1), some (.inl (w32 (x2 + 0))), some (.inl x3), some (.inl (w32 ((w32 (16 * (U 86 13))) + x3)))], [.inl (w32 ((w32 (16 * (U 86 13))) + x3)), .inr (.inr 107), .inl (w32 (x2 + 0))], (am_sh, am_mm U))) 7 (fun _ => rfl) ?_
      refine eu_iald 107 (n := 32) rfl (by decide) rfl (fun _ => rfl) ha2a1.1 ?_
      have ha2a1a := ha2a1.2
      refine ev_br (P := ¬ (U 107 (w32 ((w32 (16 * (U 86 13))) + x3)).toNat) = x1) (σ1 := (d, 163, 75, [some (.inr (.inr 86)), some (.inl x1), some (.inl (w32 (x2 + 0))), some (.inl x3), some (.inl (w32 ((w32 (16 * (U 86 13))) + x3)))], [.inl (w32 (x2 + 0))], (am_sh, am_mm U))) (σ2 := (d, 163, 65, [some (.inr (.inr 86)), some (.inl x1), some (.inl (w32 (x2 + 0))), some (.inl x3), some (.inl (w32 ((w32 (16 * (U 86 13))) + x3)))], [.inl (w32 (x2 + 0))], (am_sh, am_mm U))) 2 (fun _ => rfl) (fun hc => ?_) (fun hc => ?_)
      · have ha2a1a1 := ha2a1a.1 hc
        refine ev_seg (σ1 := (d, 163, 4, [some (.inr (.inr 86)), some (.inl x1), some (.inl (w32 ((w32 (x2 + 0)) - 0))), some (.inl (w32 (x3 + 1))), some (.inl (w32 ((w32 (16 * (U 86 13))) + x3)))], [], (am_sh, am_mm U))) 5 (fun _ => rfl) ?_
        exact ha2a1a1
      · have ha2a1a2 := ha2a1a.2 hc
        refine ev_seg (σ1 := (d, 163, 71, [some (.inr (.inr 86)), some (.inl x1), some (.inl (w32 (x2 + 0))), some (.inl x3), some (.inl (w32 ((w32 (16 * (U 86 13))) + x3)))], [.inl (w32 ((w32 (16 * (U 86 13))) + x3)), .inr (.inr 109), .inl (w32 (x2 + 0))], (am_sh, am_mm U))) 3 (fun _ => rfl) ?_
        refine eu_iald 109 (n := 32) rfl (by decide) rfl (fun _ => rfl) ha2a1a2.1 ?_
        have ha2a1a2a := ha2a1a2.2
        refine ev_seg (σ1 := (d, 163, 4, [some (.inr (.inr 86)), some (.inl x1), some (.inl (w32 ((w32 (x2 + 0)) - (U 109 (w32 ((w32 (16 * (U 86 13))) + x3)).toNat)))), some (.inl (w32 (x3 + 1))), some (.inl (w32 ((w32 (16 * (U 86 13))) + x3)))], [], (am_sh, am_mm U))) 5 (fun _ => rfl) ?_
        exact ha2a1a2a
    · have ha2a2 := ha2a.2 hc
      refine ev_seg (σ1 := (d, 163, 46, [some (.inr (.inr 86)), some (.inl x1), some (.inl x2), some (.inl x3), some (.inl (w32 ((w32 (16 * (U 86 13))) + x3)))], [.inl (w32 ((w32 (16 * (U 86 13))) + x3)), .inr (.inr 109), .inl x2], (am_sh, am_mm U))) 3 (fun _ => rfl) ?_
      refine eu_iald 109 (n := 32) rfl (by decide) rfl (fun _ => rfl) ha2a2.1 ?_
      have ha2a2a := ha2a2.2
      refine ev_seg (σ1 := (d, 163, 60, [some (.inr (.inr 86)), some (.inl x1), some (.inl (w32 (x2 + (U 109 (w32 ((w32 (16 * (U 86 13))) + x3)).toNat)))), some (.inl x3), some (.inl (w32 ((w32 (16 * (U 86 13))) + x3)))], [.inl (w32 ((w32 (16 * (U 86 13))) + x3)), .inr (.inr 107), .inl (w32 (x2 + (U 109 (w32 ((w32 (16 * (U 86 13))) + x3)).toNat)))], (am_sh, am_mm U))) 7 (fun _ => rfl) ?_
      refine eu_iald 107 (n := 32) rfl (by decide) rfl (fun _ => rfl) ha2a2a.1 ?_
      have ha2a2aa := ha2a2a.2
      refine ev_br (P := ¬ (U 107 (w32 ((w32 (16 * (U 86 13))) + x3)).toNat) = x1) (σ1 := (d, 163, 75, [some (.inr (.inr 86)), some (.inl x1), some (.inl (w32 (x2 + (U 109 (w32 ((w32 (16 * (U 86 13))) + x3)).toNat)))), some (.inl x3), some (.inl (w32 ((w32 (16 * (U 86 13))) + x3)))], [.inl (w32 (x2 + (U 109 (w32 ((w32 (16 * (U 86 13))) + x3)).toNat)))], (am_sh, am_mm U))) (σ2 := (d, 163, 65, [some (.inr (.inr 86)), some (.inl x1), some (.inl (w32 (x2 + (U 109 (w32 ((w32 (16 * (U 86 13))) + x3)).toNat)))), some (.inl x3), some (.inl (w32 ((w32 (16 * (U 86 13))) + x3)))], [.inl (w32 (x2 + (U 109 (w32 ((w32 (16 * (U 86 13))) + x3)).toNat)))], (am_sh, am_mm U))) 2 (fun _ => rfl) (fun hc => ?_) (fun hc => ?_)
      · have ha2a2aa1 := ha2a2aa.1 hc
        refine ev_seg (σ1 := (d, 163, 4, [some (.inr (.inr 86)), some (.inl x1), some (.inl (w32 ((w32 (x2 + (U 109 (w32 ((w32 (16 * (U 86 13))) + x3)).toNat))) - 0))), some (.inl (w32 (x3 + 1))), some (.inl (w32 ((w32 (16 * (U 86 13))) + x3)))], [], (am_sh, am_mm U))) 5 (fun _ => rfl) ?_
        exact ha2a2aa1
      · have ha2a2aa2 := ha2a2aa.2 hc
        refine ev_seg (σ1 := (d, 163, 71, [some (.inr (.inr 86)), some (.inl x1), some (.inl (w32 (x2 + (U 109 (w32 ((w32 (16 * (U 86 13))) + x3)).toNat)))), some (.inl x3), some (.inl (w32 ((w32 (16 * (U 86 13))) + x3)))], [.inl (w32 ((w32 (16 * (U 86 13))) + x3)), .inr (.inr 109), .inl (w32 (x2 + (U 109 (w32 ((w32 (16 * (U 86 13))) + x3)).toNat)))], (am_sh, am_mm U))) 3 (fun _ => rfl) ?_
        refine eu_iald 109 (n := 32) rfl (by decide) rfl (fun _ => rfl) ha2a2aa2.1 ?_
        have ha2a2aa2a := ha2a2aa2.2
        refine ev_seg (σ1 := (d, 163, 4, [some (.inr (.inr 86)), some (.inl x1), some (.inl (w32 ((w32 (x2 + (U 109 (w32 ((w32 (16 * (U 86 13))) + x3)).toNat))) - (U 109 (w32 ((w32 (16 * (U 86 13))) + x3)).toNat)))), some (.inl (w32 (x3 + 1))), some (.inl (w32 ((w32 (16 * (U 86 13))) + x3)))], [], (am_sh, am_mm U))) 5 (fun _ => rfl) ?_
        exact ha2a2aa2a
set_option maxRecDepth 8000 in
theorem st164_3_44_0 (N : Nat) (X : Nat → Int) (d : Nat) (U : Nat → Nat → Int) (R : Option am_V × am_M) (h : Ev (am_kz N X) ((d + 1), 164, 4, [some (.inr (.inr 3)), some (.inr (.inr 44)), some (.inl 0), some (.inl 0)], [], (am_sh, am_mm U)) R) : Ev (am_kz N X) ((d + 1), 164, 0, [some (.inr (.inr 3)), some (.inr (.inr 44)), none, none], [], (am_sh, am_mm U)) R := by
  refine ev_seg (σ1 := ((d + 1), 164, 4, [some (.inr (.inr 3)), some (.inr (.inr 44)), some (.inl 0), some (.inl 0)], [], (am_sh, am_mm U))) 4 (fun _ => rfl) ?_
  exact h
set_option maxRecDepth 8000 in
theorem st164_3_44_4 (N : Nat) (X : Nat → Int) (d : Nat) (x2 x3 : Int) (U : Nat → Nat → Int) (R : Option am_V × am_M) (h : ((((U 3 1) ≤ x3 : Prop)) → ((((am_shl 1 x2) ≤ 4096 : Prop)) → Ev (am_kz N X) ((d + 1), 164, 58, [some (.inr (.inr 3)), some (.inr (.inr 44)), some (.inl x2), some (.inl 1)], [], (am_sh, am_mm (am_upd U 44 0 0))) R) ∧ (¬ ((am_shl 1 x2) ≤ 4096) → R = (some (.inl (-1)), (am_sh, am_mm U)))) ∧ (¬ ((U 3 1) ≤ x3) → (0 ≤ x3 ∧ x3 < 12) ∧ ((((U 10 x3.toNat) = 0 : Prop)) → Ev (am_kz N X) ((d + 1), 164, 4, [some (.inr (.inr 3)), some (.inr (.inr 44)), some (.inl x2), some (.inl (w32 (x3 + 1)))], [], (am_sh, am_mm U)) R) ∧ (¬ ((U 10 x3.toNat) = 0) → (0 ≤ x3 ∧ x3 < 12) ∧ (0 ≤ x2 ∧ x2 < 12) ∧ Ev (am_kz N X) ((d + 1), 164, 4, [some (.inr (.inr 3)), some (.inr (.inr 44)), some (.inl (w32 (x2 + 1))), some (.inl (w32 (x3 + 1)))], [], (am_sh, am_mm (am_upd U 11 x2.toNat (U 10 x3.toNat)))) R))) : Ev (am_kz N X) ((d + 1), 164, 4, [some (.inr (.inr 3)), some (.inr (.inr 44)), some (.inl x2), some (.inl x3)], [], (am_sh, am_mm U)) R := by
  refine ev_br (P := (U 3 1) ≤ x3) (σ1 := ((d + 1), 164, 42, [some (.inr (.inr 3)), some (.inr (.inr 44)), some (.inl x2), some (.inl x3)], [], (am_sh, am_mm U))) (σ2 := ((d + 1), 164, 12, [some (.inr (.inr 3)), some (.inr (.inr 44)), some (.inl x2), some (.inl x3)], [], (am_sh, am_mm U))) 4 (fun _ => rfl) (fun hc => ?_) (fun hc => ?_)
  · have h1 := h.1 hc
    refine ev_br (P := (am_shl 1 x2) ≤ 4096) (σ1 := ((d + 1), 164, 52, [some (.inr (.inr 3)), some (.inr (.inr 44)), some (.inl x2), some (.inl x3)], [], (am_sh, am_mm U))) (σ2 := ((d + 1), 164, 50, [some (.inr (.inr 3)), some (.inr (.inr 44)), some (.inl x2), some (.inl x3)], [], (am_sh, am_mm U))) 6 (fun _ => rfl) (fun hc => ?_) (fun hc => ?_)
    · have h11 := h1.1 hc
      refine ev_seg (σ1 := ((d + 1), 164, 55, [some (.inr (.inr 3)), some (.inr (.inr 44)), some (.inl x2), some (.inl x3)], [.inl 0, .inl 0, .inr (.inr 44)], (am_sh, am_mm U))) 3 (fun _ => rfl) ?_
      refine eu_iast 44 (n := 4096) rfl (by decide) rfl (fun _ => rfl) (by decide) ?_
      show Ev (am_kz N X) ((d + 1), 164, 56, [some (.inr (.inr 3)), some (.inr (.inr 44)), some (.inl x2), some (.inl x3)], [], (am_sh, am_mm (am_upd U 44 0 0))) R
      refine ev_seg (σ1 := ((d + 1), 164, 58, [some (.inr (.inr 3)), some (.inr (.inr 44)), some (.inl x2), some (.inl 1)], [], (am_sh, am_mm (am_upd U 44 0 0)))) 2 (fun _ => rfl) ?_
      exact h11
    · have h12 := h1.2 hc
      subst h12
      exact ev_end 2 (fun _ => rfl)
  · have h2 := h.2 hc
    refine ev_seg (σ1 := ((d + 1), 164, 17, [some (.inr (.inr 3)), some (.inr (.inr 44)), some (.inl x2), some (.inl x3)], [.inl x3, .inr (.inr 10)], (am_sh, am_mm U))) 3 (fun _ => rfl) ?_
    refine eu_iald 10 (n := 12) rfl (by decide) rfl (fun _ => rfl) h2.1 ?_
    have h2a := h2.2
    refine ev_br (P := (U 10 x3.toNat) = 0) (σ1 := ((d + 1), 164, 36, [some (.inr (.inr 3)), some (.inr (.inr 44)), some (.inl x2), some (.inl x3)], [], (am_sh, am_mm U))) (σ2 := ((d + 1), 164, 21, [some (.inr (.inr 3)), some (.inr (.inr 44)), some (.inl x2), some (.inl x3)], [], (am_sh, am_mm U))) 1 (fun _ => rfl) (fun hc => ?_) (fun hc => ?_)
    · have h2a1 := h2a.1 hc
      refine ev_seg (σ1 := ((d + 1), 164, 4, [some (.inr (.inr 3)), some (.inr (.inr 44)), some (.inl x2), some (.inl (w32 (x3 + 1)))], [], (am_sh, am_mm U))) 2 (fun _ => rfl) ?_
      exact h2a1
    · have h2a2 := h2a.2 hc
      refine ev_seg (σ1 := ((d + 1), 164, 31, [some (.inr (.inr 3)), some (.inr (.inr 44)), some (.inl x2), some (.inl x3)], [.inl x3, .inr (.inr 10), .inl x2, .inr (.inr 11)], (am_sh, am_mm U))) 6 (fun _ => rfl) ?_
      refine eu_iald 10 (n := 12) rfl (by decide) rfl (fun _ => rfl) h2a2.1 ?_
      have h2a2a := h2a2.2
      refine eu_iast 11 (n := 12) rfl (by decide) rfl (fun _ => rfl) h2a2a.1 ?_
      have h2a2aa := h2a2a.2
      refine ev_seg (σ1 := ((d + 1), 164, 4, [some (.inr (.inr 3)), some (.inr (.inr 44)), some (.inl (w32 (x2 + 1))), some (.inl (w32 (x3 + 1)))], [], (am_sh, am_mm (am_upd U 11 x2.toNat (U 10 x3.toNat))))) 3 (fun _ => rfl) ?_
      exact h2a2aa
set_option maxRecDepth 8000 in
theorem st164_3_44_58 (N : Nat) (X : Nat → Int) (d : Nat) (x2 x3 : Int) (U : Nat → Nat → Int) (R : Option am_V × am_M) (h : ((((am_shl 1 x2) ≤ x3 : Prop)) → (0 ≤ (w32 ((am_shl 1 x2) - 1)) ∧ (w32 ((am_shl 1 x2) - 1)) < 4096) ∧ R = (some (.inl (w32 (x2 - (am_and (U 44 (w32 ((am_shl 1 x2) - 1)).toNat) 15)))), (am_sh, am_mm U))) ∧ (¬ ((am_shl 1 x2) ≤ x3) → ∃ U1 : Nat → Nat → Int, Ev (am_kz N X) (d, 240, 0, [some (.inr (.inr 3)), some (.inr (.inr 44)), some (.inl x3), some (.inl x2), none, none, none, none], [], (am_sh, am_mm U)) (none, (am_sh, am_mm U1)) ∧ Ev (am_kz N X) ((d + 1), 164, 58, [some (.inr (.inr 3)), some (.inr (.inr 44)), some (.inl x2), some (.inl (w32 (x3 + 1)))], [], (am_sh, am_mm U1)) R)) : Ev (am_kz N X) ((d + 1), 164, 58, [some (.inr (.inr 3)), some (.inr (.inr 44)), some (.inl x2), some (.inl x3)], [], (am_sh, am_mm U)) R := by
  refine ev_br (P := (am_shl 1 x2) ≤ x3) (σ1 := ((d + 1), 164, 78, [some (.inr (.inr 3)), some (.inr (.inr 44)), some (.inl x2), some (.inl x3)], [], (am_sh, am_mm U))) (σ2 := ((d + 1), 164, 65, [some (.inr (.inr 3)), some (.inr (.inr 44)), some (.inl x2), some (.inl x3)], [], (am_sh, am_mm U))) 5 (fun _ => rfl) (fun hc => ?_) (fun hc => ?_)
  · have h1 := h.1 hc
    refine ev_seg (σ1 := ((d + 1), 164, 85, [some (.inr (.inr 3)), some (.inr (.inr 44)), some (.inl x2), some (.inl x3)], [.inl (w32 ((am_shl 1 x2) - 1)), .inr (.inr 44), .inl x2], (am_sh, am_mm U))) 7 (fun _ => rfl) ?_
    refine eu_iald 44 (n := 4096) rfl (by decide) rfl (fun _ => rfl) h1.1 ?_
    have h1a := h1.2
    subst h1a
    exact ev_end 4 (fun _ => rfl)
  · have h2 := h.2 hc
    refine ev_seg (σ1 := ((d + 1), 164, 69, [some (.inr (.inr 3)), some (.inr (.inr 44)), some (.inl x2), some (.inl x3)], [.inl x2, .inl x3, .inr (.inr 44), .inr (.inr 3)], (am_sh, am_mm U))) 4 (fun _ => rfl) ?_
    obtain ⟨U1, h2c, h2a⟩ := h2
    refine ev_cal (σc := (d, 240, 0, [some (.inr (.inr 3)), some (.inr (.inr 44)), some (.inl x3), some (.inl x2), none, none, none, none], [], (am_sh, am_mm U))) (fun _ => rfl) h2c ?_
    show Ev (am_kz N X) ((d + 1), 164, 72, [some (.inr (.inr 3)), some (.inr (.inr 44)), some (.inl x2), some (.inl x3)], [], (am_sh, am_mm U1)) R
    refine ev_seg (σ1 := ((d + 1), 164, 58, [some (.inr (.inr 3)), some (.inr (.inr 44)), some (.inl x2), some (.inl (w32 (x3 + 1)))], [], (am_sh, am_mm U1))) 2 (fun _ => rfl) ?_
    exact h2a
set_option maxRecDepth 8000 in
theorem st166_78_2_0 (N : Nat) (X : Nat → Int) (d : Nat) (U : Nat → Nat → Int) (R : Option am_V × am_M) (h : ∃ U1 : Nat → Nat → Int, Ev (am_kz N X) (d, 241, 0, [some (.inr (.inr 78)), none, none], [], (am_sh, am_mm (am_upd (am_upd (am_upd U 78 3 (U 2 0)) 78 4 (w32 ((am_shl 2 ((am_upd U 78 3 (U 2 0)) 2 1)) - 2))) 78 5 0))) (none, (am_sh, am_mm U1)) ∧ ∃ U2 : Nat → Nat → Int, Ev (am_kz N X) (d, 242, 0, [some (.inr (.inr 78)), some (.inl 0), some (.inr (.inr 2)), none, none, none], [], (am_sh, am_mm U1)) (none, (am_sh, am_mm U2)) ∧ R = (none, (am_sh, am_mm U2))) : Ev (am_kz N X) ((d + 1), 166, 0, [some (.inr (.inr 78)), some (.inr (.inr 2))], [], (am_sh, am_mm U)) R := by
  refine ev_seg (σ1 := ((d + 1), 166, 3, [some (.inr (.inr 78)), some (.inr (.inr 2))], [.inl 0, .inr (.inr 2), .inr (.inr 78)], (am_sh, am_mm U))) 3 (fun _ => rfl) ?_
  refine eu_iald 2 (n := 1600) rfl (by decide) rfl (fun _ => rfl) (by decide) ?_
  show Ev (am_kz N X) ((d + 1), 166, 4, [some (.inr (.inr 78)), some (.inr (.inr 2))], [.inl (U 2 0), .inr (.inr 78)], (am_sh, am_mm U)) R
  refine eu_puti 78 (n := 6) rfl (by decide) rfl rfl ?_
  refine ev_seg (σ1 := ((d + 1), 166, 11, [some (.inr (.inr 78)), some (.inr (.inr 2))], [.inl 1, .inr (.inr 2), .inl 2, .inr (.inr 78)], (am_sh, am_mm (am_upd U 78 3 (U 2 0))))) 4 (fun _ => rfl) ?_
  refine eu_iald 2 (n := 1600) rfl (by decide) rfl (fun _ => rfl) (by decide) ?_
  show Ev (am_kz N X) ((d + 1), 166, 12, [some (.inr (.inr 78)), some (.inr (.inr 2))], [.inl ((am_upd U 78 3 (U 2 0)) 2 1), .inl 2, .inr (.inr 78)], (am_sh, am_mm (am_upd U 78 3 (U 2 0)))) R
  refine ev_seg (σ1 := ((d + 1), 166, 15, [some (.inr (.inr 78)), some (.inr (.inr 2))], [.inl (w32 ((am_shl 2 ((am_upd U 78 3 (U 2 0)) 2 1)) - 2)), .inr (.inr 78)], (am_sh, am_mm (am_upd U 78 3 (U 2 0))))) 3 (fun _ => rfl) ?_
  refine eu_puti 78 (n := 6) rfl (by decide) rfl rfl ?_
  refine ev_seg (σ1 := ((d + 1), 166, 20, [some (.inr (.inr 78)), some (.inr (.inr 2))], [.inl 0, .inr (.inr 78)], (am_sh, am_mm (am_upd (am_upd U 78 3 (U 2 0)) 78 4 (w32 ((am_shl 2 ((am_upd U 78 3 (U 2 0)) 2 1)) - 2)))))) 2 (fun _ => rfl) ?_
  refine eu_puti 78 (n := 6) rfl (by decide) rfl rfl ?_
  refine ev_seg (σ1 := ((d + 1), 166, 24, [some (.inr (.inr 78)), some (.inr (.inr 2))], [.inr (.inr 78)], (am_sh, am_mm (am_upd (am_upd (am_upd U 78 3 (U 2 0)) 78 4 (w32 ((am_shl 2 ((am_upd U 78 3 (U 2 0)) 2 1)) - 2))) 78 5 0)))) 1 (fun _ => rfl) ?_
  obtain ⟨U1, hc, ha⟩ := h
  refine ev_cal (σc := (d, 241, 0, [some (.inr (.inr 78)), none, none], [], (am_sh, am_mm (am_upd (am_upd (am_upd U 78 3 (U 2 0)) 78 4 (w32 ((am_shl 2 ((am_upd U 78 3 (U 2 0)) 2 1)) - 2))) 78 5 0)))) (fun _ => rfl) hc ?_
  show Ev (am_kz N X) ((d + 1), 166, 27, [some (.inr (.inr 78)), some (.inr (.inr 2))], [], (am_sh, am_mm U1)) R
  refine ev_seg (σ1 := ((d + 1), 166, 30, [some (.inr (.inr 78)), some (.inr (.inr 2))], [.inr (.inr 2), .inl 0, .inr (.inr 78)], (am_sh, am_mm U1))) 3 (fun _ => rfl) ?_
  obtain ⟨U2, hac, haa⟩ := ha
  refine ev_cal (σc := (d, 242, 0, [some (.inr (.inr 78)), some (.inl 0), some (.inr (.inr 2)), none, none, none], [], (am_sh, am_mm U1))) (fun _ => rfl) hac ?_
  show Ev (am_kz N X) ((d + 1), 166, 33, [some (.inr (.inr 78)), some (.inr (.inr 2))], [], (am_sh, am_mm U2)) R
  subst haa
  exact ev_end 1 (fun _ => rfl)
set_option maxRecDepth 8000 in
theorem st165_2_0 (N : Nat) (X : Nat → Int) (d : Nat) (x1 : Int) (U : Nat → Nat → Int) (R : Option am_V × am_M) (h : (((x1 < 3 : Prop)) → R = (some (.inl 0), (am_sh, am_mm U))) ∧ (¬ (x1 < 3) → (((1600 < x1 : Prop)) → R = (some (.inl 0), (am_sh, am_mm U))) ∧ (¬ (1600 < x1) → ((((U 2 0) < 2 : Prop)) → R = (some (.inl 0), (am_sh, am_mm U))) ∧ (¬ ((U 2 0) < 2) → ((((U 2 0) ≤ 4 : Prop)) → ((((U 2 1) < 1 : Prop)) → R = (some (.inl 0), (am_sh, am_mm U))) ∧ (¬ ((U 2 1) < 1) → (((24 < (U 2 1) : Prop)) → R = (some (.inl 0), (am_sh, am_mm U))) ∧ (¬ (24 < (U 2 1)) → (((x1 = (w32 (2 + (w32 (Int.tdiv (w32 ((U 2 0) * (w32 ((U 2 0) - 1)))) 2)))) : Prop)) → Ev (am_kz N X) (d, 165, 63, [some (.inr (.inr 2)), some (.inl x1), some (.inl 2)], [], (am_sh, am_mm U)) R) ∧ (¬ (x1 = (w32 (2 + (w32 (Int.tdiv (w32 ((U 2 0) * (w32 ((U 2 0) - 1)))) 2))))) → R = (some (.inl 0), (am_sh, am_mm U)))))) ∧ (¬ ((U 2 0) ≤ 4) → R = (some (.inl 0), (am_sh, am_mm U))))))) : Ev (am_kz N X) (d, 165, 0, [some (.inr (.inr 2)), some (.inl x1), none], [], (am_sh, am_mm U)) R := by
  refine ev_br (P := x1 < 3) (σ1 := (d, 165, 25, [some (.inr (.inr 2)), some (.inl x1), none], [], (am_sh, am_mm U))) (σ2 := (d, 165, 5, [some (.inr (.inr 2)), some (.inl x1), none], [], (am_sh, am_mm U))) 3 (fun _ => rfl) (fun hc => ?_) (fun hc => ?_)
  · have h1 := h.1 hc
    subst h1
    exact ev_end 2 (fun _ => rfl)
  · have h2 := h.2 hc
    refine ev_br (P := 1600 < x1) (σ1 := (d, 165, 25, [some (.inr (.inr 2)), some (.inl x1), none], [], (am_sh, am_mm U))) (σ2 := (d, 165, 11, [some (.inr (.inr 2)), some (.inl x1), none], [], (am_sh, am_mm U))) 4 (fun _ => rfl) (fun hc => ?_) (fun hc => ?_)
    · have h21 := h2.1 hc
      subst h21
      exact ev_end 2 (fun _ => rfl)
    · have h22 := h2.2 hc
      refine ev_seg (σ1 := (d, 165, 13, [some (.inr (.inr 2)), some (.inl x1), none], [.inl 0, .inr (.inr 2)], (am_sh, am_mm U))) 2 (fun _ => rfl) ?_
      refine eu_iald 2 (n := 1600) rfl (by decide) rfl (fun _ => rfl) (by decide) ?_
      show Ev (am_kz N X) (d, 165, 14, [some (.inr (.inr 2)), some (.inl x1), none], [.inl (U 2 0)], (am_sh, am_mm U)) R
      refine ev_br (P := (U 2 0) < 2) (σ1 := (d, 165, 25, [some (.inr (.inr 2)), some (.inl x1), none], [], (am_sh, am_mm U))) (σ2 := (d, 165, 18, [some (.inr (.inr 2)), some (.inl x1), none], [], (am_sh, am_mm U))) 2 (fun _ => rfl) (fun hc => ?_) (fun hc => ?_)
      · have h221 := h22.1 hc
        subst h221
        exact ev_end 2 (fun _ => rfl)
      · have h222 := h22.2 hc
        refine ev_seg (σ1 := (d, 165, 20, [some (.inr (.inr 2)), some (.inl x1), none], [.inl 0, .inr (.inr 2)], (am_sh, am_mm U))) 2 (fun _ => rfl) ?_
        refine eu_iald 2 (n := 1600) rfl (by decide) rfl (fun _ => rfl) (by decide) ?_
        show Ev (am_kz N X) (d, 165, 21, [some (.inr (.inr 2)), some (.inl x1), none], [.inl (U 2 0)], (am_sh, am_mm U)) R
        refine ev_br (P := (U 2 0) ≤ 4) (σ1 := (d, 165, 27, [some (.inr (.inr 2)), some (.inl x1), none], [], (am_sh, am_mm U))) (σ2 := (d, 165, 25, [some (.inr (.inr 2)), some (.inl x1), none], [], (am_sh, am_mm U))) 2 (fun _ => rfl) (fun hc => ?_) (fun hc => ?_)
        · have h2221 := h222.1 hc
          refine ev_seg (σ1 := (d, 165, 29, [some (.inr (.inr 2)), some (.inl x1), none], [.inl 1, .inr (.inr 2)], (am_sh, am_mm U))) 2 (fun _ => rfl) ?_
          refine eu_iald 2 (n := 1600) rfl (by decide) rfl (fun _ => rfl) (by decide) ?_
          show Ev (am_kz N X) (d, 165, 30, [some (.inr (.inr 2)), some (.inl x1), none], [.inl (U 2 1)], (am_sh, am_mm U)) R
          refine ev_br (P := (U 2 1) < 1) (σ1 := (d, 165, 59, [some (.inr (.inr 2)), some (.inl x1), none], [], (am_sh, am_mm U))) (σ2 := (d, 165, 34, [some (.inr (.inr 2)), some (.inl x1), none], [], (am_sh, am_mm U))) 2 (fun _ => rfl) (fun hc => ?_) (fun hc => ?_)
          · have h22211 := h2221.1 hc
            subst h22211
            exact ev_end 2 (fun _ => rfl)
          · have h22212 := h2221.2 hc
            refine ev_seg (σ1 := (d, 165, 36, [some (.inr (.inr 2)), some (.inl x1), none], [.inl 1, .inr (.inr 2)], (am_sh, am_mm U))) 2 (fun _ => rfl) ?_
            refine eu_iald 2 (n := 1600) rfl (by decide) rfl (fun _ => rfl) (by decide) ?_
            show Ev (am_kz N X) (d, 165, 37, [some (.inr (.inr 2)), some (.inl x1), none], [.inl (U 2 1)], (am_sh, am_mm U)) R
            refine ev_br (P := 24 < (U 2 1)) (σ1 := (d, 165, 59, [some (.inr (.inr 2)), some (.inl x1), none], [], (am_sh, am_mm U))) (σ2 := (d, 165, 42, [some (.inr (.inr 2)), some (.inl x1), none], [], (am_sh, am_mm U))) 2 (fun _ => rfl) (fun hc => ?_) (fun hc => ?_)
            · have h222121 := h22212.1 hc
              subst h222121
              exact ev_end 2 (fun _ => rfl)
            · have h222122 := h22212.2 hc
              refine ev_seg (σ1 := (d, 165, 46, [some (.inr (.inr 2)), some (.inl x1), none], [.inl 0, .inr (.inr 2), .inl 2, .inl x1], (am_sh, am_mm U))) 4 (fun _ => rfl) ?_
              refine eu_iald 2 (n := 1600) rfl (by decide) rfl (fun _ => rfl) (by decide) ?_
              show Ev (am_kz N X) (d, 165, 47, [some (.inr (.inr 2)), some (.inl x1), none], [.inl (U 2 0), .inl 2, .inl x1], (am_sh, am_mm U)) R
              refine ev_seg (σ1 := (d, 165, 49, [some (.inr (.inr 2)), some (.inl x1), none], [.inl 0, .inr (.inr 2), .inl (U 2 0), .inl 2, .inl x1], (am_sh, am_mm U))) 2 (fun _ => rfl) ?_
              refine eu_iald 2 (n := 1600) rfl (by decide) rfl (fun _ => rfl) (by decide) ?_
              show Ev (am_kz N X) (d, 165, 50, [some (.inr (.inr 2)), some (.inl x1), none], [.inl (U 2 0), .inl (U 2 0), .inl 2, .inl x1], (am_sh, am_mm U)) R
              refine ev_seg (σ1 := (d, 165, 54, [some (.inr (.inr 2)), some (.inl x1), none], [.inl 2, .inl (w32 ((U 2 0) * (w32 ((U 2 0) - 1)))), .inl 2, .inl x1], (am_sh, am_mm U))) 4 (fun _ => rfl) ?_
              refine ev_idiv rfl (by decide) ?_
              refine ev_br (P := x1 = (w32 (2 + (w32 (Int.tdiv (w32 ((U 2 0) * (w32 ((U 2 0) - 1)))) 2))))) (σ1 := (d, 165, 61, [some (.inr (.inr 2)), some (.inl x1), none], [], (am_sh, am_mm U))) (σ2 := (d, 165, 59, [some (.inr (.inr 2)), some (.inl x1), none], [], (am_sh, am_mm U))) 2 (fun _ => rfl) (fun hc => ?_) (fun hc => ?_)
              · have h2221221 := h222122.1 hc
                refine ev_seg (σ1 := (d, 165, 63, [some (.inr (.inr 2)), some (.inl x1), some (.inl 2)], [], (am_sh, am_mm U))) 2 (fun _ => rfl) ?_
                exact h2221221
              · have h2221222 := h222122.2 hc
                subst h2221222
                exact ev_end 2 (fun _ => rfl)
        · have h2222 := h222.2 hc
          subst h2222
          exact ev_end 2 (fun _ => rfl)
set_option maxRecDepth 8000 in
theorem st165_2_63 (N : Nat) (X : Nat → Int) (d : Nat) (x1 x2 : Int) (U : Nat → Nat → Int) (R : Option am_V × am_M) (h : (((x1 ≤ x2 : Prop)) → R = (some (.inl 1), (am_sh, am_mm U))) ∧ (¬ (x1 ≤ x2) → (0 ≤ x2 ∧ x2 < 1600) ∧ ((((U 2 x2.toNat) ≤ 1 : Prop)) → Ev (am_kz N X) (d, 165, 63, [some (.inr (.inr 2)), some (.inl x1), some (.inl (w32 (x2 + 1)))], [], (am_sh, am_mm U)) R) ∧ (¬ ((U 2 x2.toNat) ≤ 1) → R = (some (.inl 0), (am_sh, am_mm U))))) : Ev (am_kz N X) (d, 165, 63, [some (.inr (.inr 2)), some (.inl x1), some (.inl x2)], [], (am_sh, am_mm U)) R := by
  refine ev_br (P := x1 ≤ x2) (σ1 := (d, 165, 83, [some (.inr (.inr 2)), some (.inl x1), some (.inl x2)], [], (am_sh, am_mm U))) (σ2 := (d, 165, 68, [some (.inr (.inr 2)), some (.inl x1), some (.inl x2)], [], (am_sh, am_mm U))) 3 (fun _ => rfl) (fun hc => ?_) (fun hc => ?_)
  · have h1 := h.1 hc
    subst h1
    exact ev_end 2 (fun _ => rfl)
  · have h2 := h.2 hc
    refine ev_seg (σ1 := (d, 165, 70, [some (.inr (.inr 2)), some (.inl x1), some (.inl x2)], [.inl x2, .inr (.inr 2)], (am_sh, am_mm U))) 2 (fun _ => rfl) ?_
    refine eu_iald 2 (n := 1600) rfl (by decide) rfl (fun _ => rfl) h2.1 ?_
    have h2a := h2.2
    refine ev_br (P := (U 2 x2.toNat) ≤ 1) (σ1 := (d, 165, 77, [some (.inr (.inr 2)), some (.inl x1), some (.inl x2)], [], (am_sh, am_mm U))) (σ2 := (d, 165, 75, [some (.inr (.inr 2)), some (.inl x1), some (.inl x2)], [], (am_sh, am_mm U))) 2 (fun _ => rfl) (fun hc => ?_) (fun hc => ?_)
    · have h2a1 := h2a.1 hc
      refine ev_seg (σ1 := (d, 165, 63, [some (.inr (.inr 2)), some (.inl x1), some (.inl (w32 (x2 + 1)))], [], (am_sh, am_mm U))) 2 (fun _ => rfl) ?_
      exact h2a1
    · have h2a2 := h2a.2 hc
      subst h2a2
      exact ev_end 2 (fun _ => rfl)
