set_option maxRecDepth 8000 in
theorem st336_31_0 (N : Nat) (X : Nat → Int) (d : Nat) (x1 : Int) (U : Nat → Nat → Int) (R : Option am_V × am_M) (h : ∃ (r1 : Int) (U1 : Nat → Nat → Int), Ev (am_kz N X) (d, 324, 0, [some (.inr (.inr 31)), some (.inl (w32 ((-100) - x1)))], [], (am_sh, am_mm U)) (some (.inl r1), (am_sh, am_mm U1)) ∧ (r1 = 0 ∨ r1 = 1) ∧ R = (some (.inl r1), (am_sh, am_mm U1))) : Ev (am_kz N X) ((d + 1), 336, 0, [some (.inr (.inr 31)), some (.inl x1)], [], (am_sh, am_mm U)) R := by
  refine ev_seg (σ1 := ((d + 1), 336, 5, [some (.inr (.inr 31)), some (.inl x1)], [.inl (w32 ((-100) - x1)), .inr (.inr 31)], (am_sh, am_mm U))) 4 (fun _ => rfl) ?_
  obtain ⟨r1, U1, hc, ha⟩ := h
  refine ev_cal (σc := (d, 324, 0, [some (.inr (.inr 31)), some (.inl (w32 ((-100) - x1)))], [], (am_sh, am_mm U))) (fun _ => rfl) hc ?_
  show Ev (am_kz N X) ((d + 1), 336, 8, [some (.inr (.inr 31)), some (.inl x1)], [.inl r1], (am_sh, am_mm U1)) R
  rw [ha.2]
  exact ev_retz rfl rfl ha.1
set_option maxRecDepth 8000 in
theorem st330_2_0 (N : Nat) (X : Nat → Int) (d : Nat) (x1 x2 x3 : Int) (U : Nat → Nat → Int) (R : Option am_V × am_M) (h : Ev (am_kz N X) ((d + 1), 330, 9, [some (.inr (.inr 2)), some (.inl x1), some (.inl x2), some (.inl x3), some (.inl (w32 (6 * x3))), some (.inl 0), none], [], (am_sh, am_mm U)) R) : Ev (am_kz N X) ((d + 1), 330, 0, [some (.inr (.inr 2)), some (.inl x1), some (.inl x2), some (.inl x3), none, none, none], [], (am_sh, am_mm U)) R := by
  refine ev_seg (σ1 := ((d + 1), 330, 9, [some (.inr (.inr 2)), some (.inl x1), some (.inl x2), some (.inl x3), some (.inl (w32 (6 * x3))), some (.inl 0), none], [], (am_sh, am_mm U))) 6 (fun _ => rfl) ?_
  exact h
set_option maxRecDepth 8000 in
theorem st330_2_9 (N : Nat) (X : Nat → Int) (d : Nat) (x1 x2 x3 x4 x5 : Int) (U : Nat → Nat → Int) (R : Option am_V × am_M) (h : (((6 ≤ x5 : Prop)) → R = (some (.inl 1), (am_sh, am_mm U))) ∧ (¬ (6 ≤ x5) → (((x2 ≤ (w32 (x1 + x5)) : Prop)) → ∃ (r1 : Int) (U1 : Nat → Nat → Int), Ev (am_kz N X) (d, 332, 0, [some (.inr (.inr (-3)))], [], (am_sh, am_mm U)) (some (.inl r1), (am_sh, am_mm U1)) ∧ (((r1 ≤ (w32 (x4 + x5)) : Prop)) → R = (some (.inl 0), (am_sh, am_mm U1))) ∧ (¬ (r1 ≤ (w32 (x4 + x5))) → ∃ (r2 : Int) (U2 : Nat → Nat → Int), Ev (am_kz N X) (d, 338, 0, [some (.inr (.inr (-3))), some (.inl (w32 (x4 + x5)))], [], (am_sh, am_mm U1)) (some (.inl r2), (am_sh, am_mm U2)) ∧ (((r2 = 32 : Prop)) → Ev (am_kz N X) ((d + 1), 330, 9, [some (.inr (.inr 2)), some (.inl x1), some (.inl x2), some (.inl x3), some (.inl x4), some (.inl (w32 (x5 + 1))), some (.inl 32)], [], (am_sh, am_mm U2)) R) ∧ (¬ (r2 = 32) → R = (some (.inl 0), (am_sh, am_mm U2))))) ∧ (¬ (x2 ≤ (w32 (x1 + x5))) → (0 ≤ (w32 (x1 + x5)) ∧ (w32 (x1 + x5)) < 1600) ∧ ∃ (r3 : Int) (U3 : Nat → Nat → Int), Ev (am_kz N X) (d, 332, 0, [some (.inr (.inr (-3)))], [], (am_sh, am_mm U)) (some (.inl r3), (am_sh, am_mm U3)) ∧ (((r3 ≤ (w32 (x4 + x5)) : Prop)) → R = (some (.inl 0), (am_sh, am_mm U3))) ∧ (¬ (r3 ≤ (w32 (x4 + x5))) → ∃ (r4 : Int) (U4 : Nat → Nat → Int), Ev (am_kz N X) (d, 338, 0, [some (.inr (.inr (-3))), some (.inl (w32 (x4 + x5)))], [], (am_sh, am_mm U3)) (some (.inl r4), (am_sh, am_mm U4)) ∧ (((r4 = (U 2 (w32 (x1 + x5)).toNat) : Prop)) → Ev (am_kz N X) ((d + 1), 330, 9, [some (.inr (.inr 2)), some (.inl x1), some (.inl x2), some (.inl x3), some (.inl x4), some (.inl (w32 (x5 + 1))), some (.inl (U 2 (w32 (x1 + x5)).toNat))], [], (am_sh, am_mm U4)) R) ∧ (¬ (r4 = (U 2 (w32 (x1 + x5)).toNat)) → R = (some (.inl 0), (am_sh, am_mm U4))))))) : Ev (am_kz N X) ((d + 1), 330, 9, [some (.inr (.inr 2)), some (.inl x1), some (.inl x2), some (.inl x3), some (.inl x4), some (.inl x5), none], [], (am_sh, am_mm U)) R := by
  refine ev_br (P := 6 ≤ x5) (σ1 := ((d + 1), 330, 73, [some (.inr (.inr 2)), some (.inl x1), some (.inl x2), some (.inl x3), some (.inl x4), some (.inl x5), none], [], (am_sh, am_mm U))) (σ2 := ((d + 1), 330, 16, [some (.inr (.inr 2)), some (.inl x1), some (.inl x2), some (.inl x3), some (.inl x4), some (.inl x5), none], [], (am_sh, am_mm U))) 3 (fun _ => rfl) (fun hc => ?_) (fun hc => ?_)
  · have h1 := h.1 hc
    subst h1
    exact ev_end 2 (fun _ => rfl)
  · have h2 := h.2 hc
    refine ev_br (P := x2 ≤ (w32 (x1 + x5))) (σ1 := ((d + 1), 330, 33, [some (.inr (.inr 2)), some (.inl x1), some (.inl x2), some (.inl x3), some (.inl x4), some (.inl x5), none], [], (am_sh, am_mm U))) (σ2 := ((d + 1), 330, 24, [some (.inr (.inr 2)), some (.inl x1), some (.inl x2), some (.inl x3), some (.inl x4), some (.inl x5), none], [], (am_sh, am_mm U))) 5 (fun _ => rfl) (fun hc => ?_) (fun hc => ?_)
    · have h21 := h2.1 hc
      refine ev_seg (σ1 := ((d + 1), 330, 44, [some (.inr (.inr 2)), some (.inl x1), some (.inl x2), some (.inl x3), some (.inl x4), some (.inl x5), some (.inl 32)], [.inr (.inr (-3)), .inl (w32 (x4 + x5))], (am_sh, am_mm U))) 6 (fun _ => rfl) ?_
      obtain ⟨r1, U1, h21c, h21a⟩ := h21
      refine ev_cal (σc := (d, 332, 0, [some (.inr (.inr (-3)))], [], (am_sh, am_mm U))) (fun _ => rfl) h21c ?_
      show Ev (am_kz N X) ((d + 1), 330, 47, [some (.inr (.inr 2)), some (.inl x1), some (.inl x2), some (.inl x3), some (.inl x4), some (.inl x5), some (.inl 32)], [.inl r1, .inl (w32 (x4 + x5))], (am_sh, am_mm U1)) R
      refine ev_br (P := r1 ≤ (w32 (x4 + x5))) (σ1 := ((d + 1), 330, 65, [some (.inr (.inr 2)), some (.inl x1), some (.inl x2), some (.inl x3), some (.inl x4), some (.inl x5), some (.inl 32)], [], (am_sh, am_mm U1))) (σ2 := ((d + 1), 330, 50, [some (.inr (.inr 2)), some (.inl x1), some (.inl x2), some (.inl x3), some (.inl x4), some (.inl x5), some (.inl 32)], [], (am_sh, am_mm U1))) 1 (fun _ => rfl) (fun hc => ?_) (fun hc => ?_)
      · have h21a1 := h21a.1 hc
        subst h21a1
        exact ev_end 2 (fun _ => rfl)
      · have h21a2 := h21a.2 hc
        refine ev_seg (σ1 := ((d + 1), 330, 57, [some (.inr (.inr 2)), some (.inl x1), some (.inl x2), some (.inl x3), some (.inl x4), some (.inl x5), some (.inl 32)], [.inl (w32 (x4 + x5)), .inr (.inr (-3))], (am_sh, am_mm U1))) 4 (fun _ => rfl) ?_
        obtain ⟨r2, U2, h21a2c, h21a2a⟩ := h21a2
        refine ev_cal (σc := (d, 338, 0, [some (.inr (.inr (-3))), some (.inl (w32 (x4 + x5)))], [], (am_sh, am_mm U1))) (fun _ => rfl) h21a2c ?_
        show Ev (am_kz N X) ((d + 1), 330, 60, [some (.inr (.inr 2)), some (.inl x1), some (.inl x2), some (.inl x3), some (.inl x4), some (.inl x5), some (.inl 32)], [.inl r2], (am_sh, am_mm U2)) R
        refine ev_br (P := r2 = 32) (σ1 := ((d + 1), 330, 67, [some (.inr (.inr 2)), some (.inl x1), some (.inl x2), some (.inl x3), some (.inl x4), some (.inl x5), some (.inl 32)], [], (am_sh, am_mm U2))) (σ2 := ((d + 1), 330, 65, [some (.inr (.inr 2)), some (.inl x1), some (.inl x2), some (.inl x3), some (.inl x4), some (.inl x5), some (.inl 32)], [], (am_sh, am_mm U2))) 2 (fun _ => rfl) (fun hc => ?_) (fun hc => ?_)
        · have h21a2a1 := h21a2a.1 hc
          refine ev_seg (σ1 := ((d + 1), 330, 9, [some (.inr (.inr 2)), some (.inl x1), some (.inl x2), some (.inl x3), some (.inl x4), some (.inl (w32 (x5 + 1))), some (.inl 32)], [], (am_sh, am_mm U2))) 2 (fun _ => rfl) ?_
          exact h21a2a1
        · have h21a2a2 := h21a2a.2 hc
          subst h21a2a2
          exact ev_end 2 (fun _ => rfl)
    · have h22 := h2.2 hc
      refine ev_seg (σ1 := ((d + 1), 330, 29, [some (.inr (.inr 2)), some (.inl x1), some (.inl x2), some (.inl x3), some (.inl x4), some (.inl x5), none], [.inl (w32 (x1 + x5)), .inr (.inr 2)], (am_sh, am_mm U))) 4 (fun _ => rfl) ?_
      refine eu_iald 2 (n := 1600) rfl (by decide) rfl (fun _ => rfl) h22.1 ?_
      have h22a := h22.2
      refine ev_seg (σ1 := ((d + 1), 330, 44, [some (.inr (.inr 2)), some (.inl x1), some (.inl x2), some (.inl x3), some (.inl x4), some (.inl x5), some (.inl (U 2 (w32 (x1 + x5)).toNat))], [.inr (.inr (-3)), .inl (w32 (x4 + x5))], (am_sh, am_mm U))) 6 (fun _ => rfl) ?_
      obtain ⟨r3, U3, h22ac, h22aa⟩ := h22a
      refine ev_cal (σc := (d, 332, 0, [some (.inr (.inr (-3)))], [], (am_sh, am_mm U))) (fun _ => rfl) h22ac ?_
      show Ev (am_kz N X) ((d + 1), 330, 47, [some (.inr (.inr 2)), some (.inl x1), some (.inl x2), some (.inl x3), some (.inl x4), some (.inl x5), some (.inl (U 2 (w32 (x1 + x5)).toNat))], [.inl r3, .inl (w32 (x4 + x5))], (am_sh, am_mm U3)) R
      refine ev_br (P := r3 ≤ (w32 (x4 + x5))) (σ1 := ((d + 1), 330, 65, [some (.inr (.inr 2)), some (.inl x1), some (.inl x2), some (.inl x3), some (.inl x4), some (.inl x5), some (.inl (U 2 (w32 (x1 + x5)).toNat))], [], (am_sh, am_mm U3))) (σ2 := ((d + 1), 330, 50, [some (.inr (.inr 2)), some (.inl x1), some (.inl x2), some (.inl x3), some (.inl x4), some (.inl x5), some (.inl (U 2 (w32 (x1 + x5)).toNat))], [], (am_sh, am_mm U3))) 1 (fun _ => rfl) (fun hc => ?_) (fun hc => ?_)
      · have h22aa1 := h22aa.1 hc
        subst h22aa1
        exact ev_end 2 (fun _ => rfl)
      · have h22aa2 := h22aa.2 hc
        refine ev_seg (σ1 := ((d + 1), 330, 57, [some (.inr (.inr 2)), some (.inl x1), some (.inl x2), some (.inl x3), some (.inl x4), some (.inl x5), some (.inl (U 2 (w32 (x1 + x5)).toNat))], [.inl (w32 (x4 + x5)), .inr (.inr (-3))], (am_sh, am_mm U3))) 4 (fun _ => rfl) ?_
        obtain ⟨r4, U4, h22aa2c, h22aa2a⟩ := h22aa2
        refine ev_cal (σc := (d, 338, 0, [some (.inr (.inr (-3))), some (.inl (w32 (x4 + x5)))], [], (am_sh, am_mm U3))) (fun _ => rfl) h22aa2c ?_
        show Ev (am_kz N X) ((d + 1), 330, 60, [some (.inr (.inr 2)), some (.inl x1), some (.inl x2), some (.inl x3), some (.inl x4), some (.inl x5), some (.inl (U 2 (w32 (x1 + x5)).toNat))], [.inl r4], (am_sh, am_mm U4)) R
        refine ev_br (P := r4 = (U 2 (w32 (x1 + x5)).toNat)) (σ1 := ((d + 1), 330, 67, [some (.inr (.inr 2)), some (.inl x1), some (.inl x2), some (.inl x3), some (.inl x4), some (.inl x5), some (.inl (U 2 (w32 (x1 + x5)).toNat))], [], (am_sh, am_mm U4))) (σ2 := ((d + 1), 330, 65, [some (.inr (.inr 2)), some (.inl x1), some (.inl x2), some (.inl x3), some (.inl x4), some (.inl x5), some (.inl (U 2 (w32 (x1 + x5)).toNat))], [], (am_sh, am_mm U4))) 2 (fun _ => rfl) (fun hc => ?_) (fun hc => ?_)
        · have h22aa2a1 := h22aa2a.1 hc
          refine ev_seg (σ1 := ((d + 1), 330, 9, [some (.inr (.inr 2)), some (.inl x1), some (.inl x2), some (.inl x3), some (.inl x4), some (.inl (w32 (x5 + 1))), some (.inl (U 2 (w32 (x1 + x5)).toNat))], [], (am_sh, am_mm U4))) 2 (fun _ => rfl) ?_
          exact h22aa2a1
        · have h22aa2a2 := h22aa2a.2 hc
          subst h22aa2a2
          exact ev_end 2 (fun _ => rfl)
set_option maxRecDepth 8000 in
theorem st337_0 (N : Nat) (X : Nat → Int) (d : Nat) (x0 : Int) (U : Nat → Nat → Int) (R : Option am_V × am_M) (h : (((¬ x0 = 21 : Prop)) → (((¬ x0 = 20 : Prop)) → (((¬ x0 = 22 : Prop)) → (((x0 = 17 : Prop)) → R = (some (.inl 4), (am_sh, am_mm U))) ∧ (¬ (x0 = 17) → (((x0 = 18 : Prop)) → R = (some (.inl 4), (am_sh, am_mm U))) ∧ (¬ (x0 = 18) → (((x0 = 19 : Prop)) → R = (some (.inl 4), (am_sh, am_mm U))) ∧ (¬ (x0 = 19) → (((x0 = 24 : Prop)) → R = (some (.inl 4), (am_sh, am_mm U))) ∧ (¬ (x0 = 24) → (((¬ x0 = 25 : Prop)) → (((x0 = 10 : Prop)) → R = (some (.inl 5), (am_sh, am_mm U))) ∧ (¬ (x0 = 10) → (((¬ x0 = 11 : Prop)) → R = (some (.inl 6), (am_sh, am_mm U))) ∧ (¬ (¬ x0 = 11) → R = (some (.inl 5), (am_sh, am_mm U))))) ∧ (¬ (¬ x0 = 25) → R = (some (.inl 4), (am_sh, am_mm U)))))))) ∧ (¬ (¬ x0 = 22) → R = (some (.inl 3), (am_sh, am_mm U)))) ∧ (¬ (¬ x0 = 20) → R = (some (.inl 2), (am_sh, am_mm U)))) ∧ (¬ (¬ x0 = 21) → R = (some (.inl 1), (am_sh, am_mm U)))) : Ev (am_kz N X) (d, 337, 0, [some (.inl x0)], [], (am_sh, am_mm U)) R := by
  refine ev_br (P := ¬ x0 = 21) (σ1 := (d, 337, 10, [some (.inl x0)], [], (am_sh, am_mm U))) (σ2 := (d, 337, 6, [some (.inl x0)], [], (am_sh, am_mm U))) 3 (fun _ => rfl) (fun hc => ?_) (fun hc => ?_)
  · have h1 := h.1 hc
    refine ev_br (P := ¬ x0 = 20) (σ1 := (d, 337, 20, [some (.inl x0)], [], (am_sh, am_mm U))) (σ2 := (d, 337, 16, [some (.inl x0)], [], (am_sh, am_mm U))) 3 (fun _ => rfl) (fun hc => ?_) (fun hc => ?_)
    · have h11 := h1.1 hc
      refine ev_br (P := ¬ x0 = 22) (σ1 := (d, 337, 30, [some (.inl x0)], [], (am_sh, am_mm U))) (σ2 := (d, 337, 26, [some (.inl x0)], [], (am_sh, am_mm U))) 3 (fun _ => rfl) (fun hc => ?_) (fun hc => ?_)
      · have h111 := h11.1 hc
        refine ev_br (P := x0 = 17) (σ1 := (d, 337, 60, [some (.inl x0)], [], (am_sh, am_mm U))) (σ2 := (d, 337, 36, [some (.inl x0)], [], (am_sh, am_mm U))) 3 (fun _ => rfl) (fun hc => ?_) (fun hc => ?_)
        · have h1111 := h111.1 hc
          subst h1111
          exact ev_end 3 (fun _ => rfl)
        · have h1112 := h111.2 hc
          refine ev_br (P := x0 = 18) (σ1 := (d, 337, 60, [some (.inl x0)], [], (am_sh, am_mm U))) (σ2 := (d, 337, 42, [some (.inl x0)], [], (am_sh, am_mm U))) 3 (fun _ => rfl) (fun hc => ?_) (fun hc => ?_)
          · have h11121 := h1112.1 hc
            subst h11121
            exact ev_end 3 (fun _ => rfl)
          · have h11122 := h1112.2 hc
            refine ev_br (P := x0 = 19) (σ1 := (d, 337, 60, [some (.inl x0)], [], (am_sh, am_mm U))) (σ2 := (d, 337, 48, [some (.inl x0)], [], (am_sh, am_mm U))) 3 (fun _ => rfl) (fun hc => ?_) (fun hc => ?_)
            · have h111221 := h11122.1 hc
              subst h111221
              exact ev_end 3 (fun _ => rfl)
            · have h111222 := h11122.2 hc
              refine ev_br (P := x0 = 24) (σ1 := (d, 337, 60, [some (.inl x0)], [], (am_sh, am_mm U))) (σ2 := (d, 337, 54, [some (.inl x0)], [], (am_sh, am_mm U))) 3 (fun _ => rfl) (fun hc => ?_) (fun hc => ?_)
              · have h1112221 := h111222.1 hc
                subst h1112221
                exact ev_end 3 (fun _ => rfl)
              · have h1112222 := h111222.2 hc
                refine ev_br (P := ¬ x0 = 25) (σ1 := (d, 337, 64, [some (.inl x0)], [], (am_sh, am_mm U))) (σ2 := (d, 337, 60, [some (.inl x0)], [], (am_sh, am_mm U))) 3 (fun _ => rfl) (fun hc => ?_) (fun hc => ?_)
                · have h11122221 := h1112222.1 hc
                  refine ev_br (P := x0 = 10) (σ1 := (d, 337, 76, [some (.inl x0)], [], (am_sh, am_mm U))) (σ2 := (d, 337, 70, [some (.inl x0)], [], (am_sh, am_mm U))) 3 (fun _ => rfl) (fun hc => ?_) (fun hc => ?_)
                  · have h111222211 := h11122221.1 hc
                    subst h111222211
                    exact ev_end 3 (fun _ => rfl)
                  · have h111222212 := h11122221.2 hc
                    refine ev_br (P := ¬ x0 = 11) (σ1 := (d, 337, 80, [some (.inl x0)], [], (am_sh, am_mm U))) (σ2 := (d, 337, 76, [some (.inl x0)], [], (am_sh, am_mm U))) 3 (fun _ => rfl) (fun hc => ?_) (fun hc => ?_)
                    · have h1112222121 := h111222212.1 hc
                      subst h1112222121
                      exact ev_end 2 (fun _ => rfl)
                    · have h1112222122 := h111222212.2 hc
                      subst h1112222122
                      exact ev_end 3 (fun _ => rfl)
                · have h11122222 := h1112222.2 hc
                  subst h11122222
                  exact ev_end 3 (fun _ => rfl)
      · have h112 := h11.2 hc
        subst h112
        exact ev_end 3 (fun _ => rfl)
    · have h12 := h1.2 hc
      subst h12
      exact ev_end 3 (fun _ => rfl)
  · have h2 := h.2 hc
    subst h2
    exact ev_end 3 (fun _ => rfl)
set_option maxRecDepth 8000 in
theorem st342_26_0 (N : Nat) (X : Nat → Int) (d : Nat) (x1 : Int) (U : Nat → Nat → Int) (R : Option am_V × am_M) (h : ∃ (r1 : Int) (U1 : Nat → Nat → Int), Ev (am_kz N X) (d, 344, 0, [some (.inr (.inr 26)), some (.inl x1), none], [], (am_sh, am_mm U)) (some (.inl r1), (am_sh, am_mm U1)) ∧ Ev (am_kz N X) ((d + 1), 342, 8, [some (.inr (.inr 26)), some (.inl x1), some (.inl r1), some (.inl 0), none], [], (am_sh, am_mm U1)) R) : Ev (am_kz N X) ((d + 1), 342, 0, [some (.inr (.inr 26)), some (.inl x1), none, none, none], [], (am_sh, am_mm U)) R := by
  refine ev_seg (σ1 := ((d + 1), 342, 2, [some (.inr (.inr 26)), some (.inl x1), none, none, none], [.inl x1, .inr (.inr 26)], (am_sh, am_mm U))) 2 (fun _ => rfl) ?_
  obtain ⟨r1, U1, hc, ha⟩ := h
  refine ev_cal (σc := (d, 344, 0, [some (.inr (.inr 26)), some (.inl x1), none], [], (am_sh, am_mm U))) (fun _ => rfl) hc ?_
  show Ev (am_kz N X) ((d + 1), 342, 5, [some (.inr (.inr 26)), some (.inl x1), none, none, none], [.inl r1], (am_sh, am_mm U1)) R
  refine ev_seg (σ1 := ((d + 1), 342, 8, [some (.inr (.inr 26)), some (.inl x1), some (.inl r1), some (.inl 0), none], [], (am_sh, am_mm U1))) 3 (fun _ => rfl) ?_
  exact ha
set_option maxRecDepth 8000 in
theorem st342_26_8 (N : Nat) (X : Nat → Int) (d : Nat) (x1 x2 x3 : Int) (U : Nat → Nat → Int) (R : Option am_V × am_M) (h : (((1600 ≤ x3 : Prop)) → (x2 = 0 ∨ x2 = 1) ∧ R = (some (.inl x2), (am_sh, am_mm U))) ∧ (¬ (1600 ≤ x3) → (((x2 = 0 : Prop)) → (x2 = 0 ∨ x2 = 1) ∧ R = (some (.inl x2), (am_sh, am_mm U))) ∧ (¬ (x2 = 0) → ∃ (r1 : Int) (U1 : Nat → Nat → Int), Ev (am_kz N X) (d, 300, 0, [some (.inr (.inr 26)), some (.inl 42)], [], (am_sh, am_mm U)) (some (.inl r1), (am_sh, am_mm U1)) ∧ (((¬ r1 = 0 : Prop)) → ∃ U2 : Nat → Nat → Int, Ev (am_kz N X) (d, 177, 0, [some (.inr (.inr 26))], [], (am_sh, am_mm U1)) (none, (am_sh, am_mm U2)) ∧ ∃ (r3 : Int) (U3 : Nat → Nat → Int), Ev (am_kz N X) (d, 344, 0, [some (.inr (.inr 26)), some (.inl x1), none], [], (am_sh, am_mm U2)) (some (.inl r3), (am_sh, am_mm U3)) ∧ (((r3 = 0 : Prop)) → Ev (am_kz N X) ((d + 1), 342, 8, [some (.inr (.inr 26)), some (.inl x1), some (.inl 0), some (.inl (w32 (x3 + 1))), some (.inl (U1 26 8))], [], (am_sh, am_mm U3)) R) ∧ (¬ (r3 = 0) → ∃ (r4 : Int) (U4 : Nat → Nat → Int), Ev (am_kz N X) (d, 336, 0, [some (.inr (.inr 31)), some (.inl (U1 26 8))], [], (am_sh, am_mm U3)) (some (.inl r4), (am_sh, am_mm U4)) ∧ (((r4 = 0 : Prop)) → Ev (am_kz N X) ((d + 1), 342, 8, [some (.inr (.inr 26)), some (.inl x1), some (.inl 0), some (.inl (w32 (x3 + 1))), some (.inl (U1 26 8))], [], (am_sh, am_mm U4)) R) ∧ (¬ (r4 = 0) → Ev (am_kz N X) ((d + 1), 342, 8, [some (.inr (.inr 26)), some (.inl x1), some (.inl 1), some (.inl (w32 (x3 + 1))), some (.inl (U1 26 8))], [], (am_sh, am_mm U4)) R))) ∧ (¬ (¬ r1 = 0) → ∃ (r5 : Int) (U5 : Nat → Nat → Int), Ev (am_kz N X) (d, 300, 0, [some (.inr (.inr 26)), some (.inl 47)], [], (am_sh, am_mm U1)) (some (.inl r5), (am_sh, am_mm U5)) ∧ (((¬ r5 = 0 : Prop)) → ∃ U6 : Nat → Nat → Int, Ev (am_kz N X) (d, 177, 0, [some (.inr (.inr 26))], [], (am_sh, am_mm U5)) (none, (am_sh, am_mm U6)) ∧ ∃ (r7 : Int) (U7 : Nat → Nat → Int), Ev (am_kz N X) (d, 344, 0, [some (.inr (.inr 26)), some (.inl x1), none], [], (am_sh, am_mm U6)) (some (.inl r7), (am_sh, am_mm U7)) ∧ (((r7 = 0 : Prop)) → Ev (am_kz N X) ((d + 1), 342, 8, [some (.inr (.inr 26)), some (.inl x1), some (.inl 0), some (.inl (w32 (x3 + 1))), some (.inl (U5 26 8))], [], (am_sh, am_mm U7)) R) ∧ (¬ (r7 = 0) → ∃ (r8 : Int) (U8 : Nat → Nat → Int), Ev (am_kz N X) (d, 336, 0, [some (.inr (.inr 31)), some (.inl (U5 26 8))], [], (am_sh, am_mm U7)) (some (.inl r8), (am_sh, am_mm U8)) ∧ (((r8 = 0 : Prop)) → Ev (am_kz N X) ((d + 1), 342, 8, [some (.inr (.inr 26)), some (.inl x1), some (.inl 0), some (.inl (w32 (x3 + 1))), some (.inl (U5 26 8))], [], (am_sh, am_mm U8)) R) ∧ (¬ (r8 = 0) → Ev (am_kz N X) ((d + 1), 342, 8, [some (.inr (.inr 26)), some (.inl x1), some (.inl 1), some (.inl (w32 (x3 + 1))), some (.inl (U5 26 8))], [], (am_sh, am_mm U8)) R))) ∧ (¬ (¬ r5 = 0) → ∃ (r9 : Int) (U9 : Nat → Nat → Int), Ev (am_kz N X) (d, 300, 0, [some (.inr (.inr 26)), some (.inl 37)], [], (am_sh, am_mm U5)) (some (.inl r9), (am_sh, am_mm U9)) ∧ (((r9 = 0 : Prop)) → (x2 = 0 ∨ x2 = 1) ∧ R = (some (.inl x2), (am_sh, am_mm U9))) ∧ (¬ (r9 = 0) → ∃ U10 : Nat → Nat → Int, Ev (am_kz N X) (d, 177, 0, [some (.inr (.inr 26))], [], (am_sh, am_mm U9)) (none, (am_sh, am_mm U10)) ∧ ∃ (r11 : Int) (U11 : Nat → Nat → Int), Ev (am_kz N X) (d, 344, 0, [some (.inr (.inr 26)), some (.inl x1), none], [], (am_sh, am_mm U10)) (some (.inl r11), (am_sh, am_mm U11)) ∧ (((r11 = 0 : Prop)) → Ev (am_kz N X) ((d + 1), 342, 8, [some (.inr (.inr 26)), some (.inl x1), some (.inl 0), some (.inl (w32 (x3 + 1))), some (.inl (U9 26 8))], [], (am_sh, am_mm U11)) R) ∧ (¬ (r11 = 0) → ∃ (r12 : Int) (U12 : Nat → Nat → Int), Ev (am_kz N X) (d, 336, 0, [some (.inr (.inr 31)), some (.inl (U9 26 8))], [], (am_sh, am_mm U11)) (some (.inl r12), (am_sh, am_mm U12)) ∧ (((r12 = 0 : Prop)) → Ev (am_kz N X) ((d + 1), 342, 8, [some (.inr (.inr 26)), some (.inl x1), some (.inl 0), some (.inl (w32 (x3 + 1))), some (.inl (U9 26 8))], [], (am_sh, am_mm U12)) R) ∧ (¬ (r12 = 0) → Ev (am_kz N X) ((d + 1), 342, 8, [some (.inr (.inr 26)), some (.inl x1), some (.inl 1), some (.inl (w32 (x3 + 1))), some (.inl (U9 26 8))], [], (am_sh, am_mm U12)) R)))))))) : Ev (am_kz N X) ((d + 1), 342, 8, [some (.inr (.inr 26)), some (.inl x1), some (.inl x2), some (.inl x3), none], [], (am_sh, am_mm U)) R := by
  refine ev_br (P := 1600 ≤ x3) (σ1 := ((d + 1), 342, 88, [some (.inr (.inr 26)), some (.inl x1), some (.inl x2), some (.inl x3), none], [], (am_sh, am_mm U))) (σ2 := ((d + 1), 342, 15, [some (.inr (.inr 26)), some (.inl x1), some (.inl x2), some (.inl x3), none], [], (am_sh, am_mm U))) 3 (fun _ => rfl) (fun hc => ?_) (fun hc => ?_)
  · have h1 := h.1 hc
    refine ev_seg (σ1 := ((d + 1), 342, 89, [some (.inr (.inr 26)), some (.inl x1), some (.inl x2), some (.inl x3), none], [.inl x2], (am_sh, am_mm U))) 1 (fun _ => rfl) ?_
    rw [h1.2]
    exact ev_retz rfl rfl h1.1
  · have h2 := h.2 hc
    refine ev_br (P := x2 = 0) (σ1 := ((d + 1), 342, 88, [some (.inr (.inr 26)), some (.inl x1), some (.inl x2), some (.inl x3), none], [], (am_sh, am_mm U))) (σ2 := ((d + 1), 342, 19, [some (.inr (.inr 26)), some (.inl x1), some (.inl x2), some (.inl x3), none], [], (am_sh, am_mm U))) 2 (fun _ => rfl) (fun hc => ?_) (fun hc => ?_)
    · have h21 := h2.1 hc
      refine ev_seg (σ1 := ((d + 1), 342, 89, [some (.inr (.inr 26)), some (.inl x1), some (.inl x2), some (.inl x3), none], [.inl x2], (am_sh, am_mm U))) 1 (fun _ => rfl) ?_
      rw [h21.2]
      exact ev_retz rfl rfl h21.1
    · have h22 := h2.2 hc
      refine ev_seg (σ1 := ((d + 1), 342, 22, [some (.inr (.inr 26)), some (.inl x1), some (.inl x2), some (.inl x3), none], [.inl 42, .inr (.inr 26)], (am_sh, am_mm U))) 2 (fun _ => rfl) ?_
      obtain ⟨r1, U1, h22c, h22a⟩ := h22
      refine ev_cal (σc := (d, 300, 0, [some (.inr (.inr 26)), some (.inl 42)], [], (am_sh, am_mm U))) (fun _ => rfl) h22c ?_
      show Ev (am_kz N X) ((d + 1), 342, 25, [some (.inr (.inr 26)), some (.inl x1), some (.inl x2), some (.inl x3), none], [.inl r1], (am_sh, am_mm U1)) R
      refine ev_br (P := ¬ r1 = 0) (σ1 := ((d + 1), 342, 46, [some (.inr (.inr 26)), some (.inl x1), some (.inl x2), some (.inl x3), none], [], (am_sh, am_mm U1))) (σ2 := ((d + 1), 342, 28, [some (.inr (.inr 26)), some (.inl x1), some (.inl x2), some (.inl x3), none], [], (am_sh, am_mm U1))) 1 (fun _ => rfl) (fun hc => ?_) (fun hc => ?_)
      · have h22a1 := h22a.1 hc
        refine ev_seg (σ1 := ((d + 1), 342, 53, [some (.inr (.inr 26)), some (.inl x1), some (.inl x2), some (.inl x3), some (.inl (U1 26 8))], [.inr (.inr 26)], (am_sh, am_mm U1))) 4 (fun _ => rfl) ?_
        obtain ⟨U2, h22a1c, h22a1a⟩ := h22a1
        refine ev_cal (σc := (d, 177, 0, [some (.inr (.inr 26))], [], (am_sh, am_mm U1))) (fun _ => rfl) h22a1c ?_
        show Ev (am_kz N X) ((d + 1), 342, 56, [some (.inr (.inr 26)), some (.inl x1), some (.inl x2), some (.inl x3), some (.inl (U1 26 8))], [], (am_sh, am_mm U2)) R
        refine ev_seg (σ1 := ((d + 1), 342, 58, [some (.inr (.inr 26)), some (.inl x1), some (.inl x2), some (.inl x3), some (.inl (U1 26 8))], [.inl x1, .inr (.inr 26)], (am_sh, am_mm U2))) 2 (fun _ => rfl) ?_
        obtain ⟨r3, U3, h22a1ac, h22a1aa⟩ := h22a1a
        refine ev_cal (σc := (d, 344, 0, [some (.inr (.inr 26)), some (.inl x1), none], [], (am_sh, am_mm U2))) (fun _ => rfl) h22a1ac ?_
        show Ev (am_kz N X) ((d + 1), 342, 61, [some (.inr (.inr 26)), some (.inl x1), some (.inl x2), some (.inl x3), some (.inl (U1 26 8))], [.inl r3], (am_sh, am_mm U3)) R
        refine ev_br (P := r3 = 0) (σ1 := ((d + 1), 342, 80, [some (.inr (.inr 26)), some (.inl x1), some (.inl x2), some (.inl x3), some (.inl (U1 26 8))], [], (am_sh, am_mm U3))) (σ2 := ((d + 1), 342, 64, [some (.inr (.inr 26)), some (.inl x1), some (.inl x2), some (.inl x3), some (.inl (U1 26 8))], [], (am_sh, am_mm U3))) 1 (fun _ => rfl) (fun hc => ?_) (fun hc => ?_)
        · have h22a1aa1 := h22a1aa.1 hc
          refine ev_seg (σ1 := ((d + 1), 342, 8, [some (.inr (.inr 26)), some (.inl x1), some (.inl 0), some (.inl (w32 (x3 + 1))), some (.inl (U1 26 8))], [], (am_sh, am_mm U3))) 4 (fun _ => rfl) ?_
          exact h22a1aa1
        · have h22a1aa2 := h22a1aa.2 hc
          refine ev_seg (σ1 := ((d + 1), 342, 70, [some (.inr (.inr 26)), some (.inl x1), some (.inl x2), some (.inl x3), some (.inl (U1 26 8))], [.inl (U1 26 8), .inr (.inr 31)], (am_sh, am_mm U3))) 3 (fun _ => rfl) ?_
          obtain ⟨r4, U4, h22a1aa2c, h22a1aa2a⟩ := h22a1aa2
          refine ev_cal (σc := (d, 336, 0, [some (.inr (.inr 31)), some (.inl (U1 26 8))], [], (am_sh, am_mm U3))) (fun _ => rfl) h22a1aa2c ?_
          show Ev (am_kz N X) ((d + 1), 342, 73, [some (.inr (.inr 26)), some (.inl x1), some (.inl x2), some (.inl x3), some (.inl (U1 26 8))], [.inl r4], (am_sh, am_mm U4)) R
          refine ev_br (P := r4 = 0) (σ1 := ((d + 1), 342, 80, [some (.inr (.inr 26)), some (.inl x1), some (.inl x2), some (.inl x3), some (.inl (U1 26 8))], [], (am_sh, am_mm U4))) (σ2 := ((d + 1), 342, 76, [some (.inr (.inr 26)), some (.inl x1), some (.inl x2), some (.inl x3), some (.inl (U1 26 8))], [], (am_sh, am_mm U4))) 1 (fun _ => rfl) (fun hc => ?_) (fun hc => ?_)
          · have h22a1aa2a1 := h22a1aa2a.1 hc
            refine ev_seg (σ1 := ((d + 1), 342, 8, [some (.inr (.inr 26)), some (.inl x1), some (.inl 0), some (.inl (w32 (x3 + 1))), some (.inl (U1 26 8))], [], (am_sh, am_mm U4))) 4 (fun _ => rfl) ?_
            exact h22a1aa2a1
          · have h22a1aa2a2 := h22a1aa2a.2 hc
            refine ev_seg (σ1 := ((d + 1), 342, 8, [some (.inr (.inr 26)), some (.inl x1), some (.inl 1), some (.inl (w32 (x3 + 1))), some (.inl (U1 26 8))], [], (am_sh, am_mm U4))) 5 (fun _ => rfl) ?_
            exact h22a1aa2a2
      · have h22a2 := h22a.2 hc
        refine ev_seg (σ1 := ((d + 1), 342, 31, [some (.inr (.inr 26)), some (.inl x1), some (.inl x2), some (.inl x3), none], [.inl 47, .inr (.inr 26)], (am_sh, am_mm U1))) 2 (fun _ => rfl) ?_
        obtain ⟨r5, U5, h22a2c, h22a2a⟩ := h22a2
        refine ev_cal (σc := (d, 300, 0, [some (.inr (.inr 26)), some (.inl 47)], [], (am_sh, am_mm U1))) (fun _ => rfl) h22a2c ?_
        show Ev (am_kz N X) ((d + 1), 342, 34, [some (.inr (.inr 26)), some (.inl x1), some (.inl x2), some (.inl x3), none], [.inl r5], (am_sh, am_mm U5)) R
        refine ev_br (P := ¬ r5 = 0) (σ1 := ((d + 1), 342, 46, [some (.inr (.inr 26)), some (.inl x1), some (.inl x2), some (.inl x3), none], [], (am_sh, am_mm U5))) (σ2 := ((d + 1), 342, 37, [some (.inr (.inr 26)), some (.inl x1), some (.inl x2), some (.inl x3), none], [], (am_sh, am_mm U5))) 1 (fun _ => rfl) (fun hc => ?_) (fun hc => ?_)
        · have h22a2a1 := h22a2a.1 hc
          refine ev_seg (σ1 := ((d + 1), 342, 53, [some (.inr (.inr 26)), some (.inl x1), some (.inl x2), some (.inl x3), some (.inl (U5 26 8))], [.inr (.inr 26)], (am_sh, am_mm U5))) 4 (fun _ => rfl) ?_
          obtain ⟨U6, h22a2a1c, h22a2a1a⟩ := h22a2a1
          refine ev_cal (σc := (d, 177, 0, [some (.inr (.inr 26))], [], (am_sh, am_mm U5))) (fun _ => rfl) h22a2a1c ?_
          show Ev (am_kz N X) ((d + 1), 342, 56, [some (.inr (.inr 26)), some (.inl x1), some (.inl x2), some (.inl x3), some (.inl (U5 26 8))], [], (am_sh, am_mm U6)) R
          refine ev_seg (σ1 := ((d + 1), 342, 58, [some (.inr (.inr 26)), some (.inl x1), some (.inl x2), some (.inl x3), some (.inl (U5 26 8))], [.inl x1, .inr (.inr 26)], (am_sh, am_mm U6))) 2 (fun _ => rfl) ?_
          obtain ⟨r7, U7, h22a2a1ac, h22a2a1aa⟩ := h22a2a1a
          refine ev_cal (σc := (d, 344, 0, [some (.inr (.inr 26)), some (.inl x1), none], [], (am_sh, am_mm U6))) (fun _ => rfl) h22a2a1ac ?_
          show Ev (am_kz N X) ((d + 1), 342, 61, [some (.inr (.inr 26)), some (.inl x1), some (.inl x2), some (.inl x3), some (.inl (U5 26 8))], [.inl r7], (am_sh, am_mm U7)) R
          refine ev_br (P := r7 = 0) (σ1 := ((d + 1), 342, 80, [some (.inr (.inr 26)), some (.inl x1), some (.inl x2), some (.inl x3), some (.inl (U5 26 8))], [], (am_sh, am_mm U7))) (σ2 := ((d + 1), 342, 64, [some (.inr (.inr 26)), some (.inl x1), some (.inl x2), some (.inl x3), some (.inl (U5 26 8))], [], (am_sh, am_mm U7))) 1 (fun _ => rfl) (fun hc => ?_) (fun hc => ?_)
          · have h22a2a1aa1 := h22a2a1aa.1 hc
            refine ev_seg (σ1 := ((d + 1), 342, 8, [some (.inr (.inr 26)), some (.inl x1), some (.inl 0), some (.inl (w32 (x3 + 1))), some (.inl (U5 26 8))], [], (am_sh, am_mm U7))) 4 (fun _ => rfl) ?_
            exact h22a2a1aa1
          · have h22a2a1aa2 := h22a2a1aa.2 hc
            refine ev_seg (σ1 := ((d + 1), 342, 70, [some (.inr (.inr 26)), some (.inl x1), some (.inl x2), some (.inl x3), some (.inl (U5 26 8))], [.inl (U5 26 8), .inr (.inr 31)], (am_sh, am_mm U7))) 3 (fun _ => rfl) ?_
            obtain ⟨r8, U8, h22a2a1aa2c, h22a2a1aa2a⟩ := h22a2a1aa2
            refine ev_cal (σc := (d, 336, 0, [some (.inr (.inr 31)), some (.inl (U5 26 8))], [], (am_sh, am_mm U7))) (fun _ => rfl) h22a2a1aa2c ?_
            show Ev (am_kz N X) ((d + 1), 342, 73, [some (.inr (.inr 26)), some (.inl x1), some (.inl x2), some (.inl x3), some (.inl (U5 26 8))], [.inl r8], (am_sh, am_mm U8)) R
            refine ev_br (P := r8 = 0) (σ1 := ((d + 1), 342, 80, [some (.inr (.inr 26)), some (.inl x1), some (.inl x2), some (.inl x3), some (.inl (U5 26 8))], [], (am_sh, am_mm U8))) (σ2 := ((d + 1), 342, 76, [some (.inr (.inr 26)), some (.inl x1), some (.inl x2), some (.inl x3), some (.inl (U5 26 8))], [], (am_sh, am_mm U8))) 1 (fun _ => rfl) (fun hc => ?_) (fun hc => ?_)
            · have h22a2a1aa2a1 := h22a2a1aa2a.1 hc
              refine ev_seg (σ1 := ((d + 1), 342, 8, [some (.inr (.inr 26)), some (.inl x1), some (.inl 0), some (.inl (w32 (x3 + 1))), some (.inl (U5 26 8))], [], (am_sh, am_mm U8))) 4 (fun _ => rfl) ?_
              exact h22a2a1aa2a1
            · have h22a2a1aa2a2 := h22a2a1aa2a.2 hc
              refine ev_seg (σ1 := ((d + 1), 342, 8, [some (.inr (.inr 26)), some (.inl x1), some (.inl 1), some (.inl (w32 (x3 + 1))), some (.inl (U5 26 8))], [], (am_sh, am_mm U8))) 5 (fun _ => rfl) ?_
              exact h22a2a1aa2a2
        · have h22a2a2 := h22a2a.2 hc
          refine ev_seg (σ1 := ((d + 1), 342, 40, [some (.inr (.inr 26)), some (.inl x1), some (.inl x2), some (.inl x3), none], [.inl 37, .inr (.inr 26)], (am_sh, am_mm U5))) 2 (fun _ => rfl) ?_
          obtain ⟨r9, U9, h22a2a2c, h22a2a2a⟩ := h22a2a2
          refine ev_cal (σc := (d, 300, 0, [some (.inr (.inr 26)), some (.inl 37)], [], (am_sh, am_mm U5))) (fun _ => rfl) h22a2a2c ?_
          show Ev (am_kz N X) ((d + 1), 342, 43, [some (.inr (.inr 26)), some (.inl x1), some (.inl x2), some (.inl x3), none], [.inl r9], (am_sh, am_mm U9)) R
          refine ev_br (P := r9 = 0) (σ1 := ((d + 1), 342, 88, [some (.inr (.inr 26)), some (.inl x1), some (.inl x2), some (.inl x3), none], [], (am_sh, am_mm U9))) (σ2 := ((d + 1), 342, 46, [some (.inr (.inr 26)), some (.inl x1), some (.inl x2), some (.inl x3), none], [], (am_sh, am_mm U9))) 1 (fun _ => rfl) (fun hc => ?_) (fun hc => ?_)
          · have h22a2a2a1 := h22a2a2a.1 hc
            refine ev_seg (σ1 := ((d + 1), 342, 89, [some (.inr (.inr 26)), some (.inl x1), some (.inl x2), some (.inl x3), none], [.inl x2], (am_sh, am_mm U9))) 1 (fun _ => rfl) ?_
            rw [h22a2a2a1.2]
            exact ev_retz rfl rfl h22a2a2a1.1
          · have h22a2a2a2 := h22a2a2a.2 hc
            refine ev_seg (σ1 := ((d + 1), 342, 53, [some (.inr (.inr 26)), some (.inl x1), some (.inl x2), some (.inl x3), some (.inl (U9 26 8))], [.inr (.inr 26)], (am_sh, am_mm U9))) 4 (fun _ => rfl) ?_
            obtain ⟨U10, h22a2a2a2c, h22a2a2a2a⟩ := h22a2a2a2
            refine ev_cal (σc := (d, 177, 0, [some (.inr (.inr 26))], [], (am_sh, am_mm U9))) (fun _ => rfl) h22a2a2a2c ?_
            show Ev (am_kz N X) ((d + 1), 342, 56, [some (.inr (.inr 26)), some (.inl x1), some (.inl x2), some (.inl x3), some (.inl (U9 26 8))], [], (am_sh, am_mm U10)) R
            refine ev_seg (σ1 := ((d + 1), 342, 58, [some (.inr (.inr 26)), some (.inl x1), some (.inl x2), some (.inl x3), some (.inl (U9 26 8))], [.inl x1, .inr (.inr 26)], (am_sh, am_mm U10))) 2 (fun _ => rfl) ?_
            obtain ⟨r11, U11, h22a2a2a2ac, h22a2a2a2aa⟩ := h22a2a2a2a
            refine ev_cal (σc := (d, 344, 0, [some (.inr (.inr 26)), some (.inl x1), none], [], (am_sh, am_mm U10))) (fun _ => rfl) h22a2a2a2ac ?_
            show Ev (am_kz N X) ((d + 1), 342, 61, [some (.inr (.inr 26)), some (.inl x1), some (.inl x2), some (.inl x3), some (.inl (U9 26 8))], [.inl r11], (am_sh, am_mm U11)) R
            refine ev_br (P := r11 = 0) (σ1 := ((d + 1), 342, 80, [some (.inr (.inr 26)), some (.inl x1), some (.inl x2), some (.inl x3), some (.inl (U9 26 8))], [], (am_sh, am_mm U11))) (σ2 := ((d + 1), 342, 64, [some (.inr (.inr 26)), some (.inl x1), some (.inl x2), some (.inl x3), some (.inl (U9 26 8))], [], (am_sh, am_mm U11))) 1 (fun _ => rfl) (fun hc => ?_) (fun hc => ?_)
            · have h22a2a2a2aa1 := h22a2a2a2aa.1 hc
              refine ev_seg (σ1 := ((d + 1), 342, 8, [some (.inr (.inr 26)), some (.inl x1), some (.inl 0), some (.inl (w32 (x3 + 1))), some (.inl (U9 26 8))], [], (am_sh, am_mm U11))) 4 (fun _ => rfl) ?_
              exact h22a2a2a2aa1
            · have h22a2a2a2aa2 := h22a2a2a2aa.2 hc
              refine ev_seg (σ1 := ((d + 1), 342, 70, [some (.inr (.inr 26)), some (.inl x1), some (.inl x2), some (.inl x3), some (.inl (U9 26 8))], [.inl (U9 26 8), .inr (.inr 31)], (am_sh, am_mm U11))) 3 (fun _ => rfl) ?_
              obtain ⟨r12, U12, h22a2a2a2aa2c, h22a2a2a2aa2a⟩ := h22a2a2a2aa2
              refine ev_cal (σc := (d, 336, 0, [some (.inr (.inr 31)), some (.inl (U9 26 8))], [], (am_sh, am_mm U11))) (fun _ => rfl) h22a2a2a2aa2c ?_
              show Ev (am_kz N X) ((d + 1), 342, 73, [some (.inr (.inr 26)), some (.inl x1), some (.inl x2), some (.inl x3), some (.inl (U9 26 8))], [.inl r12], (am_sh, am_mm U12)) R
              refine ev_br (P := r12 = 0) (σ1 := ((d + 1), 342, 80, [some (.inr (.inr 26)), some (.inl x1), some (.inl x2), some (.inl x3), some (.inl (U9 26 8))], [], (am_sh, am_mm U12))) (σ2 := ((d + 1), 342, 76, [some (.inr (.inr 26)), some (.inl x1), some (.inl x2), some (.inl x3), some (.inl (U9 26 8))], [], (am_sh, am_mm U12))) 1 (fun _ => rfl) (fun hc => ?_) (fun hc => ?_)
              · have h22a2a2a2aa2a1 := h22a2a2a2aa2a.1 hc
                refine ev_seg (σ1 := ((d + 1), 342, 8, [some (.inr (.inr 26)), some (.inl x1), some (.inl 0), some (.inl (w32 (x3 + 1))), some (.inl (U9 26 8))], [], (am_sh, am_mm U12))) 4 (fun _ => rfl) ?_
                exact h22a2a2a2aa2a1
              · have h22a2a2a2aa2a2 := h22a2a2a2aa2a.2 hc
                refine ev_seg (σ1 := ((d + 1), 342, 8, [some (.inr (.inr 26)), some (.inl x1), some (.inl 1), some (.inl (w32 (x3 + 1))), some (.inl (U9 26 8))], [], (am_sh, am_mm U12))) 5 (fun _ => rfl) ?_
                exact h22a2a2a2aa2a2
set_option maxRecDepth 8000 in
theorem st332_m3_0 (N : Nat) (X : Nat → Int) (d : Nat) (U : Nat → Nat → Int) (R : Option am_V × am_M) (h : ∃ (r1 : Int) (U1 : Nat → Nat → Int), Ev (am_kz N X) (d, 339, 0, [some (.inr (.inr (-3)))], [], (am_sh, am_mm U)) (some (.inl r1), (am_sh, am_mm U1)) ∧ R = (some (.inl (am_shr 156 r1)), (am_sh, am_mm U1))) : Ev (am_kz N X) ((d + 1), 332, 0, [some (.inr (.inr (-3)))], [], (am_sh, am_mm U)) R := by
  refine ev_seg (σ1 := ((d + 1), 332, 6, [some (.inr (.inr (-3)))], [.inr (.inr (-3)), .inl 156], (am_sh, am_mm U))) 4 (fun _ => rfl) ?_
  obtain ⟨r1, U1, hc, ha⟩ := h
  refine ev_cal (σc := (d, 339, 0, [some (.inr (.inr (-3)))], [], (am_sh, am_mm U))) (fun _ => rfl) hc ?_
  show Ev (am_kz N X) ((d + 1), 332, 9, [some (.inr (.inr (-3)))], [.inl r1, .inl 156], (am_sh, am_mm U1)) R
  subst ha
  exact ev_end 2 (fun _ => rfl)
set_option maxRecDepth 8000 in
theorem st344_26_0 (N : Nat) (X : Nat → Int) (d : Nat) (x1 : Int) (U : Nat → Nat → Int) (R : Option am_V × am_M) (h : (((¬ (U 26 7) = 3 : Prop)) → ∃ (r1 : Int) (U1 : Nat → Nat → Int), Ev (am_kz N X) (d, 300, 0, [some (.inr (.inr 26)), some (.inl 40)], [], (am_sh, am_mm U)) (some (.inl r1), (am_sh, am_mm U1)) ∧ (((r1 = 0 : Prop)) → ((((U1 26 7) = 1 : Prop)) → ((U 26 8) = 0 → ∃ U2 : Nat → Nat → Int, Ev (am_kz N X) (d, 177, 0, [some (.inr (.inr 26))], [], (am_sh, am_mm U1)) (none, (am_sh, am_mm U2)) ∧ ∃ (r3 : Int) (U3 : Nat → Nat → Int), Ev (am_kz N X) (d, 304, 0, [some (.inr (.inr 31)), some (.inl (U 26 8))], [], (am_sh, am_mm U2)) (some (.inl r3), (am_sh, am_mm U3)) ∧ (r3 = 0 ∨ r3 = 1) ∧ R = (some (.inl r3), (am_sh, am_mm U3))) ∧ ((U 26 8) = 1 → ∃ U4 : Nat → Nat → Int, Ev (am_kz N X) (d, 177, 0, [some (.inr (.inr 26))], [], (am_sh, am_mm U1)) (none, (am_sh, am_mm U4)) ∧ ∃ (r5 : Int) (U5 : Nat → Nat → Int), Ev (am_kz N X) (d, 304, 0, [some (.inr (.inr 31)), some (.inl (U 26 8))], [], (am_sh, am_mm U4)) (some (.inl r5), (am_sh, am_mm U5)) ∧ (r5 = 0 ∨ r5 = 1) ∧ R = (some (.inl r5), (am_sh, am_mm U5))) ∧ ((U 26 8) = 2 → ∃ (r6 : Int) (U6 : Nat → Nat → Int), Ev (am_kz N X) (d, 262, 0, [some (.inr (.inr 26))], [], (am_sh, am_mm U1)) (some (.inl r6), (am_sh, am_mm U6)) ∧ (r6 = 0 ∨ r6 = 1) ∧ R = (some (.inl r6), (am_sh, am_mm U6))) ∧ ((U 26 8) = 3 → ∃ U7 : Nat → Nat → Int, Ev (am_kz N X) (d, 177, 0, [some (.inr (.inr 26))], [], (am_sh, am_mm U1)) (none, (am_sh, am_mm U7)) ∧ ∃ (r8 : Int) (U8 : Nat → Nat → Int), Ev (am_kz N X) (d, 304, 0, [some (.inr (.inr 31)), some (.inl (U 26 8))], [], (am_sh, am_mm U7)) (some (.inl r8), (am_sh, am_mm U8)) ∧ (r8 = 0 ∨ r8 = 1) ∧ R = (some (.inl r8), (am_sh, am_mm U8))) ∧ ((U 26 8) = 4 → ∃ (r9 : Int) (U9 : Nat → Nat → Int), Ev (am_kz N X) (d, 262, 0, [some (.inr (.inr 26))], [], (am_sh, am_mm U1)) (some (.inl r9), (am_sh, am_mm U9)) ∧ (r9 = 0 ∨ r9 = 1) ∧ R = (some (.inl r9), (am_sh, am_mm U9))) ∧ ((U 26 8) = 5 → ∃ (r10 : Int) (U10 : Nat → Nat → Int), Ev (am_kz N X) (d, 262, 0, [some (.inr (.inr 26))], [], (am_sh, am_mm U1)) (some (.inl r10), (am_sh, am_mm U10)) ∧ (r10 = 0 ∨ r10 = 1) ∧ R = (some (.inl r10), (am_sh, am_mm U10))) ∧ ((U 26 8) = 6 → ∃ (r11 : Int) (U11 : Nat → Nat → Int), Ev (am_kz N X) (d, 262, 0, [some (.inr (.inr 26))], [], (am_sh, am_mm U1)) (some (.inl r11), (am_sh, am_mm U11)) ∧ (r11 = 0 ∨ r11 = 1) ∧ R = (some (.inl r11), (am_sh, am_mm U11))) ∧ ((U 26 8) = 7 → ∃ (r12 : Int) (U12 : Nat → Nat → Int), Ev (am_kz N X) (d, 262, 0, [some (.inr (.inr 26))], [], (am_sh, am_mm U1)) (some (.inl r12), (am_sh, am_mm U12)) ∧ (r12 = 0 ∨ r12 = 1) ∧ R = (some (.inl r12), (am_sh, am_mm U12))) ∧ ((U 26 8) = 8 → ∃ (r13 : Int) (U13 : Nat → Nat → Int), Ev (am_kz N X) (d, 262, 0, [some (.inr (.inr 26))], [], (am_sh, am_mm U1)) (some (.inl r13), (am_sh, am_mm U13)) ∧ (r13 = 0 ∨ r13 = 1) ∧ R = (some (.inl r13), (am_sh, am_mm U13))) ∧ ((U 26 8) = 9 → ∃ (r14 : Int) (U14 : Nat → Nat → Int), Ev (am_kz N X) (d, 262, 0, [some (.inr (.inr 26))], [], (am_sh, am_mm U1)) (some (.inl r14), (am_sh, am_mm U14)) ∧ (r14 = 0 ∨ r14 = 1) ∧ R = (some (.inl r14), (am_sh, am_mm U14))) ∧ ((U 26 8) = 10 → ∃ (r15 : Int) (U15 : Nat → Nat → Int), Ev (am_kz N X) (d, 262, 0, [some (.inr (.inr 26))], [], (am_sh, am_mm U1)) (some (.inl r15), (am_sh, am_mm U15)) ∧ (r15 = 0 ∨ r15 = 1) ∧ R = (some (.inl r15), (am_sh, am_mm U15))) ∧ ((U 26 8) = 11 → ∃ (r16 : Int) (U16 : Nat → Nat → Int), Ev (am_kz N X) (d, 262, 0, [some (.inr (.inr 26))], [], (am_sh, am_mm U1)) (some (.inl r16), (am_sh, am_mm U16)) ∧ (r16 = 0 ∨ r16 = 1) ∧ R = (some (.inl r16), (am_sh, am_mm U16))) ∧ ((U 26 8) = 12 → ∃ (r17 : Int) (U17 : Nat → Nat → Int), Ev (am_kz N X) (d, 262, 0, [some (.inr (.inr 26))], [], (am_sh, am_mm U1)) (some (.inl r17), (am_sh, am_mm U17)) ∧ (r17 = 0 ∨ r17 = 1) ∧ R = (some (.inl r17), (am_sh, am_mm U17))) ∧ ((U 26 8) = 13 → ∃ (r18 : Int) (U18 : Nat → Nat → Int), Ev (am_kz N X) (d, 262, 0, [some (.inr (.inr 26))], [], (am_sh, am_mm U1)) (some (.inl r18), (am_sh, am_mm U18)) ∧ (r18 = 0 ∨ r18 = 1) ∧ R = (some (.inl r18), (am_sh, am_mm U18))) ∧ ((U 26 8) = 14 → ∃ U19 : Nat → Nat → Int, Ev (am_kz N X) (d, 177, 0, [some (.inr (.inr 26))], [], (am_sh, am_mm U1)) (none, (am_sh, am_mm U19)) ∧ ∃ (r20 : Int) (U20 : Nat → Nat → Int), Ev (am_kz N X) (d, 304, 0, [some (.inr (.inr 31)), some (.inl (U 26 8))], [], (am_sh, am_mm U19)) (some (.inl r20), (am_sh, am_mm U20)) ∧ (r20 = 0 ∨ r20 = 1) ∧ R = (some (.inl r20), (am_sh, am_mm U20))) ∧ ((U 26 8) = 15 → ∃ U21 : Nat → Nat → Int, Ev (am_kz N X) (d, 177, 0, [some (.inr (.inr 26))], [], (am_sh, am_mm U1)) (none, (am_sh, am_mm U21)) ∧ ∃ (r22 : Int) (U22 : Nat → Nat → Int), Ev (am_kz N X) (d, 304, 0, [some (.inr (.inr 31)), some (.inl (U 26 8))], [], (am_sh, am_mm U21)) (some (.inl r22), (am_sh, am_mm U22)) ∧ (r22 = 0 ∨ r22 = 1) ∧ R = (some (.inl r22), (am_sh, am_mm U22))) ∧ ((U 26 8) = 16 → ∃ U23 : Nat → Nat → Int, Ev (am_kz N X) (d, 177, 0, [some (.inr (.inr 26))], [], (am_sh, am_mm U1)) (none, (am_sh, am_mm U23)) ∧ ∃ (r24 : Int) (U24 : Nat → Nat → Int), Ev (am_kz N X) (d, 304, 0, [some (.inr (.inr 31)), some (.inl (U 26 8))], [], (am_sh, am_mm U23)) (some (.inl r24), (am_sh, am_mm U24)) ∧ (r24 = 0 ∨ r24 = 1) ∧ R = (some (.inl r24), (am_sh, am_mm U24))) ∧ ((U 26 8) = 17 → ∃ (r25 : Int) (U25 : Nat → Nat → Int), Ev (am_kz N X) (d, 262, 0, [some (.inr (.inr 26))], [], (am_sh, am_mm U1)) (some (.inl r25), (am_sh, am_mm U25)) ∧ (r25 = 0 ∨ r25 = 1) ∧ R = (some (.inl r25), (am_sh, am_mm U25))) ∧ ((U 26 8) = 18 → ∃ (r26 : Int) (U26 : Nat → Nat → Int), Ev (am_kz N X) (d, 262, 0, [some (.inr (.inr 26))], [], (am_sh, am_mm U1)) (some (.inl r26), (am_sh, am_mm U26)) ∧ (r26 = 0 ∨ r26 = 1) ∧ R = (some (.inl r26), (am_sh, am_mm U26))) ∧ ((U 26 8) = 19 → ∃ (r27 : Int) (U27 : Nat → Nat → Int), Ev (am_kz N X) (d, 262, 0, [some (.inr (.inr 26))], [], (am_sh, am_mm U1)) (some (.inl r27), (am_sh, am_mm U27)) ∧ (r27 = 0 ∨ r27 = 1) ∧ R = (some (.inl r27), (am_sh, am_mm U27))) ∧ ((U 26 8) = 20 → ∃ (r28 : Int) (U28 : Nat → Nat → Int), Ev (am_kz N X) (d, 262, 0, [some (.inr (.inr 26))], [], (am_sh, am_mm U1)) (some (.inl r28), (am_sh, am_mm U28)) ∧ (r28 = 0 ∨ r28 = 1) ∧ R = (some (.inl r28), (am_sh, am_mm U28))) ∧ ((U 26 8) = 21 → ∃ (r29 : Int) (U29 : Nat → Nat → Int), Ev (am_kz N X) (d, 262, 0, [some (.inr (.inr 26))], [], (am_sh, am_mm U1)) (some (.inl r29), (am_sh, am_mm U29)) ∧ (r29 = 0 ∨ r29 = 1) ∧ R = (some (.inl r29), (am_sh, am_mm U29))) ∧ ((U 26 8) = 22 → ∃ (r30 : Int) (U30 : Nat → Nat → Int), Ev (am_kz N X) (d, 262, 0, [some (.inr (.inr 26))], [], (am_sh, am_mm U1)) (some (.inl r30), (am_sh, am_mm U30)) ∧ (r30 = 0 ∨ r30 = 1) ∧ R = (some (.inl r30), (am_sh, am_mm U30))) ∧ ((U 26 8) = 23 → ∃ U31 : Nat → Nat → Int, Ev (am_kz N X) (d, 177, 0, [some (.inr (.inr 26))], [], (am_sh, am_mm U1)) (none, (am_sh, am_mm U31)) ∧ ∃ (r32 : Int) (U32 : Nat → Nat → Int), Ev (am_kz N X) (d, 346, 0, [some (.inr (.inr 26)), some (.inl x1)], [], (am_sh, am_mm U31)) (some (.inl r32), (am_sh, am_mm U32)) ∧ (((r32 = 0 : Prop)) → R = (some (.inl 0), (am_sh, am_mm U32))) ∧ (¬ (r32 = 0) → ∃ (r33 : Int) (U33 : Nat → Nat → Int), Ev (am_kz N X) (d, 304, 0, [some (.inr (.inr 31)), some (.inl (U 26 8))], [], (am_sh, am_mm U32)) (some (.inl r33), (am_sh, am_mm U33)) ∧ (((r33 = 0 : Prop)) → R = (some (.inl 0), (am_sh, am_mm U33))) ∧ (¬ (r33 = 0) → R = (some (.inl 1), (am_sh, am_mm U33))))) ∧ ((U 26 8) = 24 → ∃ U34 : Nat → Nat → Int, Ev (am_kz N X) (d, 177, 0, [some (.inr (.inr 26))], [], (am_sh, am_mm U1)) (none, (am_sh, am_mm U34)) ∧ ∃ (r35 : Int) (U35 : Nat → Nat → Int), Ev (am_kz N X) (d, 346, 0, [some (.inr (.inr 26)), some (.inl x1)], [], (am_sh, am_mm U34)) (some (.inl r35), (am_sh, am_mm U35)) ∧ (((r35 = 0 : Prop)) → R = (some (.inl 0), (am_sh, am_mm U35))) ∧ (¬ (r35 = 0) → ∃ (r36 : Int) (U36 : Nat → Nat → Int), Ev (am_kz N X) (d, 304, 0, [some (.inr (.inr 31)), some (.inl (U 26 8))], [], (am_sh, am_mm U35)) (some (.inl r36), (am_sh, am_mm U36)) ∧ (((r36 = 0 : Prop)) → R = (some (.inl 0), (am_sh, am_mm U36))) ∧ (¬ (r36 = 0) → R = (some (.inl 1), (am_sh, am_mm U36))))) ∧ ((U 26 8) = 25 → ∃ U37 : Nat → Nat → Int, Ev (am_kz N X) (d, 177, 0, [some (.inr (.inr 26))], [], (am_sh, am_mm U1)) (none, (am_sh, am_mm U37)) ∧ ∃ (r38 : Int) (U38 : Nat → Nat → Int), Ev (am_kz N X) (d, 346, 0, [some (.inr (.inr 26)), some (.inl x1)], [], (am_sh, am_mm U37)) (some (.inl r38), (am_sh, am_mm U38)) ∧ (((r38 = 0 : Prop)) → R = (some (.inl 0), (am_sh, am_mm U38))) ∧ (¬ (r38 = 0) → ∃ (r39 : Int) (U39 : Nat → Nat → Int), Ev (am_kz N X) (d, 304, 0, [some (.inr (.inr 31)), some (.inl (U 26 8))], [], (am_sh, am_mm U38)) (some (.inl r39), (am_sh, am_mm U39)) ∧ (((r39 = 0 : Prop)) → R = (some (.inl 0), (am_sh, am_mm U39))) ∧ (¬ (r39 = 0) → R = (some (.inl 1), (am_sh, am_mm U39))))) ∧ (¬ (U 26 8) = 0 ∧ ¬ (U 26 8) = 1 ∧ ¬ (U 26 8) = 2 ∧ ¬ (U 26 8) = 3 ∧ ¬ (U 26 8) = 4 ∧ ¬ (U 26 8) = 5 ∧ ¬ (U 26 8) = 6 ∧ ¬ (U 26 8) = 7 ∧ ¬ (U 26 8) = 8 ∧ ¬ (U 26 8) = 9 ∧ ¬ (U 26 8) = 10 ∧ ¬ (U 26 8) = 11 ∧ ¬ (U 26 8) = 12 ∧ ¬ (U 26 8) = 13 ∧ ¬ (U 26 8) = 14 ∧ ¬ (U 26 8) = 15 ∧ ¬ (U 26 8) = 16 ∧ ¬ (U 26 8) = 17 ∧ ¬ (U 26 8) = 18 ∧ ¬ (U 26 8) = 19 ∧ ¬ (U 26 8) = 20 ∧ ¬ (U 26 8) = 21 ∧ ¬ (U 26 8) = 22 ∧ ¬ (U 26 8) = 23 ∧ ¬ (U 26 8) = 24 ∧ ¬ (U 26 8) = 25 → ∃ (r40 : Int) (U40 : Nat → Nat → Int), Ev (am_kz N X) (d, 262, 0, [some (.inr (.inr 26))], [], (am_sh, am_mm U1)) (some (.inl r40), (am_sh, am_mm U40)) ∧ (r40 = 0 ∨ r40 = 1) ∧ R = (some (.inl r40), (am_sh, am_mm U40)))) ∧ (¬ ((U1 26 7) = 1) → ∃ (r41 : Int) (U41 : Nat → Nat → Int), Ev (am_kz N X) (d, 262, 0, [some (.inr (.inr 26))], [], (am_sh, am_mm U1)) (some (.inl r41), (am_sh, am_mm U41)) ∧ (r41 = 0 ∨ r41 = 1) ∧ R = (some (.inl r41), (am_sh, am_mm U41)))) ∧ (¬ (r1 = 0) → ∃ (r42 : Int) (U42 : Nat → Nat → Int), Ev (am_kz N X) (d, 334, 0, [some (.inr (.inr 26)), some (.inl x1)], [], (am_sh, am_mm U1)) (some (.inl r42), (am_sh, am_mm U42)) ∧ (((r42 = 0 : Prop)) → R = (some (.inl 0), (am_sh, am_mm U42))) ∧ (¬ (r42 = 0) → ∃ (r43 : Int) (U43 : Nat → Nat → Int), Ev (am_kz N X) (d, 335, 0, [some (.inr (.inr 26)), some (.inl (w32 (x1 + 1))), none, none, none], [], (am_sh, am_mm U42)) (some (.inl r43), (am_sh, am_mm U43)) ∧ (((r43 = 0 : Prop)) → R = (some (.inl 0), (am_sh, am_mm U43))) ∧ (¬ (r43 = 0) → ∃ (r44 : Int) (U44 : Nat → Nat → Int), Ev (am_kz N X) (d, 263, 0, [some (.inr (.inr 26)), some (.inl 41)], [], (am_sh, am_mm U43)) (some (.inl r44), (am_sh, am_mm U44)) ∧ (((r44 = 0 : Prop)) → R = (some (.inl 0), (am_sh, am_mm U44))) ∧ (¬ (r44 = 0) → R = (some (.inl 1), (am_sh, am_mm U44))))))) ∧ (¬ (¬ (U 26 7) = 3) → ∃ U45 : Nat → Nat → Int, Ev (am_kz N X) (d, 177, 0, [some (.inr (.inr 26))], [], (am_sh, am_mm U)) (none, (am_sh, am_mm U45)) ∧ ∃ (r46 : Int) (U46 : Nat → Nat → Int), Ev (am_kz N X) (d, 324, 0, [some (.inr (.inr 31)), some (.inl (U 26 8))], [], (am_sh, am_mm U45)) (some (.inl r46), (am_sh, am_mm U46)) ∧ (r46 = 0 ∨ r46 = 1) ∧ R = (some (.inl r46), (am_sh, am_mm U46)))) : Ev (am_kz N X) ((d + 1), 344, 0, [some (.inr (.inr 26)), some (.inl x1), none], [], (am_sh, am_mm U)) R := by
  refine ev_br (P := ¬ (U 26 7) = 3) (σ1 := ((d + 1), 344, 26, [some (.inr (.inr 26)), some (.inl x1), some (.inl (U 26 8))], [], (am_sh, am_mm U))) (σ2 := ((d + 1), 344, 13, [some (.inr (.inr 26)), some (.inl x1), some (.inl (U 26 8))], [], (am_sh, am_mm U))) 7 (fun _ => rfl) (fun hc => ?_) (fun hc => ?_)
  · have h1 := h.1 hc
    refine ev_seg (σ1 := ((d + 1), 344, 29, [some (.inr (.inr 26)), some (.inl x1), some (.inl (U 26 8))], [.inl 40, .inr (.inr 26)], (am_sh, am_mm U))) 2 (fun _ => rfl) ?_
    obtain ⟨r1, U1, h1c, h1a⟩ := h1
    refine ev_cal (σc := (d, 300, 0, [some (.inr (.inr 26)), some (.inl 40)], [], (am_sh, am_mm U))) (fun _ => rfl) h1c ?_
    show Ev (am_kz N X) ((d + 1), 344, 32, [some (.inr (.inr 26)), some (.inl x1), some (.inl (U 26 8))], [.inl r1], (am_sh, am_mm U1)) R
    refine ev_br (P := r1 = 0) (σ1 := ((d + 1), 344, 68, [some (.inr (.inr 26)), some (.inl x1), some (.inl (U 26 8))], [], (am_sh, am_mm U1))) (σ2 := ((d + 1), 344, 35, [some (.inr (.inr 26)), some (.inl x1), some (.inl (U 26 8))], [], (am_sh, am_mm U1))) 1 (fun _ => rfl) (fun hc => ?_) (fun hc => ?_)
    · have h1a1 := h1a.1 hc
      refine ev_br (P := (U1 26 7) = 1) (σ1 := ((d + 1), 344, 81, [some (.inr (.inr 26)), some (.inl x1), some (.inl (U 26 8))], [], (am_sh, am_mm U1))) (σ2 := ((d + 1), 344, 76, [some (.inr (.inr 26)), some (.inl x1), some (.inl (U 26 8))], [], (am_sh, am_mm U1))) 4 (fun _ => rfl) (fun hc => ?_) (fun hc => ?_)
      · have h1a11 := h1a1.1 hc
        refine ev_seg (σ1 := ((d + 1), 344, 82, [some (.inr (.inr 26)), some (.inl x1), some (.inl (U 26 8))], [.inl (U 26 8)], (am_sh, am_mm U1))) 1 (fun _ => rfl) ?_
        by_cases hc : (U 26 8) = 0
        · have h1a11k0 := h1a11.1 hc
          refine ev_sw (off := 118) rfl (by rw [hc]; rfl) (pt := 200) rfl ?_
          refine ev_seg (σ1 := ((d + 1), 344, 201, [some (.inr (.inr 26)), some (.inl x1), some (.inl (U 26 8))], [.inr (.inr 26)], (am_sh, am_mm U1))) 1 (fun _ => rfl) ?_
          obtain ⟨U2, h1a11k0c, h1a11k0a⟩ := h1a11k0
          refine ev_cal (σc := (d, 177, 0, [some (.inr (.inr 26))], [], (am_sh, am_mm U1))) (fun _ => rfl) h1a11k0c ?_
          show Ev (am_kz N X) ((d + 1), 344, 204, [some (.inr (.inr 26)), some (.inl x1), some (.inl (U 26 8))], [], (am_sh, am_mm U2)) R
          refine ev_seg (σ1 := ((d + 1), 344, 209, [some (.inr (.inr 26)), some (.inl x1), some (.inl (U 26 8))], [.inl (U 26 8), .inr (.inr 31)], (am_sh, am_mm U2))) 3 (fun _ => rfl) ?_
          obtain ⟨r3, U3, h1a11k0ac, h1a11k0aa⟩ := h1a11k0a
          refine ev_cal (σc := (d, 304, 0, [some (.inr (.inr 31)), some (.inl (U 26 8))], [], (am_sh, am_mm U2))) (fun _ => rfl) h1a11k0ac ?_
          show Ev (am_kz N X) ((d + 1), 344, 212, [some (.inr (.inr 26)), some (.inl x1), some (.inl (U 26 8))], [.inl r3], (am_sh, am_mm U3)) R
          rw [h1a11k0aa.2]
          exact ev_retz rfl rfl h1a11k0aa.1
        have nh1a110 := hc
        clear hc
        by_cases hc : (U 26 8) = 1
        · have h1a11k1 := h1a11.2.1 hc
          refine ev_sw (off := 118) rfl (by rw [hc]; rfl) (pt := 200) rfl ?_
          refine ev_seg (σ1 := ((d + 1), 344, 201, [some (.inr (.inr 26)), some (.inl x1), some (.inl (U 26 8))], [.inr (.inr 26)], (am_sh, am_mm U1))) 1 (fun _ => rfl) ?_
          obtain ⟨U4, h1a11k1c, h1a11k1a⟩ := h1a11k1
          refine ev_cal (σc := (d, 177, 0, [some (.inr (.inr 26))], [], (am_sh, am_mm U1))) (fun _ => rfl) h1a11k1c ?_
          show Ev (am_kz N X) ((d + 1), 344, 204, [some (.inr (.inr 26)), some (.inl x1), some (.inl (U 26 8))], [], (am_sh, am_mm U4)) R
          refine ev_seg (σ1 := ((d + 1), 344, 209, [some (.inr (.inr 26)), some (.inl x1), some (.inl (U 26 8))], [.inl (U 26 8), .inr (.inr 31)], (am_sh, am_mm U4))) 3 (fun _ => rfl) ?_
          obtain ⟨r5, U5, h1a11k1ac, h1a11k1aa⟩ := h1a11k1a
          refine ev_cal (σc := (d, 304, 0, [some (.inr (.inr 31)), some (.inl (U 26 8))], [], (am_sh, am_mm U4))) (fun _ => rfl) h1a11k1ac ?_
          show Ev (am_kz N X) ((d + 1), 344, 212, [some (.inr (.inr 26)), some (.inl x1), some (.inl (U 26 8))], [.inl r5], (am_sh, am_mm U5)) R
          rw [h1a11k1aa.2]
          exact ev_retz rfl rfl h1a11k1aa.1
        have nh1a111 := hc
        clear hc
        by_cases hc : (U 26 8) = 2
        · have h1a11k2 := h1a11.2.2.1 hc
          refine ev_sw (off := 160) rfl (by rw [hc]; rfl) (pt := 242) rfl ?_
          refine ev_seg (σ1 := ((d + 1), 344, 243, [some (.inr (.inr 26)), some (.inl x1), some (.inl (U 26 8))], [.inr (.inr 26)], (am_sh, am_mm U1))) 1 (fun _ => rfl) ?_
          obtain ⟨r6, U6, h1a11k2c, h1a11k2a⟩ := h1a11k2
          refine ev_cal (σc := (d, 262, 0, [some (.inr (.inr 26))], [], (am_sh, am_mm U1))) (fun _ => rfl) h1a11k2c ?_
          show Ev (am_kz N X) ((d + 1), 344, 246, [some (.inr (.inr 26)), some (.inl x1), some (.inl (U 26 8))], [.inl r6], (am_sh, am_mm U6)) R
          rw [h1a11k2a.2]
          exact ev_retz rfl rfl h1a11k2a.1
        have nh1a112 := hc
        clear hc
        by_cases hc : (U 26 8) = 3
        · have h1a11k3 := h1a11.2.2.2.1 hc
          refine ev_sw (off := 118) rfl (by rw [hc]; rfl) (pt := 200) rfl ?_
          refine ev_seg (σ1 := ((d + 1), 344, 201, [some (.inr (.inr 26)), some (.inl x1), some (.inl (U 26 8))], [.inr (.inr 26)], (am_sh, am_mm U1))) 1 (fun _ => rfl) ?_
          obtain ⟨U7, h1a11k3c, h1a11k3a⟩ := h1a11k3
          refine ev_cal (σc := (d, 177, 0, [some (.inr (.inr 26))], [], (am_sh, am_mm U1))) (fun _ => rfl) h1a11k3c ?_
          show Ev (am_kz N X) ((d + 1), 344, 204, [some (.inr (.inr 26)), some (.inl x1), some (.inl (U 26 8))], [], (am_sh, am_mm U7)) R
          refine ev_seg (σ1 := ((d + 1), 344, 209, [some (.inr (.inr 26)), some (.inl x1), some (.inl (U 26 8))], [.inl (U 26 8), .inr (.inr 31)], (am_sh, am_mm U7))) 3 (fun _ => rfl) ?_
          obtain ⟨r8, U8, h1a11k3ac, h1a11k3aa⟩ := h1a11k3a
          refine ev_cal (σc := (d, 304, 0, [some (.inr (.inr 31)), some (.inl (U 26 8))], [], (am_sh, am_mm U7))) (fun _ => rfl) h1a11k3ac ?_
          show Ev (am_kz N X) ((d + 1), 344, 212, [some (.inr (.inr 26)), some (.inl x1), some (.inl (U 26 8))], [.inl r8], (am_sh, am_mm U8)) R
          rw [h1a11k3aa.2]
          exact ev_retz rfl rfl h1a11k3aa.1
        have nh1a113 := hc
        clear hc
        by_cases hc : (U 26 8) = 4
        · have h1a11k4 := h1a11.2.2.2.2.1 hc
          refine ev_sw (off := 160) rfl (by rw [hc]; rfl) (pt := 242) rfl ?_
          refine ev_seg (σ1 := ((d + 1), 344, 243, [some (.inr (.inr 26)), some (.inl x1), some (.inl (U 26 8))], [.inr (.inr 26)], (am_sh, am_mm U1))) 1 (fun _ => rfl) ?_
          obtain ⟨r9, U9, h1a11k4c, h1a11k4a⟩ := h1a11k4
          refine ev_cal (σc := (d, 262, 0, [some (.inr (.inr 26))], [], (am_sh, am_mm U1))) (fun _ => rfl) h1a11k4c ?_
          show Ev (am_kz N X) ((d + 1), 344, 246, [some (.inr (.inr 26)), some (.inl x1), some (.inl (U 26 8))], [.inl r9], (am_sh, am_mm U9)) R
          rw [h1a11k4a.2]
          exact ev_retz rfl rfl h1a11k4a.1
        have nh1a114 := hc
        clear hc
        by_cases hc : (U 26 8) = 5
        · have h1a11k5 := h1a11.2.2.2.2.2.1 hc
          refine ev_sw (off := 160) rfl (by rw [hc]; rfl) (pt := 242) rfl ?_
          refine ev_seg (σ1 := ((d + 1), 344, 243, [some (.inr (.inr 26)), some (.inl x1), some (.inl (U 26 8))], [.inr (.inr 26)], (am_sh, am_mm U1))) 1 (fun _ => rfl) ?_
          obtain ⟨r10, U10, h1a11k5c, h1a11k5a⟩ := h1a11k5
          refine ev_cal (σc := (d, 262, 0, [some (.inr (.inr 26))], [], (am_sh, am_mm U1))) (fun _ => rfl) h1a11k5c ?_
          show Ev (am_kz N X) ((d + 1), 344, 246, [some (.inr (.inr 26)), some (.inl x1), some (.inl (U 26 8))], [.inl r10], (am_sh, am_mm U10)) R
          rw [h1a11k5a.2]
          exact ev_retz rfl rfl h1a11k5a.1
        have nh1a115 := hc
        clear hc
        by_cases hc : (U 26 8) = 6
        · have h1a11k6 := h1a11.2.2.2.2.2.2.1 hc
          refine ev_sw (off := 160) rfl (by rw [hc]; rfl) (pt := 242) rfl ?_
          refine ev_seg (σ1 := ((d + 1), 344, 243, [some (.inr (.inr 26)), some (.inl x1), some (.inl (U 26 8))], [.inr (.inr 26)], (am_sh, am_mm U1))) 1 (fun _ => rfl) ?_
          obtain ⟨r11, U11, h1a11k6c, h1a11k6a⟩ := h1a11k6
          refine ev_cal (σc := (d, 262, 0, [some (.inr (.inr 26))], [], (am_sh, am_mm U1))) (fun _ => rfl) h1a11k6c ?_
          show Ev (am_kz N X) ((d + 1), 344, 246, [some (.inr (.inr 26)), some (.inl x1), some (.inl (U 26 8))], [.inl r11], (am_sh, am_mm U11)) R
          rw [h1a11k6a.2]
          exact ev_retz rfl rfl h1a11k6a.1
        have nh1a116 := hc
        clear hc
        by_cases hc : (U 26 8) = 7
        · have h1a11k7 := h1a11.2.2.2.2.2.2.2.1 hc
          refine ev_sw (off := 160) rfl (by rw [hc]; rfl) (pt := 242) rfl ?_
          refine ev_seg (σ1 := ((d + 1), 344, 243, [some (.inr (.inr 26)), some (.inl x1), some (.inl (U 26 8))], [.inr (.inr 26)], (am_sh, am_mm U1))) 1 (fun _ => rfl) ?_
          obtain ⟨r12, U12, h1a11k7c, h1a11k7a⟩ := h1a11k7
          refine ev_cal (σc := (d, 262, 0, [some (.inr (.inr 26))], [], (am_sh, am_mm U1))) (fun _ => rfl) h1a11k7c ?_
          show Ev (am_kz N X) ((d + 1), 344, 246, [some (.inr (.inr 26)), some (.inl x1), some (.inl (U 26 8))], [.inl r12], (am_sh, am_mm U12)) R
          rw [h1a11k7a.2]
          exact ev_retz rfl rfl h1a11k7a.1
        have nh1a117 := hc
        clear hc
        by_cases hc : (U 26 8) = 8
        · have h1a11k8 := h1a11.2.2.2.2.2.2.2.2.1 hc
          refine ev_sw (off := 160) rfl (by rw [hc]; rfl) (pt := 242) rfl ?_
          refine ev_seg (σ1 := ((d + 1), 344, 243, [some (.inr (.inr 26)), some (.inl x1), some (.inl (U 26 8))], [.inr (.inr 26)], (am_sh, am_mm U1))) 1 (fun _ => rfl) ?_
          obtain ⟨r13, U13, h1a11k8c, h1a11k8a⟩ := h1a11k8
          refine ev_cal (σc := (d, 262, 0, [some (.inr (.inr 26))], [], (am_sh, am_mm U1))) (fun _ => rfl) h1a11k8c ?_
          show Ev (am_kz N X) ((d + 1), 344, 246, [some (.inr (.inr 26)), some (.inl x1), some (.inl (U 26 8))], [.inl r13], (am_sh, am_mm U13)) R
          rw [h1a11k8a.2]
          exact ev_retz rfl rfl h1a11k8a.1
        have nh1a118 := hc
        clear hc
        by_cases hc : (U 26 8) = 9
        · have h1a11k9 := h1a11.2.2.2.2.2.2.2.2.2.1 hc
          refine ev_sw (off := 160) rfl (by rw [hc]; rfl) (pt := 242) rfl ?_
          refine ev_seg (σ1 := ((d + 1), 344, 243, [some (.inr (.inr 26)), some (.inl x1), some (.inl (U 26 8))], [.inr (.inr 26)], (am_sh, am_mm U1))) 1 (fun _ => rfl) ?_
          obtain ⟨r14, U14, h1a11k9c, h1a11k9a⟩ := h1a11k9
          refine ev_cal (σc := (d, 262, 0, [some (.inr (.inr 26))], [], (am_sh, am_mm U1))) (fun _ => rfl) h1a11k9c ?_
          show Ev (am_kz N X) ((d + 1), 344, 246, [some (.inr (.inr 26)), some (.inl x1), some (.inl (U 26 8))], [.inl r14], (am_sh, am_mm U14)) R
          rw [h1a11k9a.2]
          exact ev_retz rfl rfl h1a11k9a.1
        have nh1a119 := hc
        clear hc
        by_cases hc : (U 26 8) = 10
        · have h1a11k10 := h1a11.2.2.2.2.2.2.2.2.2.2.1 hc
          refine ev_sw (off := 160) rfl (by rw [hc]; rfl) (pt := 242) rfl ?_
          refine ev_seg (σ1 := ((d + 1), 344, 243, [some (.inr (.inr 26)), some (.inl x1), some (.inl (U 26 8))], [.inr (.inr 26)], (am_sh, am_mm U1))) 1 (fun _ => rfl) ?_
          obtain ⟨r15, U15, h1a11k10c, h1a11k10a⟩ := h1a11k10
          refine ev_cal (σc := (d, 262, 0, [some (.inr (.inr 26))], [], (am_sh, am_mm U1))) (fun _ => rfl) h1a11k10c ?_
          show Ev (am_kz N X) ((d + 1), 344, 246, [some (.inr (.inr 26)), some (.inl x1), some (.inl (U 26 8))], [.inl r15], (am_sh, am_mm U15)) R
          rw [h1a11k10a.2]
          exact ev_retz rfl rfl h1a11k10a.1
        have nh1a1110 := hc
        clear hc
        by_cases hc : (U 26 8) = 11
        · have h1a11k11 := h1a11.2.2.2.2.2.2.2.2.2.2.2.1 hc
          refine ev_sw (off := 160) rfl (by rw [hc]; rfl) (pt := 242) rfl ?_
          refine ev_seg (σ1 := ((d + 1), 344, 243, [some (.inr (.inr 26)), some (.inl x1), some (.inl (U 26 8))], [.inr (.inr 26)], (am_sh, am_mm U1))) 1 (fun _ => rfl) ?_
          obtain ⟨r16, U16, h1a11k11c, h1a11k11a⟩ := h1a11k11
          refine ev_cal (σc := (d, 262, 0, [some (.inr (.inr 26))], [], (am_sh, am_mm U1))) (fun _ => rfl) h1a11k11c ?_
          show Ev (am_kz N X) ((d + 1), 344, 246, [some (.inr (.inr 26)), some (.inl x1), some (.inl (U 26 8))], [.inl r16], (am_sh, am_mm U16)) R
          rw [h1a11k11a.2]
          exact ev_retz rfl rfl h1a11k11a.1
        have nh1a1111 := hc
        clear hc
        by_cases hc : (U 26 8) = 12
        · have h1a11k12 := h1a11.2.2.2.2.2.2.2.2.2.2.2.2.1 hc
          refine ev_sw (off := 160) rfl (by rw [hc]; rfl) (pt := 242) rfl ?_
          refine ev_seg (σ1 := ((d + 1), 344, 243, [some (.inr (.inr 26)), some (.inl x1), some (.inl (U 26 8))], [.inr (.inr 26)], (am_sh, am_mm U1))) 1 (fun _ => rfl) ?_
          obtain ⟨r17, U17, h1a11k12c, h1a11k12a⟩ := h1a11k12
          refine ev_cal (σc := (d, 262, 0, [some (.inr (.inr 26))], [], (am_sh, am_mm U1))) (fun _ => rfl) h1a11k12c ?_
          show Ev (am_kz N X) ((d + 1), 344, 246, [some (.inr (.inr 26)), some (.inl x1), some (.inl (U 26 8))], [.inl r17], (am_sh, am_mm U17)) R
          rw [h1a11k12a.2]
          exact ev_retz rfl rfl h1a11k12a.1
        have nh1a1112 := hc
        clear hc
        by_cases hc : (U 26 8) = 13
        · have h1a11k13 := h1a11.2.2.2.2.2.2.2.2.2.2.2.2.2.1 hc
          refine ev_sw (off := 160) rfl (by rw [hc]; rfl) (pt := 242) rfl ?_
          refine ev_seg (σ1 := ((d + 1), 344, 243, [some (.inr (.inr 26)), some (.inl x1), some (.inl (U 26 8))], [.inr (.inr 26)], (am_sh, am_mm U1))) 1 (fun _ => rfl) ?_
          obtain ⟨r18, U18, h1a11k13c, h1a11k13a⟩ := h1a11k13
          refine ev_cal (σc := (d, 262, 0, [some (.inr (.inr 26))], [], (am_sh, am_mm U1))) (fun _ => rfl) h1a11k13c ?_
          show Ev (am_kz N X) ((d + 1), 344, 246, [some (.inr (.inr 26)), some (.inl x1), some (.inl (U 26 8))], [.inl r18], (am_sh, am_mm U18)) R
          rw [h1a11k13a.2]
          exact ev_retz rfl rfl h1a11k13a.1
        have nh1a1113 := hc
        clear hc
        by_cases hc : (U 26 8) = 14
        · have h1a11k14 := h1a11.2.2.2.2.2.2.2.2.2.2.2.2.2.2.1 hc
          refine ev_sw (off := 118) rfl (by rw [hc]; rfl) (pt := 200) rfl ?_
          refine ev_seg (σ1 := ((d + 1), 344, 201, [some (.inr (.inr 26)), some (.inl x1), some (.inl (U 26 8))], [.inr (.inr 26)], (am_sh, am_mm U1))) 1 (fun _ => rfl) ?_
          obtain ⟨U19, h1a11k14c, h1a11k14a⟩ := h1a11k14
          refine ev_cal (σc := (d, 177, 0, [some (.inr (.inr 26))], [], (am_sh, am_mm U1))) (fun _ => rfl) h1a11k14c ?_
          show Ev (am_kz N X) ((d + 1), 344, 204, [some (.inr (.inr 26)), some (.inl x1), some (.inl (U 26 8))], [], (am_sh, am_mm U19)) R
          refine ev_seg (σ1 := ((d + 1), 344, 209, [some (.inr (.inr 26)), some (.inl x1), some (.inl (U 26 8))], [.inl (U 26 8), .inr (.inr 31)], (am_sh, am_mm U19))) 3 (fun _ => rfl) ?_
          obtain ⟨r20, U20, h1a11k14ac, h1a11k14aa⟩ := h1a11k14a
          refine ev_cal (σc := (d, 304, 0, [some (.inr (.inr 31)), some (.inl (U 26 8))], [], (am_sh, am_mm U19))) (fun _ => rfl) h1a11k14ac ?_
          show Ev (am_kz N X) ((d + 1), 344, 212, [some (.inr (.inr 26)), some (.inl x1), some (.inl (U 26 8))], [.inl r20], (am_sh, am_mm U20)) R
          rw [h1a11k14aa.2]
          exact ev_retz rfl rfl h1a11k14aa.1
        have nh1a1114 := hc
        clear hc
        by_cases hc : (U 26 8) = 15
        · have h1a11k15 := h1a11.2.2.2.2.2.2.2.2.2.2.2.2.2.2.2.1 hc
          refine ev_sw (off := 118) rfl (by rw [hc]; rfl) (pt := 200) rfl ?_
          refine ev_seg (σ1 := ((d + 1), 344, 201, [some (.inr (.inr 26)), some (.inl x1), some (.inl (U 26 8))], [.inr (.inr 26)], (am_sh, am_mm U1))) 1 (fun _ => rfl) ?_
          obtain ⟨U21, h1a11k15c, h1a11k15a⟩ := h1a11k15
          refine ev_cal (σc := (d, 177, 0, [some (.inr (.inr 26))], [], (am_sh, am_mm U1))) (fun _ => rfl) h1a11k15c ?_
          show Ev (am_kz N X) ((d + 1), 344, 204, [some (.inr (.inr 26)), some (.inl x1), some (.inl (U 26 8))], [], (am_sh, am_mm U21)) R
          refine ev_seg (σ1 := ((d + 1), 344, 209, [some (.inr (.inr 26)), some (.inl x1), some (.inl (U 26 8))], [.inl (U 26 8), .inr (.inr 31)], (am_sh, am_mm U21))) 3 (fun _ => rfl) ?_
          obtain ⟨r22, U22, h1a11k15ac, h1a11k15aa⟩ := h1a11k15a
          refine ev_cal (σc := (d, 304, 0, [some (.inr (.inr 31)), some (.inl (U 26 8))], [], (am_sh, am_mm U21))) (fun _ => rfl) h1a11k15ac ?_
          show Ev (am_kz N X) ((d + 1), 344, 212, [some (.inr (.inr 26)), some (.inl x1), some (.inl (U 26 8))], [.inl r22], (am_sh, am_mm U22)) R
          rw [h1a11k15aa.2]
          exact ev_retz rfl rfl h1a11k15aa.1
        have nh1a1115 := hc
        clear hc
        by_cases hc : (U 26 8) = 16
        · have h1a11k16 := h1a11.2.2.2.2.2.2.2.2.2.2.2.2.2.2.2.2.1 hc
          refine ev_sw (off := 118) rfl (by rw [hc]; rfl) (pt := 200) rfl ?_
          refine ev_seg (σ1 := ((d + 1), 344, 201, [some (.inr (.inr 26)), some (.inl x1), some (.inl (U 26 8))], [.inr (.inr 26)], (am_sh, am_mm U1))) 1 (fun _ => rfl) ?_
          obtain ⟨U23, h1a11k16c, h1a11k16a⟩ := h1a11k16
          refine ev_cal (σc := (d, 177, 0, [some (.inr (.inr 26))], [], (am_sh, am_mm U1))) (fun _ => rfl) h1a11k16c ?_
          show Ev (am_kz N X) ((d + 1), 344, 204, [some (.inr (.inr 26)), some (.inl x1), some (.inl (U 26 8))], [], (am_sh, am_mm U23)) R
          refine ev_seg (σ1 := ((d + 1), 344, 209, [some (.inr (.inr 26)), some (.inl x1), some (.inl (U 26 8))], [.inl (U 26 8), .inr (.inr 31)], (am_sh, am_mm U23))) 3 (fun _ => rfl) ?_
          obtain ⟨r24, U24, h1a11k16ac, h1a11k16aa⟩ := h1a11k16a
          refine ev_cal (σc := (d, 304, 0, [some (.inr (.inr 31)), some (.inl (U 26 8))], [], (am_sh, am_mm U23))) (fun _ => rfl) h1a11k16ac ?_
          show Ev (am_kz N X) ((d + 1), 344, 212, [some (.inr (.inr 26)), some (.inl x1), some (.inl (U 26 8))], [.inl r24], (am_sh, am_mm U24)) R
          rw [h1a11k16aa.2]
          exact ev_retz rfl rfl h1a11k16aa.1
        have nh1a1116 := hc
        clear hc
        by_cases hc : (U 26 8) = 17
        · have h1a11k17 := h1a11.2.2.2.2.2.2.2.2.2.2.2.2.2.2.2.2.2.1 hc
          refine ev_sw (off := 160) rfl (by rw [hc]; rfl) (pt := 242) rfl ?_
          refine ev_seg (σ1 := ((d + 1), 344, 243, [some (.inr (.inr 26)), some (.inl x1), some (.inl (U 26 8))], [.inr (.inr 26)], (am_sh, am_mm U1))) 1 (fun _ => rfl) ?_
          obtain ⟨r25, U25, h1a11k17c, h1a11k17a⟩ := h1a11k17
          refine ev_cal (σc := (d, 262, 0, [some (.inr (.inr 26))], [], (am_sh, am_mm U1))) (fun _ => rfl) h1a11k17c ?_
          show Ev (am_kz N X) ((d + 1), 344, 246, [some (.inr (.inr 26)), some (.inl x1), some (.inl (U 26 8))], [.inl r25], (am_sh, am_mm U25)) R
          rw [h1a11k17a.2]
          exact ev_retz rfl rfl h1a11k17a.1
        have nh1a1117 := hc
        clear hc
        by_cases hc : (U 26 8) = 18
        · have h1a11k18 := h1a11.2.2.2.2.2.2.2.2.2.2.2.2.2.2.2.2.2.2.1 hc
          refine ev_sw (off := 160) rfl (by rw [hc]; rfl) (pt := 242) rfl ?_
          refine ev_seg (σ1 := ((d + 1), 344, 243, [some (.inr (.inr 26)), some (.inl x1), some (.inl (U 26 8))], [.inr (.inr 26)], (am_sh, am_mm U1))) 1 (fun _ => rfl) ?_
          obtain ⟨r26, U26, h1a11k18c, h1a11k18a⟩ := h1a11k18
          refine ev_cal (σc := (d, 262, 0, [some (.inr (.inr 26))], [], (am_sh, am_mm U1))) (fun _ => rfl) h1a11k18c ?_
          show Ev (am_kz N X) ((d + 1), 344, 246, [some (.inr (.inr 26)), some (.inl x1), some (.inl (U 26 8))], [.inl r26], (am_sh, am_mm U26)) R
          rw [h1a11k18a.2]
          exact ev_retz rfl rfl h1a11k18a.1
        have nh1a1118 := hc
        clear hc
        by_cases hc : (U 26 8) = 19
        · have h1a11k19 := h1a11.2.2.2.2.2.2.2.2.2.2.2.2.2.2.2.2.2.2.2.1 hc
          refine ev_sw (off := 160) rfl (by rw [hc]; rfl) (pt := 242) rfl ?_
          refine ev_seg (σ1 := ((d + 1), 344, 243, [some (.inr (.inr 26)), some (.inl x1), some (.inl (U 26 8))], [.inr (.inr 26)], (am_sh, am_mm U1))) 1 (fun _ => rfl) ?_
          obtain ⟨r27, U27, h1a11k19c, h1a11k19a⟩ := h1a11k19
          refine ev_cal (σc := (d, 262, 0, [some (.inr (.inr 26))], [], (am_sh, am_mm U1))) (fun _ => rfl) h1a11k19c ?_
          show Ev (am_kz N X) ((d + 1), 344, 246, [some (.inr (.inr 26)), some (.inl x1), some (.inl (U 26 8))], [.inl r27], (am_sh, am_mm U27)) R
          rw [h1a11k19a.2]
          exact ev_retz rfl rfl h1a11k19a.1
        have nh1a1119 := hc
        clear hc
        by_cases hc : (U 26 8) = 20
        · have h1a11k20 := h1a11.2.2.2.2.2.2.2.2.2.2.2.2.2.2.2.2.2.2.2.2.1 hc
          refine ev_sw (off := 160) rfl (by rw [hc]; rfl) (pt := 242) rfl ?_
          refine ev_seg (σ1 := ((d + 1), 344, 243, [some (.inr (.inr 26)), some (.inl x1), some (.inl (U 26 8))], [.inr (.inr 26)], (am_sh, am_mm U1))) 1 (fun _ => rfl) ?_
          obtain ⟨r28, U28, h1a11k20c, h1a11k20a⟩ := h1a11k20
          refine ev_cal (σc := (d, 262, 0, [some (.inr (.inr 26))], [], (am_sh, am_mm U1))) (fun _ => rfl) h1a11k20c ?_
          show Ev (am_kz N X) ((d + 1), 344, 246, [some (.inr (.inr 26)), some (.inl x1), some (.inl (U 26 8))], [.inl r28], (am_sh, am_mm U28)) R
          rw [h1a11k20a.2]
          exact ev_retz rfl rfl h1a11k20a.1
        have nh1a1120 := hc
        clear hc
        by_cases hc : (U 26 8) = 21
        · have h1a11k21 := h1a11.2.2.2.2.2.2.2.2.2.2.2.2.2.2.2.2.2.2.2.2.2.1 hc
          refine ev_sw (off := 160) rfl (by rw [hc]; rfl) (pt := 242) rfl ?_
          refine ev_seg (σ1 := ((d + 1), 344, 243, [some (.inr (.inr 26)), some (.inl x1), some (.inl (U 26 8))], [.inr (.inr 26)], (am_sh, am_mm U1))) 1 (fun _ => rfl) ?_
          obtain ⟨r29, U29, h1a11k21c, h1a11k21a⟩ := h1a11k21
          refine ev_cal (σc := (d, 262, 0, [some (.inr (.inr 26))], [], (am_sh, am_mm U1))) (fun _ => rfl) h1a11k21c ?_
          show Ev (am_kz N X) ((d + 1), 344, 246, [some (.inr (.inr 26)), some (.inl x1), some (.inl (U 26 8))], [.inl r29], (am_sh, am_mm U29)) R
          rw [h1a11k21a.2]
          exact ev_retz rfl rfl h1a11k21a.1
        have nh1a1121 := hc
        clear hc
        by_cases hc : (U 26 8) = 22
        · have h1a11k22 := h1a11.2.2.2.2.2.2.2.2.2.2.2.2.2.2.2.2.2.2.2.2.2.2.1 hc
          refine ev_sw (off := 160) rfl (by rw [hc]; rfl) (pt := 242) rfl ?_
          refine ev_seg (σ1 := ((d + 1), 344, 243, [some (.inr (.inr 26)), some (.inl x1), some (.inl (U 26 8))], [.inr (.inr 26)], (am_sh, am_mm U1))) 1 (fun _ => rfl) ?_
          obtain ⟨r30, U30, h1a11k22c, h1a11k22a⟩ := h1a11k22
          refine ev_cal (σc := (d, 262, 0, [some (.inr (.inr 26))], [], (am_sh, am_mm U1))) (fun _ => rfl) h1a11k22c ?_
          show Ev (am_kz N X) ((d + 1), 344, 246, [some (.inr (.inr 26)), some (.inl x1), some (.inl (U 26 8))], [.inl r30], (am_sh, am_mm U30)) R
          rw [h1a11k22a.2]
          exact ev_retz rfl rfl h1a11k22a.1
        have nh1a1122 := hc
        clear hc
        by_cases hc : (U 26 8) = 23
        · have h1a11k23 := h1a11.2.2.2.2.2.2.2.2.2.2.2.2.2.2.2.2.2.2.2.2.2.2.2.1 hc
          refine ev_sw (off := 131) rfl (by rw [hc]; rfl) (pt := 213) rfl ?_
          refine ev_seg (σ1 := ((d + 1), 344, 214, [some (.inr (.inr 26)), some (.inl x1), some (.inl (U 26 8))], [.inr (.inr 26)], (am_sh, am_mm U1))) 1 (fun _ => rfl) ?_
          obtain ⟨U31, h1a11k23c, h1a11k23a⟩ := h1a11k23
          refine ev_cal (σc := (d, 177, 0, [some (.inr (.inr 26))], [], (am_sh, am_mm U1))) (fun _ => rfl) h1a11k23c ?_
          show Ev (am_kz N X) ((d + 1), 344, 217, [some (.inr (.inr 26)), some (.inl x1), some (.inl (U 26 8))], [], (am_sh, am_mm U31)) R
          refine ev_seg (σ1 := ((d + 1), 344, 219, [some (.inr (.inr 26)), some (.inl x1), some (.inl (U 26 8))], [.inl x1, .inr (.inr 26)], (am_sh, am_mm U31))) 2 (fun _ => rfl) ?_
          obtain ⟨r32, U32, h1a11k23ac, h1a11k23aa⟩ := h1a11k23a
          refine ev_cal (σc := (d, 346, 0, [some (.inr (.inr 26)), some (.inl x1)], [], (am_sh, am_mm U31))) (fun _ => rfl) h1a11k23ac ?_
          show Ev (am_kz N X) ((d + 1), 344, 222, [some (.inr (.inr 26)), some (.inl x1), some (.inl (U 26 8))], [.inl r32], (am_sh, am_mm U32)) R
          refine ev_br (P := r32 = 0) (σ1 := ((d + 1), 344, 240, [some (.inr (.inr 26)), some (.inl x1), some (.inl (U 26 8))], [], (am_sh, am_mm U32))) (σ2 := ((d + 1), 344, 225, [some (.inr (.inr 26)), some (.inl x1), some (.inl (U 26 8))], [], (am_sh, am_mm U32))) 1 (fun _ => rfl) (fun hc => ?_) (fun hc => ?_)
          · have h1a11k23aa1 := h1a11k23aa.1 hc
            subst h1a11k23aa1
            exact ev_end 2 (fun _ => rfl)
          · have h1a11k23aa2 := h1a11k23aa.2 hc
            refine ev_seg (σ1 := ((d + 1), 344, 230, [some (.inr (.inr 26)), some (.inl x1), some (.inl (U 26 8))], [.inl (U 26 8), .inr (.inr 31)], (am_sh, am_mm U32))) 3 (fun _ => rfl) ?_
            obtain ⟨r33, U33, h1a11k23aa2c, h1a11k23aa2a⟩ := h1a11k23aa2
            refine ev_cal (σc := (d, 304, 0, [some (.inr (.inr 31)), some (.inl (U 26 8))], [], (am_sh, am_mm U32))) (fun _ => rfl) h1a11k23aa2c ?_
            show Ev (am_kz N X) ((d + 1), 344, 233, [some (.inr (.inr 26)), some (.inl x1), some (.inl (U 26 8))], [.inl r33], (am_sh, am_mm U33)) R
            refine ev_br (P := r33 = 0) (σ1 := ((d + 1), 344, 240, [some (.inr (.inr 26)), some (.inl x1), some (.inl (U 26 8))], [], (am_sh, am_mm U33))) (σ2 := ((d + 1), 344, 236, [some (.inr (.inr 26)), some (.inl x1), some (.inl (U 26 8))], [], (am_sh, am_mm U33))) 1 (fun _ => rfl) (fun hc => ?_) (fun hc => ?_)
            · have h1a11k23aa2a1 := h1a11k23aa2a.1 hc
              subst h1a11k23aa2a1
              exact ev_end 2 (fun _ => rfl)
            · have h1a11k23aa2a2 := h1a11k23aa2a.2 hc
              subst h1a11k23aa2a2
              exact ev_end 3 (fun _ => rfl)
        have nh1a1123 := hc
        clear hc
        by_cases hc : (U 26 8) = 24
        · have h1a11k24 := h1a11.2.2.2.2.2.2.2.2.2.2.2.2.2.2.2.2.2.2.2.2.2.2.2.2.1 hc
          refine ev_sw (off := 131) rfl (by rw [hc]; rfl) (pt := 213) rfl ?_
          refine ev_seg (σ1 := ((d + 1), 344, 214, [some (.inr (.inr 26)), some (.inl x1), some (.inl (U 26 8))], [.inr (.inr 26)], (am_sh, am_mm U1))) 1 (fun _ => rfl) ?_
          obtain ⟨U34, h1a11k24c, h1a11k24a⟩ := h1a11k24
          refine ev_cal (σc := (d, 177, 0, [some (.inr (.inr 26))], [], (am_sh, am_mm U1))) (fun _ => rfl) h1a11k24c ?_
          show Ev (am_kz N X) ((d + 1), 344, 217, [some (.inr (.inr 26)), some (.inl x1), some (.inl (U 26 8))], [], (am_sh, am_mm U34)) R
          refine ev_seg (σ1 := ((d + 1), 344, 219, [some (.inr (.inr 26)), some (.inl x1), some (.inl (U 26 8))], [.inl x1, .inr (.inr 26)], (am_sh, am_mm U34))) 2 (fun _ => rfl) ?_
          obtain ⟨r35, U35, h1a11k24ac, h1a11k24aa⟩ := h1a11k24a
          refine ev_cal (σc := (d, 346, 0, [some (.inr (.inr 26)), some (.inl x1)], [], (am_sh, am_mm U34))) (fun _ => rfl) h1a11k24ac ?_
          show Ev (am_kz N X) ((d + 1), 344, 222, [some (.inr (.inr 26)), some (.inl x1), some (.inl (U 26 8))], [.inl r35], (am_sh, am_mm U35)) R
          refine ev_br (P := r35 = 0) (σ1 := ((d + 1), 344, 240, [some (.inr (.inr 26)), some (.inl x1), some (.inl (U 26 8))], [], (am_sh, am_mm U35))) (σ2 := ((d + 1), 344, 225, [some (.inr (.inr 26)), some (.inl x1), some (.inl (U 26 8))], [], (am_sh, am_mm U35))) 1 (fun _ => rfl) (fun hc => ?_) (fun hc => ?_)
          · have h1a11k24aa1 := h1a11k24aa.1 hc
            subst h1a11k24aa1
            exact ev_end 2 (fun _ => rfl)
          · have h1a11k24aa2 := h1a11k24aa.2 hc
            refine ev_seg (σ1 := ((d + 1), 344, 230, [some (.inr (.inr 26)), some (.inl x1), some (.inl (U 26 8))], [.inl (U 26 8), .inr (.inr 31)], (am_sh, am_mm U35))) 3 (fun _ => rfl) ?_
            obtain ⟨r36, U36, h1a11k24aa2c, h1a11k24aa2a⟩ := h1a11k24aa2
            refine ev_cal (σc := (d, 304, 0, [some (.inr (.inr 31)), some (.inl (U 26 8))], [], (am_sh, am_mm U35))) (fun _ => rfl) h1a11k24aa2c ?_
            show Ev (am_kz N X) ((d + 1), 344, 233, [some (.inr (.inr 26)), some (.inl x1), some (.inl (U 26 8))], [.inl r36], (am_sh, am_mm U36)) R
            refine ev_br (P := r36 = 0) (σ1 := ((d + 1), 344, 240, [some (.inr (.inr 26)), some (.inl x1), some (.inl (U 26 8))], [], (am_sh, am_mm U36))) (σ2 := ((d + 1), 344, 236, [some (.inr (.inr 26)), some (.inl x1), some (.inl (U 26 8))], [], (am_sh, am_mm U36))) 1 (fun _ => rfl) (fun hc => ?_) (fun hc => ?_)
            · have h1a11k24aa2a1 := h1a11k24aa2a.1 hc
              subst h1a11k24aa2a1
              exact ev_end 2 (fun _ => rfl)
            · have h1a11k24aa2a2 := h1a11k24aa2a.2 hc
              subst h1a11k24aa2a2
              exact ev_end 3 (fun _ => rfl)
        have nh1a1124 := hc
        clear hc
        by_cases hc : (U 26 8) = 25
        · have h1a11k25 := h1a11.2.2.2.2.2.2.2.2.2.2.2.2.2.2.2.2.2.2.2.2.2.2.2.2.2.1 hc
          refine ev_sw (off := 131) rfl (by rw [hc]; rfl) (pt := 213) rfl ?_
          refine ev_seg (σ1 := ((d + 1), 344, 214, [some (.inr (.inr 26)), some (.inl x1), some (.inl (U 26 8))], [.inr (.inr 26)], (am_sh, am_mm U1))) 1 (fun _ => rfl) ?_
          obtain ⟨U37, h1a11k25c, h1a11k25a⟩ := h1a11k25
          refine ev_cal (σc := (d, 177, 0, [some (.inr (.inr 26))], [], (am_sh, am_mm U1))) (fun _ => rfl) h1a11k25c ?_
          show Ev (am_kz N X) ((d + 1), 344, 217, [some (.inr (.inr 26)), some (.inl x1), some (.inl (U 26 8))], [], (am_sh, am_mm U37)) R
          refine ev_seg (σ1 := ((d + 1), 344, 219, [some (.inr (.inr 26)), some (.inl x1), some (.inl (U 26 8))], [.inl x1, .inr (.inr 26)], (am_sh, am_mm U37))) 2 (fun _ => rfl) ?_
          obtain ⟨r38, U38, h1a11k25ac, h1a11k25aa⟩ := h1a11k25a
          refine ev_cal (σc := (d, 346, 0, [some (.inr (.inr 26)), some (.inl x1)], [], (am_sh, am_mm U37))) (fun _ => rfl) h1a11k25ac ?_
          show Ev (am_kz N X) ((d + 1), 344, 222, [some (.inr (.inr 26)), some (.inl x1), some (.inl (U 26 8))], [.inl r38], (am_sh, am_mm U38)) R
          refine ev_br (P := r38 = 0) (σ1 := ((d + 1), 344, 240, [some (.inr (.inr 26)), some (.inl x1), some (.inl (U 26 8))], [], (am_sh, am_mm U38))) (σ2 := ((d + 1), 344, 225, [some (.inr (.inr 26)), some (.inl x1), some (.inl (U 26 8))], [], (am_sh, am_mm U38))) 1 (fun _ => rfl) (fun hc => ?_) (fun hc => ?_)
          · have h1a11k25aa1 := h1a11k25aa.1 hc
            subst h1a11k25aa1
            exact ev_end 2 (fun _ => rfl)
          · have h1a11k25aa2 := h1a11k25aa.2 hc
            refine ev_seg (σ1 := ((d + 1), 344, 230, [some (.inr (.inr 26)), some (.inl x1), some (.inl (U 26 8))], [.inl (U 26 8), .inr (.inr 31)], (am_sh, am_mm U38))) 3 (fun _ => rfl) ?_
            obtain ⟨r39, U39, h1a11k25aa2c, h1a11k25aa2a⟩ := h1a11k25aa2
            refine ev_cal (σc := (d, 304, 0, [some (.inr (.inr 31)), some (.inl (U 26 8))], [], (am_sh, am_mm U38))) (fun _ => rfl) h1a11k25aa2c ?_
            show Ev (am_kz N X) ((d + 1), 344, 233, [some (.inr (.inr 26)), some (.inl x1), some (.inl (U 26 8))], [.inl r39], (am_sh, am_mm U39)) R
            refine ev_br (P := r39 = 0) (σ1 := ((d + 1), 344, 240, [some (.inr (.inr 26)), some (.inl x1), some (.inl (U 26 8))], [], (am_sh, am_mm U39))) (σ2 := ((d + 1), 344, 236, [some (.inr (.inr 26)), some (.inl x1), some (.inl (U 26 8))], [], (am_sh, am_mm U39))) 1 (fun _ => rfl) (fun hc => ?_) (fun hc => ?_)
            · have h1a11k25aa2a1 := h1a11k25aa2a.1 hc
              subst h1a11k25aa2a1
              exact ev_end 2 (fun _ => rfl)
            · have h1a11k25aa2a2 := h1a11k25aa2a.2 hc
              subst h1a11k25aa2a2
              exact ev_end 3 (fun _ => rfl)
        have nh1a1125 := hc
        clear hc
        have h1a11kd := h1a11.2.2.2.2.2.2.2.2.2.2.2.2.2.2.2.2.2.2.2.2.2.2.2.2.2.2 ⟨nh1a110, nh1a111, nh1a112, nh1a113, nh1a114, nh1a115, nh1a116, nh1a117, nh1a118, nh1a119, nh1a1110, nh1a1111, nh1a1112, nh1a1113, nh1a1114, nh1a1115, nh1a1116, nh1a1117, nh1a1118, nh1a1119, nh1a1120, nh1a1121, nh1a1122, nh1a1123, nh1a1124, nh1a1125⟩
        refine ev_sw (off := 160) rfl (if_pos (by omega)) (pt := 242) rfl ?_
        refine ev_seg (σ1 := ((d + 1), 344, 243, [some (.inr (.inr 26)), some (.inl x1), some (.inl (U 26 8))], [.inr (.inr 26)], (am_sh, am_mm U1))) 1 (fun _ => rfl) ?_
        obtain ⟨r40, U40, h1a11kdc, h1a11kda⟩ := h1a11kd
        refine ev_cal (σc := (d, 262, 0, [some (.inr (.inr 26))], [], (am_sh, am_mm U1))) (fun _ => rfl) h1a11kdc ?_
        show Ev (am_kz N X) ((d + 1), 344, 246, [some (.inr (.inr 26)), some (.inl x1), some (.inl (U 26 8))], [.inl r40], (am_sh, am_mm U40)) R
        rw [h1a11kda.2]
        exact ev_retz rfl rfl h1a11kda.1
      · have h1a12 := h1a1.2 hc
        refine ev_seg (σ1 := ((d + 1), 344, 77, [some (.inr (.inr 26)), some (.inl x1), some (.inl (U 26 8))], [.inr (.inr 26)], (am_sh, am_mm U1))) 1 (fun _ => rfl) ?_
        obtain ⟨r41, U41, h1a12c, h1a12a⟩ := h1a12
        refine ev_cal (σc := (d, 262, 0, [some (.inr (.inr 26))], [], (am_sh, am_mm U1))) (fun _ => rfl) h1a12c ?_
        show Ev (am_kz N X) ((d + 1), 344, 80, [some (.inr (.inr 26)), some (.inl x1), some (.inl (U 26 8))], [.inl r41], (am_sh, am_mm U41)) R
        rw [h1a12a.2]
        exact ev_retz rfl rfl h1a12a.1
    · have h1a2 := h1a.2 hc
      refine ev_seg (σ1 := ((d + 1), 344, 37, [some (.inr (.inr 26)), some (.inl x1), some (.inl (U 26 8))], [.inl x1, .inr (.inr 26)], (am_sh, am_mm U1))) 2 (fun _ => rfl) ?_
      obtain ⟨r42, U42, h1a2c, h1a2a⟩ := h1a2
      refine ev_cal (σc := (d, 334, 0, [some (.inr (.inr 26)), some (.inl x1)], [], (am_sh, am_mm U1))) (fun _ => rfl) h1a2c ?_
      show Ev (am_kz N X) ((d + 1), 344, 40, [some (.inr (.inr 26)), some (.inl x1), some (.inl (U 26 8))], [.inl r42], (am_sh, am_mm U42)) R
      refine ev_br (P := r42 = 0) (σ1 := ((d + 1), 344, 66, [some (.inr (.inr 26)), some (.inl x1), some (.inl (U 26 8))], [], (am_sh, am_mm U42))) (σ2 := ((d + 1), 344, 43, [some (.inr (.inr 26)), some (.inl x1), some (.inl (U 26 8))], [], (am_sh, am_mm U42))) 1 (fun _ => rfl) (fun hc => ?_) (fun hc => ?_)
      · have h1a2a1 := h1a2a.1 hc
        subst h1a2a1
        exact ev_end 2 (fun _ => rfl)
      · have h1a2a2 := h1a2a.2 hc
        refine ev_seg (σ1 := ((d + 1), 344, 47, [some (.inr (.inr 26)), some (.inl x1), some (.inl (U 26 8))], [.inl (w32 (x1 + 1)), .inr (.inr 26)], (am_sh, am_mm U42))) 4 (fun _ => rfl) ?_
        obtain ⟨r43, U43, h1a2a2c, h1a2a2a⟩ := h1a2a2
        refine ev_cal (σc := (d, 335, 0, [some (.inr (.inr 26)), some (.inl (w32 (x1 + 1))), none, none, none], [], (am_sh, am_mm U42))) (fun _ => rfl) h1a2a2c ?_
        show Ev (am_kz N X) ((d + 1), 344, 50, [some (.inr (.inr 26)), some (.inl x1), some (.inl (U 26 8))], [.inl r43], (am_sh, am_mm U43)) R
        refine ev_br (P := r43 = 0) (σ1 := ((d + 1), 344, 66, [some (.inr (.inr 26)), some (.inl x1), some (.inl (U 26 8))], [], (am_sh, am_mm U43))) (σ2 := ((d + 1), 344, 53, [some (.inr (.inr 26)), some (.inl x1), some (.inl (U 26 8))], [], (am_sh, am_mm U43))) 1 (fun _ => rfl) (fun hc => ?_) (fun hc => ?_)
        · have h1a2a2a1 := h1a2a2a.1 hc
          subst h1a2a2a1
          exact ev_end 2 (fun _ => rfl)
        · have h1a2a2a2 := h1a2a2a.2 hc
          refine ev_seg (σ1 := ((d + 1), 344, 56, [some (.inr (.inr 26)), some (.inl x1), some (.inl (U 26 8))], [.inl 41, .inr (.inr 26)], (am_sh, am_mm U43))) 2 (fun _ => rfl) ?_
          obtain ⟨r44, U44, h1a2a2a2c, h1a2a2a2a⟩ := h1a2a2a2
          refine ev_cal (σc := (d, 263, 0, [some (.inr (.inr 26)), some (.inl 41)], [], (am_sh, am_mm U43))) (fun _ => rfl) h1a2a2a2c ?_
          show Ev (am_kz N X) ((d + 1), 344, 59, [some (.inr (.inr 26)), some (.inl x1), some (.inl (U 26 8))], [.inl r44], (am_sh, am_mm U44)) R
          refine ev_br (P := r44 = 0) (σ1 := ((d + 1), 344, 66, [some (.inr (.inr 26)), some (.inl x1), some (.inl (U 26 8))], [], (am_sh, am_mm U44))) (σ2 := ((d + 1), 344, 62, [some (.inr (.inr 26)), some (.inl x1), some (.inl (U 26 8))], [], (am_sh, am_mm U44))) 1 (fun _ => rfl) (fun hc => ?_) (fun hc => ?_)
          · have h1a2a2a2a1 := h1a2a2a2a.1 hc
            subst h1a2a2a2a1
            exact ev_end 2 (fun _ => rfl)
          · have h1a2a2a2a2 := h1a2a2a2a.2 hc
            subst h1a2a2a2a2
            exact ev_end 3 (fun _ => rfl)
  · have h2 := h.2 hc
    refine ev_seg (σ1 := ((d + 1), 344, 14, [some (.inr (.inr 26)), some (.inl x1), some (.inl (U 26 8))], [.inr (.inr 26)], (am_sh, am_mm U))) 1 (fun _ => rfl) ?_
    obtain ⟨U45, h2c, h2a⟩ := h2
    refine ev_cal (σc := (d, 177, 0, [some (.inr (.inr 26))], [], (am_sh, am_mm U))) (fun _ => rfl) h2c ?_
    show Ev (am_kz N X) ((d + 1), 344, 17, [some (.inr (.inr 26)), some (.inl x1), some (.inl (U 26 8))], [], (am_sh, am_mm U45)) R
    refine ev_seg (σ1 := ((d + 1), 344, 22, [some (.inr (.inr 26)), some (.inl x1), some (.inl (U 26 8))], [.inl (U 26 8), .inr (.inr 31)], (am_sh, am_mm U45))) 3 (fun _ => rfl) ?_
    obtain ⟨r46, U46, h2ac, h2aa⟩ := h2a
    refine ev_cal (σc := (d, 324, 0, [some (.inr (.inr 31)), some (.inl (U 26 8))], [], (am_sh, am_mm U45))) (fun _ => rfl) h2ac ?_
    show Ev (am_kz N X) ((d + 1), 344, 25, [some (.inr (.inr 26)), some (.inl x1), some (.inl (U 26 8))], [.inl r46], (am_sh, am_mm U46)) R
    rw [h2aa.2]
    exact ev_retz rfl rfl h2aa.1
set_option maxRecDepth 8000 in
theorem st339_m3_0 (N : Nat) (X : Nat → Int) (d : Nat) (U : Nat → Nat → Int) (R : Option am_V × am_M) (h : (((1 = 0 : Prop)) → R = (some (.inl 1), (am_sh, am_mm U))) ∧ (¬ (1 = 0) → R = (some (.inl 0), (am_sh, am_mm U)))) : Ev (am_kz N X) (d, 339, 0, [some (.inr (.inr (-3)))], [], (am_sh, am_mm U)) R := by
  refine ev_br (P := 1 = 0) (σ1 := (d, 339, 13, [some (.inr (.inr (-3)))], [], (am_sh, am_mm U))) (σ2 := (d, 339, 6, [some (.inr (.inr (-3)))], [], (am_sh, am_mm U))) 2 (fun _ => rfl) (fun hc => ?_) (fun hc => ?_)
  · have h1 := h.1 hc
    subst h1
    exact ev_end 2 (fun _ => rfl)
  · have h2 := h.2 hc
    subst h2
    exact ev_end 4 (fun _ => rfl)
set_option maxRecDepth 8000 in
theorem st346_26_0 (N : Nat) (X : Nat → Int) (d : Nat) (x1 : Int) (U : Nat → Nat → Int) (R : Option am_V × am_M) (h : ∃ (r1 : Int) (U1 : Nat → Nat → Int), Ev (am_kz N X) (d, 300, 0, [some (.inr (.inr 26)), some (.inl 40)], [], (am_sh, am_mm U)) (some (.inl r1), (am_sh, am_mm U1)) ∧ (((¬ r1 = 0 : Prop)) → ∃ (r2 : Int) (U2 : Nat → Nat → Int), Ev (am_kz N X) (d, 334, 0, [some (.inr (.inr 26)), some (.inl x1)], [], (am_sh, am_mm U1)) (some (.inl r2), (am_sh, am_mm U2)) ∧ (((r2 = 0 : Prop)) → R = (some (.inl 0), (am_sh, am_mm U2))) ∧ (¬ (r2 = 0) → ∃ (r3 : Int) (U3 : Nat → Nat → Int), Ev (am_kz N X) (d, 335, 0, [some (.inr (.inr 26)), some (.inl (w32 (x1 + 1))), none, none, none], [], (am_sh, am_mm U2)) (some (.inl r3), (am_sh, am_mm U3)) ∧ (((r3 = 0 : Prop)) → R = (some (.inl 0), (am_sh, am_mm U3))) ∧ (¬ (r3 = 0) → ∃ (r4 : Int) (U4 : Nat → Nat → Int), Ev (am_kz N X) (d, 263, 0, [some (.inr (.inr 26)), some (.inl 44)], [], (am_sh, am_mm U3)) (some (.inl r4), (am_sh, am_mm U4)) ∧ (((r4 = 0 : Prop)) → R = (some (.inl 0), (am_sh, am_mm U4))) ∧ (¬ (r4 = 0) → ∃ (r5 : Int) (U5 : Nat → Nat → Int), Ev (am_kz N X) (d, 335, 0, [some (.inr (.inr 26)), some (.inl (w32 (x1 + 1))), none, none, none], [], (am_sh, am_mm U4)) (some (.inl r5), (am_sh, am_mm U5)) ∧ (((r5 = 0 : Prop)) → R = (some (.inl 0), (am_sh, am_mm U5))) ∧ (¬ (r5 = 0) → ∃ (r6 : Int) (U6 : Nat → Nat → Int), Ev (am_kz N X) (d, 263, 0, [some (.inr (.inr 26)), some (.inl 41)], [], (am_sh, am_mm U5)) (some (.inl r6), (am_sh, am_mm U6)) ∧ (((r6 = 0 : Prop)) → R = (some (.inl 0), (am_sh, am_mm U6))) ∧ (¬ (r6 = 0) → R = (some (.inl 1), (am_sh, am_mm U6)))))))) ∧ (¬ (¬ r1 = 0) → ∃ (r7 : Int) (U7 : Nat → Nat → Int), Ev (am_kz N X) (d, 262, 0, [some (.inr (.inr 26))], [], (am_sh, am_mm U1)) (some (.inl r7), (am_sh, am_mm U7)) ∧ (r7 = 0 ∨ r7 = 1) ∧ R = (some (.inl r7), (am_sh, am_mm U7)))) : Ev (am_kz N X) ((d + 1), 346, 0, [some (.inr (.inr 26)), some (.inl x1)], [], (am_sh, am_mm U)) R := by
  refine ev_seg (σ1 := ((d + 1), 346, 3, [some (.inr (.inr 26)), some (.inl x1)], [.inl 40, .inr (.inr 26)], (am_sh, am_mm U))) 2 (fun _ => rfl) ?_
  obtain ⟨r1, U1, hc, ha⟩ := h
  refine ev_cal (σc := (d, 300, 0, [some (.inr (.inr 26)), some (.inl 40)], [], (am_sh, am_mm U))) (fun _ => rfl) hc ?_
  show Ev (am_kz N X) ((d + 1), 346, 6, [some (.inr (.inr 26)), some (.inl x1)], [.inl r1], (am_sh, am_mm U1)) R
  refine ev_br (P := ¬ r1 = 0) (σ1 := ((d + 1), 346, 14, [some (.inr (.inr 26)), some (.inl x1)], [], (am_sh, am_mm U1))) (σ2 := ((d + 1), 346, 9, [some (.inr (.inr 26)), some (.inl x1)], [], (am_sh, am_mm U1))) 1 (fun _ => rfl) (fun hc => ?_) (fun hc => ?_)
  · have ha1 := ha.1 hc
    refine ev_seg (σ1 := ((d + 1), 346, 16, [some (.inr (.inr 26)), some (.inl x1)], [.inl x1, .inr (.inr 26)], (am_sh, am_mm U1))) 2 (fun _ => rfl) ?_
    obtain ⟨r2, U2, ha1c, ha1a⟩ := ha1
    refine ev_cal (σc := (d, 334, 0, [some (.inr (.inr 26)), some (.inl x1)], [], (am_sh, am_mm U1))) (fun _ => rfl) ha1c ?_
    show Ev (am_kz N X) ((d + 1), 346, 19, [some (.inr (.inr 26)), some (.inl x1)], [.inl r2], (am_sh, am_mm U2)) R
    refine ev_br (P := r2 = 0) (σ1 := ((d + 1), 346, 64, [some (.inr (.inr 26)), some (.inl x1)], [], (am_sh, am_mm U2))) (σ2 := ((d + 1), 346, 22, [some (.inr (.inr 26)), some (.inl x1)], [], (am_sh, am_mm U2))) 1 (fun _ => rfl) (fun hc => ?_) (fun hc => ?_)
    · have ha1a1 := ha1a.1 hc
      subst ha1a1
      exact ev_end 2 (fun _ => rfl)
    · have ha1a2 := ha1a.2 hc
      refine ev_seg (σ1 := ((d + 1), 346, 26, [some (.inr (.inr 26)), some (.inl x1)], [.inl (w32 (x1 + 1)), .inr (.inr 26)], (am_sh, am_mm U2))) 4 (fun _ => rfl) ?_
      obtain ⟨r3, U3, ha1a2c, ha1a2a⟩ := ha1a2
      refine ev_cal (σc := (d, 335, 0, [some (.inr (.inr 26)), some (.inl (w32 (x1 + 1))), none, none, none], [], (am_sh, am_mm U2))) (fun _ => rfl) ha1a2c ?_
      show Ev (am_kz N X) ((d + 1), 346, 29, [some (.inr (.inr 26)), some (.inl x1)], [.inl r3], (am_sh, am_mm U3)) R
      refine ev_br (P := r3 = 0) (σ1 := ((d + 1), 346, 64, [some (.inr (.inr 26)), some (.inl x1)], [], (am_sh, am_mm U3))) (σ2 := ((d + 1), 346, 32, [some (.inr (.inr 26)), some (.inl x1)], [], (am_sh, am_mm U3))) 1 (fun _ => rfl) (fun hc => ?_) (fun hc => ?_)
      · have ha1a2a1 := ha1a2a.1 hc
        subst ha1a2a1
        exact ev_end 2 (fun _ => rfl)
      · have ha1a2a2 := ha1a2a.2 hc
        refine ev_seg (σ1 := ((d + 1), 346, 35, [some (.inr (.inr 26)), some (.inl x1)], [.inl 44, .inr (.inr 26)], (am_sh, am_mm U3))) 2 (fun _ => rfl) ?_
        obtain ⟨r4, U4, ha1a2a2c, ha1a2a2a⟩ := ha1a2a2
        refine ev_cal (σc := (d, 263, 0, [some (.inr (.inr 26)), some (.inl 44)], [], (am_sh, am_mm U3))) (fun _ => rfl) ha1a2a2c ?_
        show Ev (am_kz N X) ((d + 1), 346, 38, [some (.inr (.inr 26)), some (.inl x1)], [.inl r4], (am_sh, am_mm U4)) R
        refine ev_br (P := r4 = 0) (σ1 := ((d + 1), 346, 64, [some (.inr (.inr 26)), some (.inl x1)], [], (am_sh, am_mm U4))) (σ2 := ((d + 1), 346, 41, [some (.inr (.inr 26)), some (.inl x1)], [], (am_sh, am_mm U4))) 1 (fun _ => rfl) (fun hc => ?_) (fun hc => ?_)
        · have ha1a2a2a1 := ha1a2a2a.1 hc
          subst ha1a2a2a1
          exact ev_end 2 (fun _ => rfl)
        · have ha1a2a2a2 := ha1a2a2a.2 hc
          refine ev_seg (σ1 := ((d + 1), 346, 45, [some (.inr (.inr 26)), some (.inl x1)], [.inl (w32 (x1 + 1)), .inr (.inr 26)], (am_sh, am_mm U4))) 4 (fun _ => rfl) ?_
          obtain ⟨r5, U5, ha1a2a2a2c, ha1a2a2a2a⟩ := ha1a2a2a2
          refine ev_cal (σc := (d, 335, 0, [some (.inr (.inr 26)), some (.inl (w32 (x1 + 1))), none, none, none], [], (am_sh, am_mm U4))) (fun _ => rfl) ha1a2a2a2c ?_
          show Ev (am_kz N X) ((d + 1), 346, 48, [some (.inr (.inr 26)), some (.inl x1)], [.inl r5], (am_sh, am_mm U5)) R
          refine ev_br (P := r5 = 0) (σ1 := ((d + 1), 346, 64, [some (.inr (.inr 26)), some (.inl x1)], [], (am_sh, am_mm U5))) (σ2 := ((d + 1), 346, 51, [some (.inr (.inr 26)), some (.inl x1)], [], (am_sh, am_mm U5))) 1 (fun _ => rfl) (fun hc => ?_) (fun hc => ?_)
          · have ha1a2a2a2a1 := ha1a2a2a2a.1 hc
            subst ha1a2a2a2a1
            exact ev_end 2 (fun _ => rfl)
          · have ha1a2a2a2a2 := ha1a2a2a2a.2 hc
            refine ev_seg (σ1 := ((d + 1), 346, 54, [some (.inr (.inr 26)), some (.inl x1)], [.inl 41, .inr (.inr 26)], (am_sh, am_mm U5))) 2 (fun _ => rfl) ?_
            obtain ⟨r6, U6, ha1a2a2a2a2c, ha1a2a2a2a2a⟩ := ha1a2a2a2a2
            refine ev_cal (σc := (d, 263, 0, [some (.inr (.inr 26)), some (.inl 41)], [], (am_sh, am_mm U5))) (fun _ => rfl) ha1a2a2a2a2c ?_
            show Ev (am_kz N X) ((d + 1), 346, 57, [some (.inr (.inr 26)), some (.inl x1)], [.inl r6], (am_sh, am_mm U6)) R
            refine ev_br (P := r6 = 0) (σ1 := ((d + 1), 346, 64, [some (.inr (.inr 26)), some (.inl x1)], [], (am_sh, am_mm U6))) (σ2 := ((d + 1), 346, 60, [some (.inr (.inr 26)), some (.inl x1)], [], (am_sh, am_mm U6))) 1 (fun _ => rfl) (fun hc => ?_) (fun hc => ?_)
            · have ha1a2a2a2a2a1 := ha1a2a2a2a2a.1 hc
              subst ha1a2a2a2a2a1
              exact ev_end 2 (fun _ => rfl)
            · have ha1a2a2a2a2a2 := ha1a2a2a2a2a.2 hc
              subst ha1a2a2a2a2a2
              exact ev_end 3 (fun _ => rfl)
  · have ha2 := ha.2 hc
    refine ev_seg (σ1 := ((d + 1), 346, 10, [some (.inr (.inr 26)), some (.inl x1)], [.inr (.inr 26)], (am_sh, am_mm U1))) 1 (fun _ => rfl) ?_
    obtain ⟨r7, U7, ha2c, ha2a⟩ := ha2
    refine ev_cal (σc := (d, 262, 0, [some (.inr (.inr 26))], [], (am_sh, am_mm U1))) (fun _ => rfl) ha2c ?_
    show Ev (am_kz N X) ((d + 1), 346, 13, [some (.inr (.inr 26)), some (.inl x1)], [.inl r7], (am_sh, am_mm U7)) R
    rw [ha2a.2]
    exact ev_retz rfl rfl ha2a.1
