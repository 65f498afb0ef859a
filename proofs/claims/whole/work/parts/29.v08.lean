set_option maxRecDepth 8000 in
theorem st244_84_0 (N : Nat) (X : Nat → Int) (d : Nat) (x1 : Int) (U : Nat → Nat → Int) (R : Option am_V × am_M) (h : Ev (am_kz N X) (d, 244, 5, [some (.inr (.inr 84)), some (.inl x1), some (.inl 73), some (.inl 0)], [], (am_sh, am_mm U)) R) : Ev (am_kz N X) (d, 244, 0, [some (.inr (.inr 84)), some (.inl x1), none, none], [], (am_sh, am_mm U)) R := by
  refine ev_seg (σ1 := (d, 244, 5, [some (.inr (.inr 84)), some (.inl x1), some (.inl 73), some (.inl 0)], [], (am_sh, am_mm U))) 4 (fun _ => rfl) ?_
  exact h
set_option maxRecDepth 8000 in
theorem st244_84_5 (N : Nat) (X : Nat → Int) (d : Nat) (x1 x2 x3 : Int) (U : Nat → Nat → Int) (R : Option am_V × am_M) (h : (((x1 ≤ x3 : Prop)) → R = (some (.inl x2), (am_sh, am_mm U))) ∧ (¬ (x1 ≤ x3) → (((85 ≤ x3 : Prop)) → R = (some (.inl x2), (am_sh, am_mm U))) ∧ (¬ (85 ≤ x3) → (0 ≤ x3 ∧ x3 < 85) ∧ Ev (am_kz N X) (d, 244, 5, [some (.inr (.inr 84)), some (.inl x1), some (.inl (Int.tmod (w32 ((w32 (5 * x2)) + (U 84 x3.toNat))) 251)), some (.inl (w32 (x3 + 1)))], [], (am_sh, am_mm U)) R))) : Ev (am_kz N X) (d, 244, 5, [some (.inr (.inr 84)), some (.inl x1), some (.inl x2), some (.inl x3)], [], (am_sh, am_mm U)) R := by
  refine ev_br (P := x1 ≤ x3) (σ1 := (d, 244, 34, [some (.inr (.inr 84)), some (.inl x1), some (.inl x2), some (.inl x3)], [], (am_sh, am_mm U))) (σ2 := (d, 244, 10, [some (.inr (.inr 84)), some (.inl x1), some (.inl x2), some (.inl x3)], [], (am_sh, am_mm U))) 3 (fun _ => rfl) (fun hc => ?_) (fun hc => ?_)
  · have h1 := h.1 hc
    subst h1
    exact ev_end 2 (fun _ => rfl)
  · have h2 := h.2 hc
    refine ev_br (P := 85 ≤ x3) (σ1 := (d, 244, 34, [some (.inr (.inr 84)), some (.inl x1), some (.inl x2), some (.inl x3)], [], (am_sh, am_mm U))) (σ2 := (d, 244, 16, [some (.inr (.inr 84)), some (.inl x1), some (.inl x2), some (.inl x3)], [], (am_sh, am_mm U))) 4 (fun _ => rfl) (fun hc => ?_) (fun hc => ?_)
    · have h21 := h2.1 hc
      subst h21
      exact ev_end 2 (fun _ => rfl)
    · have h22 := h2.2 hc
      refine ev_seg (σ1 := (d, 244, 21, [some (.inr (.inr 84)), some (.inl x1), some (.inl x2), some (.inl x3)], [.inl x3, .inr (.inr 84), .inl (w32 (5 * x2))], (am_sh, am_mm U))) 5 (fun _ => rfl) ?_
      refine eu_iald 84 (n := 85) rfl (by decide) rfl (fun _ => rfl) h22.1 ?_
      have h22a := h22.2
      refine ev_seg (σ1 := (d, 244, 26, [some (.inr (.inr 84)), some (.inl x1), some (.inl x2), some (.inl x3)], [.inl 251, .inl (w32 ((w32 (5 * x2)) + (U 84 x3.toNat)))], (am_sh, am_mm U))) 2 (fun _ => rfl) ?_
      refine ev_irem rfl (by decide) ?_
      refine ev_seg (σ1 := (d, 244, 5, [some (.inr (.inr 84)), some (.inl x1), some (.inl (Int.tmod (w32 ((w32 (5 * x2)) + (U 84 x3.toNat))) 251)), some (.inl (w32 (x3 + 1)))], [], (am_sh, am_mm U))) 3 (fun _ => rfl) ?_
      exact h22a
set_option maxRecDepth 8000 in
theorem st245_21_3_0 (N : Nat) (X : Nat → Int) (d : Nat) (x1 x2 : Int) (U : Nat → Nat → Int) (R : Option am_V × am_M) (h : (((x1 = 0 : Prop)) → R = (some (.inl 0), (am_sh, am_mm U))) ∧ (¬ (x1 = 0) → (((999999999 < x1 : Prop)) → R = (some (.inl 0), (am_sh, am_mm U))) ∧ (¬ (999999999 < x1) → (((x1 < (-999999999) : Prop)) → R = (some (.inl 0), (am_sh, am_mm U))) ∧ (¬ (x1 < (-999999999)) → ∃ (r1 : Int) (U1 : Nat → Nat → Int), Ev (am_kz N X) (d, 280, 0, [some (.inr (.inr 21)), some (.inl x1), none], [], (am_sh, am_mm U)) (some (.inl r1), (am_sh, am_mm U1)) ∧ (((r1 < 0 : Prop)) → ((((U1 3 1) ≤ x2 : Prop)) → R = (some (.inl 0), (am_sh, am_mm U1))) ∧ (¬ ((U1 3 1) ≤ x2) → (((x2 < 0 : Prop)) → ∃ U2 : Nat → Nat → Int, Ev (am_kz N X) (d, 180, 0, [some (.inr (.inr 21)), some (.inl x1), some (.inl x2)], [], (am_sh, am_mm U1)) (none, (am_sh, am_mm U2)) ∧ R = (some (.inl 1), (am_sh, am_mm U2))) ∧ (¬ (x2 < 0) → ∃ (r3 : Int) (U3 : Nat → Nat → Int), Ev (am_kz N X) (d, 106, 0, [some (.inr (.inr 21)), some (.inl x2)], [], (am_sh, am_mm U1)) (some (.inl r3), (am_sh, am_mm U3)) ∧ (0 ≤ x2 ∧ x2 < 12) ∧ (((r3 < (U3 8 x2.toNat) : Prop)) → ∃ U4 : Nat → Nat → Int, Ev (am_kz N X) (d, 180, 0, [some (.inr (.inr 21)), some (.inl x1), some (.inl x2)], [], (am_sh, am_mm U3)) (none, (am_sh, am_mm U4)) ∧ R = (some (.inl 1), (am_sh, am_mm U4))) ∧ (¬ (r3 < (U3 8 x2.toNat)) → R = (some (.inl 0), (am_sh, am_mm U3)))))) ∧ (¬ (r1 < 0) → R = (some (.inl 0), (am_sh, am_mm U1))))))) : Ev (am_kz N X) ((d + 1), 245, 0, [some (.inr (.inr 21)), some (.inl x1), some (.inl x2), some (.inr (.inr 3))], [], (am_sh, am_mm U)) R := by
  refine ev_br (P := x1 = 0) (σ1 := ((d + 1), 245, 24, [some (.inr (.inr 21)), some (.inl x1), some (.inl x2), some (.inr (.inr 3))], [], (am_sh, am_mm U))) (σ2 := ((d + 1), 245, 4, [some (.inr (.inr 21)), some (.inl x1), some (.inl x2), some (.inr (.inr 3))], [], (am_sh, am_mm U))) 2 (fun _ => rfl) (fun hc => ?_) (fun hc => ?_)
  · have h1 := h.1 hc
    subst h1
    exact ev_end 2 (fun _ => rfl)
  · have h2 := h.2 hc
    refine ev_br (P := 999999999 < x1) (σ1 := ((d + 1), 245, 24, [some (.inr (.inr 21)), some (.inl x1), some (.inl x2), some (.inr (.inr 3))], [], (am_sh, am_mm U))) (σ2 := ((d + 1), 245, 10, [some (.inr (.inr 21)), some (.inl x1), some (.inl x2), some (.inr (.inr 3))], [], (am_sh, am_mm U))) 3 (fun _ => rfl) (fun hc => ?_) (fun hc => ?_)
    · have h21 := h2.1 hc
      subst h21
      exact ev_end 2 (fun _ => rfl)
    · have h22 := h2.2 hc
      refine ev_br (P := x1 < (-999999999)) (σ1 := ((d + 1), 245, 24, [some (.inr (.inr 21)), some (.inl x1), some (.inl x2), some (.inr (.inr 3))], [], (am_sh, am_mm U))) (σ2 := ((d + 1), 245, 16, [some (.inr (.inr 21)), some (.inl x1), some (.inl x2), some (.inr (.inr 3))], [], (am_sh, am_mm U))) 3 (fun _ => rfl) (fun hc => ?_) (fun hc => ?_)
      · have h221 := h22.1 hc
        subst h221
        exact ev_end 2 (fun _ => rfl)
      · have h222 := h22.2 hc
        refine ev_seg (σ1 := ((d + 1), 245, 18, [some (.inr (.inr 21)), some (.inl x1), some (.inl x2), some (.inr (.inr 3))], [.inl x1, .inr (.inr 21)], (am_sh, am_mm U))) 2 (fun _ => rfl) ?_
        obtain ⟨r1, U1, h222c, h222a⟩ := h222
        refine ev_cal (σc := (d, 280, 0, [some (.inr (.inr 21)), some (.inl x1), none], [], (am_sh, am_mm U))) (fun _ => rfl) h222c ?_
        show Ev (am_kz N X) ((d + 1), 245, 21, [some (.inr (.inr 21)), some (.inl x1), some (.inl x2), some (.inr (.inr 3))], [.inl r1], (am_sh, am_mm U1)) R
        refine ev_br (P := r1 < 0) (σ1 := ((d + 1), 245, 26, [some (.inr (.inr 21)), some (.inl x1), some (.inl x2), some (.inr (.inr 3))], [], (am_sh, am_mm U1))) (σ2 := ((d + 1), 245, 24, [some (.inr (.inr 21)), some (.inl x1), some (.inl x2), some (.inr (.inr 3))], [], (am_sh, am_mm U1))) 1 (fun _ => rfl) (fun hc => ?_) (fun hc => ?_)
        · have h222a1 := h222a.1 hc
          refine ev_br (P := (U1 3 1) ≤ x2) (σ1 := ((d + 1), 245, 52, [some (.inr (.inr 21)), some (.inl x1), some (.inl x2), some (.inr (.inr 3))], [], (am_sh, am_mm U1))) (σ2 := ((d + 1), 245, 34, [some (.inr (.inr 21)), some (.inl x1), some (.inl x2), some (.inr (.inr 3))], [], (am_sh, am_mm U1))) 4 (fun _ => rfl) (fun hc => ?_) (fun hc => ?_)
          · have h222a11 := h222a1.1 hc
            subst h222a11
            exact ev_end 2 (fun _ => rfl)
          · have h222a12 := h222a1.2 hc
            refine ev_br (P := x2 < 0) (σ1 := ((d + 1), 245, 54, [some (.inr (.inr 21)), some (.inl x1), some (.inl x2), some (.inr (.inr 3))], [], (am_sh, am_mm U1))) (σ2 := ((d + 1), 245, 38, [some (.inr (.inr 21)), some (.inl x1), some (.inl x2), some (.inr (.inr 3))], [], (am_sh, am_mm U1))) 2 (fun _ => rfl) (fun hc => ?_) (fun hc => ?_)
            · have h222a121 := h222a12.1 hc
              refine ev_seg (σ1 := ((d + 1), 245, 57, [some (.inr (.inr 21)), some (.inl x1), some (.inl x2), some (.inr (.inr 3))], [.inl x2, .inl x1, .inr (.inr 21)], (am_sh, am_mm U1))) 3 (fun _ => rfl) ?_
              obtain ⟨U2, h222a121c, h222a121a⟩ := h222a121
              refine ev_cal (σc := (d, 180, 0, [some (.inr (.inr 21)), some (.inl x1), some (.inl x2)], [], (am_sh, am_mm U1))) (fun _ => rfl) h222a121c ?_
              show Ev (am_kz N X) ((d + 1), 245, 60, [some (.inr (.inr 21)), some (.inl x1), some (.inl x2), some (.inr (.inr 3))], [], (am_sh, am_mm U2)) R
              subst h222a121a
              exact ev_end 2 (fun _ => rfl)
            · have h222a122 := h222a12.2 hc
              refine ev_seg (σ1 := ((d + 1), 245, 40, [some (.inr (.inr 21)), some (.inl x1), some (.inl x2), some (.inr (.inr 3))], [.inl x2, .inr (.inr 21)], (am_sh, am_mm U1))) 2 (fun _ => rfl) ?_
              obtain ⟨r3, U3, h222a122c, h222a122a⟩ := h222a122
              refine ev_cal (σc := (d, 106, 0, [some (.inr (.inr 21)), some (.inl x2)], [], (am_sh, am_mm U1))) (fun _ => rfl) h222a122c ?_
              show Ev (am_kz N X) ((d + 1), 245, 43, [some (.inr (.inr 21)), some (.inl x1), some (.inl x2), some (.inr (.inr 3))], [.inl r3], (am_sh, am_mm U3)) R
              refine ev_seg (σ1 := ((d + 1), 245, 48, [some (.inr (.inr 21)), some (.inl x1), some (.inl x2), some (.inr (.inr 3))], [.inl x2, .inr (.inr 8), .inl r3], (am_sh, am_mm U3))) 3 (fun _ => rfl) ?_
              refine eu_iald 8 (n := 12) rfl (by decide) rfl (fun _ => rfl) h222a122a.1 ?_
              have h222a122aa := h222a122a.2
              refine ev_br (P := r3 < (U3 8 x2.toNat)) (σ1 := ((d + 1), 245, 54, [some (.inr (.inr 21)), some (.inl x1), some (.inl x2), some (.inr (.inr 3))], [], (am_sh, am_mm U3))) (σ2 := ((d + 1), 245, 52, [some (.inr (.inr 21)), some (.inl x1), some (.inl x2), some (.inr (.inr 3))], [], (am_sh, am_mm U3))) 1 (fun _ => rfl) (fun hc => ?_) (fun hc => ?_)
              · have h222a122aa1 := h222a122aa.1 hc
                refine ev_seg (σ1 := ((d + 1), 245, 57, [some (.inr (.inr 21)), some (.inl x1), some (.inl x2), some (.inr (.inr 3))], [.inl x2, .inl x1, .inr (.inr 21)], (am_sh, am_mm U3))) 3 (fun _ => rfl) ?_
                obtain ⟨U4, h222a122aa1c, h222a122aa1a⟩ := h222a122aa1
                refine ev_cal (σc := (d, 180, 0, [some (.inr (.inr 21)), some (.inl x1), some (.inl x2)], [], (am_sh, am_mm U3))) (fun _ => rfl) h222a122aa1c ?_
                show Ev (am_kz N X) ((d + 1), 245, 60, [some (.inr (.inr 21)), some (.inl x1), some (.inl x2), some (.inr (.inr 3))], [], (am_sh, am_mm U4)) R
                subst h222a122aa1a
                exact ev_end 2 (fun _ => rfl)
              · have h222a122aa2 := h222a122aa.2 hc
                subst h222a122aa2
                exact ev_end 2 (fun _ => rfl)
        · have h222a2 := h222a.2 hc
          subst h222a2
          exact ev_end 2 (fun _ => rfl)
set_option maxRecDepth 8000 in
theorem st244_2_0 (N : Nat) (X : Nat → Int) (d : Nat) (x1 : Int) (U : Nat → Nat → Int) (R : Option am_V × am_M) (h : Ev (am_kz N X) (d, 244, 5, [some (.inr (.inr 2)), some (.inl x1), some (.inl 73), some (.inl 0)], [], (am_sh, am_mm U)) R) : Ev (am_kz N X) (d, 244, 0, [some (.inr (.inr 2)), some (.inl x1), none, none], [], (am_sh, am_mm U)) R := by
  refine ev_seg (σ1 := (d, 244, 5, [some (.inr (.inr 2)), some (.inl x1), some (.inl 73), some (.inl 0)], [], (am_sh, am_mm U))) 4 (fun _ => rfl) ?_
  exact h
set_option maxRecDepth 8000 in
theorem st244_2_5 (N : Nat) (X : Nat → Int) (d : Nat) (x1 x2 x3 : Int) (U : Nat → Nat → Int) (R : Option am_V × am_M) (h : (((x1 ≤ x3 : Prop)) → R = (some (.inl x2), (am_sh, am_mm U))) ∧ (¬ (x1 ≤ x3) → (((1600 ≤ x3 : Prop)) → R = (some (.inl x2), (am_sh, am_mm U))) ∧ (¬ (1600 ≤ x3) → (0 ≤ x3 ∧ x3 < 1600) ∧ Ev (am_kz N X) (d, 244, 5, [some (.inr (.inr 2)), some (.inl x1), some (.inl (Int.tmod (w32 ((w32 (5 * x2)) + (U 2 x3.toNat))) 251)), some (.inl (w32 (x3 + 1)))], [], (am_sh, am_mm U)) R))) : Ev (am_kz N X) (d, 244, 5, [some (.inr (.inr 2)), some (.inl x1), some (.inl x2), some (.inl x3)], [], (am_sh, am_mm U)) R := by
  refine ev_br (P := x1 ≤ x3) (σ1 := (d, 244, 34, [some (.inr (.inr 2)), some (.inl x1), some (.inl x2), some (.inl x3)], [], (am_sh, am_mm U))) (σ2 := (d, 244, 10, [some (.inr (.inr 2)), some (.inl x1), some (.inl x2), some (.inl x3)], [], (am_sh, am_mm U))) 3 (fun _ => rfl) (fun hc => ?_) (fun hc => ?_)
  · have h1 := h.1 hc
    subst h1
    exact ev_end 2 (fun _ => rfl)
  · have h2 := h.2 hc
    refine ev_br (P := 1600 ≤ x3) (σ1 := (d, 244, 34, [some (.inr (.inr 2)), some (.inl x1), some (.inl x2), some (.inl x3)], [], (am_sh, am_mm U))) (σ2 := (d, 244, 16, [some (.inr (.inr 2)), some (.inl x1), some (.inl x2), some (.inl x3)], [], (am_sh, am_mm U))) 4 (fun _ => rfl) (fun hc => ?_) (fun hc => ?_)
    · have h21 := h2.1 hc
      subst h21
      exact ev_end 2 (fun _ => rfl)
    · have h22 := h2.2 hc
      refine ev_seg (σ1 := (d, 244, 21, [some (.inr (.inr 2)), some (.inl x1), some (.inl x2), some (.inl x3)], [.inl x3, .inr (.inr 2), .inl (w32 (5 * x2))], (am_sh, am_mm U))) 5 (fun _ => rfl) ?_
      refine eu_iald 2 (n := 1600) rfl (by decide) rfl (fun _ => rfl) h22.1 ?_
      have h22a := h22.2
      refine ev_seg (σ1 := (d, 244, 26, [some (.inr (.inr 2)), some (.inl x1), some (.inl x2), some (.inl x3)], [.inl 251, .inl (w32 ((w32 (5 * x2)) + (U 2 x3.toNat)))], (am_sh, am_mm U))) 2 (fun _ => rfl) ?_
      refine ev_irem rfl (by decide) ?_
      refine ev_seg (σ1 := (d, 244, 5, [some (.inr (.inr 2)), some (.inl x1), some (.inl (Int.tmod (w32 ((w32 (5 * x2)) + (U 2 x3.toNat))) 251)), some (.inl (w32 (x3 + 1)))], [], (am_sh, am_mm U))) 3 (fun _ => rfl) ?_
      exact h22a
set_option maxRecDepth 8000 in
theorem st246_86_0 (N : Nat) (X : Nat → Int) (d : Nat) (x1 : Int) (U : Nat → Nat → Int) (R : Option am_V × am_M) (h : (0 ≤ x1 ∧ x1 < 1800) ∧ (0 ≤ (w32 (x1 + 1)) ∧ (w32 (x1 + 1)) < 1800) ∧ (0 ≤ (w32 (x1 + 2)) ∧ (w32 (x1 + 2)) < 1800) ∧ (0 ≤ (w32 (x1 + 3)) ∧ (w32 (x1 + 3)) < 1800) ∧ R = (some (.inl (am_or (am_or (am_or (am_shl (U 87 x1.toNat) 24) (am_shl (U 87 (w32 (x1 + 1)).toNat) 16)) (am_shl (U 87 (w32 (x1 + 2)).toNat) 8)) (U 87 (w32 (x1 + 3)).toNat))), (am_sh, am_mm U))) : Ev (am_kz N X) (d, 246, 0, [some (.inr (.inr 86)), some (.inl x1)], [], (am_sh, am_mm U)) R := by
  refine ev_seg (σ1 := (d, 246, 5, [some (.inr (.inr 86)), some (.inl x1)], [.inl x1, .inr (.inr 87)], (am_sh, am_mm U))) 3 (fun _ => rfl) ?_
  refine eu_iald 87 (n := 1800) rfl (by decide) rfl (fun _ => rfl) h.1 ?_
  have ha := h.2
  refine ev_seg (σ1 := (d, 246, 16, [some (.inr (.inr 86)), some (.inl x1)], [.inl (w32 (x1 + 1)), .inr (.inr 87), .inl (am_shl (U 87 x1.toNat) 24)], (am_sh, am_mm U))) 7 (fun _ => rfl) ?_
  refine eu_iald 87 (n := 1800) rfl (by decide) rfl (fun _ => rfl) ha.1 ?_
  have haa := ha.2
  refine ev_seg (σ1 := (d, 246, 28, [some (.inr (.inr 86)), some (.inl x1)], [.inl (w32 (x1 + 2)), .inr (.inr 87), .inl (am_or (am_shl (U 87 x1.toNat) 24) (am_shl (U 87 (w32 (x1 + 1)).toNat) 16))], (am_sh, am_mm U))) 8 (fun _ => rfl) ?_
  refine eu_iald 87 (n := 1800) rfl (by decide) rfl (fun _ => rfl) haa.1 ?_
  have haaa := haa.2
  refine ev_seg (σ1 := (d, 246, 40, [some (.inr (.inr 86)), some (.inl x1)], [.inl (w32 (x1 + 3)), .inr (.inr 87), .inl (am_or (am_or (am_shl (U 87 x1.toNat) 24) (am_shl (U 87 (w32 (x1 + 1)).toNat) 16)) (am_shl (U 87 (w32 (x1 + 2)).toNat) 8))], (am_sh, am_mm U))) 8 (fun _ => rfl) ?_
  refine eu_iald 87 (n := 1800) rfl (by decide) rfl (fun _ => rfl) haaa.1 ?_
  have haaaa := haaa.2
  subst haaaa
  exact ev_end 2 (fun _ => rfl)
set_option maxRecDepth 8000 in
theorem st253_26_0 (N : Nat) (X : Nat → Int) (d : Nat) (U : Nat → Nat → Int) (R : Option am_V × am_M) (h : ∃ U1 : Nat → Nat → Int, Ev (am_kz N X) (d, 177, 0, [some (.inr (.inr 26))], [], (am_sh, am_mm U)) (none, (am_sh, am_mm U1)) ∧ ∃ (r2 : Int) (U2 : Nat → Nat → Int), Ev (am_kz N X) (d, 298, 0, [some (.inr (.inr 26)), some (.inl 0), none], [], (am_sh, am_mm U1)) (some (.inl r2), (am_sh, am_mm U2)) ∧ (((0 ≤ r2 : Prop)) → (0 ≤ r2 ∧ r2 < 12) ∧ ∃ (r3 : Int) (U3 : Nat → Nat → Int), Ev (am_kz N X) (d, 298, 0, [some (.inr (.inr 26)), some (.inl (am_or (U2 37 r2.toNat) (am_shl 1 r2))), none], [], (am_sh, am_mm U2)) (some (.inl r3), (am_sh, am_mm U3)) ∧ (((0 ≤ r3 : Prop)) → ∃ U4 : Nat → Nat → Int, Ev (am_kz N X) (d, 299, 0, [some (.inr (.inr 31)), some (.inl r2), some (.inl r3)], [], (am_sh, am_mm U3)) (none, (am_sh, am_mm U4)) ∧ R = (some (.inl 1), (am_sh, am_mm U4))) ∧ (¬ (0 ≤ r3) → R = (some (.inl 0), (am_sh, am_mm U3)))) ∧ (¬ (0 ≤ r2) → R = (some (.inl 0), (am_sh, am_mm U2)))) : Ev (am_kz N X) ((d + 1), 253, 0, [some (.inr (.inr 26)), none, none], [], (am_sh, am_mm U)) R := by
  refine ev_seg (σ1 := ((d + 1), 253, 1, [some (.inr (.inr 26)), none, none], [.inr (.inr 26)], (am_sh, am_mm U))) 1 (fun _ => rfl) ?_
  obtain ⟨U1, hc, ha⟩ := h
  refine ev_cal (σc := (d, 177, 0, [some (.inr (.inr 26))], [], (am_sh, am_mm U))) (fun _ => rfl) hc ?_
  show Ev (am_kz N X) ((d + 1), 253, 4, [some (.inr (.inr 26)), none, none], [], (am_sh, am_mm U1)) R
  refine ev_seg (σ1 := ((d + 1), 253, 6, [some (.inr (.inr 26)), none, none], [.inl 0, .inr (.inr 26)], (am_sh, am_mm U1))) 2 (fun _ => rfl) ?_
  obtain ⟨r2, U2, hac, haa⟩ := ha
  refine ev_cal (σc := (d, 298, 0, [some (.inr (.inr 26)), some (.inl 0), none], [], (am_sh, am_mm U1))) (fun _ => rfl) hac ?_
  show Ev (am_kz N X) ((d + 1), 253, 9, [some (.inr (.inr 26)), none, none], [.inl r2], (am_sh, am_mm U2)) R
  refine ev_br (P := 0 ≤ r2) (σ1 := ((d + 1), 253, 16, [some (.inr (.inr 26)), some (.inl r2), none], [], (am_sh, am_mm U2))) (σ2 := ((d + 1), 253, 14, [some (.inr (.inr 26)), some (.inl r2), none], [], (am_sh, am_mm U2))) 3 (fun _ => rfl) (fun hc => ?_) (fun hc => ?_)
  · have haa1 := haa.1 hc
    refine ev_seg (σ1 := ((d + 1), 253, 25, [some (.inr (.inr 26)), some (.inl r2), none], [.inl r2, .inr (.inr 37), .inr (.inr 26)], (am_sh, am_mm U2))) 5 (fun _ => rfl) ?_
    refine eu_iald 37 (n := 12) rfl (by decide) rfl (fun _ => rfl) haa1.1 ?_
    have haa1a := haa1.2
    refine ev_seg (σ1 := ((d + 1), 253, 30, [some (.inr (.inr 26)), some (.inl r2), none], [.inl (am_or (U2 37 r2.toNat) (am_shl 1 r2)), .inr (.inr 26)], (am_sh, am_mm U2))) 4 (fun _ => rfl) ?_
    obtain ⟨r3, U3, haa1ac, haa1aa⟩ := haa1a
    refine ev_cal (σc := (d, 298, 0, [some (.inr (.inr 26)), some (.inl (am_or (U2 37 r2.toNat) (am_shl 1 r2))), none], [], (am_sh, am_mm U2))) (fun _ => rfl) haa1ac ?_
    show Ev (am_kz N X) ((d + 1), 253, 33, [some (.inr (.inr 26)), some (.inl r2), none], [.inl r3], (am_sh, am_mm U3)) R
    refine ev_br (P := 0 ≤ r3) (σ1 := ((d + 1), 253, 40, [some (.inr (.inr 26)), some (.inl r2), some (.inl r3)], [], (am_sh, am_mm U3))) (σ2 := ((d + 1), 253, 38, [some (.inr (.inr 26)), some (.inl r2), some (.inl r3)], [], (am_sh, am_mm U3))) 3 (fun _ => rfl) (fun hc => ?_) (fun hc => ?_)
    · have haa1aa1 := haa1aa.1 hc
      refine ev_seg (σ1 := ((d + 1), 253, 46, [some (.inr (.inr 26)), some (.inl r2), some (.inl r3)], [.inl r3, .inl r2, .inr (.inr 31)], (am_sh, am_mm U3))) 4 (fun _ => rfl) ?_
      obtain ⟨U4, haa1aa1c, haa1aa1a⟩ := haa1aa1
      refine ev_cal (σc := (d, 299, 0, [some (.inr (.inr 31)), some (.inl r2), some (.inl r3)], [], (am_sh, am_mm U3))) (fun _ => rfl) haa1aa1c ?_
      show Ev (am_kz N X) ((d + 1), 253, 49, [some (.inr (.inr 26)), some (.inl r2), some (.inl r3)], [], (am_sh, am_mm U4)) R
      subst haa1aa1a
      exact ev_end 2 (fun _ => rfl)
    · have haa1aa2 := haa1aa.2 hc
      subst haa1aa2
      exact ev_end 2 (fun _ => rfl)
  · have haa2 := haa.2 hc
    subst haa2
    exact ev_end 2 (fun _ => rfl)
set_option maxRecDepth 8000 in
theorem st258_26_0 (N : Nat) (X : Nat → Int) (d : Nat) (U : Nat → Nat → Int) (R : Option am_V × am_M) (h : ∃ U1 : Nat → Nat → Int, Ev (am_kz N X) (d, 177, 0, [some (.inr (.inr 26))], [], (am_sh, am_mm (am_upd U 26 11 (U 31 18)))) (none, (am_sh, am_mm U1)) ∧ R = (some (.inl 1), (am_sh, am_mm U1))) : Ev (am_kz N X) ((d + 1), 258, 0, [some (.inr (.inr 26))], [], (am_sh, am_mm U)) R := by
  refine ev_seg (σ1 := ((d + 1), 258, 8, [some (.inr (.inr 26))], [.inl (U 31 18), .inr (.inr 26)], (am_sh, am_mm U))) 4 (fun _ => rfl) ?_
  refine eu_puti 26 (n := 12) rfl (by decide) rfl rfl ?_
  refine ev_seg (σ1 := ((d + 1), 258, 12, [some (.inr (.inr 26))], [.inr (.inr 26)], (am_sh, am_mm (am_upd U 26 11 (U 31 18))))) 1 (fun _ => rfl) ?_
  obtain ⟨U1, hc, ha⟩ := h
  refine ev_cal (σc := (d, 177, 0, [some (.inr (.inr 26))], [], (am_sh, am_mm (am_upd U 26 11 (U 31 18))))) (fun _ => rfl) hc ?_
  show Ev (am_kz N X) ((d + 1), 258, 15, [some (.inr (.inr 26))], [], (am_sh, am_mm U1)) R
  subst ha
  exact ev_end 2 (fun _ => rfl)
set_option maxRecDepth 8000 in
theorem st252_26_0 (N : Nat) (X : Nat → Int) (d : Nat) (U : Nat → Nat → Int) (R : Option am_V × am_M) (h : ∃ U1 : Nat → Nat → Int, Ev (am_kz N X) (d, 177, 0, [some (.inr (.inr 26))], [], (am_sh, am_mm U)) (none, (am_sh, am_mm U1)) ∧ ∃ (r2 : Int) (U2 : Nat → Nat → Int), Ev (am_kz N X) (d, 292, 0, [some (.inr (.inr 26))], [], (am_sh, am_mm U1)) (some (.inl r2), (am_sh, am_mm U2)) ∧ (((r2 = 0 : Prop)) → R = (some (.inl 0), (am_sh, am_mm U2))) ∧ (¬ (r2 = 0) → ∃ (r3 : Int) (U3 : Nat → Nat → Int), Ev (am_kz N X) (d, 294, 0, [some (.inr (.inr 26)), some (.inl 2)], [], (am_sh, am_mm U2)) (some (.inl r3), (am_sh, am_mm U3)) ∧ (((¬ r3 = 0 : Prop)) → ∃ (r4 : Int) (U4 : Nat → Nat → Int), Ev (am_kz N X) (d, 295, 0, [some (.inr (.inr 26)), none], [], (am_sh, am_mm U3)) (some (.inl r4), (am_sh, am_mm U4)) ∧ (((r4 < 0 : Prop)) → R = (some (.inl 0), (am_sh, am_mm U4))) ∧ (¬ (r4 < 0) → ∃ (r5 : Int) (U5 : Nat → Nat → Int), Ev (am_kz N X) (d, 294, 0, [some (.inr (.inr 26)), some (.inl 3)], [], (am_sh, am_mm U4)) (some (.inl r5), (am_sh, am_mm U5)) ∧ (((¬ r5 = 0 : Prop)) → ∃ (r6 : Int) (U6 : Nat → Nat → Int), Ev (am_kz N X) (d, 296, 0, [some (.inr (.inr 26)), some (.inl 1), some (.inl 6), none], [], (am_sh, am_mm U5)) (some (.inl r6), (am_sh, am_mm U6)) ∧ (((0 ≤ r6 : Prop)) → ∃ U7 : Nat → Nat → Int, Ev (am_kz N X) (d, 297, 0, [some (.inr (.inr 31)), some (.inl (U1 26 8)), some (.inl r4), some (.inl r6), none, none], [], (am_sh, am_mm U6)) (none, (am_sh, am_mm U7)) ∧ R = (some (.inl 1), (am_sh, am_mm U7))) ∧ (¬ (0 ≤ r6) → R = (some (.inl 0), (am_sh, am_mm U6)))) ∧ (¬ (¬ r5 = 0) → R = (some (.inl 0), (am_sh, am_mm U5))))) ∧ (¬ (¬ r3 = 0) → R = (some (.inl 0), (am_sh, am_mm U3))))) : Ev (am_kz N X) ((d + 1), 252, 0, [some (.inr (.inr 26)), none, none, none], [], (am_sh, am_mm U)) R := by
  refine ev_seg (σ1 := ((d + 1), 252, 1, [some (.inr (.inr 26)), none, none, none], [.inr (.inr 26)], (am_sh, am_mm U))) 1 (fun _ => rfl) ?_
  obtain ⟨U1, hc, ha⟩ := h
  refine ev_cal (σc := (d, 177, 0, [some (.inr (.inr 26))], [], (am_sh, am_mm U))) (fun _ => rfl) hc ?_
  show Ev (am_kz N X) ((d + 1), 252, 4, [some (.inr (.inr 26)), none, none, none], [], (am_sh, am_mm U1)) R
  refine ev_seg (σ1 := ((d + 1), 252, 10, [some (.inr (.inr 26)), some (.inl (U1 26 8)), none, none], [.inr (.inr 26)], (am_sh, am_mm U1))) 4 (fun _ => rfl) ?_
  obtain ⟨r2, U2, hac, haa⟩ := ha
  refine ev_cal (σc := (d, 292, 0, [some (.inr (.inr 26))], [], (am_sh, am_mm U1))) (fun _ => rfl) hac ?_
  show Ev (am_kz N X) ((d + 1), 252, 13, [some (.inr (.inr 26)), some (.inl (U1 26 8)), none, none], [.inl r2], (am_sh, am_mm U2)) R
  refine ev_br (P := r2 = 0) (σ1 := ((d + 1), 252, 24, [some (.inr (.inr 26)), some (.inl (U1 26 8)), none, none], [], (am_sh, am_mm U2))) (σ2 := ((d + 1), 252, 16, [some (.inr (.inr 26)), some (.inl (U1 26 8)), none, none], [], (am_sh, am_mm U2))) 1 (fun _ => rfl) (fun hc => ?_) (fun hc => ?_)
  · have haa1 := haa.1 hc
    subst haa1
    exact ev_end 2 (fun _ => rfl)
  · have haa2 := haa.2 hc
    refine ev_seg (σ1 := ((d + 1), 252, 18, [some (.inr (.inr 26)), some (.inl (U1 26 8)), none, none], [.inl 2, .inr (.inr 26)], (am_sh, am_mm U2))) 2 (fun _ => rfl) ?_
    obtain ⟨r3, U3, haa2c, haa2a⟩ := haa2
    refine ev_cal (σc := (d, 294, 0, [some (.inr (.inr 26)), some (.inl 2)], [], (am_sh, am_mm U2))) (fun _ => rfl) haa2c ?_
    show Ev (am_kz N X) ((d + 1), 252, 21, [some (.inr (.inr 26)), some (.inl (U1 26 8)), none, none], [.inl r3], (am_sh, am_mm U3)) R
    refine ev_br (P := ¬ r3 = 0) (σ1 := ((d + 1), 252, 26, [some (.inr (.inr 26)), some (.inl (U1 26 8)), none, none], [], (am_sh, am_mm U3))) (σ2 := ((d + 1), 252, 24, [some (.inr (.inr 26)), some (.inl (U1 26 8)), none, none], [], (am_sh, am_mm U3))) 1 (fun _ => rfl) (fun hc => ?_) (fun hc => ?_)
    · have haa2a1 := haa2a.1 hc
      refine ev_seg (σ1 := ((d + 1), 252, 27, [some (.inr (.inr 26)), some (.inl (U1 26 8)), none, none], [.inr (.inr 26)], (am_sh, am_mm U3))) 1 (fun _ => rfl) ?_
      obtain ⟨r4, U4, haa2a1c, haa2a1a⟩ := haa2a1
      refine ev_cal (σc := (d, 295, 0, [some (.inr (.inr 26)), none], [], (am_sh, am_mm U3))) (fun _ => rfl) haa2a1c ?_
      show Ev (am_kz N X) ((d + 1), 252, 30, [some (.inr (.inr 26)), some (.inl (U1 26 8)), none, none], [.inl r4], (am_sh, am_mm U4)) R
      refine ev_br (P := r4 < 0) (σ1 := ((d + 1), 252, 43, [some (.inr (.inr 26)), some (.inl (U1 26 8)), some (.inl r4), none], [], (am_sh, am_mm U4))) (σ2 := ((d + 1), 252, 35, [some (.inr (.inr 26)), some (.inl (U1 26 8)), some (.inl r4), none], [], (am_sh, am_mm U4))) 3 (fun _ => rfl) (fun hc => ?_) (fun hc => ?_)
      · have haa2a1a1 := haa2a1a.1 hc
        subst haa2a1a1
        exact ev_end 2 (fun _ => rfl)
      · have haa2a1a2 := haa2a1a.2 hc
        refine ev_seg (σ1 := ((d + 1), 252, 37, [some (.inr (.inr 26)), some (.inl (U1 26 8)), some (.inl r4), none], [.inl 3, .inr (.inr 26)], (am_sh, am_mm U4))) 2 (fun _ => rfl) ?_
        obtain ⟨r5, U5, haa2a1a2c, haa2a1a2a⟩ := haa2a1a2
        refine ev_cal (σc := (d, 294, 0, [some (.inr (.inr 26)), some (.inl 3)], [], (am_sh, am_mm U4))) (fun _ => rfl) haa2a1a2c ?_
        show Ev (am_kz N X) ((d + 1), 252, 40, [some (.inr (.inr 26)), some (.inl (U1 26 8)), some (.inl r4), none], [.inl r5], (am_sh, am_mm U5)) R
        refine ev_br (P := ¬ r5 = 0) (σ1 := ((d + 1), 252, 45, [some (.inr (.inr 26)), some (.inl (U1 26 8)), some (.inl r4), none], [], (am_sh, am_mm U5))) (σ2 := ((d + 1), 252, 43, [some (.inr (.inr 26)), some (.inl (U1 26 8)), some (.inl r4), none], [], (am_sh, am_mm U5))) 1 (fun _ => rfl) (fun hc => ?_) (fun hc => ?_)
        · have haa2a1a2a1 := haa2a1a2a.1 hc
          refine ev_seg (σ1 := ((d + 1), 252, 49, [some (.inr (.inr 26)), some (.inl (U1 26 8)), some (.inl r4), none], [.inl 6, .inl 1, .inr (.inr 26)], (am_sh, am_mm U5))) 3 (fun _ => rfl) ?_
          obtain ⟨r6, U6, haa2a1a2a1c, haa2a1a2a1a⟩ := haa2a1a2a1
          refine ev_cal (σc := (d, 296, 0, [some (.inr (.inr 26)), some (.inl 1), some (.inl 6), none], [], (am_sh, am_mm U5))) (fun _ => rfl) haa2a1a2a1c ?_
          show Ev (am_kz N X) ((d + 1), 252, 52, [some (.inr (.inr 26)), some (.inl (U1 26 8)), some (.inl r4), none], [.inl r6], (am_sh, am_mm U6)) R
          refine ev_br (P := 0 ≤ r6) (σ1 := ((d + 1), 252, 59, [some (.inr (.inr 26)), some (.inl (U1 26 8)), some (.inl r4), some (.inl r6)], [], (am_sh, am_mm U6))) (σ2 := ((d + 1), 252, 57, [some (.inr (.inr 26)), some (.inl (U1 26 8)), some (.inl r4), some (.inl r6)], [], (am_sh, am_mm U6))) 3 (fun _ => rfl) (fun hc => ?_) (fun hc => ?_)
          · have haa2a1a2a1a1 := haa2a1a2a1a.1 hc
            refine ev_seg (σ1 := ((d + 1), 252, 66, [some (.inr (.inr 26)), some (.inl (U1 26 8)), some (.inl r4), some (.inl r6)], [.inl r6, .inl r4, .inl (U1 26 8), .inr (.inr 31)], (am_sh, am_mm U6))) 5 (fun _ => rfl) ?_
            obtain ⟨U7, haa2a1a2a1a1c, haa2a1a2a1a1a⟩ := haa2a1a2a1a1
            refine ev_cal (σc := (d, 297, 0, [some (.inr (.inr 31)), some (.inl (U1 26 8)), some (.inl r4), some (.inl r6), none, none], [], (am_sh, am_mm U6))) (fun _ => rfl) haa2a1a2a1a1c ?_
            show Ev (am_kz N X) ((d + 1), 252, 69, [some (.inr (.inr 26)), some (.inl (U1 26 8)), some (.inl r4), some (.inl r6)], [], (am_sh, am_mm U7)) R
            subst haa2a1a2a1a1a
            exact ev_end 2 (fun _ => rfl)
          · have haa2a1a2a1a2 := haa2a1a2a1a.2 hc
            subst haa2a1a2a1a2
            exact ev_end 2 (fun _ => rfl)
        · have haa2a1a2a2 := haa2a1a2a.2 hc
          subst haa2a1a2a2
          exact ev_end 2 (fun _ => rfl)
    · have haa2a2 := haa2a.2 hc
      subst haa2a2
      exact ev_end 2 (fun _ => rfl)
set_option maxRecDepth 8000 in
theorem st262_26_0 (N : Nat) (X : Nat → Int) (d : Nat) (U : Nat → Nat → Int) (R : Option am_V × am_M) (h : (((¬ ((am_upd U 26 4 1) 26 7) = 5 : Prop)) → R = (some (.inl 0), (am_sh, am_mm (am_upd (am_upd U 26 4 1) 26 5 ((am_upd U 26 4 1) 26 9))))) ∧ (¬ (¬ ((am_upd U 26 4 1) 26 7) = 5) → R = (some (.inl 0), (am_sh, am_mm (am_upd (am_upd U 26 4 1) 26 5 ((am_upd U 26 4 1) 27 4)))))) : Ev (am_kz N X) (d, 262, 0, [some (.inr (.inr 26))], [], (am_sh, am_mm U)) R := by
  refine ev_seg (σ1 := (d, 262, 2, [some (.inr (.inr 26))], [.inl 1, .inr (.inr 26)], (am_sh, am_mm U))) 2 (fun _ => rfl) ?_
  refine eu_puti 26 (n := 12) rfl (by decide) rfl rfl ?_
  refine ev_br (P := ¬ ((am_upd U 26 4 1) 26 7) = 5) (σ1 := (d, 262, 24, [some (.inr (.inr 26))], [.inr (.inr 26)], (am_sh, am_mm (am_upd U 26 4 1)))) (σ2 := (d, 262, 14, [some (.inr (.inr 26))], [.inr (.inr 26)], (am_sh, am_mm (am_upd U 26 4 1)))) 5 (fun _ => rfl) (fun hc => ?_) (fun hc => ?_)
  · have h1 := h.1 hc
    refine ev_seg (σ1 := (d, 262, 28, [some (.inr (.inr 26))], [.inl ((am_upd U 26 4 1) 26 9), .inr (.inr 26)], (am_sh, am_mm (am_upd U 26 4 1)))) 2 (fun _ => rfl) ?_
    refine eu_puti 26 (n := 12) rfl (by decide) rfl rfl ?_
    subst h1
    exact ev_end 2 (fun _ => rfl)
  · have h2 := h.2 hc
    refine ev_seg (σ1 := (d, 262, 28, [some (.inr (.inr 26))], [.inl ((am_upd U 26 4 1) 27 4), .inr (.inr 26)], (am_sh, am_mm (am_upd U 26 4 1)))) 4 (fun _ => rfl) ?_
    refine eu_puti 26 (n := 12) rfl (by decide) rfl rfl ?_
    subst h2
    exact ev_end 2 (fun _ => rfl)
set_option maxRecDepth 8000 in
theorem st257_31_0 (N : Nat) (X : Nat → Int) (d : Nat) (x1 x2 : Int) (U : Nat → Nat → Int) (R : Option am_V × am_M) (h : (((8 ≤ (U 31 4) : Prop)) → R = (some (.inl 1), (am_sh, am_mm U))) ∧ (¬ (8 ≤ (U 31 4)) → (0 ≤ (U 31 4) ∧ (U 31 4) < 8) ∧ (0 ≤ ((am_upd U 40 (U 31 4).toNat x1) 31 4) ∧ ((am_upd U 40 (U 31 4).toNat x1) 31 4) < 9) ∧ (0 ≤ ((am_upd (am_upd U 40 (U 31 4).toNat x1) 41 ((am_upd U 40 (U 31 4).toNat x1) 31 4).toNat x2) 31 4) ∧ ((am_upd (am_upd U 40 (U 31 4).toNat x1) 41 ((am_upd U 40 (U 31 4).toNat x1) 31 4).toNat x2) 31 4) < 9) ∧ R = (some (.inl 1), (am_sh, am_mm (am_upd (am_upd (am_upd (am_upd U 40 (U 31 4).toNat x1) 41 ((am_upd U 40 (U 31 4).toNat x1) 31 4).toNat x2) 42 ((am_upd (am_upd U 40 (U 31 4).toNat x1) 41 ((am_upd U 40 (U 31 4).toNat x1) 31 4).toNat x2) 31 4).toNat ((am_upd (am_upd U 40 (U 31 4).toNat x1) 41 ((am_upd U 40 (U 31 4).toNat x1) 31 4).toNat x2) 31 18)) 31 4 (w32 (((am_upd (am_upd (am_upd U 40 (U 31 4).toNat x1) 41 ((am_upd U 40 (U 31 4).toNat x1) 31 4).toNat x2) 42 ((am_upd (am_upd U 40 (U 31 4).toNat x1) 41 ((am_upd U 40 (U 31 4).toNat x1) 31 4).toNat x2) 31 4).toNat ((am_upd (am_upd U 40 (U 31 4).toNat x1) 41 ((am_upd U 40 (U 31 4).toNat x1) 31 4).toNat x2) 31 18)) 31 4) + 1))))))) : Ev (am_kz N X) (d, 257, 0, [some (.inr (.inr 31)), some (.inl x1), some (.inl x2)], [], (am_sh, am_mm U)) R := by
  refine ev_br (P := 8 ≤ (U 31 4)) (σ1 := (d, 257, 52, [some (.inr (.inr 31)), some (.inl x1), some (.inl x2)], [], (am_sh, am_mm U))) (σ2 := (d, 257, 9, [some (.inr (.inr 31)), some (.inl x1), some (.inl x2)], [], (am_sh, am_mm U))) 4 (fun _ => rfl) (fun hc => ?_) (fun hc => ?_)
  · have h1 := h.1 hc
    subst h1
    exact ev_end 2 (fun _ => rfl)
  · have h2 := h.2 hc
    refine ev_seg (σ1 := (d, 257, 18, [some (.inr (.inr 31)), some (.inl x1), some (.inl x2)], [.inl x1, .inl (U 31 4), .inr (.inr 40)], (am_sh, am_mm U))) 5 (fun _ => rfl) ?_
    refine eu_iast 40 (n := 8) rfl (by decide) rfl (fun _ => rfl) h2.1 ?_
    have h2a := h2.2
    refine ev_seg (σ1 := (d, 257, 28, [some (.inr (.inr 31)), some (.inl x1), some (.inl x2)], [.inl x2, .inl ((am_upd U 40 (U 31 4).toNat x1) 31 4), .inr (.inr 41)], (am_sh, am_mm (am_upd U 40 (U 31 4).toNat x1)))) 5 (fun _ => rfl) ?_
    refine eu_iast 41 (n := 9) rfl (by decide) rfl (fun _ => rfl) h2a.1 ?_
    have h2aa := h2a.2
    refine ev_seg (σ1 := (d, 257, 41, [some (.inr (.inr 31)), some (.inl x1), some (.inl x2)], [.inl ((am_upd (am_upd U 40 (U 31 4).toNat x1) 41 ((am_upd U 40 (U 31 4).toNat x1) 31 4).toNat x2) 31 18), .inl ((am_upd (am_upd U 40 (U 31 4).toNat x1) 41 ((am_upd U 40 (U 31 4).toNat x1) 31 4).toNat x2) 31 4), .inr (.inr 42)], (am_sh, am_mm (am_upd (am_upd U 40 (U 31 4).toNat x1) 41 ((am_upd U 40 (U 31 4).toNat x1) 31 4).toNat x2)))) 6 (fun _ => rfl) ?_
    refine eu_iast 42 (n := 9) rfl (by decide) rfl (fun _ => rfl) h2aa.1 ?_
    have h2aaa := h2aa.2
    refine ev_seg (σ1 := (d, 257, 49, [some (.inr (.inr 31)), some (.inl x1), some (.inl x2)], [.inl (w32 (((am_upd (am_upd (am_upd U 40 (U 31 4).toNat x1) 41 ((am_upd U 40 (U 31 4).toNat x1) 31 4).toNat x2) 42 ((am_upd (am_upd U 40 (U 31 4).toNat x1) 41 ((am_upd U 40 (U 31 4).toNat x1) 31 4).toNat x2) 31 4).toNat ((am_upd (am_upd U 40 (U 31 4).toNat x1) 41 ((am_upd U 40 (U 31 4).toNat x1) 31 4).toNat x2) 31 18)) 31 4) + 1)), .inr (.inr 31)], (am_sh, am_mm (am_upd (am_upd (am_upd U 40 (U 31 4).toNat x1) 41 ((am_upd U 40 (U 31 4).toNat x1) 31 4).toNat x2) 42 ((am_upd (am_upd U 40 (U 31 4).toNat x1) 41 ((am_upd U 40 (U 31 4).toNat x1) 31 4).toNat x2) 31 4).toNat ((am_upd (am_upd U 40 (U 31 4).toNat x1) 41 ((am_upd U 40 (U 31 4).toNat x1) 31 4).toNat x2) 31 18))))) 5 (fun _ => rfl) ?_
    refine eu_puti 31 (n := 19) rfl (by decide) rfl rfl ?_
    subst h2aaa
    exact ev_end 2 (fun _ => rfl)
set_option maxRecDepth 8000 in
theorem st251_26_0 (N : Nat) (X : Nat → Int) (d : Nat) (U : Nat → Nat → Int) (R : Option am_V × am_M) (h : ∃ U1 : Nat → Nat → Int, Ev (am_kz N X) (d, 177, 0, [some (.inr (.inr 26))], [], (am_sh, am_mm U)) (none, (am_sh, am_mm U1)) ∧ ∃ (r2 : Int) (U2 : Nat → Nat → Int), Ev (am_kz N X) (d, 292, 0, [some (.inr (.inr 26))], [], (am_sh, am_mm U1)) (some (.inl r2), (am_sh, am_mm U2)) ∧ (((¬ r2 = 0 : Prop)) → ∃ U3 : Nat → Nat → Int, Ev (am_kz N X) (d, 293, 0, [some (.inr (.inr 31)), some (.inl (U1 26 8))], [], (am_sh, am_mm U2)) (none, (am_sh, am_mm U3)) ∧ R = (some (.inl 1), (am_sh, am_mm U3))) ∧ (¬ (¬ r2 = 0) → R = (some (.inl 0), (am_sh, am_mm U2)))) : Ev (am_kz N X) ((d + 1), 251, 0, [some (.inr (.inr 26)), none], [], (am_sh, am_mm U)) R := by
  refine ev_seg (σ1 := ((d + 1), 251, 1, [some (.inr (.inr 26)), none], [.inr (.inr 26)], (am_sh, am_mm U))) 1 (fun _ => rfl) ?_
  obtain ⟨U1, hc, ha⟩ := h
  refine ev_cal (σc := (d, 177, 0, [some (.inr (.inr 26))], [], (am_sh, am_mm U))) (fun _ => rfl) hc ?_
  show Ev (am_kz N X) ((d + 1), 251, 4, [some (.inr (.inr 26)), none], [], (am_sh, am_mm U1)) R
  refine ev_seg (σ1 := ((d + 1), 251, 10, [some (.inr (.inr 26)), some (.inl (U1 26 8))], [.inr (.inr 26)], (am_sh, am_mm U1))) 4 (fun _ => rfl) ?_
  obtain ⟨r2, U2, hac, haa⟩ := ha
  refine ev_cal (σc := (d, 292, 0, [some (.inr (.inr 26))], [], (am_sh, am_mm U1))) (fun _ => rfl) hac ?_
  show Ev (am_kz N X) ((d + 1), 251, 13, [some (.inr (.inr 26)), some (.inl (U1 26 8))], [.inl r2], (am_sh, am_mm U2)) R
  refine ev_br (P := ¬ r2 = 0) (σ1 := ((d + 1), 251, 18, [some (.inr (.inr 26)), some (.inl (U1 26 8))], [], (am_sh, am_mm U2))) (σ2 := ((d + 1), 251, 16, [some (.inr (.inr 26)), some (.inl (U1 26 8))], [], (am_sh, am_mm U2))) 1 (fun _ => rfl) (fun hc => ?_) (fun hc => ?_)
  · have haa1 := haa.1 hc
    refine ev_seg (σ1 := ((d + 1), 251, 23, [some (.inr (.inr 26)), some (.inl (U1 26 8))], [.inl (U1 26 8), .inr (.inr 31)], (am_sh, am_mm U2))) 3 (fun _ => rfl) ?_
    obtain ⟨U3, haa1c, haa1a⟩ := haa1
    refine ev_cal (σc := (d, 293, 0, [some (.inr (.inr 31)), some (.inl (U1 26 8))], [], (am_sh, am_mm U2))) (fun _ => rfl) haa1c ?_
    show Ev (am_kz N X) ((d + 1), 251, 26, [some (.inr (.inr 26)), some (.inl (U1 26 8))], [], (am_sh, am_mm U3)) R
    subst haa1a
    exact ev_end 2 (fun _ => rfl)
  · have haa2 := haa.2 hc
    subst haa2
    exact ev_end 2 (fun _ => rfl)
set_option maxRecDepth 8000 in
theorem st249_26_0 (N : Nat) (X : Nat → Int) (d : Nat) (x1 x2 : Int) (U : Nat → Nat → Int) (R : Option am_V × am_M) (h : R = (some (.inl 0), (am_sh, am_mm (am_upd (am_upd U 26 4 x1) 26 5 x2)))) : Ev (am_kz N X) (d, 249, 0, [some (.inr (.inr 26)), some (.inl x1), some (.inl x2)], [], (am_sh, am_mm U)) R := by
  refine ev_seg (σ1 := (d, 249, 2, [some (.inr (.inr 26)), some (.inl x1), some (.inl x2)], [.inl x1, .inr (.inr 26)], (am_sh, am_mm U))) 2 (fun _ => rfl) ?_
  refine eu_puti 26 (n := 12) rfl (by decide) rfl rfl ?_
  refine ev_seg (σ1 := (d, 249, 7, [some (.inr (.inr 26)), some (.inl x1), some (.inl x2)], [.inl x2, .inr (.inr 26)], (am_sh, am_mm (am_upd U 26 4 x1)))) 2 (fun _ => rfl) ?_
  refine eu_puti 26 (n := 12) rfl (by decide) rfl rfl ?_
  subst h
  exact ev_end 2 (fun _ => rfl)
set_option maxRecDepth 8000 in
theorem st254_26_0 (N : Nat) (X : Nat → Int) (d : Nat) (U : Nat → Nat → Int) (R : Option am_V × am_M) (h : ∃ U1 : Nat → Nat → Int, Ev (am_kz N X) (d, 177, 0, [some (.inr (.inr 26))], [], (am_sh, am_mm U)) (none, (am_sh, am_mm U1)) ∧ ∃ (r2 : Int) (U2 : Nat → Nat → Int), Ev (am_kz N X) (d, 300, 0, [some (.inr (.inr 26)), some (.inl 45)], [], (am_sh, am_mm U1)) (some (.inl r2), (am_sh, am_mm U2)) ∧ (((r2 = 0 : Prop)) → ((((U2 26 7) = 3 : Prop)) → (((r2 = 0 : Prop)) → ((((U2 26 8) = 0 : Prop)) → ∃ (r3 : Int) (U3 : Nat → Nat → Int), Ev (am_kz N X) (d, 249, 0, [some (.inr (.inr 26)), some (.inl 4), some (.inl (U1 26 9))], [], (am_sh, am_mm U2)) (some (.inl r3), (am_sh, am_mm U3)) ∧ (r3 = 0 ∨ r3 = 1) ∧ R = (some (.inl r3), (am_sh, am_mm U3))) ∧ (¬ ((U2 26 8) = 0) → ∃ (r4 : Int) (U4 : Nat → Nat → Int), Ev (am_kz N X) (d, 280, 0, [some (.inr (.inr 21)), some (.inl (U2 26 8)), none], [], (am_sh, am_mm U2)) (some (.inl r4), (am_sh, am_mm U4)) ∧ (((r4 < 0 : Prop)) → ∃ U5 : Nat → Nat → Int, Ev (am_kz N X) (d, 177, 0, [some (.inr (.inr 26))], [], (am_sh, am_mm U4)) (none, (am_sh, am_mm U5)) ∧ ∃ (r6 : Int) (U6 : Nat → Nat → Int), Ev (am_kz N X) (d, 301, 0, [some (.inr (.inr 26)), some (.inl 6)], [], (am_sh, am_mm U5)) (some (.inl r6), (am_sh, am_mm U6)) ∧ (((r6 = 0 : Prop)) → ∃ U7 : Nat → Nat → Int, Ev (am_kz N X) (d, 180, 0, [some (.inr (.inr 21)), some (.inl (U2 26 8)), some (.inl (-1))], [], (am_sh, am_mm U6)) (none, (am_sh, am_mm U7)) ∧ R = (some (.inl 1), (am_sh, am_mm U7))) ∧ (¬ (r6 = 0) → ∃ U8 : Nat → Nat → Int, Ev (am_kz N X) (d, 177, 0, [some (.inr (.inr 26))], [], (am_sh, am_mm U6)) (none, (am_sh, am_mm U8)) ∧ ∃ (r9 : Int) (U9 : Nat → Nat → Int), Ev (am_kz N X) (d, 302, 0, [some (.inr (.inr 26)), none, none], [], (am_sh, am_mm U8)) (some (.inl r9), (am_sh, am_mm U9)) ∧ ∃ (r10 : Int) (U10 : Nat → Nat → Int), Ev (am_kz N X) (d, 298, 0, [some (.inr (.inr 26)), some (.inl r9), none], [], (am_sh, am_mm U9)) (some (.inl r10), (am_sh, am_mm U10)) ∧ (((0 ≤ r10 : Prop)) → ∃ U11 : Nat → Nat → Int, Ev (am_kz N X) (d, 180, 0, [some (.inr (.inr 21)), some (.inl (U2 26 8)), some (.inl r10)], [], (am_sh, am_mm U10)) (none, (am_sh, am_mm U11)) ∧ R = (some (.inl 1), (am_sh, am_mm U11))) ∧ (¬ (0 ≤ r10) → R = (some (.inl 0), (am_sh, am_mm U10))))) ∧ (¬ (r4 < 0) → ∃ (r12 : Int) (U12 : Nat → Nat → Int), Ev (am_kz N X) (d, 249, 0, [some (.inr (.inr 26)), some (.inl 4), some (.inl (U1 26 9))], [], (am_sh, am_mm U4)) (some (.inl r12), (am_sh, am_mm U12)) ∧ (r12 = 0 ∨ r12 = 1) ∧ R = (some (.inl r12), (am_sh, am_mm U12))))) ∧ (¬ (r2 = 0) → ((((w32 (-(U2 26 8))) = 0 : Prop)) → ∃ (r13 : Int) (U13 : Nat → Nat → Int), Ev (am_kz N X) (d, 249, 0, [some (.inr (.inr 26)), some (.inl 4), some (.inl (U1 26 9))], [], (am_sh, am_mm U2)) (some (.inl r13), (am_sh, am_mm U13)) ∧ (r13 = 0 ∨ r13 = 1) ∧ R = (some (.inl r13), (am_sh, am_mm U13))) ∧ (¬ ((w32 (-(U2 26 8))) = 0) → ∃ (r14 : Int) (U14 : Nat → Nat → Int), Ev (am_kz N X) (d, 280, 0, [some (.inr (.inr 21)), some (.inl (w32 (-(U2 26 8)))), none], [], (am_sh, am_mm U2)) (some (.inl r14), (am_sh, am_mm U14)) ∧ (((r14 < 0 : Prop)) → ∃ U15 : Nat → Nat → Int, Ev (am_kz N X) (d, 177, 0, [some (.inr (.inr 26))], [], (am_sh, am_mm U14)) (none, (am_sh, am_mm U15)) ∧ ∃ (r16 : Int) (U16 : Nat → Nat → Int), Ev (am_kz N X) (d, 301, 0, [some (.inr (.inr 26)), some (.inl 6)], [], (am_sh, am_mm U15)) (some (.inl r16), (am_sh, am_mm U16)) ∧ (((r16 = 0 : Prop)) → ∃ U17 : Nat → Nat → Int, Ev (am_kz N X) (d, 180, 0, [some (.inr (.inr 21)), some (.inl (w32 (-(U2 26 8)))), some (.inl (-1))], [], (am_sh, am_mm U16)) (none, (am_sh, am_mm U17)) ∧ R = (some (.inl 1), (am_sh, am_mm U17))) ∧ (¬ (r16 = 0) → ∃ U18 : Nat → Nat → Int, Ev (am_kz N X) (d, 177, 0, [some (.inr (.inr 26))], [], (am_sh, am_mm U16)) (none, (am_sh, am_mm U18)) ∧ ∃ (r19 : Int) (U19 : Nat → Nat → Int), Ev (am_kz N X) (d, 302, 0, [some (.inr (.inr 26)), none, none], [], (am_sh, am_mm U18)) (some (.inl r19), (am_sh, am_mm U19)) ∧ ∃ (r20 : Int) (U20 : Nat → Nat → Int), Ev (am_kz N X) (d, 298, 0, [some (.inr (.inr 26)), some (.inl r19), none], [], (am_sh, am_mm U19)) (some (.inl r20), (am_sh, am_mm U20)) ∧ (((0 ≤ r20 : Prop)) → ∃ U21 : Nat → Nat → Int, Ev (am_kz N X) (d, 180, 0, [some (.inr (.inr 21)), some (.inl (w32 (-(U2 26 8)))), some (.inl r20)], [], (am_sh, am_mm U20)) (none, (am_sh, am_mm U21)) ∧ R = (some (.inl 1), (am_sh, am_mm U21))) ∧ (¬ (0 ≤ r20) → R = (some (.inl 0), (am_sh, am_mm U20))))) ∧ (¬ (r14 < 0) → ∃ (r22 : Int) (U22 : Nat → Nat → Int), Ev (am_kz N X) (d, 249, 0, [some (.inr (.inr 26)), some (.inl 4), some (.inl (U1 26 9))], [], (am_sh, am_mm U14)) (some (.inl r22), (am_sh, am_mm U22)) ∧ (r22 = 0 ∨ r22 = 1) ∧ R = (some (.inl r22), (am_sh, am_mm U22)))))) ∧ (¬ ((U2 26 7) = 3) → ∃ (r23 : Int) (U23 : Nat → Nat → Int), Ev (am_kz N X) (d, 262, 0, [some (.inr (.inr 26))], [], (am_sh, am_mm U2)) (some (.inl r23), (am_sh, am_mm U23)) ∧ (r23 = 0 ∨ r23 = 1) ∧ R = (some (.inl r23), (am_sh, am_mm U23)))) ∧ (¬ (r2 = 0) → ∃ U24 : Nat → Nat → Int, Ev (am_kz N X) (d, 177, 0, [some (.inr (.inr 26))], [], (am_sh, am_mm U2)) (none, (am_sh, am_mm U24)) ∧ ((((U24 26 7) = 3 : Prop)) → (((r2 = 0 : Prop)) → ((((U24 26 8) = 0 : Prop)) → ∃ (r25 : Int) (U25 : Nat → Nat → Int), Ev (am_kz N X) (d, 249, 0, [some (.inr (.inr 26)), some (.inl 4), some (.inl (U1 26 9))], [], (am_sh, am_mm U24)) (some (.inl r25), (am_sh, am_mm U25)) ∧ (r25 = 0 ∨ r25 = 1) ∧ R = (some (.inl r25), (am_sh, am_mm U25))) ∧ (¬ ((U24 26 8) = 0) → ∃ (r26 : Int) (U26 : Nat → Nat → Int), Ev (am_kz N X) (d, 280, 0, [some (.inr (.inr 21)), some (.inl (U24 26 8)), none], [], (am_sh, am_mm U24)) (some (.inl r26), (am_sh, am_mm U26)) ∧ (((r26 < 0 : Prop)) → ∃ U27 : Nat → Nat → Int, Ev (am_kz N X) (d, 177, 0, [some (.inr (.inr 26))], [], (am_sh, am_mm U26)) (none, (am_sh, am_mm U27)) ∧ ∃ (r28 : Int) (U28 : Nat → Nat → Int), Ev (am_kz N X) (d, 301, 0, [some (.inr (.inr 26)), some (.inl 6)], [], (am_sh, am_mm U27)) (some (.inl r28), (am_sh, am_mm U28)) ∧ (((r28 = 0 : Prop)) → ∃ U29 : Nat → Nat → Int, Ev (am_kz N X) (d, 180, 0, [some (.inr (.inr 21)), some (.inl (U24 26 8)), some (.inl (-1))], [], (am_sh, am_mm U28)) (none, (am_sh, am_mm U29)) ∧ R = (some (.inl 1), (am_sh, am_mm U29))) ∧ (¬ (r28 = 0) → ∃ U30 : Nat → Nat → Int, Ev (am_kz N X) (d, 177, 0, [some (.inr (.inr 26))], [], (am_sh, am_mm U28)) (none, (am_sh, am_mm U30)) ∧ ∃ (r31 : Int) (U31 : Nat → Nat → Int), Ev (am_kz N X) (d, 302, 0, [some (.inr (.inr 26)), none, none], [], (am_sh, am_mm U30)) (some (.inl r31), (am_sh, am_mm U31)) ∧ ∃ (r32 : Int) (U32 : Nat → Nat → Int), Ev (am_kz N X) (d, 298, 0, [some (.inr (.inr 26)), some (.inl r31), none], [], (am_sh, am_mm U31)) (some (.inl r32), (am_sh, am_mm U32)) ∧ (((0 ≤ r32 : Prop)) → ∃ U33 : Nat → Nat → Int, Ev (am_kz N X) (d, 180, 0, [some (.inr (.inr 21)), some (.inl (U24 26 8)), some (.inl r32)], [], (am_sh, am_mm U32)) (none, (am_sh, am_mm U33)) ∧ R = (some (.inl 1), (am_sh, am_mm U33))) ∧ (¬ (0 ≤ r32) → R = (some (.inl 0), (am_sh, am_mm U32))))) ∧ (¬ (r26 < 0) → ∃ (r34 : Int) (U34 : Nat → Nat → Int), Ev (am_kz N X) (d, 249, 0, [some (.inr (.inr 26)), some (.inl 4), some (.inl (U1 26 9))], [], (am_sh, am_mm U26)) (some (.inl r34), (am_sh, am_mm U34)) ∧ (r34 = 0 ∨ r34 = 1) ∧ R = (some (.inl r34), (am_sh, am_mm U34))))) ∧ (¬ (r2 = 0) → ((((w32 (-(U24 26 8))) = 0 : Prop)) → ∃ (r35 : Int) (U35 : Nat → Nat → Int), Ev (am_kz N X) (d, 249, 0, [some (.inr (.inr 26)), some (.inl 4), some (.inl (U1 26 9))], [], (am_sh, am_mm U24)) (some (.inl r35), (am_sh, am_mm U35)) ∧ (r35 = 0 ∨ r35 = 1) ∧ R = (some (.inl r35), (am_sh, am_mm U35))) ∧ (¬ ((w32 (-(U24 26 8))) = 0) → ∃ (r36 : Int) (U36 : Nat → Nat → Int), Ev (am_kz N X) (d, 280, 0, [some (.inr (.inr 21)), some (.inl (w32 (-(U24 26 8)))), none], [], (am_sh, am_mm U24)) (some (.inl r36), (am_sh, am_mm U36)) ∧ (((r36 < 0 : Prop)) → ∃ U37 : Nat → Nat → Int, Ev (am_kz N X) (d, 177, 0, [some (.inr (.inr 26))], [], (am_sh, am_mm U36)) (none, (am_sh, am_mm U37)) ∧ ∃ (r38 : Int) (U38 : Nat → Nat → Int), Ev (am_kz N X) (d, 301, 0, [some (.inr (.inr 26)), some (.inl 6)], [], (am_sh, am_mm U37)) (some (.inl r38), (am_sh, am_mm U38)) ∧ (((r38 = 0 : Prop)) → ∃ U39 : Nat → Nat → Int, Ev (am_kz N X) (d, 180, 0, [some (.inr (.inr 21)), some (.inl (w32 (-(U24 26 8)))), some (.inl (-1))], [], (am_sh, am_mm U38)) (none, (am_sh, am_mm U39)) ∧ R = (some (.inl 1), (am_sh, am_mm U39))) ∧ (¬ (r38 = 0) → ∃ U40 : Nat → Nat → Int, Ev (am_kz N X) (d, 177, 0, [some (.inr (.inr 26))], [], (am_sh, am_mm U38)) (none, (am_sh, am_mm U40)) ∧ ∃ (r41 : Int) (U41 : Nat → Nat → Int), Ev (am_kz N X) (d, 302, 0, [some (.inr (.inr 26)), none, none], [], (am_sh, am_mm U40)) (some (.inl r41), (am_sh, am_mm U41)) ∧ ∃ (r42 : Int) (U42 : Nat → Nat → Int), Ev (am_kz N X) (d, 298, 0, [some (.inr (.inr 26)), some (.inl r41), none], [], (am_sh, am_mm U41)) (some (.inl r42), (am_sh, am_mm U42)) ∧ (((0 ≤ r42 : Prop)) → ∃ U43 : Nat → Nat → Int, Ev (am_kz N X) (d, 180, 0, [some (.inr (.inr 21)), some (.inl (w32 (-(U24 26 8)))), some (.inl r42)], [], (am_sh, am_mm U42)) (none, (am_sh, am_mm U43)) ∧ R = (some (.inl 1), (am_sh, am_mm U43))) ∧ (¬ (0 ≤ r42) → R = (some (.inl 0), (am_sh, am_mm U42))))) ∧ (¬ (r36 < 0) → ∃ (r44 : Int) (U44 : Nat → Nat → Int), Ev (am_kz N X) (d, 249, 0, [some (.inr (.inr 26)), some (.inl 4), some (.inl (U1 26 9))], [], (am_sh, am_mm U36)) (some (.inl r44), (am_sh, am_mm U44)) ∧ (r44 = 0 ∨ r44 = 1) ∧ R = (some (.inl r44), (am_sh, am_mm U44)))))) ∧ (¬ ((U24 26 7) = 3) → ∃ (r45 : Int) (U45 : Nat → Nat → Int), Ev (am_kz N X) (d, 262, 0, [some (.inr (.inr 26))], [], (am_sh, am_mm U24)) (some (.inl r45), (am_sh, am_mm U45)) ∧ (r45 = 0 ∨ r45 = 1) ∧ R = (some (.inl r45), (am_sh, am_mm U45))))) : Ev (am_kz N X) ((d + 1), 254, 0, [some (.inr (.inr 26)), none, none, none, none], [], (am_sh, am_mm U)) R := by
  refine ev_seg (σ1 := ((d + 1), 254, 1, [some (.inr (.inr 26)), none, none, none, none], [.inr (.inr 26)], (am_sh, am_mm U))) 1 (fun _ => rfl) ?_
  obtain ⟨U1, hc, ha⟩ := h
  refine ev_cal (σc := (d, 177, 0, [some (.inr (.inr 26))], [], (am_sh, am_mm U))) (fun _ => rfl) hc ?_
  show Ev (am_kz N X) ((d + 1), 254, 4, [some (.inr (.inr 26)), none, none, none, none], [], (am_sh, am_mm U1)) R
  refine ev_seg (σ1 := ((d + 1), 254, 12, [some (.inr (.inr 26)), some (.inl (U1 26 9)), none, none, none], [.inl 45, .inr (.inr 26)], (am_sh, am_mm U1))) 5 (fun _ => rfl) ?_
  obtain ⟨r2, U2, hac, haa⟩ := ha
  refine ev_cal (σc := (d, 300, 0, [some (.inr (.inr 26)), some (.inl 45)], [], (am_sh, am_mm U1))) (fun _ => rfl) hac ?_
  show Ev (am_kz N X) ((d + 1), 254, 15, [some (.inr (.inr 26)), some (.inl (U1 26 9)), none, none, none], [.inl r2], (am_sh, am_mm U2)) R
  refine ev_br (P := r2 = 0) (σ1 := ((d + 1), 254, 24, [some (.inr (.inr 26)), some (.inl (U1 26 9)), some (.inl r2), none, none], [], (am_sh, am_mm U2))) (σ2 := ((d + 1), 254, 20, [some (.inr (.inr 26)), some (.inl (U1 26 9)), some (.inl r2), none, none], [], (am_sh, am_mm U2))) 3 (fun _ => rfl) (fun hc => ?_) (fun hc => ?_)
  · have haa1 := haa.1 hc
    refine ev_br (P := (U2 26 7) = 3) (σ1 := ((d + 1), 254, 37, [some (.inr (.inr 26)), some (.inl (U1 26 9)), some (.inl r2), none, none], [], (am_sh, am_mm U2))) (σ2 := ((d + 1), 254, 32, [some (.inr (.inr 26)), some (.inl (U1 26 9)), some (.inl r2), none, none], [], (am_sh, am_mm U2))) 4 (fun _ => rfl) (fun hc => ?_) (fun hc => ?_)
    · have haa11 := haa1.1 hc
      refine ev_br (P := r2 = 0) (σ1 := ((d + 1), 254, 49, [some (.inr (.inr 26)), some (.inl (U1 26 9)), some (.inl r2), none, none], [], (am_sh, am_mm U2))) (σ2 := ((d + 1), 254, 41, [some (.inr (.inr 26)), some (.inl (U1 26 9)), some (.inl r2), none, none], [], (am_sh, am_mm U2))) 2 (fun _ => rfl) (fun hc => ?_) (fun hc => ?_)
      · have haa111 := haa11.1 hc
        refine ev_br (P := (U2 26 8) = 0) (σ1 := ((d + 1), 254, 69, [some (.inr (.inr 26)), some (.inl (U1 26 9)), some (.inl r2), some (.inl (U2 26 8)), none], [], (am_sh, am_mm U2))) (σ2 := ((d + 1), 254, 58, [some (.inr (.inr 26)), some (.inl (U1 26 9)), some (.inl r2), some (.inl (U2 26 8)), none], [], (am_sh, am_mm U2))) 5 (fun _ => rfl) (fun hc => ?_) (fun hc => ?_)
        · have haa1111 := haa111.1 hc
          refine ev_seg (σ1 := ((d + 1), 254, 72, [some (.inr (.inr 26)), some (.inl (U1 26 9)), some (.inl r2), some (.inl (U2 26 8)), none], [.inl (U1 26 9), .inl 4, .inr (.inr 26)], (am_sh, am_mm U2))) 3 (fun _ => rfl) ?_
          obtain ⟨r3, U3, haa1111c, haa1111a⟩ := haa1111
          refine ev_cal (σc := (d, 249, 0, [some (.inr (.inr 26)), some (.inl 4), some (.inl (U1 26 9))], [], (am_sh, am_mm U2))) (fun _ => rfl) haa1111c ?_
          show Ev (am_kz N X) ((d + 1), 254, 75, [some (.inr (.inr 26)), some (.inl (U1 26 9)), some (.inl r2), some (.inl (U2 26 8)), none], [.inl r3], (am_sh, am_mm U3)) R
          rw [haa1111a.2]
          exact ev_retz rfl rfl haa1111a.1
        · have haa1112 := haa111.2 hc
          refine ev_seg (σ1 := ((d + 1), 254, 63, [some (.inr (.inr 26)), some (.inl (U1 26 9)), some (.inl r2), some (.inl (U2 26 8)), none], [.inl (U2 26 8), .inr (.inr 21)], (am_sh, am_mm U2))) 3 (fun _ => rfl) ?_
          obtain ⟨r4, U4, haa1112c, haa1112a⟩ := haa1112
          refine ev_cal (σc := (d, 280, 0, [some (.inr (.inr 21)), some (.inl (U2 26 8)), none], [], (am_sh, am_mm U2))) (fun _ => rfl) haa1112c ?_
          show Ev (am_kz N X) ((d + 1), 254, 66, [some (.inr (.inr 26)), some (.inl (U1 26 9)), some (.inl r2), some (.inl (U2 26 8)), none], [.inl r4], (am_sh, am_mm U4)) R
          refine ev_br (P := r4 < 0) (σ1 := ((d + 1), 254, 76, [some (.inr (.inr 26)), some (.inl (U1 26 9)), some (.inl r2), some (.inl (U2 26 8)), none], [], (am_sh, am_mm U4))) (σ2 := ((d + 1), 254, 69, [some (.inr (.inr 26)), some (.inl (U1 26 9)), some (.inl r2), some (.inl (U2 26 8)), none], [], (am_sh, am_mm U4))) 1 (fun _ => rfl) (fun hc => ?_) (fun hc => ?_)
          · have haa1112a1 := haa1112a.1 hc
            refine ev_seg (σ1 := ((d + 1), 254, 77, [some (.inr (.inr 26)), some (.inl (U1 26 9)), some (.inl r2), some (.inl (U2 26 8)), none], [.inr (.inr 26)], (am_sh, am_mm U4))) 1 (fun _ => rfl) ?_
            obtain ⟨U5, haa1112a1c, haa1112a1a⟩ := haa1112a1
            refine ev_cal (σc := (d, 177, 0, [some (.inr (.inr 26))], [], (am_sh, am_mm U4))) (fun _ => rfl) haa1112a1c ?_
            show Ev (am_kz N X) ((d + 1), 254, 80, [some (.inr (.inr 26)), some (.inl (U1 26 9)), some (.inl r2), some (.inl (U2 26 8)), none], [], (am_sh, am_mm U5)) R
            refine ev_seg (σ1 := ((d + 1), 254, 86, [some (.inr (.inr 26)), some (.inl (U1 26 9)), some (.inl r2), some (.inl (U2 26 8)), some (.inl (-1))], [.inl 6, .inr (.inr 26)], (am_sh, am_mm U5))) 4 (fun _ => rfl) ?_
            obtain ⟨r6, U6, haa1112a1ac, haa1112a1aa⟩ := haa1112a1a
            refine ev_cal (σc := (d, 301, 0, [some (.inr (.inr 26)), some (.inl 6)], [], (am_sh, am_mm U5))) (fun _ => rfl) haa1112a1ac ?_
            show Ev (am_kz N X) ((d + 1), 254, 89, [some (.inr (.inr 26)), some (.inl (U1 26 9)), some (.inl r2), some (.inl (U2 26 8)), some (.inl (-1))], [.inl r6], (am_sh, am_mm U6)) R
            refine ev_br (P := r6 = 0) (σ1 := ((d + 1), 254, 113, [some (.inr (.inr 26)), some (.inl (U1 26 9)), some (.inl r2), some (.inl (U2 26 8)), some (.inl (-1))], [], (am_sh, am_mm U6))) (σ2 := ((d + 1), 254, 92, [some (.inr (.inr 26)), some (.inl (U1 26 9)), some (.inl r2), some (.inl (U2 26 8)), some (.inl (-1))], [], (am_sh, am_mm U6))) 1 (fun _ => rfl) (fun hc => ?_) (fun hc => ?_)
            · have haa1112a1aa1 := haa1112a1aa.1 hc
              refine ev_seg (σ1 := ((d + 1), 254, 120, [some (.inr (.inr 26)), some (.inl (U1 26 9)), some (.inl r2), some (.inl (U2 26 8)), some (.inl (-1))], [.inl (-1), .inl (U2 26 8), .inr (.inr 21)], (am_sh, am_mm U6))) 4 (fun _ => rfl) ?_
              obtain ⟨U7, haa1112a1aa1c, haa1112a1aa1a⟩ := haa1112a1aa1
              refine ev_cal (σc := (d, 180, 0, [some (.inr (.inr 21)), some (.inl (U2 26 8)), some (.inl (-1))], [], (am_sh, am_mm U6))) (fun _ => rfl) haa1112a1aa1c ?_
              show Ev (am_kz N X) ((d + 1), 254, 123, [some (.inr (.inr 26)), some (.inl (U1 26 9)), some (.inl r2), some (.inl (U2 26 8)), some (.inl (-1))], [], (am_sh, am_mm U7)) R
              subst haa1112a1aa1a
              exact ev_end 2 (fun _ => rfl)
            · have haa1112a1aa2 := haa1112a1aa.2 hc
              refine ev_seg (σ1 := ((d + 1), 254, 93, [some (.inr (.inr 26)), some (.inl (U1 26 9)), some (.inl r2), some (.inl (U2 26 8)), some (.inl (-1))], [.inr (.inr 26)], (am_sh, am_mm U6))) 1 (fun _ => rfl) ?_
              obtain ⟨U8, haa1112a1aa2c, haa1112a1aa2a⟩ := haa1112a1aa2
              refine ev_cal (σc := (d, 177, 0, [some (.inr (.inr 26))], [], (am_sh, am_mm U6))) (fun _ => rfl) haa1112a1aa2c ?_
              show Ev (am_kz N X) ((d + 1), 254, 96, [some (.inr (.inr 26)), some (.inl (U1 26 9)), some (.inl r2), some (.inl (U2 26 8)), some (.inl (-1))], [], (am_sh, am_mm U8)) R
              refine ev_seg (σ1 := ((d + 1), 254, 98, [some (.inr (.inr 26)), some (.inl (U1 26 9)), some (.inl r2), some (.inl (U2 26 8)), some (.inl (-1))], [.inr (.inr 26), .inr (.inr 26)], (am_sh, am_mm U8))) 2 (fun _ => rfl) ?_
              obtain ⟨r9, U9, haa1112a1aa2ac, haa1112a1aa2aa⟩ := haa1112a1aa2a
              refine ev_cal (σc := (d, 302, 0, [some (.inr (.inr 26)), none, none], [], (am_sh, am_mm U8))) (fun _ => rfl) haa1112a1aa2ac ?_
              show Ev (am_kz N X) ((d + 1), 254, 101, [some (.inr (.inr 26)), some (.inl (U1 26 9)), some (.inl r2), some (.inl (U2 26 8)), some (.inl (-1))], [.inl r9, .inr (.inr 26)], (am_sh, am_mm U9)) R
              obtain ⟨r10, U10, haa1112a1aa2aac, haa1112a1aa2aaa⟩ := haa1112a1aa2aa
              refine ev_cal (σc := (d, 298, 0, [some (.inr (.inr 26)), some (.inl r9), none], [], (am_sh, am_mm U9))) (fun _ => rfl) haa1112a1aa2aac ?_
              show Ev (am_kz N X) ((d + 1), 254, 104, [some (.inr (.inr 26)), some (.inl (U1 26 9)), some (.inl r2), some (.inl (U2 26 8)), some (.inl (-1))], [.inl r10], (am_sh, am_mm U10)) R
              refine ev_br (P := 0 ≤ r10) (σ1 := ((d + 1), 254, 113, [some (.inr (.inr 26)), some (.inl (U1 26 9)), some (.inl r2), some (.inl (U2 26 8)), some (.inl r10)], [], (am_sh, am_mm U10))) (σ2 := ((d + 1), 254, 111, [some (.inr (.inr 26)), some (.inl (U1 26 9)), some (.inl r2), some (.inl (U2 26 8)), some (.inl r10)], [], (am_sh, am_mm U10))) 3 (fun _ => rfl) (fun hc => ?_) (fun hc => ?_)
              · have haa1112a1aa2aaa1 := haa1112a1aa2aaa.1 hc
                refine ev_seg (σ1 := ((d + 1), 254, 120, [some (.inr (.inr 26)), some (.inl (U1 26 9)), some (.inl r2), some (.inl (U2 26 8)), some (.inl r10)], [.inl r10, .inl (U2 26 8), .inr (.inr 21)], (am_sh, am_mm U10))) 4 (fun _ => rfl) ?_
                obtain ⟨U11, haa1112a1aa2aaa1c, haa1112a1aa2aaa1a⟩ := haa1112a1aa2aaa1
                refine ev_cal (σc := (d, 180, 0, [some (.inr (.inr 21)), some (.inl (U2 26 8)), some (.inl r10)], [], (am_sh, am_mm U10))) (fun _ => rfl) haa1112a1aa2aaa1c ?_
                show Ev (am_kz N X) ((d + 1), 254, 123, [some (.inr (.inr 26)), some (.inl (U1 26 9)), some (.inl r2), some (.inl (U2 26 8)), some (.inl r10)], [], (am_sh, am_mm U11)) R
                subst haa1112a1aa2aaa1a
                exact ev_end 2 (fun _ => rfl)
              · have haa1112a1aa2aaa2 := haa1112a1aa2aaa.2 hc
                subst haa1112a1aa2aaa2
                exact ev_end 2 (fun _ => rfl)
          · have haa1112a2 := haa1112a.2 hc
            refine ev_seg (σ1 := ((d + 1), 254, 72, [some (.inr (.inr 26)), some (.inl (U1 26 9)), some (.inl r2), some (.inl (U2 26 8)), none], [.inl (U1 26 9), .inl 4, .inr (.inr 26)], (am_sh, am_mm U4))) 3 (fun _ => rfl) ?_
            obtain ⟨r12, U12, haa1112a2c, haa1112a2a⟩ := haa1112a2
            refine ev_cal (σc := (d, 249, 0, [some (.inr (.inr 26)), some (.inl 4), some (.inl (U1 26 9))], [], (am_sh, am_mm U4))) (fun _ => rfl) haa1112a2c ?_
            show Ev (am_kz N X) ((d + 1), 254, 75, [some (.inr (.inr 26)), some (.inl (U1 26 9)), some (.inl r2), some (.inl (U2 26 8)), none], [.inl r12], (am_sh, am_mm U12)) R
            rw [haa1112a2a.2]
            exact ev_retz rfl rfl haa1112a2a.1
      · have haa112 := haa11.2 hc
        refine ev_br (P := (w32 (-(U2 26 8))) = 0) (σ1 := ((d + 1), 254, 69, [some (.inr (.inr 26)), some (.inl (U1 26 9)), some (.inl r2), some (.inl (w32 (-(U2 26 8)))), none], [], (am_sh, am_mm U2))) (σ2 := ((d + 1), 254, 58, [some (.inr (.inr 26)), some (.inl (U1 26 9)), some (.inl r2), some (.inl (w32 (-(U2 26 8)))), none], [], (am_sh, am_mm U2))) 7 (fun _ => rfl) (fun hc => ?_) (fun hc => ?_)
        · have haa1121 := haa112.1 hc
          refine ev_seg (σ1 := ((d + 1), 254, 72, [some (.inr (.inr 26)), some (.inl (U1 26 9)), some (.inl r2), some (.inl (w32 (-(U2 26 8)))), none], [.inl (U1 26 9), .inl 4, .inr (.inr 26)], (am_sh, am_mm U2))) 3 (fun _ => rfl) ?_
          obtain ⟨r13, U13, haa1121c, haa1121a⟩ := haa1121
          refine ev_cal (σc := (d, 249, 0, [some (.inr (.inr 26)), some (.inl 4), some (.inl (U1 26 9))], [], (am_sh, am_mm U2))) (fun _ => rfl) haa1121c ?_
          show Ev (am_kz N X) ((d + 1), 254, 75, [some (.inr (.inr 26)), some (.inl (U1 26 9)), some (.inl r2), some (.inl (w32 (-(U2 26 8)))), none], [.inl r13], (am_sh, am_mm U13)) R
          rw [haa1121a.2]
          exact ev_retz rfl rfl haa1121a.1
        · have haa1122 := haa112.2 hc
          refine ev_seg (σ1 := ((d + 1), 254, 63, [some (.inr (.inr 26)), some (.inl (U1 26 9)), some (.inl r2), some (.inl (w32 (-(U2 26 8)))), none], [.inl (w32 (-(U2 26 8))), .inr (.inr 21)], (am_sh, am_mm U2))) 3 (fun _ => rfl) ?_
          obtain ⟨r14, U14, haa1122c, haa1122a⟩ := haa1122
          refine ev_cal (σc := (d, 280, 0, [some (.inr (.inr 21)), some (.inl (w32 (-(U2 26 8)))), none], [], (am_sh, am_mm U2))) (fun _ => rfl) haa1122c ?_
          show Ev (am_kz N X) ((d + 1), 254, 66, [some (.inr (.inr 26)), some (.inl (U1 26 9)), some (.inl r2), some (.inl (w32 (-(U2 26 8)))), none], [.inl r14], (am_sh, am_mm U14)) R
          refine ev_br (P := r14 < 0) (σ1 := ((d + 1), 254, 76, [some (.inr (.inr 26)), some (.inl (U1 26 9)), some (.inl r2), some (.inl (w32 (-(U2 26 8)))), none], [], (am_sh, am_mm U14))) (σ2 := ((d + 1), 254, 69, [some (.inr (.inr 26)), some (.inl (U1 26 9)), some (.inl r2), some (.inl (w32 (-(U2 26 8)))), none], [], (am_sh, am_mm U14))) 1 (fun _ => rfl) (fun hc => ?_) (fun hc => ?_)
          · have haa1122a1 := haa1122a.1 hc
            refine ev_seg (σ1 := ((d + 1), 254, 77, [some (.inr (.inr 26)), some (.inl (U1 26 9)), some (.inl r2), some (.inl (w32 (-(U2 26 8)))), none], [.inr (.inr 26)], (am_sh, am_mm U14))) 1 (fun _ => rfl) ?_
            obtain ⟨U15, haa1122a1c, haa1122a1a⟩ := haa1122a1
            refine ev_cal (σc := (d, 177, 0, [some (.inr (.inr 26))], [], (am_sh, am_mm U14))) (fun _ => rfl) haa1122a1c ?_
            show Ev (am_kz N X) ((d + 1), 254, 80, [some (.inr (.inr 26)), some (.inl (U1 26 9)), some (.inl r2), some (.inl (w32 (-(U2 26 8)))), none], [], (am_sh, am_mm U15)) R
            refine ev_seg (σ1 := ((d + 1), 254, 86, [some (.inr (.inr 26)), some (.inl (U1 26 9)), some (.inl r2), some (.inl (w32 (-(U2 26 8)))), some (.inl (-1))], [.inl 6, .inr (.inr 26)], (am_sh, am_mm U15))) 4 (fun _ => rfl) ?_
            obtain ⟨r16, U16, haa1122a1ac, haa1122a1aa⟩ := haa1122a1a
            refine ev_cal (σc := (d, 301, 0, [some (.inr (.inr 26)), some (.inl 6)], [], (am_sh, am_mm U15))) (fun _ => rfl) haa1122a1ac ?_
            show Ev (am_kz N X) ((d + 1), 254, 89, [some (.inr (.inr 26)), some (.inl (U1 26 9)), some (.inl r2), some (.inl (w32 (-(U2 26 8)))), some (.inl (-1))], [.inl r16], (am_sh, am_mm U16)) R
            refine ev_br (P := r16 = 0) (σ1 := ((d + 1), 254, 113, [some (.inr (.inr 26)), some (.inl (U1 26 9)), some (.inl r2), some (.inl (w32 (-(U2 26 8)))), some (.inl (-1))], [], (am_sh, am_mm U16))) (σ2 := ((d + 1), 254, 92, [some (.inr (.inr 26)), some (.inl (U1 26 9)), some (.inl r2), some (.inl (w32 (-(U2 26 8)))), some (.inl (-1))], [], (am_sh, am_mm U16))) 1 (fun _ => rfl) (fun hc => ?_) (fun hc => ?_)
            · have haa1122a1aa1 := haa1122a1aa.1 hc
              refine ev_seg (σ1 := ((d + 1), 254, 120, [some (.inr (.inr 26)), some (.inl (U1 26 9)), some (.inl r2), some (.inl (w32 (-(U2 26 8)))), some (.inl (-1))], [.inl (-1), .inl (w32 (-(U2 26 8))), .inr (.inr 21)], (am_sh, am_mm U16))) 4 (fun _ => rfl) ?_
              obtain ⟨U17, haa1122a1aa1c, haa1122a1aa1a⟩ := haa1122a1aa1
              refine ev_cal (σc := (d, 180, 0, [some (.inr (.inr 21)), some (.inl (w32 (-(U2 26 8)))), some (.inl (-1))], [], (am_sh, am_mm U16))) (fun _ => rfl) haa1122a1aa1c ?_
              show Ev (am_kz N X) ((d + 1), 254, 123, [some (.inr (.inr 26)), some (.inl (U1 26 9)), some (.inl r2), some (.inl (w32 (-(U2 26 8)))), some (.inl (-1))], [], (am_sh, am_mm U17)) R
              subst haa1122a1aa1a
              exact ev_end 2 (fun _ => rfl)
            · have haa1122a1aa2 := haa1122a1aa.2 hc
              refine ev_seg (σ1 := ((d + 1), 254, 93, [some (.inr (.inr 26)), some (.inl (U1 26 9)), some (.inl r2), some (.inl (w32 (-(U2 26 8)))), some (.inl (-1))], [.inr (.inr 26)], (am_sh, am_mm U16))) 1 (fun _ => rfl) ?_
              obtain ⟨U18, haa1122a1aa2c, haa1122a1aa2a⟩ := haa1122a1aa2
              refine ev_cal (σc := (d, 177, 0, [some (.inr (.inr 26))], [], (am_sh, am_mm U16))) (fun _ => rfl) haa1122a1aa2c ?_
              show Ev (am_kz N X) ((d + 1), 254, 96, [some (.inr (.inr 26)), some (.inl (U1 26 9)), some (.inl r2), some (.inl (w32 (-(U2 26 8)))), some (.inl (-1))], [], (am_sh, am_mm U18)) R
              refine ev_seg (σ1 := ((d + 1), 254, 98, [some (.inr (.inr 26)), some (.inl (U1 26 9)), some (.inl r2), some (.inl (w32 (-(U2 26 8)))), some (.inl (-1))], [.inr (.inr 26), .inr (.inr 26)], (am_sh, am_mm U18))) 2 (fun _ => rfl) ?_
              obtain ⟨r19, U19, haa1122a1aa2ac, haa1122a1aa2aa⟩ := haa1122a1aa2a
              refine ev_cal (σc := (d, 302, 0, [some (.inr (.inr 26)), none, none], [], (am_sh, am_mm U18))) (fun _ => rfl) haa1122a1aa2ac ?_
              show Ev (am_kz N X) ((d + 1), 254, 101, [some (.inr (.inr 26)), some (.inl (U1 26 9)), some (.inl r2), some (.inl (w32 (-(U2 26 8)))), some (.inl (-1))], [.inl r19, .inr (.inr 26)], (am_sh, am_mm U19)) R
              obtain ⟨r20, U20, haa1122a1aa2aac, haa1122a1aa2aaa⟩ := haa1122a1aa2aa
              refine ev_cal (σc := (d, 298, 0, [some (.inr (.inr 26)), some (.inl r19), none], [], (am_sh, am_mm U19))) (fun _ => rfl) haa1122a1aa2aac ?_
              show Ev (am_kz N X) ((d + 1), 254, 104, [some (.inr (.inr 26)), some (.inl (U1 26 9)), some (.inl r2), some (.inl (w32 (-(U2 26 8)))), some (.inl (-1))], [.inl r20], (am_sh, am_mm U20)) R
              refine ev_br (P := 0 ≤ r20) (σ1 := ((d + 1), 254, 113, [some (.inr (.inr 26)), some (.inl (U1 26 9)), some (.inl r2), some (.inl (w32 (-(U2 26 8)))), some (.inl r20)], [], (am_sh, am_mm U20))) (σ2 := ((d + 1), 254, 111, [some (.inr (.inr 26)), some (.inl (U1 26 9)), some (.inl r2), some (.inl (w32 (-(U2 26 8)))), some (.inl r20)], [], (am_sh, am_mm U20))) 3 (fun _ => rfl) (fun hc => ?_) (fun hc => ?_)
              · have haa1122a1aa2aaa1 := haa1122a1aa2aaa.1 hc
                refine ev_seg (σ1 := ((d + 1), 254, 120, [some (.inr (.inr 26)), some (.inl (U1 26 9)), some (.inl r2), some (.inl (w32 (-(U2 26 8)))), some (.inl r20)], [.inl r20, .inl (w32 (-(U2 26 8))), .inr (.inr 21)], (am_sh, am_mm U20))) 4 (fun _ => rfl) ?_
                obtain ⟨U21, haa1122a1aa2aaa1c, haa1122a1aa2aaa1a⟩ := haa1122a1aa2aaa1
                refine ev_cal (σc := (d, 180, 0, [some (.inr (.inr 21)), some (.inl (w32 (-(U2 26 8)))), some (.inl r20)], [], (am_sh, am_mm U20))) (fun _ => rfl) haa1122a1aa2aaa1c ?_
                show Ev (am_kz N X) ((d + 1), 254, 123, [some (.inr (.inr 26)), some (.inl (U1 26 9)), some (.inl r2), some (.inl (w32 (-(U2 26 8)))), some (.inl r20)], [], (am_sh, am_mm U21)) R
                subst haa1122a1aa2aaa1a
                exact ev_end 2 (fun _ => rfl)
              · have haa1122a1aa2aaa2 := haa1122a1aa2aaa.2 hc
                subst haa1122a1aa2aaa2
                exact ev_end 2 (fun _ => rfl)
          · have haa1122a2 := haa1122a.2 hc
            refine ev_seg (σ1 := ((d + 1), 254, 72, [some (.inr (.inr 26)), some (.inl (U1 26 9)), some (.inl r2), some (.inl (w32 (-(U2 26 8)))), none], [.inl (U1 26 9), .inl 4, .inr (.inr 26)], (am_sh, am_mm U14))) 3 (fun _ => rfl) ?_
            obtain ⟨r22, U22, haa1122a2c, haa1122a2a⟩ := haa1122a2
            refine ev_cal (σc := (d, 249, 0, [some (.inr (.inr 26)), some (.inl 4), some (.inl (U1 26 9))], [], (am_sh, am_mm U14))) (fun _ => rfl) haa1122a2c ?_
            show Ev (am_kz N X) ((d + 1), 254, 75, [some (.inr (.inr 26)), some (.inl (U1 26 9)), some (.inl r2), some (.inl (w32 (-(U2 26 8)))), none], [.inl r22], (am_sh, am_mm U22)) R
            rw [haa1122a2a.2]
            exact ev_retz rfl rfl haa1122a2a.1
    · have haa12 := haa1.2 hc
      refine ev_seg (σ1 := ((d + 1), 254, 33, [some (.inr (.inr 26)), some (.inl (U1 26 9)), some (.inl r2), none, none], [.inr (.inr 26)], (am_sh, am_mm U2))) 1 (fun _ => rfl) ?_
      obtain ⟨r23, U23, haa12c, haa12a⟩ := haa12
      refine ev_cal (σc := (d, 262, 0, [some (.inr (.inr 26))], [], (am_sh, am_mm U2))) (fun _ => rfl) haa12c ?_
      show Ev (am_kz N X) ((d + 1), 254, 36, [some (.inr (.inr 26)), some (.inl (U1 26 9)), some (.inl r2), none, none], [.inl r23], (am_sh, am_mm U23)) R
      rw [haa12a.2]
      exact ev_retz rfl rfl haa12a.1
  · have haa2 := haa.2 hc
    refine ev_seg (σ1 := ((d + 1), 254, 21, [some (.inr (.inr 26)), some (.inl (U1 26 9)), some (.inl r2), none, none], [.inr (.inr 26)], (am_sh, am_mm U2))) 1 (fun _ => rfl) ?_
    obtain ⟨U24, haa2c, haa2a⟩ := haa2
    refine ev_cal (σc := (d, 177, 0, [some (.inr (.inr 26))], [], (am_sh, am_mm U2))) (fun _ => rfl) haa2c ?_
    show Ev (am_kz N X) ((d + 1), 254, 24, [some (.inr (.inr 26)), some (.inl (U1 26 9)), some (.inl r2), none, none], [], (am_sh, am_mm U24)) R
    refine ev_br (P := (U24 26 7) = 3) (σ1 := ((d + 1), 254, 37, [some (.inr (.inr 26)), some (.inl (U1 26 9)), some (.inl r2), none, none], [], (am_sh, am_mm U24))) (σ2 := ((d + 1), 254, 32, [some (.inr (.inr 26)), some (.inl (U1 26 9)), some (.inl r2), none, none], [], (am_sh, am_mm U24))) 4 (fun _ => rfl) (fun hc => ?_) (fun hc => ?_)
    · have haa2a1 := haa2a.1 hc
      refine ev_br (P := r2 = 0) (σ1 := ((d + 1), 254, 49, [some (.inr (.inr 26)), some (.inl (U1 26 9)), some (.inl r2), none, none], [], (am_sh, am_mm U24))) (σ2 := ((d + 1), 254, 41, [some (.inr (.inr 26)), some (.inl (U1 26 9)), some (.inl r2), none, none], [], (am_sh, am_mm U24))) 2 (fun _ => rfl) (fun hc => ?_) (fun hc => ?_)
      · have haa2a11 := haa2a1.1 hc
        refine ev_br (P := (U24 26 8) = 0) (σ1 := ((d + 1), 254, 69, [some (.inr (.inr 26)), some (.inl (U1 26 9)), some (.inl r2), some (.inl (U24 26 8)), none], [], (am_sh, am_mm U24))) (σ2 := ((d + 1), 254, 58, [some (.inr (.inr 26)), some (.inl (U1 26 9)), some (.inl r2), some (.inl (U24 26 8)), none], [], (am_sh, am_mm U24))) 5 (fun _ => rfl) (fun hc => ?_) (fun hc => ?_)
        · have haa2a111 := haa2a11.1 hc
          refine ev_seg (σ1 := ((d + 1), 254, 72, [some (.inr (.inr 26)), some (.inl (U1 26 9)), some (.inl r2), some (.inl (U24 26 8)), none], [.inl (U1 26 9), .inl 4, .inr (.inr 26)], (am_sh, am_mm U24))) 3 (fun _ => rfl) ?_
          obtain ⟨r25, U25, haa2a111c, haa2a111a⟩ := haa2a111
          refine ev_cal (σc := (d, 249, 0, [some (.inr (.inr 26)), some (.inl 4), some (.inl (U1 26 9))], [], (am_sh, am_mm U24))) (fun _ => rfl) haa2a111c ?_
          show Ev (am_kz N X) ((d + 1), 254, 75, [some (.inr (.inr 26)), some (.inl (U1 26 9)), some (.inl r2), some (.inl (U24 26 8)), none], [.inl r25], (am_sh, am_mm U25)) R
          rw [haa2a111a.2]
          exact ev_retz rfl rfl haa2a111a.1
        · have haa2a112 := haa2a11.2 hc
          refine ev_seg (σ1 := ((d + 1), 254, 63, [some (.inr (.inr 26)), some (.inl (U1 26 9)), some (.inl r2), some (.inl (U24 26 8)), none], [.inl (U24 26 8), .inr (.inr 21)], (am_sh, am_mm U24))) 3 (fun _ => rfl) ?_
          obtain ⟨r26, U26, haa2a112c, haa2a112a⟩ := haa2a112
          refine ev_cal (σc := (d, 280, 0, [some (.inr (.inr 21)), some (.inl (U24 26 8)), none], [], (am_sh, am_mm U24))) (fun _ => rfl) haa2a112c ?_
          show Ev (am_kz N X) ((d + 1), 254, 66, [some (.inr (.inr 26)), some (.inl (U1 26 9)), some (.inl r2), some (.inl (U24 26 8)), none], [.inl r26], (am_sh, am_mm U26)) R
          refine ev_br (P := r26 < 0) (σ1 := ((d + 1), 254, 76, [some (.inr (.inr 26)), some (.inl (U1 26 9)), some (.inl r2), some (.inl (U24 26 8)), none], [], (am_sh, am_mm U26))) (σ2 := ((d + 1), 254, 69, [some (.inr (.inr 26)), some (.inl (U1 26 9)), some (.inl r2), some (.inl (U24 26 8)), none], [], (am_sh, am_mm U26))) 1 (fun _ => rfl) (fun hc => ?_) (fun hc => ?_)
          · have haa2a112a1 := haa2a112a.1 hc
            refine ev_seg (σ1 := ((d + 1), 254, 77, [some (.inr (.inr 26)), some (.inl (U1 26 9)), some (.inl r2), some (.inl (U24 26 8)), none], [.inr (.inr 26)], (am_sh, am_mm U26))) 1 (fun _ => rfl) ?_
            obtain ⟨U27, haa2a112a1c, haa2a112a1a⟩ := haa2a112a1
            refine ev_cal (σc := (d, 177, 0, [some (.inr (.inr 26))], [], (am_sh, am_mm U26))) (fun _ => rfl) haa2a112a1c ?_
            show Ev (am_kz N X) ((d + 1), 254, 80, [some (.inr (.inr 26)), some (.inl (U1 26 9)), some (.inl r2), some (.inl (U24 26 8)), none], [], (am_sh, am_mm U27)) R
            refine ev_seg (σ1 := ((d + 1), 254, 86, [some (.inr (.inr 26)), some (.inl (U1 26 9)), some (.inl r2), some (.inl (U24 26 8)), some (.inl (-1))], [.inl 6, .inr (.inr 26)], (am_sh, am_mm U27))) 4 (fun _ => rfl) ?_
            obtain ⟨r28, U28, haa2a112a1ac, haa2a112a1aa⟩ := haa2a112a1a
            refine ev_cal (σc := (d, 301, 0, [some (.inr (.inr 26)), some (.inl 6)], [], (am_sh, am_mm U27))) (fun _ => rfl) haa2a112a1ac ?_
            show Ev (am_kz N X) ((d + 1), 254, 89, [some (.inr (.inr 26)), some (.inl (U1 26 9)), some (.inl r2), some (.inl (U24 26 8)), some (.inl (-1))], [.inl r28], (am_sh, am_mm U28)) R
            refine ev_br (P := r28 = 0) (σ1 := ((d + 1), 254, 113, [some (.inr (.inr 26)), some (.inl (U1 26 9)), some (.inl r2), some (.inl (U24 26 8)), some (.inl (-1))], [], (am_sh, am_mm U28))) (σ2 := ((d + 1), 254, 92, [some (.inr (.inr 26)), some (.inl (U1 26 9)), some (.inl r2), some (.inl (U24 26 8)), some (.inl (-1))], [], (am_sh, am_mm U28))) 1 (fun _ => rfl) (fun hc => ?_) (fun hc => ?_)
            · have haa2a112a1aa1 := haa2a112a1aa.1 hc
              refine ev_seg (σ1 := ((d + 1), 254, 120, [some (.inr (.inr 26)), some (.inl (U1 26 9)), some (.inl r2), some (.inl (U24 26 8)), some (.inl (-1))], [.inl (-1), .inl (U24 26 8), .inr (.inr 21)], (am_sh, am_mm U28))) 4 (fun _ => rfl) ?_
              obtain ⟨U29, haa2a112a1aa1c, haa2a112a1aa1a⟩ := haa2a112a1aa1
              refine ev_cal (σc := (d, 180, 0, [some (.inr (.inr 21)), some (.inl (U24 26 8)), some (.inl (-1))], [], (am_sh, am_mm U28))) (fun _ => rfl) haa2a112a1aa1c ?_
              show Ev (am_kz N X) ((d + 1), 254, 123, [some (.inr (.inr 26)), some (.inl (U1 26 9)), some (.inl r2), some (.inl (U24 26 8)), some (.inl (-1))], [], (am_sh, am_mm U29)) R
              subst haa2a112a1aa1a
              exact ev_end 2 (fun _ => rfl)
            · have haa2a112a1aa2 := haa2a112a1aa.2 hc
              refine ev_seg (σ1 := ((d + 1), 254, 93, [some (.inr (.inr 26)), some (.inl (U1 26 9)), some (.inl r2), some (.inl (U24 26 8)), some (.inl (-1))], [.inr (.inr 26)], (am_sh, am_mm U28))) 1 (fun _ => rfl) ?_
              obtain ⟨U30, haa2a112a1aa2c, haa2a112a1aa2a⟩ := haa2a112a1aa2
              refine ev_cal (σc := (d, 177, 0, [some (.inr (.inr 26))], [], (am_sh, am_mm U28))) (fun _ => rfl) haa2a112a1aa2c ?_
              show Ev (am_kz N X) ((d + 1), 254, 96, [some (.inr (.inr 26)), some (.inl (U1 26 9)), some (.inl r2), some (.inl (U24 26 8)), some (.inl (-1))], [], (am_sh, am_mm U30)) R
              refine ev_seg (σ1 := ((d + 1), 254, 98, [some (.inr (.inr 26)), some (.inl (U1 26 9)), some (.inl r2), some (.inl (U24 26 8)), some (.inl (-1))], [.inr (.inr 26), .inr (.inr 26)], (am_sh, am_mm U30))) 2 (fun _ => rfl) ?_
              obtain ⟨r31, U31, haa2a112a1aa2ac, haa2a112a1aa2aa⟩ := haa2a112a1aa2a
              refine ev_cal (σc := (d, 302, 0, [some (.inr (.inr 26)), none, none], [], (am_sh, am_mm U30))) (fun _ => rfl) haa2a112a1aa2ac ?_
              show Ev (am_kz N X) ((d + 1), 254, 101, [some (.inr (.inr 26)), some (.inl (U1 26 9)), some (.inl r2), some (.inl (U24 26 8)), some (.inl (-1))], [.inl r31, .inr (.inr 26)], (am_sh, am_mm U31)) R
              obtain ⟨r32, U32, haa2a112a1aa2aac, haa2a112a1aa2aaa⟩ := haa2a112a1aa2aa
              refine ev_cal (σc := (d, 298, 0, [some (.inr (.inr 26)), some (.inl r31), none], [], (am_sh, am_mm U31))) (fun _ => rfl) haa2a112a1aa2aac ?_
              show Ev (am_kz N X) ((d + 1), 254, 104, [some (.inr (.inr 26)), some (.inl (U1 26 9)), some (.inl r2), some (.inl (U24 26 8)), some (.inl (-1))], [.inl r32], (am_sh, am_mm U32)) R
              refine ev_br (P := 0 ≤ r32) (σ1 := ((d + 1), 254, 113, [some (.inr (.inr 26)), some (.inl (U1 26 9)), some (.inl r2), some (.inl (U24 26 8)), some (.inl r32)], [], (am_sh, am_mm U32))) (σ2 := ((d + 1), 254, 111, [some (.inr (.inr 26)), some (.inl (U1 26 9)), some (.inl r2), some (.inl (U24 26 8)), some (.inl r32)], [], (am_sh, am_mm U32))) 3 (fun _ => rfl) (fun hc => ?_) (fun hc => ?_)
              · have haa2a112a1aa2aaa1 := haa2a112a1aa2aaa.1 hc
                refine ev_seg (σ1 := ((d + 1), 254, 120, [some (.inr (.inr 26)), some (.inl (U1 26 9)), some (.inl r2), some (.inl (U24 26 8)), some (.inl r32)], [.inl r32, .inl (U24 26 8), .inr (.inr 21)], (am_sh, am_mm U32))) 4 (fun _ => rfl) ?_
                obtain ⟨U33, haa2a112a1aa2aaa1c, haa2a112a1aa2aaa1a⟩ := haa2a112a1aa2aaa1
                refine ev_cal (σc := (d, 180, 0, [some (.inr (.inr 21)), some (.inl (U24 26 8)), some (.inl r32)], [], (am_sh, am_mm U32))) (fun _ => rfl) haa2a112a1aa2aaa1c ?_
                show Ev (am_kz N X) ((d + 1), 254, 123, [some (.inr (.inr 26)), some (.inl (U1 26 9)), some (.inl r2), some (.inl (U24 26 8)), some (.inl r32)], [], (am_sh, am_mm U33)) R
                subst haa2a112a1aa2aaa1a
                exact ev_end 2 (fun _ => rfl)
              · have haa2a112a1aa2aaa2 := haa2a112a1aa2aaa.2 hc
                subst haa2a112a1aa2aaa2
                exact ev_end 2 (fun _ => rfl)
          · have haa2a112a2 := haa2a112a.2 hc
            refine ev_seg (σ1 := ((d + 1), 254, 72, [some (.inr (.inr 26)), some (.inl (U1 26 9)), some (.inl r2), some (.inl (U24 26 8)), none], [.inl (U1 26 9), .inl 4, .inr (.inr 26)], (am_sh, am_mm U26))) 3 (fun _ => rfl) ?_
            obtain ⟨r34, U34, haa2a112a2c, haa2a112a2a⟩ := haa2a112a2
            refine ev_cal (σc := (d, 249, 0, [some (.inr (.inr 26)), some (.inl 4), some (.inl (U1 26 9))], [], (am_sh, am_mm U26))) (fun _ => rfl) haa2a112a2c ?_
            show Ev (am_kz N X) ((d + 1), 254, 75, [some (.inr (.inr 26)), some (.inl (U1 26 9)), some (.inl r2), some (.inl (U24 26 8)), none], [.inl r34], (am_sh, am_mm U34)) R
            rw [haa2a112a2a.2]
            exact ev_retz rfl rfl haa2a112a2a.1
      · have haa2a12 := haa2a1.2 hc
        refine ev_br (P := (w32 (-(U24 26 8))) = 0) (σ1 := ((d + 1), 254, 69, [some (.inr (.inr 26)), some (.inl (U1 26 9)), some (.inl r2), some (.inl (w32 (-(U24 26 8)))), none], [], (am_sh, am_mm U24))) (σ2 := ((d + 1), 254, 58, [some (.inr (.inr 26)), some (.inl (U1 26 9)), some (.inl r2), some (.inl (w32 (-(U24 26 8)))), none], [], (am_sh, am_mm U24))) 7 (fun _ => rfl) (fun hc => ?_) (fun hc => ?_)
        · have haa2a121 := haa2a12.1 hc
          refine ev_seg (σ1 := ((d + 1), 254, 72, [some (.inr (.inr 26)), some (.inl (U1 26 9)), some (.inl r2), some (.inl (w32 (-(U24 26 8)))), none], [.inl (U1 26 9), .inl 4, .inr (.inr 26)], (am_sh, am_mm U24))) 3 (fun _ => rfl) ?_
          obtain ⟨r35, U35, haa2a121c, haa2a121a⟩ := haa2a121
          refine ev_cal (σc := (d, 249, 0, [some (.inr (.inr 26)), some (.inl 4), some (.inl (U1 26 9))], [], (am_sh, am_mm U24))) (fun _ => rfl) haa2a121c ?_
          show Ev (am_kz N X) ((d + 1), 254, 75, [some (.inr (.inr 26)), some (.inl (U1 26 9)), some (.inl r2), some (.inl (w32 (-(U24 26 8)))), none], [.inl r35], (am_sh, am_mm U35)) R
          rw [haa2a121a.2]
          exact ev_retz rfl rfl haa2a121a.1
        · have haa2a122 := haa2a12.2 hc
          refine ev_seg (σ1 := ((d + 1), 254, 63, [some (.inr (.inr 26)), some (.inl (U1 26 9)), some (.inl r2), some (.inl (w32 (-(U24 26 8)))), none], [.inl (w32 (-(U24 26 8))), .inr (.inr 21)], (am_sh, am_mm U24))) 3 (fun _ => rfl) ?_
          obtain ⟨r36, U36, haa2a122c, haa2a122a⟩ := haa2a122
          refine ev_cal (σc := (d, 280, 0, [some (.inr (.inr 21)), some (.inl (w32 (-(U24 26 8)))), none], [], (am_sh, am_mm U24))) (fun _ => rfl) haa2a122c ?_
          show Ev (am_kz N X) ((d + 1), 254, 66, [some (.inr (.inr 26)), some (.inl (U1 26 9)), some (.inl r2), some (.inl (w32 (-(U24 26 8)))), none], [.inl r36], (am_sh, am_mm U36)) R
          refine ev_br (P := r36 < 0) (σ1 := ((d + 1), 254, 76, [some (.inr (.inr 26)), some (.inl (U1 26 9)), some (.inl r2), some (.inl (w32 (-(U24 26 8)))), none], [], (am_sh, am_mm U36))) (σ2 := ((d + 1), 254, 69, [some (.inr (.inr 26)), some (.inl (U1 26 9)), some (.inl r2), some (.inl (w32 (-(U24 26 8)))), none], [], (am_sh, am_mm U36))) 1 (fun _ => rfl) (fun hc => ?_) (fun hc => ?_)
          · have haa2a122a1 := haa2a122a.1 hc
            refine ev_seg (σ1 := ((d + 1), 254, 77, [some (.inr (.inr 26)), some (.inl (U1 26 9)), some (.inl r2), some (.inl (w32 (-(U24 26 8)))), none], [.inr (.inr 26)], (am_sh, am_mm U36))) 1 (fun _ => rfl) ?_
            obtain ⟨U37, haa2a122a1c, haa2a122a1a⟩ := haa2a122a1
            refine ev_cal (σc := (d, 177, 0, [some (.inr (.inr 26))], [], (am_sh, am_mm U36))) (fun _ => rfl) haa2a122a1c ?_
            show Ev (am_kz N X) ((d + 1), 254, 80, [some (.inr (.inr 26)), some (.inl (U1 26 9)), some (.inl r2), some (.inl (w32 (-(U24 26 8)))), none], [], (am_sh, am_mm U37)) R
            refine ev_seg (σ1 := ((d + 1), 254, 86, [some (.inr (.inr 26)), some (.inl (U1 26 9)), some (.inl r2), some (.inl (w32 (-(U24 26 8)))), some (.inl (-1))], [.inl 6, .inr (.inr 26)], (am_sh, am_mm U37))) 4 (fun _ => rfl) ?_
            obtain ⟨r38, U38, haa2a122a1ac, haa2a122a1aa⟩ := haa2a122a1a
            refine ev_cal (σc := (d, 301, 0, [some (.inr (.inr 26)), some (.inl 6)], [], (am_sh, am_mm U37))) (fun _ => rfl) haa2a122a1ac ?_
            show Ev (am_kz N X) ((d + 1), 254, 89, [some (.inr (.inr 26)), some (.inl (U1 26 9)), some (.inl r2), some (.inl (w32 (-(U24 26 8)))), some (.inl (-1))], [.inl r38], (am_sh, am_mm U38)) R
            refine ev_br (P := r38 = 0) (σ1 := ((d + 1), 254, 113, [some (.inr (.inr 26)), some (.inl (U1 26 9)), some (.inl r2), some (.inl (w32 (-(U24 26 8)))), some (.inl (-1))], [], (am_sh, am_mm U38))) (σ2 := ((d + 1), 254, 92, [some (.inr (.inr 26)), some (.inl (U1 26 9)), some (.inl r2), some (.inl (w32 (-(U24 26 8)))), some (.inl (-1))], [], (am_sh, am_mm U38))) 1 (fun _ => rfl) (fun hc => ?_) (fun hc => ?_)
            · have haa2a122a1aa1 := haa2a122a1aa.1 hc
              refine ev_seg (σ1 := ((d + 1), 254, 120, [some (.inr (.inr 26)), some (.inl (U1 26 9)), some (.inl r2), some (.inl (w32 (-(U24 26 8)))), some (.inl (-1))], [.inl (-1), .inl (w32 (-(U24 26 8))), .inr (.inr 21)], (am_sh, am_mm U38))) 4 (fun _ => rfl) ?_
              obtain ⟨U39, haa2a122a1aa1c, haa2a122a1aa1a⟩ := haa2a122a1aa1
              refine ev_cal (σc := (d, 180, 0, [some (.inr (.inr 21)), some (.inl (w32 (-(U24 26 8)))), some (.inl (-1))], [], (am_sh, am_mm U38))) (fun _ => rfl) haa2a122a1aa1c ?_
              show Ev (am_kz N X) ((d + 1), 254, 123, [some (.inr (.inr 26)), some (.inl (U1 26 9)), some (.inl r2), some (.inl (w32 (-(U24 26 8)))), some (.inl (-1))], [], (am_sh, am_mm U39)) R
              subst haa2a122a1aa1a
              exact ev_end 2 (fun _ => rfl)
            · have haa2a122a1aa2 := haa2a122a1aa.2 hc
              refine ev_seg (σ1 := ((d + 1), 254, 93, [some (.inr (.inr 26)), some (.inl (U1 26 9)), some (.inl r2), some (.inl (w32 (-(U24 26 8)))), some (.inl (-1))], [.inr (.inr 26)], (am_sh, am_mm U38))) 1 (fun _ => rfl) ?_
              obtain ⟨U40, haa2a122a1aa2c, haa2a122a1aa2a⟩ := haa2a122a1aa2
              refine ev_cal (σc := (d, 177, 0, [some (.inr (.inr 26))], [], (am_sh, am_mm U38))) (fun _ => rfl) haa2a122a1aa2c ?_
              show Ev (am_kz N X) ((d + 1), 254, 96, [some (.inr (.inr 26)), some (.inl (U1 26 9)), some (.inl r2), some (.inl (w32 (-(U24 26 8)))), some (.inl (-1))], [], (am_sh, am_mm U40)) R
              refine ev_seg (σ1 := ((d + 1), 254, 98, [some (.inr (.inr 26)), some (.inl (U1 26 9)), some (.inl r2), some (.inl (w32 (-(U24 26 8)))), some (.inl (-1))], [.inr (.inr 26), .inr (.inr 26)], (am_sh, am_mm U40))) 2 (fun _ => rfl) ?_
              obtain ⟨r41, U41, haa2a122a1aa2ac, haa2a122a1aa2aa⟩ := haa2a122a1aa2a
              refine ev_cal (σc := (d, 302, 0, [some (.inr (.inr 26)), none, none], [], (am_sh, am_mm U40))) (fun _ => rfl) haa2a122a1aa2ac ?_
              show Ev (am_kz N X) ((d + 1), 254, 101, [some (.inr (.inr 26)), some (.inl (U1 26 9)), some (.inl r2), some (.inl (w32 (-(U24 26 8)))), some (.inl (-1))], [.inl r41, .inr (.inr 26)], (am_sh, am_mm U41)) R
              obtain ⟨r42, U42, haa2a122a1aa2aac, haa2a122a1aa2aaa⟩ := haa2a122a1aa2aa
              refine ev_cal (σc := (d, 298, 0, [some (.inr (.inr 26)), some (.inl r41), none], [], (am_sh, am_mm U41))) (fun _ => rfl) haa2a122a1aa2aac ?_
              show Ev (am_kz N X) ((d + 1), 254, 104, [some (.inr (.inr 26)), some (.inl (U1 26 9)), some (.inl r2), some (.inl (w32 (-(U24 26 8)))), some (.inl (-1))], [.inl r42], (am_sh, am_mm U42)) R
              refine ev_br (P := 0 ≤ r42) (σ1 := ((d + 1), 254, 113, [some (.inr (.inr 26)), some (.inl (U1 26 9)), some (.inl r2), some (.inl (w32 (-(U24 26 8)))), some (.inl r42)], [], (am_sh, am_mm U42))) (σ2 := ((d + 1), 254, 111, [some (.inr (.inr 26)), some (.inl (U1 26 9)), some (.inl r2), some (.inl (w32 (-(U24 26 8)))), some (.inl r42)], [], (am_sh, am_mm U42))) 3 (fun _ => rfl) (fun hc => ?_) (fun hc => ?_)
              · have haa2a122a1aa2aaa1 := haa2a122a1aa2aaa.1 hc
                refine ev_seg (σ1 := ((d + 1), 254, 120, [some (.inr (.inr 26)), some (.inl (U1 26 9)), some (.inl r2), some (.inl (w32 (-(U24 26 8)))), some (.inl r42)], [.inl r42, .inl (w32 (-(U24 26 8))), .inr (.inr 21)], (am_sh, am_mm U42))) 4 (fun _ => rfl) ?_
                obtain ⟨U43, haa2a122a1aa2aaa1c, haa2a122a1aa2aaa1a⟩ := haa2a122a1aa2aaa1
                refine ev_cal (σc := (d, 180, 0, [some (.inr (.inr 21)), some (.inl (w32 (-(U24 26 8)))), some (.inl r42)], [], (am_sh, am_mm U42))) (fun _ => rfl) haa2a122a1aa2aaa1c ?_
                show Ev (am_kz N X) ((d + 1), 254, 123, [some (.inr (.inr 26)), some (.inl (U1 26 9)), some (.inl r2), some (.inl (w32 (-(U24 26 8)))), some (.inl r42)], [], (am_sh, am_mm U43)) R
                subst haa2a122a1aa2aaa1a
                exact ev_end 2 (fun _ => rfl)
              · have haa2a122a1aa2aaa2 := haa2a122a1aa2aaa.2 hc
                subst haa2a122a1aa2aaa2
                exact ev_end 2 (fun _ => rfl)
          · have haa2a122a2 := haa2a122a.2 hc
            refine ev_seg (σ1 := ((d + 1), 254, 72, [some (.inr (.inr 26)), some (.inl (U1 26 9)), some (.inl r2), some (.inl (w32 (-(U24 26 8)))), none], [.inl (U1 26 9), .inl 4, .inr (.inr 26)], (am_sh, am_mm U36))) 3 (fun _ => rfl) ?_
            obtain ⟨r44, U44, haa2a122a2c, haa2a122a2a⟩ := haa2a122a2
            refine ev_cal (σc := (d, 249, 0, [some (.inr (.inr 26)), some (.inl 4), some (.inl (U1 26 9))], [], (am_sh, am_mm U36))) (fun _ => rfl) haa2a122a2c ?_
            show Ev (am_kz N X) ((d + 1), 254, 75, [some (.inr (.inr 26)), some (.inl (U1 26 9)), some (.inl r2), some (.inl (w32 (-(U24 26 8)))), none], [.inl r44], (am_sh, am_mm U44)) R
            rw [haa2a122a2a.2]
            exact ev_retz rfl rfl haa2a122a2a.1
    · have haa2a2 := haa2a.2 hc
      refine ev_seg (σ1 := ((d + 1), 254, 33, [some (.inr (.inr 26)), some (.inl (U1 26 9)), some (.inl r2), none, none], [.inr (.inr 26)], (am_sh, am_mm U24))) 1 (fun _ => rfl) ?_
      obtain ⟨r45, U45, haa2a2c, haa2a2a⟩ := haa2a2
      refine ev_cal (σc := (d, 262, 0, [some (.inr (.inr 26))], [], (am_sh, am_mm U24))) (fun _ => rfl) haa2a2c ?_
      show Ev (am_kz N X) ((d + 1), 254, 36, [some (.inr (.inr 26)), some (.inl (U1 26 9)), some (.inl r2), none, none], [.inl r45], (am_sh, am_mm U45)) R
      rw [haa2a2a.2]
      exact ev_retz rfl rfl haa2a2a.1
set_option maxRecDepth 8000 in
theorem st259_31_0 (N : Nat) (X : Nat → Int) (d : Nat) (x1 : Int) (U : Nat → Nat → Int) (R : Option am_V × am_M) (h : R = (some (.inl 1), (am_sh, am_mm (am_upd (am_upd U 41 8 x1) 42 8 ((am_upd U 41 8 x1) 31 18))))) : Ev (am_kz N X) (d, 259, 0, [some (.inr (.inr 31)), some (.inl x1)], [], (am_sh, am_mm U)) R := by
  refine ev_seg (σ1 := (d, 259, 7, [some (.inr (.inr 31)), some (.inl x1)], [.inl x1, .inl 8, .inr (.inr 41)], (am_sh, am_mm U))) 4 (fun _ => rfl) ?_
  refine eu_iast 41 (n := 9) rfl (by decide) rfl (fun _ => rfl) (by decide) ?_
  show Ev (am_kz N X) (d, 259, 8, [some (.inr (.inr 31)), some (.inl x1)], [], (am_sh, am_mm (am_upd U 41 8 x1))) R
  refine ev_seg (σ1 := (d, 259, 18, [some (.inr (.inr 31)), some (.inl x1)], [.inl ((am_upd U 41 8 x1) 31 18), .inl 8, .inr (.inr 42)], (am_sh, am_mm (am_upd U 41 8 x1)))) 5 (fun _ => rfl) ?_
  refine eu_iast 42 (n := 9) rfl (by decide) rfl (fun _ => rfl) (by decide) ?_
  show Ev (am_kz N X) (d, 259, 19, [some (.inr (.inr 31)), some (.inl x1)], [], (am_sh, am_mm (am_upd (am_upd U 41 8 x1) 42 8 ((am_upd U 41 8 x1) 31 18)))) R
  subst h
  exact ev_end 2 (fun _ => rfl)
set_option maxRecDepth 8000 in
theorem st261_26_0 (N : Nat) (X : Nat → Int) (d : Nat) (U : Nat → Nat → Int) (R : Option am_V × am_M) (h : ∃ U1 : Nat → Nat → Int, Ev (am_kz N X) (d, 177, 0, [some (.inr (.inr 26))], [], (am_sh, am_mm U)) (none, (am_sh, am_mm U1)) ∧ ∃ (r2 : Int) (U2 : Nat → Nat → Int), Ev (am_kz N X) (d, 296, 0, [some (.inr (.inr 26)), some (.inl 0), some (.inl 100), none], [], (am_sh, am_mm U1)) (some (.inl r2), (am_sh, am_mm U2)) ∧ (((0 ≤ r2 : Prop)) → R = (some (.inl 1), (am_sh, am_mm (am_upd U2 31 5 r2)))) ∧ (¬ (0 ≤ r2) → R = (some (.inl 0), (am_sh, am_mm U2)))) : Ev (am_kz N X) ((d + 1), 261, 0, [some (.inr (.inr 26)), none], [], (am_sh, am_mm U)) R := by
  refine ev_seg (σ1 := ((d + 1), 261, 1, [some (.inr (.inr 26)), none], [.inr (.inr 26)], (am_sh, am_mm U))) 1 (fun _ => rfl) ?_
  obtain ⟨U1, hc, ha⟩ := h
  refine ev_cal (σc := (d, 177, 0, [some (.inr (.inr 26))], [], (am_sh, am_mm U))) (fun _ => rfl) hc ?_
  show Ev (am_kz N X) ((d + 1), 261, 4, [some (.inr (.inr 26)), none], [], (am_sh, am_mm U1)) R
  refine ev_seg (σ1 := ((d + 1), 261, 8, [some (.inr (.inr 26)), none], [.inl 100, .inl 0, .inr (.inr 26)], (am_sh, am_mm U1))) 3 (fun _ => rfl) ?_
  obtain ⟨r2, U2, hac, haa⟩ := ha
  refine ev_cal (σc := (d, 296, 0, [some (.inr (.inr 26)), some (.inl 0), some (.inl 100), none], [], (am_sh, am_mm U1))) (fun _ => rfl) hac ?_
  show Ev (am_kz N X) ((d + 1), 261, 11, [some (.inr (.inr 26)), none], [.inl r2], (am_sh, am_mm U2)) R
  refine ev_br (P := 0 ≤ r2) (σ1 := ((d + 1), 261, 18, [some (.inr (.inr 26)), some (.inl r2)], [], (am_sh, am_mm U2))) (σ2 := ((d + 1), 261, 16, [some (.inr (.inr 26)), some (.inl r2)], [], (am_sh, am_mm U2))) 3 (fun _ => rfl) (fun hc => ?_) (fun hc => ?_)
  · have haa1 := haa.1 hc
    refine ev_seg (σ1 := ((d + 1), 261, 23, [some (.inr (.inr 26)), some (.inl r2)], [.inl r2, .inr (.inr 31)], (am_sh, am_mm U2))) 3 (fun _ => rfl) ?_
    refine eu_puti 31 (n := 19) rfl (by decide) rfl rfl ?_
    subst haa1
    exact ev_end 2 (fun _ => rfl)
  · have haa2 := haa.2 hc
    subst haa2
    exact ev_end 2 (fun _ => rfl)
set_option maxRecDepth 8000 in
theorem st263_26_0 (N : Nat) (X : Nat → Int) (d : Nat) (x1 : Int) (U : Nat → Nat → Int) (R : Option am_V × am_M) (h : ∃ (r1 : Int) (U1 : Nat → Nat → Int), Ev (am_kz N X) (d, 300, 0, [some (.inr (.inr 26)), some (.inl x1)], [], (am_sh, am_mm U)) (some (.inl r1), (am_sh, am_mm U1)) ∧ (((¬ r1 = 0 : Prop)) → ∃ U2 : Nat → Nat → Int, Ev (am_kz N X) (d, 177, 0, [some (.inr (.inr 26))], [], (am_sh, am_mm U1)) (none, (am_sh, am_mm U2)) ∧ R = (some (.inl 1), (am_sh, am_mm U2))) ∧ (¬ (¬ r1 = 0) → ∃ (r3 : Int) (U3 : Nat → Nat → Int), Ev (am_kz N X) (d, 262, 0, [some (.inr (.inr 26))], [], (am_sh, am_mm U1)) (some (.inl r3), (am_sh, am_mm U3)) ∧ (r3 = 0 ∨ r3 = 1) ∧ R = (some (.inl r3), (am_sh, am_mm U3)))) : Ev (am_kz N X) ((d + 1), 263, 0, [some (.inr (.inr 26)), some (.inl x1)], [], (am_sh, am_mm U)) R := by
  refine ev_seg (σ1 := ((d + 1), 263, 2, [some (.inr (.inr 26)), some (.inl x1)], [.inl x1, .inr (.inr 26)], (am_sh, am_mm U))) 2 (fun _ => rfl) ?_
  obtain ⟨r1, U1, hc, ha⟩ := h
  refine ev_cal (σc := (d, 300, 0, [some (.inr (.inr 26)), some (.inl x1)], [], (am_sh, am_mm U))) (fun _ => rfl) hc ?_
  show Ev (am_kz N X) ((d + 1), 263, 5, [some (.inr (.inr 26)), some (.inl x1)], [.inl r1], (am_sh, am_mm U1)) R
  refine ev_br (P := ¬ r1 = 0) (σ1 := ((d + 1), 263, 13, [some (.inr (.inr 26)), some (.inl x1)], [], (am_sh, am_mm U1))) (σ2 := ((d + 1), 263, 8, [some (.inr (.inr 26)), some (.inl x1)], [], (am_sh, am_mm U1))) 1 (fun _ => rfl) (fun hc => ?_) (fun hc => ?_)
  · have ha1 := ha.1 hc
    refine ev_seg (σ1 := ((d + 1), 263, 14, [some (.inr (.inr 26)), some (.inl x1)], [.inr (.inr 26)], (am_sh, am_mm U1))) 1 (fun _ => rfl) ?_
    obtain ⟨U2, ha1c, ha1a⟩ := ha1
    refine ev_cal (σc := (d, 177, 0, [some (.inr (.inr 26))], [], (am_sh, am_mm U1))) (fun _ => rfl) ha1c ?_
    show Ev (am_kz N X) ((d + 1), 263, 17, [some (.inr (.inr 26)), some (.inl x1)], [], (am_sh, am_mm U2)) R
    subst ha1a
    exact ev_end 2 (fun _ => rfl)
  · have ha2 := ha.2 hc
    refine ev_seg (σ1 := ((d + 1), 263, 9, [some (.inr (.inr 26)), some (.inl x1)], [.inr (.inr 26)], (am_sh, am_mm U1))) 1 (fun _ => rfl) ?_
    obtain ⟨r3, U3, ha2c, ha2a⟩ := ha2
    refine ev_cal (σc := (d, 262, 0, [some (.inr (.inr 26))], [], (am_sh, am_mm U1))) (fun _ => rfl) ha2c ?_
    show Ev (am_kz N X) ((d + 1), 263, 12, [some (.inr (.inr 26)), some (.inl x1)], [.inl r3], (am_sh, am_mm U3)) R
    rw [ha2a.2]
    exact ev_retz rfl rfl ha2a.1
set_option maxRecDepth 8000 in
theorem st255_26_0 (N : Nat) (X : Nat → Int) (d : Nat) (U : Nat → Nat → Int) (R : Option am_V × am_M) (h : ∃ U1 : Nat → Nat → Int, Ev (am_kz N X) (d, 177, 0, [some (.inr (.inr 26))], [], (am_sh, am_mm U)) (none, (am_sh, am_mm U1)) ∧ (((¬ (U1 26 7) = 1 : Prop)) → ∃ (r2 : Int) (U2 : Nat → Nat → Int), Ev (am_kz N X) (d, 262, 0, [some (.inr (.inr 26))], [], (am_sh, am_mm U1)) (some (.inl r2), (am_sh, am_mm U2)) ∧ (r2 = 0 ∨ r2 = 1) ∧ R = (some (.inl r2), (am_sh, am_mm U2))) ∧ (¬ (¬ (U1 26 7) = 1) → ((((U1 26 8) < 8 : Prop)) → ∃ (r3 : Int) (U3 : Nat → Nat → Int), Ev (am_kz N X) (d, 262, 0, [some (.inr (.inr 26))], [], (am_sh, am_mm U1)) (some (.inl r3), (am_sh, am_mm U3)) ∧ (r3 = 0 ∨ r3 = 1) ∧ R = (some (.inl r3), (am_sh, am_mm U3))) ∧ (¬ ((U1 26 8) < 8) → ((((U1 26 8) ≤ 10 : Prop)) → ∃ U4 : Nat → Nat → Int, Ev (am_kz N X) (d, 177, 0, [some (.inr (.inr 26))], [], (am_sh, am_mm (am_upd (am_upd U1 26 10 (U1 26 8)) 26 11 ((am_upd U1 26 10 (U1 26 8)) 31 18)))) (none, (am_sh, am_mm U4)) ∧ R = (some (.inl 1), (am_sh, am_mm U4))) ∧ (¬ ((U1 26 8) ≤ 10) → ∃ (r5 : Int) (U5 : Nat → Nat → Int), Ev (am_kz N X) (d, 262, 0, [some (.inr (.inr 26))], [], (am_sh, am_mm U1)) (some (.inl r5), (am_sh, am_mm U5)) ∧ (r5 = 0 ∨ r5 = 1) ∧ R = (some (.inl r5), (am_sh, am_mm U5)))))) : Ev (am_kz N X) ((d + 1), 255, 0, [some (.inr (.inr 26))], [], (am_sh, am_mm U)) R := by
  refine ev_seg (σ1 := ((d + 1), 255, 1, [some (.inr (.inr 26))], [.inr (.inr 26)], (am_sh, am_mm U))) 1 (fun _ => rfl) ?_
  obtain ⟨U1, hc, ha⟩ := h
  refine ev_cal (σc := (d, 177, 0, [some (.inr (.inr 26))], [], (am_sh, am_mm U))) (fun _ => rfl) hc ?_
  show Ev (am_kz N X) ((d + 1), 255, 4, [some (.inr (.inr 26))], [], (am_sh, am_mm U1)) R
  refine ev_br (P := ¬ (U1 26 7) = 1) (σ1 := ((d + 1), 255, 30, [some (.inr (.inr 26))], [], (am_sh, am_mm U1))) (σ2 := ((d + 1), 255, 12, [some (.inr (.inr 26))], [], (am_sh, am_mm U1))) 4 (fun _ => rfl) (fun hc => ?_) (fun hc => ?_)
  · have ha1 := ha.1 hc
    refine ev_seg (σ1 := ((d + 1), 255, 31, [some (.inr (.inr 26))], [.inr (.inr 26)], (am_sh, am_mm U1))) 1 (fun _ => rfl) ?_
    obtain ⟨r2, U2, ha1c, ha1a⟩ := ha1
    refine ev_cal (σc := (d, 262, 0, [some (.inr (.inr 26))], [], (am_sh, am_mm U1))) (fun _ => rfl) ha1c ?_
    show Ev (am_kz N X) ((d + 1), 255, 34, [some (.inr (.inr 26))], [.inl r2], (am_sh, am_mm U2)) R
    rw [ha1a.2]
    exact ev_retz rfl rfl ha1a.1
  · have ha2 := ha.2 hc
    refine ev_br (P := (U1 26 8) < 8) (σ1 := ((d + 1), 255, 30, [some (.inr (.inr 26))], [], (am_sh, am_mm U1))) (σ2 := ((d + 1), 255, 21, [some (.inr (.inr 26))], [], (am_sh, am_mm U1))) 4 (fun _ => rfl) (fun hc => ?_) (fun hc => ?_)
    · have ha21 := ha2.1 hc
      refine ev_seg (σ1 := ((d + 1), 255, 31, [some (.inr (.inr 26))], [.inr (.inr 26)], (am_sh, am_mm U1))) 1 (fun _ => rfl) ?_
      obtain ⟨r3, U3, ha21c, ha21a⟩ := ha21
      refine ev_cal (σc := (d, 262, 0, [some (.inr (.inr 26))], [], (am_sh, am_mm U1))) (fun _ => rfl) ha21c ?_
      show Ev (am_kz N X) ((d + 1), 255, 34, [some (.inr (.inr 26))], [.inl r3], (am_sh, am_mm U3)) R
      rw [ha21a.2]
      exact ev_retz rfl rfl ha21a.1
    · have ha22 := ha2.2 hc
      refine ev_br (P := (U1 26 8) ≤ 10) (σ1 := ((d + 1), 255, 35, [some (.inr (.inr 26))], [], (am_sh, am_mm U1))) (σ2 := ((d + 1), 255, 30, [some (.inr (.inr 26))], [], (am_sh, am_mm U1))) 4 (fun _ => rfl) (fun hc => ?_) (fun hc => ?_)
      · have ha221 := ha22.1 hc
        refine ev_seg (σ1 := ((d + 1), 255, 40, [some (.inr (.inr 26))], [.inl (U1 26 8), .inr (.inr 26)], (am_sh, am_mm U1))) 3 (fun _ => rfl) ?_
        refine eu_puti 26 (n := 12) rfl (by decide) rfl rfl ?_
        refine ev_seg (σ1 := ((d + 1), 255, 51, [some (.inr (.inr 26))], [.inl ((am_upd U1 26 10 (U1 26 8)) 31 18), .inr (.inr 26)], (am_sh, am_mm (am_upd U1 26 10 (U1 26 8))))) 4 (fun _ => rfl) ?_
        refine eu_puti 26 (n := 12) rfl (by decide) rfl rfl ?_
        refine ev_seg (σ1 := ((d + 1), 255, 55, [some (.inr (.inr 26))], [.inr (.inr 26)], (am_sh, am_mm (am_upd (am_upd U1 26 10 (U1 26 8)) 26 11 ((am_upd U1 26 10 (U1 26 8)) 31 18))))) 1 (fun _ => rfl) ?_
        obtain ⟨U4, ha221c, ha221a⟩ := ha221
        refine ev_cal (σc := (d, 177, 0, [some (.inr (.inr 26))], [], (am_sh, am_mm (am_upd (am_upd U1 26 10 (U1 26 8)) 26 11 ((am_upd U1 26 10 (U1 26 8)) 31 18))))) (fun _ => rfl) ha221c ?_
        show Ev (am_kz N X) ((d + 1), 255, 58, [some (.inr (.inr 26))], [], (am_sh, am_mm U4)) R
        subst ha221a
        exact ev_end 2 (fun _ => rfl)
      · have ha222 := ha22.2 hc
        refine ev_seg (σ1 := ((d + 1), 255, 31, [some (.inr (.inr 26))], [.inr (.inr 26)], (am_sh, am_mm U1))) 1 (fun _ => rfl) ?_
        obtain ⟨r5, U5, ha222c, ha222a⟩ := ha222
        refine ev_cal (σc := (d, 262, 0, [some (.inr (.inr 26))], [], (am_sh, am_mm U1))) (fun _ => rfl) ha222c ?_
        show Ev (am_kz N X) ((d + 1), 255, 34, [some (.inr (.inr 26))], [.inl r5], (am_sh, am_mm U5)) R
        rw [ha222a.2]
        exact ev_retz rfl rfl ha222a.1
set_option maxRecDepth 8000 in
theorem st256_26_0 (N : Nat) (X : Nat → Int) (d : Nat) (x1 : Int) (U : Nat → Nat → Int) (R : Option am_V × am_M) (h : ∃ (r1 : Int) (U1 : Nat → Nat → Int), Ev (am_kz N X) (d, 303, 0, [some (.inr (.inr 26)), some (.inl x1), none, none], [], (am_sh, am_mm U)) (some (.inl r1), (am_sh, am_mm U1)) ∧ Ev (am_kz N X) ((d + 1), 256, 8, [some (.inr (.inr 26)), some (.inl x1), some (.inl r1), some (.inl 0)], [], (am_sh, am_mm U1)) R) : Ev (am_kz N X) ((d + 1), 256, 0, [some (.inr (.inr 26)), some (.inl x1), none, none], [], (am_sh, am_mm U)) R := by
  refine ev_seg (σ1 := ((d + 1), 256, 2, [some (.inr (.inr 26)), some (.inl x1), none, none], [.inl x1, .inr (.inr 26)], (am_sh, am_mm U))) 2 (fun _ => rfl) ?_
  obtain ⟨r1, U1, hc, ha⟩ := h
  refine ev_cal (σc := (d, 303, 0, [some (.inr (.inr 26)), some (.inl x1), none, none], [], (am_sh, am_mm U))) (fun _ => rfl) hc ?_
  show Ev (am_kz N X) ((d + 1), 256, 5, [some (.inr (.inr 26)), some (.inl x1), none, none], [.inl r1], (am_sh, am_mm U1)) R
  refine ev_seg (σ1 := ((d + 1), 256, 8, [some (.inr (.inr 26)), some (.inl x1), some (.inl r1), some (.inl 0)], [], (am_sh, am_mm U1))) 3 (fun _ => rfl) ?_
  exact ha
set_option maxRecDepth 8000 in
theorem st256_26_8 (N : Nat) (X : Nat → Int) (d : Nat) (x1 x2 x3 : Int) (U : Nat → Nat → Int) (R : Option am_V × am_M) (h : (((1600 ≤ x3 : Prop)) → (x2 = 0 ∨ x2 = 1) ∧ R = (some (.inl x2), (am_sh, am_mm U))) ∧ (¬ (1600 ≤ x3) → (((x2 = 0 : Prop)) → (x2 = 0 ∨ x2 = 1) ∧ R = (some (.inl x2), (am_sh, am_mm U))) ∧ (¬ (x2 = 0) → ∃ (r1 : Int) (U1 : Nat → Nat → Int), Ev (am_kz N X) (d, 301, 0, [some (.inr (.inr 26)), some (.inl 19)], [], (am_sh, am_mm U)) (some (.inl r1), (am_sh, am_mm U1)) ∧ (((r1 = 0 : Prop)) → (x2 = 0 ∨ x2 = 1) ∧ R = (some (.inl x2), (am_sh, am_mm U1))) ∧ (¬ (r1 = 0) → ∃ U2 : Nat → Nat → Int, Ev (am_kz N X) (d, 177, 0, [some (.inr (.inr 26))], [], (am_sh, am_mm U1)) (none, (am_sh, am_mm U2)) ∧ ∃ (r3 : Int) (U3 : Nat → Nat → Int), Ev (am_kz N X) (d, 303, 0, [some (.inr (.inr 26)), some (.inl x1), none, none], [], (am_sh, am_mm U2)) (some (.inl r3), (am_sh, am_mm U3)) ∧ (((r3 = 0 : Prop)) → Ev (am_kz N X) ((d + 1), 256, 8, [some (.inr (.inr 26)), some (.inl x1), some (.inl 0), some (.inl (w32 (x3 + 1)))], [], (am_sh, am_mm U3)) R) ∧ (¬ (r3 = 0) → ∃ (r4 : Int) (U4 : Nat → Nat → Int), Ev (am_kz N X) (d, 304, 0, [some (.inr (.inr 31)), some (.inl 19)], [], (am_sh, am_mm U3)) (some (.inl r4), (am_sh, am_mm U4)) ∧ (((r4 = 0 : Prop)) → Ev (am_kz N X) ((d + 1), 256, 8, [some (.inr (.inr 26)), some (.inl x1), some (.inl 0), some (.inl (w32 (x3 + 1)))], [], (am_sh, am_mm U4)) R) ∧ (¬ (r4 = 0) → Ev (am_kz N X) ((d + 1), 256, 8, [some (.inr (.inr 26)), some (.inl x1), some (.inl 1), some (.inl (w32 (x3 + 1)))], [], (am_sh, am_mm U4)) R)))))) : Ev (am_kz N X) ((d + 1), 256, 8, [some (.inr (.inr 26)), some (.inl x1), some (.inl x2), some (.inl x3)], [], (am_sh, am_mm U)) R := by
  refine ev_br (P := 1600 ≤ x3) (σ1 := ((d + 1), 256, 64, [some (.inr (.inr 26)), some (.inl x1), some (.inl x2), some (.inl x3)], [], (am_sh, am_mm U))) (σ2 := ((d + 1), 256, 15, [some (.inr (.inr 26)), some (.inl x1), some (.inl x2), some (.inl x3)], [], (am_sh, am_mm U))) 3 (fun _ => rfl) (fun hc => ?_) (fun hc => ?_)
  · have h1 := h.1 hc
    refine ev_seg (σ1 := ((d + 1), 256, 65, [some (.inr (.inr 26)), some (.inl x1), some (.inl x2), some (.inl x3)], [.inl x2], (am_sh, am_mm U))) 1 (fun _ => rfl) ?_
    rw [h1.2]
    exact ev_retz rfl rfl h1.1
  · have h2 := h.2 hc
    refine ev_br (P := x2 = 0) (σ1 := ((d + 1), 256, 64, [some (.inr (.inr 26)), some (.inl x1), some (.inl x2), some (.inl x3)], [], (am_sh, am_mm U))) (σ2 := ((d + 1), 256, 19, [some (.inr (.inr 26)), some (.inl x1), some (.inl x2), some (.inl x3)], [], (am_sh, am_mm U))) 2 (fun _ => rfl) (fun hc => ?_) (fun hc => ?_)
    · have h21 := h2.1 hc
      refine ev_seg (σ1 := ((d + 1), 256, 65, [some (.inr (.inr 26)), some (.inl x1), some (.inl x2), some (.inl x3)], [.inl x2], (am_sh, am_mm U))) 1 (fun _ => rfl) ?_
      rw [h21.2]
      exact ev_retz rfl rfl h21.1
    · have h22 := h2.2 hc
      refine ev_seg (σ1 := ((d + 1), 256, 22, [some (.inr (.inr 26)), some (.inl x1), some (.inl x2), some (.inl x3)], [.inl 19, .inr (.inr 26)], (am_sh, am_mm U))) 2 (fun _ => rfl) ?_
      obtain ⟨r1, U1, h22c, h22a⟩ := h22
      refine ev_cal (σc := (d, 301, 0, [some (.inr (.inr 26)), some (.inl 19)], [], (am_sh, am_mm U))) (fun _ => rfl) h22c ?_
      show Ev (am_kz N X) ((d + 1), 256, 25, [some (.inr (.inr 26)), some (.inl x1), some (.inl x2), some (.inl x3)], [.inl r1], (am_sh, am_mm U1)) R
      refine ev_br (P := r1 = 0) (σ1 := ((d + 1), 256, 64, [some (.inr (.inr 26)), some (.inl x1), some (.inl x2), some (.inl x3)], [], (am_sh, am_mm U1))) (σ2 := ((d + 1), 256, 28, [some (.inr (.inr 26)), some (.inl x1), some (.inl x2), some (.inl x3)], [], (am_sh, am_mm U1))) 1 (fun _ => rfl) (fun hc => ?_) (fun hc => ?_)
      · have h22a1 := h22a.1 hc
        refine ev_seg (σ1 := ((d + 1), 256, 65, [some (.inr (.inr 26)), some (.inl x1), some (.inl x2), some (.inl x3)], [.inl x2], (am_sh, am_mm U1))) 1 (fun _ => rfl) ?_
        rw [h22a1.2]
        exact ev_retz rfl rfl h22a1.1
      · have h22a2 := h22a.2 hc
        refine ev_seg (σ1 := ((d + 1), 256, 29, [some (.inr (.inr 26)), some (.inl x1), some (.inl x2), some (.inl x3)], [.inr (.inr 26)], (am_sh, am_mm U1))) 1 (fun _ => rfl) ?_
        obtain ⟨U2, h22a2c, h22a2a⟩ := h22a2
        refine ev_cal (σc := (d, 177, 0, [some (.inr (.inr 26))], [], (am_sh, am_mm U1))) (fun _ => rfl) h22a2c ?_
        show Ev (am_kz N X) ((d + 1), 256, 32, [some (.inr (.inr 26)), some (.inl x1), some (.inl x2), some (.inl x3)], [], (am_sh, am_mm U2)) R
        refine ev_seg (σ1 := ((d + 1), 256, 34, [some (.inr (.inr 26)), some (.inl x1), some (.inl x2), some (.inl x3)], [.inl x1, .inr (.inr 26)], (am_sh, am_mm U2))) 2 (fun _ => rfl) ?_
        obtain ⟨r3, U3, h22a2ac, h22a2aa⟩ := h22a2a
        refine ev_cal (σc := (d, 303, 0, [some (.inr (.inr 26)), some (.inl x1), none, none], [], (am_sh, am_mm U2))) (fun _ => rfl) h22a2ac ?_
        show Ev (am_kz N X) ((d + 1), 256, 37, [some (.inr (.inr 26)), some (.inl x1), some (.inl x2), some (.inl x3)], [.inl r3], (am_sh, am_mm U3)) R
        refine ev_br (P := r3 = 0) (σ1 := ((d + 1), 256, 56, [some (.inr (.inr 26)), some (.inl x1), some (.inl x2), some (.inl x3)], [], (am_sh, am_mm U3))) (σ2 := ((d + 1), 256, 40, [some (.inr (.inr 26)), some (.inl x1), some (.inl x2), some (.inl x3)], [], (am_sh, am_mm U3))) 1 (fun _ => rfl) (fun hc => ?_) (fun hc => ?_)
        · have h22a2aa1 := h22a2aa.1 hc
          refine ev_seg (σ1 := ((d + 1), 256, 8, [some (.inr (.inr 26)), some (.inl x1), some (.inl 0), some (.inl (w32 (x3 + 1)))], [], (am_sh, am_mm U3))) 4 (fun _ => rfl) ?_
          exact h22a2aa1
        · have h22a2aa2 := h22a2aa.2 hc
          refine ev_seg (σ1 := ((d + 1), 256, 46, [some (.inr (.inr 26)), some (.inl x1), some (.inl x2), some (.inl x3)], [.inl 19, .inr (.inr 31)], (am_sh, am_mm U3))) 3 (fun _ => rfl) ?_
          obtain ⟨r4, U4, h22a2aa2c, h22a2aa2a⟩ := h22a2aa2
          refine ev_cal (σc := (d, 304, 0, [some (.inr (.inr 31)), some (.inl 19)], [], (am_sh, am_mm U3))) (fun _ => rfl) h22a2aa2c ?_
          show Ev (am_kz N X) ((d + 1), 256, 49, [some (.inr (.inr 26)), some (.inl x1), some (.inl x2), some (.inl x3)], [.inl r4], (am_sh, am_mm U4)) R
          refine ev_br (P := r4 = 0) (σ1 := ((d + 1), 256, 56, [some (.inr (.inr 26)), some (.inl x1), some (.inl x2), some (.inl x3)], [], (am_sh, am_mm U4))) (σ2 := ((d + 1), 256, 52, [some (.inr (.inr 26)), some (.inl x1), some (.inl x2), some (.inl x3)], [], (am_sh, am_mm U4))) 1 (fun _ => rfl) (fun hc => ?_) (fun hc => ?_)
          · have h22a2aa2a1 := h22a2aa2a.1 hc
            refine ev_seg (σ1 := ((d + 1), 256, 8, [some (.inr (.inr 26)), some (.inl x1), some (.inl 0), some (.inl (w32 (x3 + 1)))], [], (am_sh, am_mm U4))) 4 (fun _ => rfl) ?_
            exact h22a2aa2a1
          · have h22a2aa2a2 := h22a2aa2a.2 hc
            refine ev_seg (σ1 := ((d + 1), 256, 8, [some (.inr (.inr 26)), some (.inl x1), some (.inl 1), some (.inl (w32 (x3 + 1)))], [], (am_sh, am_mm U4))) 5 (fun _ => rfl) ?_
            exact h22a2aa2a2
set_option maxRecDepth 8000 in
theorem st250_26_0 (N : Nat) (X : Nat → Int) (d : Nat) (x1 : Int) (U : Nat → Nat → Int) (R : Option am_V × am_M) (h : (x1 = 0 → ((((U 31 0) < 4 : Prop)) → R = (some (.inl 0), (am_sh, am_mm U))) ∧ (¬ ((U 31 0) < 4) → R = (some (.inl 1), (am_sh, am_mm U)))) ∧ (x1 = 1 → ((((U 31 1) < 12 : Prop)) → R = (some (.inl 0), (am_sh, am_mm U))) ∧ (¬ ((U 31 1) < 12) → R = (some (.inl 1), (am_sh, am_mm U)))) ∧ (x1 = 2 → R = (some (.inl 0), (am_sh, am_mm U))) ∧ (x1 = 3 → R = (some (.inl 0), (am_sh, am_mm U))) ∧ (x1 = 4 → ((((U 31 2) < 10 : Prop)) → R = (some (.inl 0), (am_sh, am_mm U))) ∧ (¬ ((U 31 2) < 10) → R = (some (.inl 1), (am_sh, am_mm U)))) ∧ (x1 = 5 → ((((U 21 0) < 16 : Prop)) → R = (some (.inl 0), (am_sh, am_mm U))) ∧ (¬ ((U 21 0) < 16) → R = (some (.inl 1), (am_sh, am_mm U)))) ∧ (x1 = 6 → R = (some (.inl 0), (am_sh, am_mm U))) ∧ (x1 = 7 → ((((U 31 4) < 8 : Prop)) → R = (some (.inl 0), (am_sh, am_mm U))) ∧ (¬ ((U 31 4) < 8) → R = (some (.inl 1), (am_sh, am_mm U)))) ∧ (x1 = 8 → R = (some (.inl 0), (am_sh, am_mm U))) ∧ (x1 = 9 → R = (some (.inl 0), (am_sh, am_mm U))) ∧ (x1 = 10 → R = (some (.inl 0), (am_sh, am_mm U))) ∧ (x1 = 11 → ∃ (r1 : Int) (U1 : Nat → Nat → Int), Ev (am_kz N X) (d, 133, 0, [some (.inr (.inr 31)), some (.inl 8)], [], (am_sh, am_mm U)) (some (.inl r1), (am_sh, am_mm U1)) ∧ (r1 = 0 ∨ r1 = 1) ∧ R = (some (.inl r1), (am_sh, am_mm U1))) ∧ (x1 = 12 → ((((U 31 3) < 16 : Prop)) → R = (some (.inl 0), (am_sh, am_mm U))) ∧ (¬ ((U 31 3) < 16) → R = (some (.inl 1), (am_sh, am_mm U)))) ∧ (¬ x1 = 0 ∧ ¬ x1 = 1 ∧ ¬ x1 = 2 ∧ ¬ x1 = 3 ∧ ¬ x1 = 4 ∧ ¬ x1 = 5 ∧ ¬ x1 = 6 ∧ ¬ x1 = 7 ∧ ¬ x1 = 8 ∧ ¬ x1 = 9 ∧ ¬ x1 = 10 ∧ ¬ x1 = 11 ∧ ¬ x1 = 12 → R = (some (.inl 0), (am_sh, am_mm U)))) : Ev (am_kz N X) ((d + 1), 250, 0, [some (.inr (.inr 26)), some (.inl x1)], [], (am_sh, am_mm U)) R := by
  refine ev_seg (σ1 := ((d + 1), 250, 1, [some (.inr (.inr 26)), some (.inl x1)], [.inl x1], (am_sh, am_mm U))) 1 (fun _ => rfl) ?_
  by_cases hc : x1 = 0
  · have hk0 := h.1 hc
    refine ev_sw (off := 67) rfl (by rw [hc]; rfl) (pt := 68) rfl ?_
    refine ev_br (P := (U 31 0) < 4) (σ1 := ((d + 1), 250, 83, [some (.inr (.inr 26)), some (.inl x1)], [], (am_sh, am_mm U))) (σ2 := ((d + 1), 250, 79, [some (.inr (.inr 26)), some (.inl x1)], [], (am_sh, am_mm U))) 5 (fun _ => rfl) (fun hc => ?_) (fun hc => ?_)
    · have hk01 := hk0.1 hc
      subst hk01
      exact ev_end 2 (fun _ => rfl)
    · have hk02 := hk0.2 hc
      subst hk02
      exact ev_end 3 (fun _ => rfl)
  have nh0 := hc
  clear hc
  by_cases hc : x1 = 1
  · have hk1 := h.2.1 hc
    refine ev_sw (off := 84) rfl (by rw [hc]; rfl) (pt := 85) rfl ?_
    refine ev_br (P := (U 31 1) < 12) (σ1 := ((d + 1), 250, 101, [some (.inr (.inr 26)), some (.inl x1)], [], (am_sh, am_mm U))) (σ2 := ((d + 1), 250, 97, [some (.inr (.inr 26)), some (.inl x1)], [], (am_sh, am_mm U))) 5 (fun _ => rfl) (fun hc => ?_) (fun hc => ?_)
    · have hk11 := hk1.1 hc
      subst hk11
      exact ev_end 2 (fun _ => rfl)
    · have hk12 := hk1.2 hc
      subst hk12
      exact ev_end 3 (fun _ => rfl)
  have nh1 := hc
  clear hc
  by_cases hc : x1 = 2
  · have hk2 := h.2.2.1 hc
    refine ev_sw (off := 184) rfl (by rw [hc]; rfl) (pt := 185) rfl ?_
    subst hk2
    exact ev_end 2 (fun _ => rfl)
  have nh2 := hc
  clear hc
  by_cases hc : x1 = 3
  · have hk3 := h.2.2.2.1 hc
    refine ev_sw (off := 184) rfl (by rw [hc]; rfl) (pt := 185) rfl ?_
    subst hk3
    exact ev_end 2 (fun _ => rfl)
  have nh3 := hc
  clear hc
  by_cases hc : x1 = 4
  · have hk4 := h.2.2.2.2.1 hc
    refine ev_sw (off := 102) rfl (by rw [hc]; rfl) (pt := 103) rfl ?_
    refine ev_br (P := (U 31 2) < 10) (σ1 := ((d + 1), 250, 119, [some (.inr (.inr 26)), some (.inl x1)], [], (am_sh, am_mm U))) (σ2 := ((d + 1), 250, 115, [some (.inr (.inr 26)), some (.inl x1)], [], (am_sh, am_mm U))) 5 (fun _ => rfl) (fun hc => ?_) (fun hc => ?_)
    · have hk41 := hk4.1 hc
      subst hk41
      exact ev_end 2 (fun _ => rfl)
    · have hk42 := hk4.2 hc
      subst hk42
      exact ev_end 3 (fun _ => rfl)
  have nh4 := hc
  clear hc
  by_cases hc : x1 = 5
  · have hk5 := h.2.2.2.2.2.1 hc
    refine ev_sw (off := 120) rfl (by rw [hc]; rfl) (pt := 121) rfl ?_
    refine ev_br (P := (U 21 0) < 16) (σ1 := ((d + 1), 250, 137, [some (.inr (.inr 26)), some (.inl x1)], [], (am_sh, am_mm U))) (σ2 := ((d + 1), 250, 133, [some (.inr (.inr 26)), some (.inl x1)], [], (am_sh, am_mm U))) 5 (fun _ => rfl) (fun hc => ?_) (fun hc => ?_)
    · have hk51 := hk5.1 hc
      subst hk51
      exact ev_end 2 (fun _ => rfl)
    · have hk52 := hk5.2 hc
      subst hk52
      exact ev_end 3 (fun _ => rfl)
  have nh5 := hc
  clear hc
  by_cases hc : x1 = 6
  · have hk6 := h.2.2.2.2.2.2.1 hc
    refine ev_sw (off := 184) rfl (by rw [hc]; rfl) (pt := 185) rfl ?_
    subst hk6
    exact ev_end 2 (fun _ => rfl)
  have nh6 := hc
  clear hc
  by_cases hc : x1 = 7
  · have hk7 := h.2.2.2.2.2.2.2.1 hc
    refine ev_sw (off := 138) rfl (by rw [hc]; rfl) (pt := 139) rfl ?_
    refine ev_br (P := (U 31 4) < 8) (σ1 := ((d + 1), 250, 155, [some (.inr (.inr 26)), some (.inl x1)], [], (am_sh, am_mm U))) (σ2 := ((d + 1), 250, 151, [some (.inr (.inr 26)), some (.inl x1)], [], (am_sh, am_mm U))) 5 (fun _ => rfl) (fun hc => ?_) (fun hc => ?_)
    · have hk71 := hk7.1 hc
      subst hk71
      exact ev_end 2 (fun _ => rfl)
    · have hk72 := hk7.2 hc
      subst hk72
      exact ev_end 3 (fun _ => rfl)
  have nh7 := hc
  clear hc
  by_cases hc : x1 = 8
  · have hk8 := h.2.2.2.2.2.2.2.2.1 hc
    refine ev_sw (off := 184) rfl (by rw [hc]; rfl) (pt := 185) rfl ?_
    subst hk8
    exact ev_end 2 (fun _ => rfl)
  have nh8 := hc
  clear hc
  by_cases hc : x1 = 9
  · have hk9 := h.2.2.2.2.2.2.2.2.2.1 hc
    refine ev_sw (off := 184) rfl (by rw [hc]; rfl) (pt := 185) rfl ?_
    subst hk9
    exact ev_end 2 (fun _ => rfl)
  have nh9 := hc
  clear hc
  by_cases hc : x1 = 10
  · have hk10 := h.2.2.2.2.2.2.2.2.2.2.1 hc
    refine ev_sw (off := 184) rfl (by rw [hc]; rfl) (pt := 185) rfl ?_
    subst hk10
    exact ev_end 2 (fun _ => rfl)
  have nh10 := hc
  clear hc
  by_cases hc : x1 = 11
  · have hk11 := h.2.2.2.2.2.2.2.2.2.2.2.1 hc
    refine ev_sw (off := 156) rfl (by rw [hc]; rfl) (pt := 157) rfl ?_
    refine ev_seg (σ1 := ((d + 1), 250, 163, [some (.inr (.inr 26)), some (.inl x1)], [.inl 8, .inr (.inr 31)], (am_sh, am_mm U))) 3 (fun _ => rfl) ?_
    obtain ⟨r1, U1, hk11c, hk11a⟩ := hk11
    refine ev_cal (σc := (d, 133, 0, [some (.inr (.inr 31)), some (.inl 8)], [], (am_sh, am_mm U))) (fun _ => rfl) hk11c ?_
    show Ev (am_kz N X) ((d + 1), 250, 166, [some (.inr (.inr 26)), some (.inl x1)], [.inl r1], (am_sh, am_mm U1)) R
    rw [hk11a.2]
    exact ev_retz rfl rfl hk11a.1
  have nh11 := hc
  clear hc
  by_cases hc : x1 = 12
  · have hk12 := h.2.2.2.2.2.2.2.2.2.2.2.2.1 hc
    refine ev_sw (off := 166) rfl (by rw [hc]; rfl) (pt := 167) rfl ?_
    refine ev_br (P := (U 31 3) < 16) (σ1 := ((d + 1), 250, 183, [some (.inr (.inr 26)), some (.inl x1)], [], (am_sh, am_mm U))) (σ2 := ((d + 1), 250, 179, [some (.inr (.inr 26)), some (.inl x1)], [], (am_sh, am_mm U))) 5 (fun _ => rfl) (fun hc => ?_) (fun hc => ?_)
    · have hk121 := hk12.1 hc
      subst hk121
      exact ev_end 2 (fun _ => rfl)
    · have hk122 := hk12.2 hc
      subst hk122
      exact ev_end 3 (fun _ => rfl)
  have nh12 := hc
  clear hc
  have hkd := h.2.2.2.2.2.2.2.2.2.2.2.2.2 ⟨nh0, nh1, nh2, nh3, nh4, nh5, nh6, nh7, nh8, nh9, nh10, nh11, nh12⟩
  refine ev_sw (off := 184) rfl (if_pos (by omega)) (pt := 185) rfl ?_
  subst hkd
  exact ev_end 2 (fun _ => rfl)
set_option maxRecDepth 8000 in
theorem st260_26_0 (N : Nat) (X : Nat → Int) (d : Nat) (U : Nat → Nat → Int) (R : Option am_V × am_M) (h : ∃ U1 : Nat → Nat → Int, Ev (am_kz N X) (d, 177, 0, [some (.inr (.inr 26))], [], (am_sh, am_mm U)) (none, (am_sh, am_mm U1)) ∧ ∃ (r2 : Int) (U2 : Nat → Nat → Int), Ev (am_kz N X) (d, 298, 0, [some (.inr (.inr 26)), some (.inl 0), none], [], (am_sh, am_mm U1)) (some (.inl r2), (am_sh, am_mm U2)) ∧ (((0 ≤ r2 : Prop)) → ∃ (r3 : Int) (U3 : Nat → Nat → Int), Ev (am_kz N X) (d, 298, 0, [some (.inr (.inr 26)), some (.inl (am_shl 1 r2)), none], [], (am_sh, am_mm U2)) (some (.inl r3), (am_sh, am_mm U3)) ∧ (((0 ≤ r3 : Prop)) → ∃ (r4 : Int) (U4 : Nat → Nat → Int), Ev (am_kz N X) (d, 296, 0, [some (.inr (.inr 26)), some (.inl 1), some (.inl 9999), none], [], (am_sh, am_mm U3)) (some (.inl r4), (am_sh, am_mm U4)) ∧ (((0 ≤ r4 : Prop)) → ∃ U5 : Nat → Nat → Int, Ev (am_kz N X) (d, 305, 0, [some (.inr (.inr 31)), some (.inl r2), some (.inl r3), some (.inl r4)], [], (am_sh, am_mm U4)) (none, (am_sh, am_mm U5)) ∧ R = (some (.inl 1), (am_sh, am_mm U5))) ∧ (¬ (0 ≤ r4) → R = (some (.inl 0), (am_sh, am_mm U4)))) ∧ (¬ (0 ≤ r3) → R = (some (.inl 0), (am_sh, am_mm U3)))) ∧ (¬ (0 ≤ r2) → R = (some (.inl 0), (am_sh, am_mm U2)))) : Ev (am_kz N X) ((d + 1), 260, 0, [some (.inr (.inr 26)), none, none, none], [], (am_sh, am_mm U)) R := by
  refine ev_seg (σ1 := ((d + 1), 260, 1, [some (.inr (.inr 26)), none, none, none], [.inr (.inr 26)], (am_sh, am_mm U))) 1 (fun _ => rfl) ?_
  obtain ⟨U1, hc, ha⟩ := h
  refine ev_cal (σc := (d, 177, 0, [some (.inr (.inr 26))], [], (am_sh, am_mm U))) (fun _ => rfl) hc ?_
  show Ev (am_kz N X) ((d + 1), 260, 4, [some (.inr (.inr 26)), none, none, none], [], (am_sh, am_mm U1)) R
  refine ev_seg (σ1 := ((d + 1), 260, 6, [some (.inr (.inr 26)), none, none, none], [.inl 0, .inr (.inr 26)], (am_sh, am_mm U1))) 2 (fun _ => rfl) ?_
  obtain ⟨r2, U2, hac, haa⟩ := ha
  refine ev_cal (σc := (d, 298, 0, [some (.inr (.inr 26)), some (.inl 0), none], [], (am_sh, am_mm U1))) (fun _ => rfl) hac ?_
  show Ev (am_kz N X) ((d + 1), 260, 9, [some (.inr (.inr 26)), none, none, none], [.inl r2], (am_sh, am_mm U2)) R
  refine ev_br (P := 0 ≤ r2) (σ1 := ((d + 1), 260, 16, [some (.inr (.inr 26)), some (.inl r2), none, none], [], (am_sh, am_mm U2))) (σ2 := ((d + 1), 260, 14, [some (.inr (.inr 26)), some (.inl r2), none, none], [], (am_sh, am_mm U2))) 3 (fun _ => rfl) (fun hc => ?_) (fun hc => ?_)
  · have haa1 := haa.1 hc
    refine ev_seg (σ1 := ((d + 1), 260, 20, [some (.inr (.inr 26)), some (.inl r2), none, none], [.inl (am_shl 1 r2), .inr (.inr 26)], (am_sh, am_mm U2))) 4 (fun _ => rfl) ?_
    obtain ⟨r3, U3, haa1c, haa1a⟩ := haa1
    refine ev_cal (σc := (d, 298, 0, [some (.inr (.inr 26)), some (.inl (am_shl 1 r2)), none], [], (am_sh, am_mm U2))) (fun _ => rfl) haa1c ?_
    show Ev (am_kz N X) ((d + 1), 260, 23, [some (.inr (.inr 26)), some (.inl r2), none, none], [.inl r3], (am_sh, am_mm U3)) R
    refine ev_br (P := 0 ≤ r3) (σ1 := ((d + 1), 260, 30, [some (.inr (.inr 26)), some (.inl r2), some (.inl r3), none], [], (am_sh, am_mm U3))) (σ2 := ((d + 1), 260, 28, [some (.inr (.inr 26)), some (.inl r2), some (.inl r3), none], [], (am_sh, am_mm U3))) 3 (fun _ => rfl) (fun hc => ?_) (fun hc => ?_)
    · have haa1a1 := haa1a.1 hc
      refine ev_seg (σ1 := ((d + 1), 260, 35, [some (.inr (.inr 26)), some (.inl r2), some (.inl r3), none], [.inl 9999, .inl 1, .inr (.inr 26)], (am_sh, am_mm U3))) 3 (fun _ => rfl) ?_
      obtain ⟨r4, U4, haa1a1c, haa1a1a⟩ := haa1a1
      refine ev_cal (σc := (d, 296, 0, [some (.inr (.inr 26)), some (.inl 1), some (.inl 9999), none], [], (am_sh, am_mm U3))) (fun _ => rfl) haa1a1c ?_
      show Ev (am_kz N X) ((d + 1), 260, 38, [some (.inr (.inr 26)), some (.inl r2), some (.inl r3), none], [.inl r4], (am_sh, am_mm U4)) R
      refine ev_br (P := 0 ≤ r4) (σ1 := ((d + 1), 260, 45, [some (.inr (.inr 26)), some (.inl r2), some (.inl r3), some (.inl r4)], [], (am_sh, am_mm U4))) (σ2 := ((d + 1), 260, 43, [some (.inr (.inr 26)), some (.inl r2), some (.inl r3), some (.inl r4)], [], (am_sh, am_mm U4))) 3 (fun _ => rfl) (fun hc => ?_) (fun hc => ?_)
      · have haa1a1a1 := haa1a1a.1 hc
        refine ev_seg (σ1 := ((d + 1), 260, 52, [some (.inr (.inr 26)), some (.inl r2), some (.inl r3), some (.inl r4)], [.inl r4, .inl r3, .inl r2, .inr (.inr 31)], (am_sh, am_mm U4))) 5 (fun _ => rfl) ?_
        obtain ⟨U5, haa1a1a1c, haa1a1a1a⟩ := haa1a1a1
        refine ev_cal (σc := (d, 305, 0, [some (.inr (.inr 31)), some (.inl r2), some (.inl r3), some (.inl r4)], [], (am_sh, am_mm U4))) (fun _ => rfl) haa1a1a1c ?_
        show Ev (am_kz N X) ((d + 1), 260, 55, [some (.inr (.inr 26)), some (.inl r2), some (.inl r3), some (.inl r4)], [], (am_sh, am_mm U5)) R
        subst haa1a1a1a
        exact ev_end 2 (fun _ => rfl)
      · have haa1a1a2 := haa1a1a.2 hc
        subst haa1a1a2
        exact ev_end 2 (fun _ => rfl)
    · have haa1a2 := haa1a.2 hc
      subst haa1a2
      exact ev_end 2 (fun _ => rfl)
  · have haa2 := haa.2 hc
    subst haa2
    exact ev_end 2 (fun _ => rfl)
set_option maxRecDepth 8000 in
theorem st248_27_0 (N : Nat) (X : Nat → Int) (d : Nat) (x1 x2 x3 : Int) (U : Nat → Nat → Int) (R : Option am_V × am_M) (h : (((1601 ≤ (U 27 3) : Prop)) → R = (none, (am_sh, am_mm U))) ∧ (¬ (1601 ≤ (U 27 3)) → (0 ≤ (U 27 3) ∧ (U 27 3) < 1601) ∧ (0 ≤ ((am_upd U 28 (U 27 3).toNat x1) 27 3) ∧ ((am_upd U 28 (U 27 3).toNat x1) 27 3) < 1601) ∧ (0 ≤ ((am_upd (am_upd U 28 (U 27 3).toNat x1) 29 ((am_upd U 28 (U 27 3).toNat x1) 27 3).toNat x2) 27 3) ∧ ((am_upd (am_upd U 28 (U 27 3).toNat x1) 29 ((am_upd U 28 (U 27 3).toNat x1) 27 3).toNat x2) 27 3) < 1601) ∧ R = (none, (am_sh, am_mm (am_upd (am_upd (am_upd (am_upd U 28 (U 27 3).toNat x1) 29 ((am_upd U 28 (U 27 3).toNat x1) 27 3).toNat x2) 30 ((am_upd (am_upd U 28 (U 27 3).toNat x1) 29 ((am_upd U 28 (U 27 3).toNat x1) 27 3).toNat x2) 27 3).toNat x3) 27 3 (w32 (((am_upd (am_upd (am_upd U 28 (U 27 3).toNat x1) 29 ((am_upd U 28 (U 27 3).toNat x1) 27 3).toNat x2) 30 ((am_upd (am_upd U 28 (U 27 3).toNat x1) 29 ((am_upd U 28 (U 27 3).toNat x1) 27 3).toNat x2) 27 3).toNat x3) 27 3) + 1))))))) : Ev (am_kz N X) (d, 248, 0, [some (.inr (.inr 27)), some (.inl x1), some (.inl x2), some (.inl x3)], [], (am_sh, am_mm U)) R := by
  refine ev_br (P := 1601 ≤ (U 27 3)) (σ1 := (d, 248, 52, [some (.inr (.inr 27)), some (.inl x1), some (.inl x2), some (.inl x3)], [], (am_sh, am_mm U))) (σ2 := (d, 248, 12, [some (.inr (.inr 27)), some (.inl x1), some (.inl x2), some (.inl x3)], [], (am_sh, am_mm U))) 6 (fun _ => rfl) (fun hc => ?_) (fun hc => ?_)
  · have h1 := h.1 hc
    subst h1
    exact ev_end 1 (fun _ => rfl)
  · have h2 := h.2 hc
    refine ev_seg (σ1 := (d, 248, 21, [some (.inr (.inr 27)), some (.inl x1), some (.inl x2), some (.inl x3)], [.inl x1, .inl (U 27 3), .inr (.inr 28)], (am_sh, am_mm U))) 5 (fun _ => rfl) ?_
    refine eu_iast 28 (n := 1601) rfl (by decide) rfl (fun _ => rfl) h2.1 ?_
    have h2a := h2.2
    refine ev_seg (σ1 := (d, 248, 31, [some (.inr (.inr 27)), some (.inl x1), some (.inl x2), some (.inl x3)], [.inl x2, .inl ((am_upd U 28 (U 27 3).toNat x1) 27 3), .inr (.inr 29)], (am_sh, am_mm (am_upd U 28 (U 27 3).toNat x1)))) 5 (fun _ => rfl) ?_
    refine eu_iast 29 (n := 1601) rfl (by decide) rfl (fun _ => rfl) h2a.1 ?_
    have h2aa := h2a.2
    refine ev_seg (σ1 := (d, 248, 41, [some (.inr (.inr 27)), some (.inl x1), some (.inl x2), some (.inl x3)], [.inl x3, .inl ((am_upd (am_upd U 28 (U 27 3).toNat x1) 29 ((am_upd U 28 (U 27 3).toNat x1) 27 3).toNat x2) 27 3), .inr (.inr 30)], (am_sh, am_mm (am_upd (am_upd U 28 (U 27 3).toNat x1) 29 ((am_upd U 28 (U 27 3).toNat x1) 27 3).toNat x2)))) 5 (fun _ => rfl) ?_
    refine eu_iast 30 (n := 1601) rfl (by decide) rfl (fun _ => rfl) h2aa.1 ?_
    have h2aaa := h2aa.2
    refine ev_seg (σ1 := (d, 248, 49, [some (.inr (.inr 27)), some (.inl x1), some (.inl x2), some (.inl x3)], [.inl (w32 (((am_upd (am_upd (am_upd U 28 (U 27 3).toNat x1) 29 ((am_upd U 28 (U 27 3).toNat x1) 27 3).toNat x2) 30 ((am_upd (am_upd U 28 (U 27 3).toNat x1) 29 ((am_upd U 28 (U 27 3).toNat x1) 27 3).toNat x2) 27 3).toNat x3) 27 3) + 1)), .inr (.inr 27)], (am_sh, am_mm (am_upd (am_upd (am_upd U 28 (U 27 3).toNat x1) 29 ((am_upd U 28 (U 27 3).toNat x1) 27 3).toNat x2) 30 ((am_upd (am_upd U 28 (U 27 3).toNat x1) 29 ((am_upd U 28 (U 27 3).toNat x1) 27 3).toNat x2) 27 3).toNat x3)))) 5 (fun _ => rfl) ?_
    refine eu_puti 27 (n := 6) rfl (by decide) rfl rfl ?_
    subst h2aaa
    exact ev_end 1 (fun _ => rfl)
set_option maxRecDepth 8000 in
theorem st247_27_2_0 (N : Nat) (X : Nat → Int) (d : Nat) (x2 x3 : Int) (U : Nat → Nat → Int) (R : Option am_V × am_M) (h : (0 ≤ x3 ∧ x3 < 1600) ∧ ((((U 2 x3.toNat) = 10 : Prop)) → R = (some (.inl (w32 (x3 + 1))), (am_sh, am_mm U))) ∧ (¬ ((U 2 x3.toNat) = 10) → (((¬ (U 2 x3.toNat) = 32 : Prop)) → ∃ (r1 : Int) (U1 : Nat → Nat → Int), Ev (am_kz N X) (d, 287, 0, [some (.inl (U 2 x3.toNat))], [], (am_sh, am_mm U)) (some (.inl r1), (am_sh, am_mm U1)) ∧ (((¬ r1 = 0 : Prop)) → ∃ (r2 : Int) (U2 : Nat → Nat → Int), Ev (am_kz N X) (d, 287, 0, [some (.inl (U 2 x3.toNat))], [], (am_sh, am_mm U1)) (some (.inl r2), (am_sh, am_mm U2)) ∧ ∃ (r3 : Int) (U3 : Nat → Nat → Int), Ev (am_kz N X) (d, 289, 0, [some (.inr (.inr 27)), some (.inr (.inr 2)), some (.inl x2), some (.inl x3), some (.inl r2), none, none, none], [], (am_sh, am_mm U2)) (some (.inl r3), (am_sh, am_mm U3)) ∧ R = (some (.inl r3), (am_sh, am_mm U3))) ∧ (¬ (¬ r1 = 0) → ∃ (r4 : Int) (U4 : Nat → Nat → Int), Ev (am_kz N X) (d, 288, 0, [some (.inl (U 2 x3.toNat))], [], (am_sh, am_mm U1)) (some (.inl r4), (am_sh, am_mm U4)) ∧ (((r4 = 0 : Prop)) → ∃ (r5 : Int) (U5 : Nat → Nat → Int), Ev (am_kz N X) (d, 290, 0, [some (.inr (.inr (-2))), some (.inl (((Int32.ofInt (U 2 x3.toNat)).toUInt32 % 65536).toInt32.toInt))], [], (am_sh, am_mm U4)) (some (.inl r5), (am_sh, am_mm U5)) ∧ (((0 ≤ r5 : Prop)) → ∃ U6 : Nat → Nat → Int, Ev (am_kz N X) (d, 248, 0, [some (.inr (.inr 27)), some (.inl 4), some (.inl (U 2 x3.toNat)), some (.inl x3)], [], (am_sh, am_mm U5)) (none, (am_sh, am_mm U6)) ∧ R = (some (.inl (w32 (x3 + 1))), (am_sh, am_mm U6))) ∧ (¬ (0 ≤ r5) → ∃ (r7 : Int) (U7 : Nat → Nat → Int), Ev (am_kz N X) (d, 291, 0, [some (.inr (.inr 27)), some (.inl x3), some (.inl x3), some (.inl x2)], [], (am_sh, am_mm U5)) (some (.inl r7), (am_sh, am_mm U7)) ∧ R = (some (.inl r7), (am_sh, am_mm U7)))) ∧ (¬ (r4 = 0) → ∃ (r8 : Int) (U8 : Nat → Nat → Int), Ev (am_kz N X) (d, 287, 0, [some (.inl (U 2 x3.toNat))], [], (am_sh, am_mm U4)) (some (.inl r8), (am_sh, am_mm U8)) ∧ ∃ (r9 : Int) (U9 : Nat → Nat → Int), Ev (am_kz N X) (d, 289, 0, [some (.inr (.inr 27)), some (.inr (.inr 2)), some (.inl x2), some (.inl x3), some (.inl r8), none, none, none], [], (am_sh, am_mm U8)) (some (.inl r9), (am_sh, am_mm U9)) ∧ R = (some (.inl r9), (am_sh, am_mm U9))))) ∧ (¬ (¬ (U 2 x3.toNat) = 32) → R = (some (.inl (w32 (x3 + 1))), (am_sh, am_mm U))))) : Ev (am_kz N X) ((d + 1), 247, 0, [some (.inr (.inr 27)), some (.inr (.inr 2)), some (.inl x2), some (.inl x3), none], [], (am_sh, am_mm U)) R := by
  refine ev_seg (σ1 := ((d + 1), 247, 2, [some (.inr (.inr 27)), some (.inr (.inr 2)), some (.inl x2), some (.inl x3), none], [.inl x3, .inr (.inr 2)], (am_sh, am_mm U))) 2 (fun _ => rfl) ?_
  refine eu_iald 2 (n := 1600) rfl (by decide) rfl (fun _ => rfl) h.1 ?_
  have ha := h.2
  refine ev_br (P := (U 2 x3.toNat) = 10) (σ1 := ((d + 1), 247, 19, [some (.inr (.inr 27)), some (.inr (.inr 2)), some (.inl x2), some (.inl x3), some (.inl (U 2 x3.toNat))], [], (am_sh, am_mm U))) (σ2 := ((d + 1), 247, 12, [some (.inr (.inr 27)), some (.inr (.inr 2)), some (.inl x2), some (.inl x3), some (.inl (U 2 x3.toNat))], [], (am_sh, am_mm U))) 4 (fun _ => rfl) (fun hc => ?_) (fun hc => ?_)
  · have ha1 := ha.1 hc
    subst ha1
    exact ev_end 4 (fun _ => rfl)
  · have ha2 := ha.2 hc
    refine ev_br (P := ¬ (U 2 x3.toNat) = 32) (σ1 := ((d + 1), 247, 23, [some (.inr (.inr 27)), some (.inr (.inr 2)), some (.inl x2), some (.inl x3), some (.inl (U 2 x3.toNat))], [], (am_sh, am_mm U))) (σ2 := ((d + 1), 247, 19, [some (.inr (.inr 27)), some (.inr (.inr 2)), some (.inl x2), some (.inl x3), some (.inl (U 2 x3.toNat))], [], (am_sh, am_mm U))) 3 (fun _ => rfl) (fun hc => ?_) (fun hc => ?_)
    · have ha21 := ha2.1 hc
      refine ev_seg (σ1 := ((d + 1), 247, 25, [some (.inr (.inr 27)), some (.inr (.inr 2)), some (.inl x2), some (.inl x3), some (.inl (U 2 x3.toNat))], [.inl (U 2 x3.toNat)], (am_sh, am_mm U))) 1 (fun _ => rfl) ?_
      obtain ⟨r1, U1, ha21c, ha21a⟩ := ha21
      refine ev_cal (σc := (d, 287, 0, [some (.inl (U 2 x3.toNat))], [], (am_sh, am_mm U))) (fun _ => rfl) ha21c ?_
      show Ev (am_kz N X) ((d + 1), 247, 28, [some (.inr (.inr 27)), some (.inr (.inr 2)), some (.inl x2), some (.inl x3), some (.inl (U 2 x3.toNat))], [.inl r1], (am_sh, am_mm U1)) R
      refine ev_br (P := ¬ r1 = 0) (σ1 := ((d + 1), 247, 39, [some (.inr (.inr 27)), some (.inr (.inr 2)), some (.inl x2), some (.inl x3), some (.inl (U 2 x3.toNat))], [], (am_sh, am_mm U1))) (σ2 := ((d + 1), 247, 31, [some (.inr (.inr 27)), some (.inr (.inr 2)), some (.inl x2), some (.inl x3), some (.inl (U 2 x3.toNat))], [], (am_sh, am_mm U1))) 1 (fun _ => rfl) (fun hc => ?_) (fun hc => ?_)
      · have ha21a1 := ha21a.1 hc
        refine ev_seg (σ1 := ((d + 1), 247, 45, [some (.inr (.inr 27)), some (.inr (.inr 2)), some (.inl x2), some (.inl x3), some (.inl (U 2 x3.toNat))], [.inl (U 2 x3.toNat), .inl x3, .inl x2, .inr (.inr 2), .inr (.inr 27)], (am_sh, am_mm U1))) 5 (fun _ => rfl) ?_
        obtain ⟨r2, U2, ha21a1c, ha21a1a⟩ := ha21a1
        refine ev_cal (σc := (d, 287, 0, [some (.inl (U 2 x3.toNat))], [], (am_sh, am_mm U1))) (fun _ => rfl) ha21a1c ?_
        show Ev (am_kz N X) ((d + 1), 247, 48, [some (.inr (.inr 27)), some (.inr (.inr 2)), some (.inl x2), some (.inl x3), some (.inl (U 2 x3.toNat))], [.inl r2, .inl x3, .inl x2, .inr (.inr 2), .inr (.inr 27)], (am_sh, am_mm U2)) R
        obtain ⟨r3, U3, ha21a1ac, ha21a1aa⟩ := ha21a1a
        refine ev_cal (σc := (d, 289, 0, [some (.inr (.inr 27)), some (.inr (.inr 2)), some (.inl x2), some (.inl x3), some (.inl r2), none, none, none], [], (am_sh, am_mm U2))) (fun _ => rfl) ha21a1ac ?_
        show Ev (am_kz N X) ((d + 1), 247, 51, [some (.inr (.inr 27)), some (.inr (.inr 2)), some (.inl x2), some (.inl x3), some (.inl (U 2 x3.toNat))], [.inl r3], (am_sh, am_mm U3)) R
        subst ha21a1aa
        exact ev_end 1 (fun _ => rfl)
      · have ha21a2 := ha21a.2 hc
        refine ev_seg (σ1 := ((d + 1), 247, 33, [some (.inr (.inr 27)), some (.inr (.inr 2)), some (.inl x2), some (.inl x3), some (.inl (U 2 x3.toNat))], [.inl (U 2 x3.toNat)], (am_sh, am_mm U1))) 1 (fun _ => rfl) ?_
        obtain ⟨r4, U4, ha21a2c, ha21a2a⟩ := ha21a2
        refine ev_cal (σc := (d, 288, 0, [some (.inl (U 2 x3.toNat))], [], (am_sh, am_mm U1))) (fun _ => rfl) ha21a2c ?_
        show Ev (am_kz N X) ((d + 1), 247, 36, [some (.inr (.inr 27)), some (.inr (.inr 2)), some (.inl x2), some (.inl x3), some (.inl (U 2 x3.toNat))], [.inl r4], (am_sh, am_mm U4)) R
        refine ev_br (P := r4 = 0) (σ1 := ((d + 1), 247, 52, [some (.inr (.inr 27)), some (.inr (.inr 2)), some (.inl x2), some (.inl x3), some (.inl (U 2 x3.toNat))], [], (am_sh, am_mm U4))) (σ2 := ((d + 1), 247, 39, [some (.inr (.inr 27)), some (.inr (.inr 2)), some (.inl x2), some (.inl x3), some (.inl (U 2 x3.toNat))], [], (am_sh, am_mm U4))) 1 (fun _ => rfl) (fun hc => ?_) (fun hc => ?_)
        · have ha21a2a1 := ha21a2a.1 hc
          refine ev_seg (σ1 := ((d + 1), 247, 57, [some (.inr (.inr 27)), some (.inr (.inr 2)), some (.inl x2), some (.inl x3), some (.inl (U 2 x3.toNat))], [.inl (((Int32.ofInt (U 2 x3.toNat)).toUInt32 % 65536).toInt32.toInt), .inr (.inr (-2))], (am_sh, am_mm U4))) 3 (fun _ => rfl) ?_
          obtain ⟨r5, U5, ha21a2a1c, ha21a2a1a⟩ := ha21a2a1
          refine ev_cal (σc := (d, 290, 0, [some (.inr (.inr (-2))), some (.inl (((Int32.ofInt (U 2 x3.toNat)).toUInt32 % 65536).toInt32.toInt))], [], (am_sh, am_mm U4))) (fun _ => rfl) ha21a2a1c ?_
          show Ev (am_kz N X) ((d + 1), 247, 60, [some (.inr (.inr 27)), some (.inr (.inr 2)), some (.inl x2), some (.inl x3), some (.inl (U 2 x3.toNat))], [.inl r5], (am_sh, am_mm U5)) R
          refine ev_br (P := 0 ≤ r5) (σ1 := ((d + 1), 247, 71, [some (.inr (.inr 27)), some (.inr (.inr 2)), some (.inl x2), some (.inl x3), some (.inl (U 2 x3.toNat))], [], (am_sh, am_mm U5))) (σ2 := ((d + 1), 247, 63, [some (.inr (.inr 27)), some (.inr (.inr 2)), some (.inl x2), some (.inl x3), some (.inl (U 2 x3.toNat))], [], (am_sh, am_mm U5))) 1 (fun _ => rfl) (fun hc => ?_) (fun hc => ?_)
          · have ha21a2a1a1 := ha21a2a1a.1 hc
            refine ev_seg (σ1 := ((d + 1), 247, 76, [some (.inr (.inr 27)), some (.inr (.inr 2)), some (.inl x2), some (.inl x3), some (.inl (U 2 x3.toNat))], [.inl x3, .inl (U 2 x3.toNat), .inl 4, .inr (.inr 27)], (am_sh, am_mm U5))) 4 (fun _ => rfl) ?_
            obtain ⟨U6, ha21a2a1a1c, ha21a2a1a1a⟩ := ha21a2a1a1
            refine ev_cal (σc := (d, 248, 0, [some (.inr (.inr 27)), some (.inl 4), some (.inl (U 2 x3.toNat)), some (.inl x3)], [], (am_sh, am_mm U5))) (fun _ => rfl) ha21a2a1a1c ?_
            show Ev (am_kz N X) ((d + 1), 247, 79, [some (.inr (.inr 27)), some (.inr (.inr 2)), some (.inl x2), some (.inl x3), some (.inl (U 2 x3.toNat))], [], (am_sh, am_mm U6)) R
            subst ha21a2a1a1a
            exact ev_end 4 (fun _ => rfl)
          · have ha21a2a1a2 := ha21a2a1a.2 hc
            refine ev_seg (σ1 := ((d + 1), 247, 67, [some (.inr (.inr 27)), some (.inr (.inr 2)), some (.inl x2), some (.inl x3), some (.inl (U 2 x3.toNat))], [.inl x2, .inl x3, .inl x3, .inr (.inr 27)], (am_sh, am_mm U5))) 4 (fun _ => rfl) ?_
            obtain ⟨r7, U7, ha21a2a1a2c, ha21a2a1a2a⟩ := ha21a2a1a2
            refine ev_cal (σc := (d, 291, 0, [some (.inr (.inr 27)), some (.inl x3), some (.inl x3), some (.inl x2)], [], (am_sh, am_mm U5))) (fun _ => rfl) ha21a2a1a2c ?_
            show Ev (am_kz N X) ((d + 1), 247, 70, [some (.inr (.inr 27)), some (.inr (.inr 2)), some (.inl x2), some (.inl x3), some (.inl (U 2 x3.toNat))], [.inl r7], (am_sh, am_mm U7)) R
            subst ha21a2a1a2a
            exact ev_end 1 (fun _ => rfl)
        · have ha21a2a2 := ha21a2a.2 hc
          refine ev_seg (σ1 := ((d + 1), 247, 45, [some (.inr (.inr 27)), some (.inr (.inr 2)), some (.inl x2), some (.inl x3), some (.inl (U 2 x3.toNat))], [.inl (U 2 x3.toNat), .inl x3, .inl x2, .inr (.inr 2), .inr (.inr 27)], (am_sh, am_mm U4))) 5 (fun _ => rfl) ?_
          obtain ⟨r8, U8, ha21a2a2c, ha21a2a2a⟩ := ha21a2a2
          refine ev_cal (σc := (d, 287, 0, [some (.inl (U 2 x3.toNat))], [], (am_sh, am_mm U4))) (fun _ => rfl) ha21a2a2c ?_
          show Ev (am_kz N X) ((d + 1), 247, 48, [some (.inr (.inr 27)), some (.inr (.inr 2)), some (.inl x2), some (.inl x3), some (.inl (U 2 x3.toNat))], [.inl r8, .inl x3, .inl x2, .inr (.inr 2), .inr (.inr 27)], (am_sh, am_mm U8)) R
          obtain ⟨r9, U9, ha21a2a2ac, ha21a2a2aa⟩ := ha21a2a2a
          refine ev_cal (σc := (d, 289, 0, [some (.inr (.inr 27)), some (.inr (.inr 2)), some (.inl x2), some (.inl x3), some (.inl r8), none, none, none], [], (am_sh, am_mm U8))) (fun _ => rfl) ha21a2a2ac ?_
          show Ev (am_kz N X) ((d + 1), 247, 51, [some (.inr (.inr 27)), some (.inr (.inr 2)), some (.inl x2), some (.inl x3), some (.inl (U 2 x3.toNat))], [.inl r9], (am_sh, am_mm U9)) R
          subst ha21a2a2aa
          exact ev_end 1 (fun _ => rfl)
    · have ha22 := ha2.2 hc
      subst ha22
      exact ev_end 4 (fun _ => rfl)
set_option maxRecDepth 8000 in
theorem st211_24_0 (N : Nat) (X : Nat → Int) (d : Nat) (x1 : Int) (U : Nat → Nat → Int) (R : Option am_V × am_M) (h : Ev (am_kz N X) (d, 211, 5, [some (.inr (.inr 24)), some (.inl x1), some (.inl 0), some (.inl 12)], [], (am_sh, am_mm U)) R) : Ev (am_kz N X) (d, 211, 0, [some (.inr (.inr 24)), some (.inl x1), none, none], [], (am_sh, am_mm U)) R := by
  refine ev_seg (σ1 := (d, 211, 5, [some (.inr (.inr 24)), some (.inl x1), some (.inl 0), some (.inl 12)], [], (am_sh, am_mm U))) 5 (fun _ => rfl) ?_
  exact h
set_option maxRecDepth 8000 in
theorem st211_24_5 (N : Nat) (X : Nat → Int) (d : Nat) (x1 x2 x3 : Int) (U : Nat → Nat → Int) (R : Option am_V × am_M) (h : (((x3 ≤ x2 : Prop)) → R = (none, (am_sh, am_mm U))) ∧ (¬ (x3 ≤ x2) → (0 ≤ x2 ∧ x2 < 12) ∧ Ev (am_kz N X) (d, 211, 5, [some (.inr (.inr 24)), some (.inl x1), some (.inl (w32 (x2 + 1))), some (.inl x3)], [], (am_sh, am_mm (am_upd U 24 x2.toNat x1))) R)) : Ev (am_kz N X) (d, 211, 5, [some (.inr (.inr 24)), some (.inl x1), some (.inl x2), some (.inl x3)], [], (am_sh, am_mm U)) R := by
  refine ev_br (P := x3 ≤ x2) (σ1 := (d, 211, 20, [some (.inr (.inr 24)), some (.inl x1), some (.inl x2), some (.inl x3)], [], (am_sh, am_mm U))) (σ2 := (d, 211, 10, [some (.inr (.inr 24)), some (.inl x1), some (.inl x2), some (.inl x3)], [], (am_sh, am_mm U))) 3 (fun _ => rfl) (fun hc => ?_) (fun hc => ?_)
  · have h1 := h.1 hc
    subst h1
    exact ev_end 1 (fun _ => rfl)
  · have h2 := h.2 hc
    refine ev_seg (σ1 := (d, 211, 13, [some (.inr (.inr 24)), some (.inl x1), some (.inl x2), some (.inl x3)], [.inl x1, .inl x2, .inr (.inr 24)], (am_sh, am_mm U))) 3 (fun _ => rfl) ?_
    refine eu_iast 24 (n := 12) rfl (by decide) rfl (fun _ => rfl) h2.1 ?_
    have h2a := h2.2
    refine ev_seg (σ1 := (d, 211, 5, [some (.inr (.inr 24)), some (.inl x1), some (.inl (w32 (x2 + 1))), some (.inl x3)], [], (am_sh, am_mm (am_upd U 24 x2.toNat x1)))) 2 (fun _ => rfl) ?_
    exact h2a
set_option maxRecDepth 8000 in
theorem st211_19_0 (N : Nat) (X : Nat → Int) (d : Nat) (x1 : Int) (U : Nat → Nat → Int) (R : Option am_V × am_M) (h : Ev (am_kz N X) (d, 211, 5, [some (.inr (.inr 19)), some (.inl x1), some (.inl 0), some (.inl 12)], [], (am_sh, am_mm U)) R) : Ev (am_kz N X) (d, 211, 0, [some (.inr (.inr 19)), some (.inl x1), none, none], [], (am_sh, am_mm U)) R := by
  refine ev_seg (σ1 := (d, 211, 5, [some (.inr (.inr 19)), some (.inl x1), some (.inl 0), some (.inl 12)], [], (am_sh, am_mm U))) 5 (fun _ => rfl) ?_
  exact h
set_option maxRecDepth 8000 in
theorem st211_19_5 (N : Nat) (X : Nat → Int) (d : Nat) (x1 x2 x3 : Int) (U : Nat → Nat → Int) (R : Option am_V × am_M) (h : (((x3 ≤ x2 : Prop)) → R = (none, (am_sh, am_mm U))) ∧ (¬ (x3 ≤ x2) → (0 ≤ x2 ∧ x2 < 12) ∧ Ev (am_kz N X) (d, 211, 5, [some (.inr (.inr 19)), some (.inl x1), some (.inl (w32 (x2 + 1))), some (.inl x3)], [], (am_sh, am_mm (am_upd U 19 x2.toNat x1))) R)) : Ev (am_kz N X) (d, 211, 5, [some (.inr (.inr 19)), some (.inl x1), some (.inl x2), some (.inl x3)], [], (am_sh, am_mm U)) R := by
  refine ev_br (P := x3 ≤ x2) (σ1 := (d, 211, 20, [some (.inr (.inr 19)), some (.inl x1), some (.inl x2), some (.inl x3)], [], (am_sh, am_mm U))) (σ2 := (d, 211, 10, [some (.inr (.inr 19)), some (.inl x1), some (.inl x2), some (.inl x3)], [], (am_sh, am_mm U))) 3 (fun _ => rfl) (fun hc => ?_) (fun hc => ?_)
  · have h1 := h.1 hc
    subst h1
    exact ev_end 1 (fun _ => rfl)
  · have h2 := h.2 hc
    refine ev_seg (σ1 := (d, 211, 13, [some (.inr (.inr 19)), some (.inl x1), some (.inl x2), some (.inl x3)], [.inl x1, .inl x2, .inr (.inr 19)], (am_sh, am_mm U))) 3 (fun _ => rfl) ?_
    refine eu_iast 19 (n := 12) rfl (by decide) rfl (fun _ => rfl) h2.1 ?_
    have h2a := h2.2
    refine ev_seg (σ1 := (d, 211, 5, [some (.inr (.inr 19)), some (.inl x1), some (.inl (w32 (x2 + 1))), some (.inl x3)], [], (am_sh, am_mm (am_upd U 19 x2.toNat x1)))) 2 (fun _ => rfl) ?_
    exact h2a
set_option maxRecDepth 8000 in
theorem st271_86_0 (N : Nat) (X : Nat → Int) (d : Nat) (x1 : Int) (U : Nat → Nat → Int) (R : Option am_V × am_M) (h : ((((U 86 8) ≤ 0 : Prop)) → (((x1 = 0 : Prop)) → ∃ U1 : Nat → Nat → Int, Ev (am_kz N X) (d, 308, 0, [some (.inr (.inr 86)), some (.inl 0)], [], (am_sh, am_mm (am_upd (am_upd (am_upd (am_upd U 86 46 0) 86 47 0) 86 49 0) 86 50 0))) (none, (am_sh, am_mm U1)) ∧ Ev (am_kz N X) ((d + 1), 271, 43, [some (.inr (.inr 86)), some (.inl x1), some (.inl 1)], [], (am_sh, am_mm U1)) R) ∧ (¬ (x1 = 0) → ∃ U2 : Nat → Nat → Int, Ev (am_kz N X) (d, 308, 0, [some (.inr (.inr 86)), some (.inl 1)], [], (am_sh, am_mm (am_upd (am_upd (am_upd (am_upd U 86 46 0) 86 47 0) 86 49 0) 86 50 0))) (none, (am_sh, am_mm U2)) ∧ Ev (am_kz N X) ((d + 1), 271, 43, [some (.inr (.inr 86)), some (.inl x1), some (.inl 1)], [], (am_sh, am_mm U2)) R)) ∧ (¬ ((U 86 8) ≤ 0) → R = (none, (am_sh, am_mm U)))) : Ev (am_kz N X) ((d + 1), 271, 0, [some (.inr (.inr 86)), some (.inl x1), none], [], (am_sh, am_mm U)) R := by
  refine ev_br (P := (U 86 8) ≤ 0) (σ1 := ((d + 1), 271, 8, [some (.inr (.inr 86)), some (.inl x1), none], [], (am_sh, am_mm U))) (σ2 := ((d + 1), 271, 7, [some (.inr (.inr 86)), some (.inl x1), none], [], (am_sh, am_mm U))) 3 (fun _ => rfl) (fun hc => ?_) (fun hc => ?_)
  · have h1 := h.1 hc
    refine ev_seg (σ1 := ((d + 1), 271, 10, [some (.inr (.inr 86)), some (.inl x1), none], [.inl 0, .inr (.inr 86)], (am_sh, am_mm U))) 2 (fun _ => rfl) ?_
    refine eu_puti 86 (n := 90) rfl (by decide) rfl rfl ?_
    refine ev_seg (σ1 := ((d + 1), 271, 15, [some (.inr (.inr 86)), some (.inl x1), none], [.inl 0, .inr (.inr 86)], (am_sh, am_mm (am_upd U 86 46 0)))) 2 (fun _ => rfl) ?_
    refine eu_puti 86 (n := 90) rfl (by decide) rfl rfl ?_
    refine ev_seg (σ1 := ((d + 1), 271, 20, [some (.inr (.inr 86)), some (.inl x1), none], [.inl 0, .inr (.inr 86)], (am_sh, am_mm (am_upd (am_upd U 86 46 0) 86 47 0)))) 2 (fun _ => rfl) ?_
    refine eu_puti 86 (n := 90) rfl (by decide) rfl rfl ?_
    refine ev_seg (σ1 := ((d + 1), 271, 25, [some (.inr (.inr 86)), some (.inl x1), none], [.inl 0, .inr (.inr 86)], (am_sh, am_mm (am_upd (am_upd (am_upd U 86 46 0) 86 47 0) 86 49 0)))) 2 (fun _ => rfl) ?_
    refine eu_putz 86 (n := 90) rfl (by decide) rfl rfl (by decide) ?_
    refine ev_br (P := x1 = 0) (σ1 := ((d + 1), 271, 37, [some (.inr (.inr 86)), some (.inl x1), none], [.inr (.inr 86)], (am_sh, am_mm (am_upd (am_upd (am_upd (am_upd U 86 46 0) 86 47 0) 86 49 0) 86 50 0)))) (σ2 := ((d + 1), 271, 33, [some (.inr (.inr 86)), some (.inl x1), none], [.inr (.inr 86)], (am_sh, am_mm (am_upd (am_upd (am_upd (am_upd U 86 46 0) 86 47 0) 86 49 0) 86 50 0)))) 3 (fun _ => rfl) (fun hc => ?_) (fun hc => ?_)
    · have h11 := h1.1 hc
      refine ev_seg (σ1 := ((d + 1), 271, 38, [some (.inr (.inr 86)), some (.inl x1), none], [.inl 0, .inr (.inr 86)], (am_sh, am_mm (am_upd (am_upd (am_upd (am_upd U 86 46 0) 86 47 0) 86 49 0) 86 50 0)))) 1 (fun _ => rfl) ?_
      obtain ⟨U1, h11c, h11a⟩ := h11
      refine ev_cal (σc := (d, 308, 0, [some (.inr (.inr 86)), some (.inl 0)], [], (am_sh, am_mm (am_upd (am_upd (am_upd (am_upd U 86 46 0) 86 47 0) 86 49 0) 86 50 0)))) (fun _ => rfl) h11c ?_
      show Ev (am_kz N X) ((d + 1), 271, 41, [some (.inr (.inr 86)), some (.inl x1), none], [], (am_sh, am_mm U1)) R
      refine ev_seg (σ1 := ((d + 1), 271, 43, [some (.inr (.inr 86)), some (.inl x1), some (.inl 1)], [], (am_sh, am_mm U1))) 2 (fun _ => rfl) ?_
      exact h11a
    · have h12 := h1.2 hc
      refine ev_seg (σ1 := ((d + 1), 271, 38, [some (.inr (.inr 86)), some (.inl x1), none], [.inl 1, .inr (.inr 86)], (am_sh, am_mm (am_upd (am_upd (am_upd (am_upd U 86 46 0) 86 47 0) 86 49 0) 86 50 0)))) 2 (fun _ => rfl) ?_
      obtain ⟨U2, h12c, h12a⟩ := h12
      refine ev_cal (σc := (d, 308, 0, [some (.inr (.inr 86)), some (.inl 1)], [], (am_sh, am_mm (am_upd (am_upd (am_upd (am_upd U 86 46 0) 86 47 0) 86 49 0) 86 50 0)))) (fun _ => rfl) h12c ?_
      show Ev (am_kz N X) ((d + 1), 271, 41, [some (.inr (.inr 86)), some (.inl x1), none], [], (am_sh, am_mm U2)) R
      refine ev_seg (σ1 := ((d + 1), 271, 43, [some (.inr (.inr 86)), some (.inl x1), some (.inl 1)], [], (am_sh, am_mm U2))) 2 (fun _ => rfl) ?_
      exact h12a
  · have h2 := h.2 hc
    subst h2
    exact ev_end 1 (fun _ => rfl)
set_option maxRecDepth 8000 in
theorem st271_86_43 (N : Nat) (X : Nat → Int) (d : Nat) (x1 x2 : Int) (U : Nat → Nat → Int) (R : Option am_V × am_M) (h : (((x2 = 0 : Prop)) → R = (none, (am_sh, am_mm U))) ∧ (¬ (x2 = 0) → (((¬ (U 86 50) = 0 : Prop)) → ∃ (r1 : Int) (U1 : Nat → Nat → Int), Ev (am_kz N X) (d, 310, 0, [some (.inr (.inr 86)), none, none, none, none], [], (am_sh, am_mm U)) (some (.inl r1), (am_sh, am_mm U1)) ∧ (((r1 = 0 : Prop)) → Ev (am_kz N X) ((d + 1), 271, 43, [some (.inr (.inr 86)), some (.inl x1), some (.inl 0)], [], (am_sh, am_mm U1)) R) ∧ (¬ (r1 = 0) → (((¬ (U1 86 8) = 0 : Prop)) → Ev (am_kz N X) ((d + 1), 271, 43, [some (.inr (.inr 86)), some (.inl x1), some (.inl 0)], [], (am_sh, am_mm U1)) R) ∧ (¬ (¬ (U1 86 8) = 0) → Ev (am_kz N X) ((d + 1), 271, 43, [some (.inr (.inr 86)), some (.inl x1), some (.inl 1)], [], (am_sh, am_mm U1)) R))) ∧ (¬ (¬ (U 86 50) = 0) → ∃ (r2 : Int) (U2 : Nat → Nat → Int), Ev (am_kz N X) (d, 309, 0, [some (.inr (.inr 86)), none, none, none], [], (am_sh, am_mm U)) (some (.inl r2), (am_sh, am_mm U2)) ∧ (r2 = 0 ∨ r2 = 1) ∧ (((x2 = 0 : Prop)) → Ev (am_kz N X) ((d + 1), 271, 43, [some (.inr (.inr 86)), some (.inl x1), some (.inl 0)], [], (am_sh, am_mm (am_upd U2 86 50 r2))) R) ∧ (¬ (x2 = 0) → (((¬ ((am_upd U2 86 50 r2) 86 8) = 0 : Prop)) → Ev (am_kz N X) ((d + 1), 271, 43, [some (.inr (.inr 86)), some (.inl x1), some (.inl 0)], [], (am_sh, am_mm (am_upd U2 86 50 r2))) R) ∧ (¬ (¬ ((am_upd U2 86 50 r2) 86 8) = 0) → Ev (am_kz N X) ((d + 1), 271, 43, [some (.inr (.inr 86)), some (.inl x1), some (.inl 1)], [], (am_sh, am_mm (am_upd U2 86 50 r2))) R))))) : Ev (am_kz N X) ((d + 1), 271, 43, [some (.inr (.inr 86)), some (.inl x1), some (.inl x2)], [], (am_sh, am_mm U)) R := by
  refine ev_br (P := x2 = 0) (σ1 := ((d + 1), 271, 90, [some (.inr (.inr 86)), some (.inl x1), some (.inl x2)], [], (am_sh, am_mm U))) (σ2 := ((d + 1), 271, 47, [some (.inr (.inr 86)), some (.inl x1), some (.inl x2)], [], (am_sh, am_mm U))) 2 (fun _ => rfl) (fun hc => ?_) (fun hc => ?_)
  · have h1 := h.1 hc
    subst h1
    exact ev_end 1 (fun _ => rfl)
  · have h2 := h.2 hc
    refine ev_br (P := ¬ (U 86 50) = 0) (σ1 := ((d + 1), 271, 65, [some (.inr (.inr 86)), some (.inl x1), some (.inl x2)], [], (am_sh, am_mm U))) (σ2 := ((d + 1), 271, 54, [some (.inr (.inr 86)), some (.inl x1), some (.inl x2)], [], (am_sh, am_mm U))) 3 (fun _ => rfl) (fun hc => ?_) (fun hc => ?_)
    · have h21 := h2.1 hc
      refine ev_seg (σ1 := ((d + 1), 271, 66, [some (.inr (.inr 86)), some (.inl x1), some (.inl x2)], [.inr (.inr 86)], (am_sh, am_mm U))) 1 (fun _ => rfl) ?_
      obtain ⟨r1, U1, h21c, h21a⟩ := h21
      refine ev_cal (σc := (d, 310, 0, [some (.inr (.inr 86)), none, none, none, none], [], (am_sh, am_mm U))) (fun _ => rfl) h21c ?_
      show Ev (am_kz N X) ((d + 1), 271, 69, [some (.inr (.inr 86)), some (.inl x1), some (.inl x2)], [.inl r1], (am_sh, am_mm U1)) R
      refine ev_br (P := r1 = 0) (σ1 := ((d + 1), 271, 85, [some (.inr (.inr 86)), some (.inl x1), some (.inl r1)], [], (am_sh, am_mm U1))) (σ2 := ((d + 1), 271, 74, [some (.inr (.inr 86)), some (.inl x1), some (.inl r1)], [], (am_sh, am_mm U1))) 3 (fun _ => rfl) (fun hc => ?_) (fun hc => ?_)
      · have h21a1 := h21a.1 hc
        refine ev_seg (σ1 := ((d + 1), 271, 43, [some (.inr (.inr 86)), some (.inl x1), some (.inl 0)], [], (am_sh, am_mm U1))) 3 (fun _ => rfl) ?_
        exact h21a1
      · have h21a2 := h21a.2 hc
        refine ev_br (P := ¬ (U1 86 8) = 0) (σ1 := ((d + 1), 271, 85, [some (.inr (.inr 86)), some (.inl x1), some (.inl r1)], [], (am_sh, am_mm U1))) (σ2 := ((d + 1), 271, 81, [some (.inr (.inr 86)), some (.inl x1), some (.inl r1)], [], (am_sh, am_mm U1))) 3 (fun _ => rfl) (fun hc => ?_) (fun hc => ?_)
        · have h21a21 := h21a2.1 hc
          refine ev_seg (σ1 := ((d + 1), 271, 43, [some (.inr (.inr 86)), some (.inl x1), some (.inl 0)], [], (am_sh, am_mm U1))) 3 (fun _ => rfl) ?_
          exact h21a21
        · have h21a22 := h21a2.2 hc
          refine ev_seg (σ1 := ((d + 1), 271, 43, [some (.inr (.inr 86)), some (.inl x1), some (.inl 1)], [], (am_sh, am_mm U1))) 4 (fun _ => rfl) ?_
          exact h21a22
    · have h22 := h2.2 hc
      refine ev_seg (σ1 := ((d + 1), 271, 56, [some (.inr (.inr 86)), some (.inl x1), some (.inl x2)], [.inr (.inr 86), .inr (.inr 86)], (am_sh, am_mm U))) 2 (fun _ => rfl) ?_
      obtain ⟨r2, U2, h22c, h22a⟩ := h22
      refine ev_cal (σc := (d, 309, 0, [some (.inr (.inr 86)), none, none, none], [], (am_sh, am_mm U))) (fun _ => rfl) h22c ?_
      show Ev (am_kz N X) ((d + 1), 271, 59, [some (.inr (.inr 86)), some (.inl x1), some (.inl x2)], [.inl r2, .inr (.inr 86)], (am_sh, am_mm U2)) R
      refine eu_putz 86 (n := 90) rfl (by decide) rfl rfl h22a.1 ?_
      have h22aa := h22a.2
      refine ev_br (P := x2 = 0) (σ1 := ((d + 1), 271, 85, [some (.inr (.inr 86)), some (.inl x1), some (.inl x2)], [], (am_sh, am_mm (am_upd U2 86 50 r2)))) (σ2 := ((d + 1), 271, 74, [some (.inr (.inr 86)), some (.inl x1), some (.inl x2)], [], (am_sh, am_mm (am_upd U2 86 50 r2)))) 3 (fun _ => rfl) (fun hc => ?_) (fun hc => ?_)
      · have h22aa1 := h22aa.1 hc
        refine ev_seg (σ1 := ((d + 1), 271, 43, [some (.inr (.inr 86)), some (.inl x1), some (.inl 0)], [], (am_sh, am_mm (am_upd U2 86 50 r2)))) 3 (fun _ => rfl) ?_
        exact h22aa1
      · have h22aa2 := h22aa.2 hc
        refine ev_br (P := ¬ ((am_upd U2 86 50 r2) 86 8) = 0) (σ1 := ((d + 1), 271, 85, [some (.inr (.inr 86)), some (.inl x1), some (.inl x2)], [], (am_sh, am_mm (am_upd U2 86 50 r2)))) (σ2 := ((d + 1), 271, 81, [some (.inr (.inr 86)), some (.inl x1), some (.inl x2)], [], (am_sh, am_mm (am_upd U2 86 50 r2)))) 3 (fun _ => rfl) (fun hc => ?_) (fun hc => ?_)
        · have h22aa21 := h22aa2.1 hc
          refine ev_seg (σ1 := ((d + 1), 271, 43, [some (.inr (.inr 86)), some (.inl x1), some (.inl 0)], [], (am_sh, am_mm (am_upd U2 86 50 r2)))) 3 (fun _ => rfl) ?_
          exact h22aa21
        · have h22aa22 := h22aa2.2 hc
          refine ev_seg (σ1 := ((d + 1), 271, 43, [some (.inr (.inr 86)), some (.inl x1), some (.inl 1)], [], (am_sh, am_mm (am_upd U2 86 50 r2)))) 4 (fun _ => rfl) ?_
          exact h22aa22
set_option maxRecDepth 8000 in
theorem st264_86_0 (N : Nat) (X : Nat → Int) (d : Nat) (x1 : Int) (U : Nat → Nat → Int) (R : Option am_V × am_M) (h : (((¬ (U 86 8) = 0 : Prop)) → (((¬ (U 86 8) = 0 : Prop)) → (((¬ (U 86 8) = 0 : Prop)) → R = (some (.inl 0), (am_sh, am_mm U))) ∧ (¬ (¬ (U 86 8) = 0) → R = (some (.inl 1), (am_sh, am_mm U)))) ∧ (¬ (¬ (U 86 8) = 0) → ∃ U1 : Nat → Nat → Int, Ev (am_kz N X) (d, 93, 0, [some (.inr (.inr 86)), none, none, none, none, none], [], (am_sh, am_mm U)) (none, (am_sh, am_mm U1)) ∧ (((¬ (U1 86 8) = 0 : Prop)) → R = (some (.inl 0), (am_sh, am_mm U1))) ∧ (¬ (¬ (U1 86 8) = 0) → R = (some (.inl 1), (am_sh, am_mm U1))))) ∧ (¬ (¬ (U 86 8) = 0) → (((x1 = 0 : Prop)) → (((¬ (U 86 8) = 0 : Prop)) → (((¬ (U 86 8) = 0 : Prop)) → R = (some (.inl 0), (am_sh, am_mm U))) ∧ (¬ (¬ (U 86 8) = 0) → R = (some (.inl 1), (am_sh, am_mm U)))) ∧ (¬ (¬ (U 86 8) = 0) → ∃ U2 : Nat → Nat → Int, Ev (am_kz N X) (d, 93, 0, [some (.inr (.inr 86)), none, none, none, none, none], [], (am_sh, am_mm U)) (none, (am_sh, am_mm U2)) ∧ (((¬ (U2 86 8) = 0 : Prop)) → R = (some (.inl 0), (am_sh, am_mm U2))) ∧ (¬ (¬ (U2 86 8) = 0) → R = (some (.inl 1), (am_sh, am_mm U2))))) ∧ (¬ (x1 = 0) → ∃ U3 : Nat → Nat → Int, Ev (am_kz N X) (d, 196, 0, [some (.inr (.inr 86)), some (.inl 6), some (.inl (U 86 4))], [], (am_sh, am_mm U)) (none, (am_sh, am_mm U3)) ∧ (((¬ (U3 86 8) = 0 : Prop)) → (((¬ (U3 86 8) = 0 : Prop)) → R = (some (.inl 0), (am_sh, am_mm U3))) ∧ (¬ (¬ (U3 86 8) = 0) → R = (some (.inl 1), (am_sh, am_mm U3)))) ∧ (¬ (¬ (U3 86 8) = 0) → ∃ U4 : Nat → Nat → Int, Ev (am_kz N X) (d, 93, 0, [some (.inr (.inr 86)), none, none, none, none, none], [], (am_sh, am_mm U3)) (none, (am_sh, am_mm U4)) ∧ (((¬ (U4 86 8) = 0 : Prop)) → R = (some (.inl 0), (am_sh, am_mm U4))) ∧ (¬ (¬ (U4 86 8) = 0) → R = (some (.inl 1), (am_sh, am_mm U4))))))) : Ev (am_kz N X) ((d + 1), 264, 0, [some (.inr (.inr 86)), some (.inl x1)], [], (am_sh, am_mm U)) R := by
  refine ev_br (P := ¬ (U 86 8) = 0) (σ1 := ((d + 1), 264, 21, [some (.inr (.inr 86)), some (.inl x1)], [], (am_sh, am_mm U))) (σ2 := ((d + 1), 264, 7, [some (.inr (.inr 86)), some (.inl x1)], [], (am_sh, am_mm U))) 3 (fun _ => rfl) (fun hc => ?_) (fun hc => ?_)
  · have h1 := h.1 hc
    refine ev_br (P := ¬ (U 86 8) = 0) (σ1 := ((d + 1), 264, 32, [some (.inr (.inr 86)), some (.inl x1)], [], (am_sh, am_mm U))) (σ2 := ((d + 1), 264, 28, [some (.inr (.inr 86)), some (.inl x1)], [], (am_sh, am_mm U))) 3 (fun _ => rfl) (fun hc => ?_) (fun hc => ?_)
    · have h11 := h1.1 hc
      refine ev_br (P := ¬ (U 86 8) = 0) (σ1 := ((d + 1), 264, 43, [some (.inr (.inr 86)), some (.inl x1)], [], (am_sh, am_mm U))) (σ2 := ((d + 1), 264, 39, [some (.inr (.inr 86)), some (.inl x1)], [], (am_sh, am_mm U))) 3 (fun _ => rfl) (fun hc => ?_) (fun hc => ?_)
      · have h111 := h11.1 hc
        subst h111
        exact ev_end 2 (fun _ => rfl)
      · have h112 := h11.2 hc
        subst h112
        exact ev_end 3 (fun _ => rfl)
    · have h12 := h1.2 hc
      refine ev_seg (σ1 := ((d + 1), 264, 29, [some (.inr (.inr 86)), some (.inl x1)], [.inr (.inr 86)], (am_sh, am_mm U))) 1 (fun _ => rfl) ?_
      obtain ⟨U1, h12c, h12a⟩ := h12
      refine ev_cal (σc := (d, 93, 0, [some (.inr (.inr 86)), none, none, none, none, none], [], (am_sh, am_mm U))) (fun _ => rfl) h12c ?_
      show Ev (am_kz N X) ((d + 1), 264, 32, [some (.inr (.inr 86)), some (.inl x1)], [], (am_sh, am_mm U1)) R
      refine ev_br (P := ¬ (U1 86 8) = 0) (σ1 := ((d + 1), 264, 43, [some (.inr (.inr 86)), some (.inl x1)], [], (am_sh, am_mm U1))) (σ2 := ((d + 1), 264, 39, [some (.inr (.inr 86)), some (.inl x1)], [], (am_sh, am_mm U1))) 3 (fun _ => rfl) (fun hc => ?_) (fun hc => ?_)
      · have h12a1 := h12a.1 hc
        subst h12a1
        exact ev_end 2 (fun _ => rfl)
      · have h12a2 := h12a.2 hc
        subst h12a2
        exact ev_end 3 (fun _ => rfl)
  · have h2 := h.2 hc
    refine ev_br (P := x1 = 0) (σ1 := ((d + 1), 264, 21, [some (.inr (.inr 86)), some (.inl x1)], [], (am_sh, am_mm U))) (σ2 := ((d + 1), 264, 11, [some (.inr (.inr 86)), some (.inl x1)], [], (am_sh, am_mm U))) 2 (fun _ => rfl) (fun hc => ?_) (fun hc => ?_)
    · have h21 := h2.1 hc
      refine ev_br (P := ¬ (U 86 8) = 0) (σ1 := ((d + 1), 264, 32, [some (.inr (.inr 86)), some (.inl x1)], [], (am_sh, am_mm U))) (σ2 := ((d + 1), 264, 28, [some (.inr (.inr 86)), some (.inl x1)], [], (am_sh, am_mm U))) 3 (fun _ => rfl) (fun hc => ?_) (fun hc => ?_)
      · have h211 := h21.1 hc
        refine ev_br (P := ¬ (U 86 8) = 0) (σ1 := ((d + 1), 264, 43, [some (.inr (.inr 86)), some (.inl x1)], [], (am_sh, am_mm U))) (σ2 := ((d + 1), 264, 39, [some (.inr (.inr 86)), some (.inl x1)], [], (am_sh, am_mm U))) 3 (fun _ => rfl) (fun hc => ?_) (fun hc => ?_)
        · have h2111 := h211.1 hc
          subst h2111
          exact ev_end 2 (fun _ => rfl)
        · have h2112 := h211.2 hc
          subst h2112
          exact ev_end 3 (fun _ => rfl)
      · have h212 := h21.2 hc
        refine ev_seg (σ1 := ((d + 1), 264, 29, [some (.inr (.inr 86)), some (.inl x1)], [.inr (.inr 86)], (am_sh, am_mm U))) 1 (fun _ => rfl) ?_
        obtain ⟨U2, h212c, h212a⟩ := h212
        refine ev_cal (σc := (d, 93, 0, [some (.inr (.inr 86)), none, none, none, none, none], [], (am_sh, am_mm U))) (fun _ => rfl) h212c ?_
        show Ev (am_kz N X) ((d + 1), 264, 32, [some (.inr (.inr 86)), some (.inl x1)], [], (am_sh, am_mm U2)) R
        refine ev_br (P := ¬ (U2 86 8) = 0) (σ1 := ((d + 1), 264, 43, [some (.inr (.inr 86)), some (.inl x1)], [], (am_sh, am_mm U2))) (σ2 := ((d + 1), 264, 39, [some (.inr (.inr 86)), some (.inl x1)], [], (am_sh, am_mm U2))) 3 (fun _ => rfl) (fun hc => ?_) (fun hc => ?_)
        · have h212a1 := h212a.1 hc
          subst h212a1
          exact ev_end 2 (fun _ => rfl)
        · have h212a2 := h212a.2 hc
          subst h212a2
          exact ev_end 3 (fun _ => rfl)
    · have h22 := h2.2 hc
      refine ev_seg (σ1 := ((d + 1), 264, 18, [some (.inr (.inr 86)), some (.inl x1)], [.inl (U 86 4), .inl 6, .inr (.inr 86)], (am_sh, am_mm U))) 4 (fun _ => rfl) ?_
      obtain ⟨U3, h22c, h22a⟩ := h22
      refine ev_cal (σc := (d, 196, 0, [some (.inr (.inr 86)), some (.inl 6), some (.inl (U 86 4))], [], (am_sh, am_mm U))) (fun _ => rfl) h22c ?_
      show Ev (am_kz N X) ((d + 1), 264, 21, [some (.inr (.inr 86)), some (.inl x1)], [], (am_sh, am_mm U3)) R
      refine ev_br (P := ¬ (U3 86 8) = 0) (σ1 := ((d + 1), 264, 32, [some (.inr (.inr 86)), some (.inl x1)], [], (am_sh, am_mm U3))) (σ2 := ((d + 1), 264, 28, [some (.inr (.inr 86)), some (.inl x1)], [], (am_sh, am_mm U3))) 3 (fun _ => rfl) (fun hc => ?_) (fun hc => ?_)
      · have h22a1 := h22a.1 hc
        refine ev_br (P := ¬ (U3 86 8) = 0) (σ1 := ((d + 1), 264, 43, [some (.inr (.inr 86)), some (.inl x1)], [], (am_sh, am_mm U3))) (σ2 := ((d + 1), 264, 39, [some (.inr (.inr 86)), some (.inl x1)], [], (am_sh, am_mm U3))) 3 (fun _ => rfl) (fun hc => ?_) (fun hc => ?_)
        · have h22a11 := h22a1.1 hc
          subst h22a11
          exact ev_end 2 (fun _ => rfl)
        · have h22a12 := h22a1.2 hc
          subst h22a12
          exact ev_end 3 (fun _ => rfl)
      · have h22a2 := h22a.2 hc
        refine ev_seg (σ1 := ((d + 1), 264, 29, [some (.inr (.inr 86)), some (.inl x1)], [.inr (.inr 86)], (am_sh, am_mm U3))) 1 (fun _ => rfl) ?_
        obtain ⟨U4, h22a2c, h22a2a⟩ := h22a2
        refine ev_cal (σc := (d, 93, 0, [some (.inr (.inr 86)), none, none, none, none, none], [], (am_sh, am_mm U3))) (fun _ => rfl) h22a2c ?_
        show Ev (am_kz N X) ((d + 1), 264, 32, [some (.inr (.inr 86)), some (.inl x1)], [], (am_sh, am_mm U4)) R
        refine ev_br (P := ¬ (U4 86 8) = 0) (σ1 := ((d + 1), 264, 43, [some (.inr (.inr 86)), some (.inl x1)], [], (am_sh, am_mm U4))) (σ2 := ((d + 1), 264, 39, [some (.inr (.inr 86)), some (.inl x1)], [], (am_sh, am_mm U4))) 3 (fun _ => rfl) (fun hc => ?_) (fun hc => ?_)
        · have h22a2a1 := h22a2a.1 hc
          subst h22a2a1
          exact ev_end 2 (fun _ => rfl)
        · have h22a2a2 := h22a2a.2 hc
          subst h22a2a2
          exact ev_end 3 (fun _ => rfl)
set_option maxRecDepth 8000 in
theorem st265_86_0 (N : Nat) (X : Nat → Int) (d : Nat) (U : Nat → Nat → Int) (R : Option am_V × am_M) (h : ∃ U1 : Nat → Nat → Int, Ev (am_kz N X) (d, 186, 0, [some (.inr (.inr 86))], [], (am_sh, am_mm U)) (none, (am_sh, am_mm U1)) ∧ ((((U1 86 8) ≤ 0 : Prop)) → (((¬ (U1 86 3) = 1 : Prop)) → ∃ U2 : Nat → Nat → Int, Ev (am_kz N X) (d, 196, 0, [some (.inr (.inr 86)), some (.inl 1), some (.inl (U1 86 4))], [], (am_sh, am_mm U1)) (none, (am_sh, am_mm U2)) ∧ Ev (am_kz N X) ((d + 1), 265, 43, [some (.inr (.inr 86)), some (.inl 0), none], [], (am_sh, am_mm U2)) R) ∧ (¬ (¬ (U1 86 3) = 1) → ∃ (r3 : Int) (U3 : Nat → Nat → Int), Ev (am_kz N X) (d, 306, 0, [some (.inr (.inr 86)), some (.inr (.inl (U1 86 7))), none], [], (am_sh, am_mm U1)) (some (.inl r3), (am_sh, am_mm U3)) ∧ (((r3 = 0 : Prop)) → Ev (am_kz N X) ((d + 1), 265, 43, [some (.inr (.inr 86)), some (.inl 0), none], [], (am_sh, am_mm U3)) R) ∧ (¬ (r3 = 0) → ∃ U4 : Nat → Nat → Int, Ev (am_kz N X) (d, 196, 0, [some (.inr (.inr 86)), some (.inl 1), some (.inl (U3 86 4))], [], (am_sh, am_mm U3)) (none, (am_sh, am_mm U4)) ∧ Ev (am_kz N X) ((d + 1), 265, 43, [some (.inr (.inr 86)), some (.inl 0), none], [], (am_sh, am_mm U4)) R))) ∧ (¬ ((U1 86 8) ≤ 0) → R = (some (.inr (.inl 0)), (am_sh, am_mm U1)))) : Ev (am_kz N X) ((d + 1), 265, 0, [some (.inr (.inr 86)), none, none], [], (am_sh, am_mm U)) R := by
  refine ev_seg (σ1 := ((d + 1), 265, 1, [some (.inr (.inr 86)), none, none], [.inr (.inr 86)], (am_sh, am_mm U))) 1 (fun _ => rfl) ?_
  obtain ⟨U1, hc, ha⟩ := h
  refine ev_cal (σc := (d, 186, 0, [some (.inr (.inr 86))], [], (am_sh, am_mm U))) (fun _ => rfl) hc ?_
  show Ev (am_kz N X) ((d + 1), 265, 4, [some (.inr (.inr 86)), none, none], [], (am_sh, am_mm U1)) R
  refine ev_br (P := (U1 86 8) ≤ 0) (σ1 := ((d + 1), 265, 13, [some (.inr (.inr 86)), none, none], [], (am_sh, am_mm U1))) (σ2 := ((d + 1), 265, 11, [some (.inr (.inr 86)), none, none], [], (am_sh, am_mm U1))) 3 (fun _ => rfl) (fun hc => ?_) (fun hc => ?_)
  · have ha1 := ha.1 hc
    refine ev_br (P := ¬ (U1 86 3) = 1) (σ1 := ((d + 1), 265, 32, [some (.inr (.inr 86)), none, none], [], (am_sh, am_mm U1))) (σ2 := ((d + 1), 265, 21, [some (.inr (.inr 86)), none, none], [], (am_sh, am_mm U1))) 4 (fun _ => rfl) (fun hc => ?_) (fun hc => ?_)
    · have ha11 := ha1.1 hc
      refine ev_seg (σ1 := ((d + 1), 265, 38, [some (.inr (.inr 86)), none, none], [.inl (U1 86 4), .inl 1, .inr (.inr 86)], (am_sh, am_mm U1))) 4 (fun _ => rfl) ?_
      obtain ⟨U2, ha11c, ha11a⟩ := ha11
      refine ev_cal (σc := (d, 196, 0, [some (.inr (.inr 86)), some (.inl 1), some (.inl (U1 86 4))], [], (am_sh, am_mm U1))) (fun _ => rfl) ha11c ?_
      show Ev (am_kz N X) ((d + 1), 265, 41, [some (.inr (.inr 86)), none, none], [], (am_sh, am_mm U2)) R
      refine ev_seg (σ1 := ((d + 1), 265, 43, [some (.inr (.inr 86)), some (.inl 0), none], [], (am_sh, am_mm U2))) 2 (fun _ => rfl) ?_
      exact ha11a
    · have ha12 := ha1.2 hc
      refine ev_seg (σ1 := ((d + 1), 265, 26, [some (.inr (.inr 86)), none, none], [.inr (.inl (U1 86 7)), .inr (.inr 86)], (am_sh, am_mm U1))) 3 (fun _ => rfl) ?_
      obtain ⟨r3, U3, ha12c, ha12a⟩ := ha12
      refine ev_cal (σc := (d, 306, 0, [some (.inr (.inr 86)), some (.inr (.inl (U1 86 7))), none], [], (am_sh, am_mm U1))) (fun _ => rfl) ha12c ?_
      show Ev (am_kz N X) ((d + 1), 265, 29, [some (.inr (.inr 86)), none, none], [.inl r3], (am_sh, am_mm U3)) R
      refine ev_br (P := r3 = 0) (σ1 := ((d + 1), 265, 41, [some (.inr (.inr 86)), none, none], [], (am_sh, am_mm U3))) (σ2 := ((d + 1), 265, 32, [some (.inr (.inr 86)), none, none], [], (am_sh, am_mm U3))) 1 (fun _ => rfl) (fun hc => ?_) (fun hc => ?_)
      · have ha12a1 := ha12a.1 hc
        refine ev_seg (σ1 := ((d + 1), 265, 43, [some (.inr (.inr 86)), some (.inl 0), none], [], (am_sh, am_mm U3))) 2 (fun _ => rfl) ?_
        exact ha12a1
      · have ha12a2 := ha12a.2 hc
        refine ev_seg (σ1 := ((d + 1), 265, 38, [some (.inr (.inr 86)), none, none], [.inl (U3 86 4), .inl 1, .inr (.inr 86)], (am_sh, am_mm U3))) 4 (fun _ => rfl) ?_
        obtain ⟨U4, ha12a2c, ha12a2a⟩ := ha12a2
        refine ev_cal (σc := (d, 196, 0, [some (.inr (.inr 86)), some (.inl 1), some (.inl (U3 86 4))], [], (am_sh, am_mm U3))) (fun _ => rfl) ha12a2c ?_
        show Ev (am_kz N X) ((d + 1), 265, 41, [some (.inr (.inr 86)), none, none], [], (am_sh, am_mm U4)) R
        refine ev_seg (σ1 := ((d + 1), 265, 43, [some (.inr (.inr 86)), some (.inl 0), none], [], (am_sh, am_mm U4))) 2 (fun _ => rfl) ?_
        exact ha12a2a
  · have ha2 := ha.2 hc
    subst ha2
    exact ev_end 2 (fun _ => rfl)
set_option maxRecDepth 8000 in
theorem st265_86_43 (N : Nat) (X : Nat → Int) (d : Nat) (x1 : Int) (U : Nat → Nat → Int) (R : Option am_V × am_M) (h : (((1 < x1 : Prop)) → (((¬ (U 86 8) = 0 : Prop)) → R = (some (.inr (.inl (U 86 7))), (am_sh, am_mm U))) ∧ (¬ (¬ (U 86 8) = 0) → ∃ U1 : Nat → Nat → Int, Ev (am_kz N X) (d, 93, 0, [some (.inr (.inr 86)), none, none, none, none, none], [], (am_sh, am_mm U)) (none, (am_sh, am_mm U1)) ∧ R = (some (.inr (.inl (U 86 7))), (am_sh, am_mm U1)))) ∧ (¬ (1 < x1) → (((¬ (U 86 8) = 0 : Prop)) → (((¬ (U 86 8) = 0 : Prop)) → R = (some (.inr (.inl (U 86 7))), (am_sh, am_mm U))) ∧ (¬ (¬ (U 86 8) = 0) → ∃ U2 : Nat → Nat → Int, Ev (am_kz N X) (d, 93, 0, [some (.inr (.inr 86)), none, none, none, none, none], [], (am_sh, am_mm U)) (none, (am_sh, am_mm U2)) ∧ R = (some (.inr (.inl (U 86 7))), (am_sh, am_mm U2)))) ∧ (¬ (¬ (U 86 8) = 0) → ∃ (r3 : Int) (U3 : Nat → Nat → Int), Ev (am_kz N X) (d, 307, 0, [some (.inr (.inr 86)), some (.inl x1), some (.inr (.inl (U 86 7))), none, none], [], (am_sh, am_mm U)) (some (.inl r3), (am_sh, am_mm U3)) ∧ (((r3 = (-1) : Prop)) → Ev (am_kz N X) ((d + 1), 265, 43, [some (.inr (.inr 86)), some (.inl (w32 (x1 + 1))), none], [], (am_sh, am_mm U3)) R) ∧ (¬ (r3 = (-1)) → ∃ U4 : Nat → Nat → Int, Ev (am_kz N X) (d, 196, 0, [some (.inr (.inr 86)), some (.inl 2), some (.inl (U3 86 4))], [], (am_sh, am_mm U3)) (none, (am_sh, am_mm U4)) ∧ Ev (am_kz N X) ((d + 1), 265, 43, [some (.inr (.inr 86)), some (.inl (w32 (x1 + 1))), none], [], (am_sh, am_mm U4)) R)))) : Ev (am_kz N X) ((d + 1), 265, 43, [some (.inr (.inr 86)), some (.inl x1), none], [], (am_sh, am_mm U)) R := by
  refine ev_br (P := 1 < x1) (σ1 := ((d + 1), 265, 83, [some (.inr (.inr 86)), some (.inl x1), none], [], (am_sh, am_mm U))) (σ2 := ((d + 1), 265, 48, [some (.inr (.inr 86)), some (.inl x1), none], [], (am_sh, am_mm U))) 3 (fun _ => rfl) (fun hc => ?_) (fun hc => ?_)
  · have h1 := h.1 hc
    refine ev_br (P := ¬ (U 86 8) = 0) (σ1 := ((d + 1), 265, 99, [some (.inr (.inr 86)), some (.inr (.inl (U 86 7))), none], [], (am_sh, am_mm U))) (σ2 := ((d + 1), 265, 95, [some (.inr (.inr 86)), some (.inr (.inl (U 86 7))), none], [], (am_sh, am_mm U))) 6 (fun _ => rfl) (fun hc => ?_) (fun hc => ?_)
    · have h11 := h1.1 hc
      subst h11
      exact ev_end 2 (fun _ => rfl)
    · have h12 := h1.2 hc
      refine ev_seg (σ1 := ((d + 1), 265, 96, [some (.inr (.inr 86)), some (.inr (.inl (U 86 7))), none], [.inr (.inr 86)], (am_sh, am_mm U))) 1 (fun _ => rfl) ?_
      obtain ⟨U1, h12c, h12a⟩ := h12
      refine ev_cal (σc := (d, 93, 0, [some (.inr (.inr 86)), none, none, none, none, none], [], (am_sh, am_mm U))) (fun _ => rfl) h12c ?_
      show Ev (am_kz N X) ((d + 1), 265, 99, [some (.inr (.inr 86)), some (.inr (.inl (U 86 7))), none], [], (am_sh, am_mm U1)) R
      subst h12a
      exact ev_end 2 (fun _ => rfl)
  · have h2 := h.2 hc
    refine ev_br (P := ¬ (U 86 8) = 0) (σ1 := ((d + 1), 265, 83, [some (.inr (.inr 86)), some (.inl x1), none], [], (am_sh, am_mm U))) (σ2 := ((d + 1), 265, 55, [some (.inr (.inr 86)), some (.inl x1), none], [], (am_sh, am_mm U))) 3 (fun _ => rfl) (fun hc => ?_) (fun hc => ?_)
    · have h21 := h2.1 hc
      refine ev_br (P := ¬ (U 86 8) = 0) (σ1 := ((d + 1), 265, 99, [some (.inr (.inr 86)), some (.inr (.inl (U 86 7))), none], [], (am_sh, am_mm U))) (σ2 := ((d + 1), 265, 95, [some (.inr (.inr 86)), some (.inr (.inl (U 86 7))), none], [], (am_sh, am_mm U))) 6 (fun _ => rfl) (fun hc => ?_) (fun hc => ?_)
      · have h211 := h21.1 hc
        subst h211
        exact ev_end 2 (fun _ => rfl)
      · have h212 := h21.2 hc
        refine ev_seg (σ1 := ((d + 1), 265, 96, [some (.inr (.inr 86)), some (.inr (.inl (U 86 7))), none], [.inr (.inr 86)], (am_sh, am_mm U))) 1 (fun _ => rfl) ?_
        obtain ⟨U2, h212c, h212a⟩ := h212
        refine ev_cal (σc := (d, 93, 0, [some (.inr (.inr 86)), none, none, none, none, none], [], (am_sh, am_mm U))) (fun _ => rfl) h212c ?_
        show Ev (am_kz N X) ((d + 1), 265, 99, [some (.inr (.inr 86)), some (.inr (.inl (U 86 7))), none], [], (am_sh, am_mm U2)) R
        subst h212a
        exact ev_end 2 (fun _ => rfl)
    · have h22 := h2.2 hc
      refine ev_seg (σ1 := ((d + 1), 265, 61, [some (.inr (.inr 86)), some (.inl x1), none], [.inr (.inl (U 86 7)), .inl x1, .inr (.inr 86)], (am_sh, am_mm U))) 4 (fun _ => rfl) ?_
      obtain ⟨r3, U3, h22c, h22a⟩ := h22
      refine ev_cal (σc := (d, 307, 0, [some (.inr (.inr 86)), some (.inl x1), some (.inr (.inl (U 86 7))), none, none], [], (am_sh, am_mm U))) (fun _ => rfl) h22c ?_
      show Ev (am_kz N X) ((d + 1), 265, 64, [some (.inr (.inr 86)), some (.inl x1), none], [.inl r3], (am_sh, am_mm U3)) R
      refine ev_br (P := r3 = (-1)) (σ1 := ((d + 1), 265, 77, [some (.inr (.inr 86)), some (.inl x1), none], [], (am_sh, am_mm U3))) (σ2 := ((d + 1), 265, 68, [some (.inr (.inr 86)), some (.inl x1), none], [], (am_sh, am_mm U3))) 2 (fun _ => rfl) (fun hc => ?_) (fun hc => ?_)
      · have h22a1 := h22a.1 hc
        refine ev_seg (σ1 := ((d + 1), 265, 43, [some (.inr (.inr 86)), some (.inl (w32 (x1 + 1))), none], [], (am_sh, am_mm U3))) 2 (fun _ => rfl) ?_
        exact h22a1
      · have h22a2 := h22a.2 hc
        refine ev_seg (σ1 := ((d + 1), 265, 74, [some (.inr (.inr 86)), some (.inl x1), none], [.inl (U3 86 4), .inl 2, .inr (.inr 86)], (am_sh, am_mm U3))) 4 (fun _ => rfl) ?_
        obtain ⟨U4, h22a2c, h22a2a⟩ := h22a2
        refine ev_cal (σc := (d, 196, 0, [some (.inr (.inr 86)), some (.inl 2), some (.inl (U3 86 4))], [], (am_sh, am_mm U3))) (fun _ => rfl) h22a2c ?_
        show Ev (am_kz N X) ((d + 1), 265, 77, [some (.inr (.inr 86)), some (.inl x1), none], [], (am_sh, am_mm U4)) R
        refine ev_seg (σ1 := ((d + 1), 265, 43, [some (.inr (.inr 86)), some (.inl (w32 (x1 + 1))), none], [], (am_sh, am_mm U4))) 2 (fun _ => rfl) ?_
        exact h22a2a
set_option maxRecDepth 8000 in
theorem st268_86_0 (N : Nat) (X : Nat → Int) (d : Nat) (x1 x2 : Int) (U : Nat → Nat → Int) (R : Option am_V × am_M) (h : ∃ U1 : Nat → Nat → Int, Ev (am_kz N X) (d, 186, 0, [some (.inr (.inr 86))], [], (am_sh, am_mm U)) (none, (am_sh, am_mm U1)) ∧ ((((U1 86 8) ≤ 0 : Prop)) → ((((U1 86 3) = 2 : Prop)) → (((¬ (U1 86 8) = 0 : Prop)) → (((¬ (U1 86 8) = 0 : Prop)) → R = (some (.inl (U1 86 6)), (am_sh, am_mm U1))) ∧ (¬ (¬ (U1 86 8) = 0) → ∃ U2 : Nat → Nat → Int, Ev (am_kz N X) (d, 93, 0, [some (.inr (.inr 86)), none, none, none, none, none], [], (am_sh, am_mm U1)) (none, (am_sh, am_mm U2)) ∧ R = (some (.inl (U1 86 6)), (am_sh, am_mm U2)))) ∧ (¬ (¬ (U1 86 8) = 0) → ∃ (r3 : Int) (U3 : Nat → Nat → Int), Ev (am_kz N X) (d, 103, 0, [some (.inl (U1 86 6)), some (.inl x1), some (.inl x2)], [], (am_sh, am_mm U1)) (some (.inl r3), (am_sh, am_mm U3)) ∧ (((¬ r3 = 0 : Prop)) → (((¬ (U3 86 8) = 0 : Prop)) → R = (some (.inl (U3 86 6)), (am_sh, am_mm U3))) ∧ (¬ (¬ (U3 86 8) = 0) → ∃ U4 : Nat → Nat → Int, Ev (am_kz N X) (d, 93, 0, [some (.inr (.inr 86)), none, none, none, none, none], [], (am_sh, am_mm U3)) (none, (am_sh, am_mm U4)) ∧ R = (some (.inl (U3 86 6)), (am_sh, am_mm U4)))) ∧ (¬ (¬ r3 = 0) → ∃ U5 : Nat → Nat → Int, Ev (am_kz N X) (d, 196, 0, [some (.inr (.inr 86)), some (.inl 4), some (.inl (U3 86 4))], [], (am_sh, am_mm U3)) (none, (am_sh, am_mm U5)) ∧ (((¬ (U5 86 8) = 0 : Prop)) → R = (some (.inl (U5 86 6)), (am_sh, am_mm U5))) ∧ (¬ (¬ (U5 86 8) = 0) → ∃ U6 : Nat → Nat → Int, Ev (am_kz N X) (d, 93, 0, [some (.inr (.inr 86)), none, none, none, none, none], [], (am_sh, am_mm U5)) (none, (am_sh, am_mm U6)) ∧ R = (some (.inl (U5 86 6)), (am_sh, am_mm U6)))))) ∧ (¬ ((U1 86 3) = 2) → ∃ U7 : Nat → Nat → Int, Ev (am_kz N X) (d, 196, 0, [some (.inr (.inr 86)), some (.inl 1), some (.inl (U1 86 4))], [], (am_sh, am_mm U1)) (none, (am_sh, am_mm U7)) ∧ (((¬ (U7 86 8) = 0 : Prop)) → (((¬ (U7 86 8) = 0 : Prop)) → R = (some (.inl (U7 86 6)), (am_sh, am_mm U7))) ∧ (¬ (¬ (U7 86 8) = 0) → ∃ U8 : Nat → Nat → Int, Ev (am_kz N X) (d, 93, 0, [some (.inr (.inr 86)), none, none, none, none, none], [], (am_sh, am_mm U7)) (none, (am_sh, am_mm U8)) ∧ R = (some (.inl (U7 86 6)), (am_sh, am_mm U8)))) ∧ (¬ (¬ (U7 86 8) = 0) → ∃ (r9 : Int) (U9 : Nat → Nat → Int), Ev (am_kz N X) (d, 103, 0, [some (.inl (U7 86 6)), some (.inl x1), some (.inl x2)], [], (am_sh, am_mm U7)) (some (.inl r9), (am_sh, am_mm U9)) ∧ (((¬ r9 = 0 : Prop)) → (((¬ (U9 86 8) = 0 : Prop)) → R = (some (.inl (U9 86 6)), (am_sh, am_mm U9))) ∧ (¬ (¬ (U9 86 8) = 0) → ∃ U10 : Nat → Nat → Int, Ev (am_kz N X) (d, 93, 0, [some (.inr (.inr 86)), none, none, none, none, none], [], (am_sh, am_mm U9)) (none, (am_sh, am_mm U10)) ∧ R = (some (.inl (U9 86 6)), (am_sh, am_mm U10)))) ∧ (¬ (¬ r9 = 0) → ∃ U11 : Nat → Nat → Int, Ev (am_kz N X) (d, 196, 0, [some (.inr (.inr 86)), some (.inl 4), some (.inl (U9 86 4))], [], (am_sh, am_mm U9)) (none, (am_sh, am_mm U11)) ∧ (((¬ (U11 86 8) = 0 : Prop)) → R = (some (.inl (U11 86 6)), (am_sh, am_mm U11))) ∧ (¬ (¬ (U11 86 8) = 0) → ∃ U12 : Nat → Nat → Int, Ev (am_kz N X) (d, 93, 0, [some (.inr (.inr 86)), none, none, none, none, none], [], (am_sh, am_mm U11)) (none, (am_sh, am_mm U12)) ∧ R = (some (.inl (U11 86 6)), (am_sh, am_mm U12))))))) ∧ (¬ ((U1 86 8) ≤ 0) → R = (some (.inl 0), (am_sh, am_mm U1)))) : Ev (am_kz N X) ((d + 1), 268, 0, [some (.inr (.inr 86)), some (.inl x1), some (.inl x2), none], [], (am_sh, am_mm U)) R := by
  refine ev_seg (σ1 := ((d + 1), 268, 1, [some (.inr (.inr 86)), some (.inl x1), some (.inl x2), none], [.inr (.inr 86)], (am_sh, am_mm U))) 1 (fun _ => rfl) ?_
  obtain ⟨U1, hc, ha⟩ := h
  refine ev_cal (σc := (d, 186, 0, [some (.inr (.inr 86))], [], (am_sh, am_mm U))) (fun _ => rfl) hc ?_
  show Ev (am_kz N X) ((d + 1), 268, 4, [some (.inr (.inr 86)), some (.inl x1), some (.inl x2), none], [], (am_sh, am_mm U1)) R
  refine ev_br (P := (U1 86 8) ≤ 0) (σ1 := ((d + 1), 268, 13, [some (.inr (.inr 86)), some (.inl x1), some (.inl x2), none], [], (am_sh, am_mm U1))) (σ2 := ((d + 1), 268, 11, [some (.inr (.inr 86)), some (.inl x1), some (.inl x2), none], [], (am_sh, am_mm U1))) 3 (fun _ => rfl) (fun hc => ?_) (fun hc => ?_)
  · have ha1 := ha.1 hc
    refine ev_br (P := (U1 86 3) = 2) (σ1 := ((d + 1), 268, 30, [some (.inr (.inr 86)), some (.inl x1), some (.inl x2), none], [], (am_sh, am_mm U1))) (σ2 := ((d + 1), 268, 21, [some (.inr (.inr 86)), some (.inl x1), some (.inl x2), none], [], (am_sh, am_mm U1))) 4 (fun _ => rfl) (fun hc => ?_) (fun hc => ?_)
    · have ha11 := ha1.1 hc
      refine ev_br (P := ¬ (U1 86 8) = 0) (σ1 := ((d + 1), 268, 58, [some (.inr (.inr 86)), some (.inl x1), some (.inl x2), none], [], (am_sh, am_mm U1))) (σ2 := ((d + 1), 268, 37, [some (.inr (.inr 86)), some (.inl x1), some (.inl x2), none], [], (am_sh, am_mm U1))) 3 (fun _ => rfl) (fun hc => ?_) (fun hc => ?_)
      · have ha111 := ha11.1 hc
        refine ev_br (P := ¬ (U1 86 8) = 0) (σ1 := ((d + 1), 268, 74, [some (.inr (.inr 86)), some (.inl x1), some (.inl x2), some (.inl (U1 86 6))], [], (am_sh, am_mm U1))) (σ2 := ((d + 1), 268, 70, [some (.inr (.inr 86)), some (.inl x1), some (.inl x2), some (.inl (U1 86 6))], [], (am_sh, am_mm U1))) 6 (fun _ => rfl) (fun hc => ?_) (fun hc => ?_)
        · have ha1111 := ha111.1 hc
          subst ha1111
          exact ev_end 2 (fun _ => rfl)
        · have ha1112 := ha111.2 hc
          refine ev_seg (σ1 := ((d + 1), 268, 71, [some (.inr (.inr 86)), some (.inl x1), some (.inl x2), some (.inl (U1 86 6))], [.inr (.inr 86)], (am_sh, am_mm U1))) 1 (fun _ => rfl) ?_
          obtain ⟨U2, ha1112c, ha1112a⟩ := ha1112
          refine ev_cal (σc := (d, 93, 0, [some (.inr (.inr 86)), none, none, none, none, none], [], (am_sh, am_mm U1))) (fun _ => rfl) ha1112c ?_
          show Ev (am_kz N X) ((d + 1), 268, 74, [some (.inr (.inr 86)), some (.inl x1), some (.inl x2), some (.inl (U1 86 6))], [], (am_sh, am_mm U2)) R
          subst ha1112a
          exact ev_end 2 (fun _ => rfl)
      · have ha112 := ha11.2 hc
        refine ev_seg (σ1 := ((d + 1), 268, 43, [some (.inr (.inr 86)), some (.inl x1), some (.inl x2), none], [.inl x2, .inl x1, .inl (U1 86 6)], (am_sh, am_mm U1))) 4 (fun _ => rfl) ?_
        obtain ⟨r3, U3, ha112c, ha112a⟩ := ha112
        refine ev_cal (σc := (d, 103, 0, [some (.inl (U1 86 6)), some (.inl x1), some (.inl x2)], [], (am_sh, am_mm U1))) (fun _ => rfl) ha112c ?_
        show Ev (am_kz N X) ((d + 1), 268, 46, [some (.inr (.inr 86)), some (.inl x1), some (.inl x2), none], [.inl r3], (am_sh, am_mm U3)) R
        refine ev_br (P := ¬ r3 = 0) (σ1 := ((d + 1), 268, 58, [some (.inr (.inr 86)), some (.inl x1), some (.inl x2), none], [], (am_sh, am_mm U3))) (σ2 := ((d + 1), 268, 49, [some (.inr (.inr 86)), some (.inl x1), some (.inl x2), none], [], (am_sh, am_mm U3))) 1 (fun _ => rfl) (fun hc => ?_) (fun hc => ?_)
        · have ha112a1 := ha112a.1 hc
          refine ev_br (P := ¬ (U3 86 8) = 0) (σ1 := ((d + 1), 268, 74, [some (.inr (.inr 86)), some (.inl x1), some (.inl x2), some (.inl (U3 86 6))], [], (am_sh, am_mm U3))) (σ2 := ((d + 1), 268, 70, [some (.inr (.inr 86)), some (.inl x1), some (.inl x2), some (.inl (U3 86 6))], [], (am_sh, am_mm U3))) 6 (fun _ => rfl) (fun hc => ?_) (fun hc => ?_)
          · have ha112a11 := ha112a1.1 hc
            subst ha112a11
            exact ev_end 2 (fun _ => rfl)
          · have ha112a12 := ha112a1.2 hc
            refine ev_seg (σ1 := ((d + 1), 268, 71, [some (.inr (.inr 86)), some (.inl x1), some (.inl x2), some (.inl (U3 86 6))], [.inr (.inr 86)], (am_sh, am_mm U3))) 1 (fun _ => rfl) ?_
            obtain ⟨U4, ha112a12c, ha112a12a⟩ := ha112a12
            refine ev_cal (σc := (d, 93, 0, [some (.inr (.inr 86)), none, none, none, none, none], [], (am_sh, am_mm U3))) (fun _ => rfl) ha112a12c ?_
            show Ev (am_kz N X) ((d + 1), 268, 74, [some (.inr (.inr 86)), some (.inl x1), some (.inl x2), some (.inl (U3 86 6))], [], (am_sh, am_mm U4)) R
            subst ha112a12a
            exact ev_end 2 (fun _ => rfl)
        · have ha112a2 := ha112a.2 hc
          refine ev_seg (σ1 := ((d + 1), 268, 55, [some (.inr (.inr 86)), some (.inl x1), some (.inl x2), none], [.inl (U3 86 4), .inl 4, .inr (.inr 86)], (am_sh, am_mm U3))) 4 (fun _ => rfl) ?_
          obtain ⟨U5, ha112a2c, ha112a2a⟩ := ha112a2
          refine ev_cal (σc := (d, 196, 0, [some (.inr (.inr 86)), some (.inl 4), some (.inl (U3 86 4))], [], (am_sh, am_mm U3))) (fun _ => rfl) ha112a2c ?_
          show Ev (am_kz N X) ((d + 1), 268, 58, [some (.inr (.inr 86)), some (.inl x1), some (.inl x2), none], [], (am_sh, am_mm U5)) R
          refine ev_br (P := ¬ (U5 86 8) = 0) (σ1 := ((d + 1), 268, 74, [some (.inr (.inr 86)), some (.inl x1), some (.inl x2), some (.inl (U5 86 6))], [], (am_sh, am_mm U5))) (σ2 := ((d + 1), 268, 70, [some (.inr (.inr 86)), some (.inl x1), some (.inl x2), some (.inl (U5 86 6))], [], (am_sh, am_mm U5))) 6 (fun _ => rfl) (fun hc => ?_) (fun hc => ?_)
          · have ha112a2a1 := ha112a2a.1 hc
            subst ha112a2a1
            exact ev_end 2 (fun _ => rfl)
          · have ha112a2a2 := ha112a2a.2 hc
            refine ev_seg (σ1 := ((d + 1), 268, 71, [some (.inr (.inr 86)), some (.inl x1), some (.inl x2), some (.inl (U5 86 6))], [.inr (.inr 86)], (am_sh, am_mm U5))) 1 (fun _ => rfl) ?_
            obtain ⟨U6, ha112a2a2c, ha112a2a2a⟩ := ha112a2a2
            refine ev_cal (σc := (d, 93, 0, [some (.inr (.inr 86)), none, none, none, none, none], [], (am_sh, am_mm U5))) (fun _ => rfl) ha112a2a2c ?_
            show Ev (am_kz N X) ((d + 1), 268, 74, [some (.inr (.inr 86)), some (.inl x1), some (.inl x2), some (.inl (U5 86 6))], [], (am_sh, am_mm U6)) R
            subst ha112a2a2a
            exact ev_end 2 (fun _ => rfl)
    · have ha12 := ha1.2 hc
      refine ev_seg (σ1 := ((d + 1), 268, 27, [some (.inr (.inr 86)), some (.inl x1), some (.inl x2), none], [.inl (U1 86 4), .inl 1, .inr (.inr 86)], (am_sh, am_mm U1))) 4 (fun _ => rfl) ?_
      obtain ⟨U7, ha12c, ha12a⟩ := ha12
      refine ev_cal (σc := (d, 196, 0, [some (.inr (.inr 86)), some (.inl 1), some (.inl (U1 86 4))], [], (am_sh, am_mm U1))) (fun _ => rfl) ha12c ?_
      show Ev (am_kz N X) ((d + 1), 268, 30, [some (.inr (.inr 86)), some (.inl x1), some (.inl x2), none], [], (am_sh, am_mm U7)) R
      refine ev_br (P := ¬ (U7 86 8) = 0) (σ1 := ((d + 1), 268, 58, [some (.inr (.inr 86)), some (.inl x1), some (.inl x2), none], [], (am_sh, am_mm U7))) (σ2 := ((d + 1), 268, 37, [some (.inr (.inr 86)), some (.inl x1), some (.inl x2), none], [], (am_sh, am_mm U7))) 3 (fun _ => rfl) (fun hc => ?_) (fun hc => ?_)
      · have ha12a1 := ha12a.1 hc
        refine ev_br (P := ¬ (U7 86 8) = 0) (σ1 := ((d + 1), 268, 74, [some (.inr (.inr 86)), some (.inl x1), some (.inl x2), some (.inl (U7 86 6))], [], (am_sh, am_mm U7))) (σ2 := ((d + 1), 268, 70, [some (.inr (.inr 86)), some (.inl x1), some (.inl x2), some (.inl (U7 86 6))], [], (am_sh, am_mm U7))) 6 (fun _ => rfl) (fun hc => ?_) (fun hc => ?_)
        · have ha12a11 := ha12a1.1 hc
          subst ha12a11
          exact ev_end 2 (fun _ => rfl)
        · have ha12a12 := ha12a1.2 hc
          refine ev_seg (σ1 := ((d + 1), 268, 71, [some (.inr (.inr 86)), some (.inl x1), some (.inl x2), some (.inl (U7 86 6))], [.inr (.inr 86)], (am_sh, am_mm U7))) 1 (fun _ => rfl) ?_
          obtain ⟨U8, ha12a12c, ha12a12a⟩ := ha12a12
          refine ev_cal (σc := (d, 93, 0, [some (.inr (.inr 86)), none, none, none, none, none], [], (am_sh, am_mm U7))) (fun _ => rfl) ha12a12c ?_
          show Ev (am_kz N X) ((d + 1), 268, 74, [some (.inr (.inr 86)), some (.inl x1), some (.inl x2), some (.inl (U7 86 6))], [], (am_sh, am_mm U8)) R
          subst ha12a12a
          exact ev_end 2 (fun _ => rfl)
      · have ha12a2 := ha12a.2 hc
        refine ev_seg (σ1 := ((d + 1), 268, 43, [some (.inr (.inr 86)), some (.inl x1), some (.inl x2), none], [.inl x2, .inl x1, .inl (U7 86 6)], (am_sh, am_mm U7))) 4 (fun _ => rfl) ?_
        obtain ⟨r9, U9, ha12a2c, ha12a2a⟩ := ha12a2
        refine ev_cal (σc := (d, 103, 0, [some (.inl (U7 86 6)), some (.inl x1), some (.inl x2)], [], (am_sh, am_mm U7))) (fun _ => rfl) ha12a2c ?_
        show Ev (am_kz N X) ((d + 1), 268, 46, [some (.inr (.inr 86)), some (.inl x1), some (.inl x2), none], [.inl r9], (am_sh, am_mm U9)) R
        refine ev_br (P := ¬ r9 = 0) (σ1 := ((d + 1), 268, 58, [some (.inr (.inr 86)), some (.inl x1), some (.inl x2), none], [], (am_sh, am_mm U9))) (σ2 := ((d + 1), 268, 49, [some (.inr (.inr 86)), some (.inl x1), some (.inl x2), none], [], (am_sh, am_mm U9))) 1 (fun _ => rfl) (fun hc => ?_) (fun hc => ?_)
        · have ha12a2a1 := ha12a2a.1 hc
          refine ev_br (P := ¬ (U9 86 8) = 0) (σ1 := ((d + 1), 268, 74, [some (.inr (.inr 86)), some (.inl x1), some (.inl x2), some (.inl (U9 86 6))], [], (am_sh, am_mm U9))) (σ2 := ((d + 1), 268, 70, [some (.inr (.inr 86)), some (.inl x1), some (.inl x2), some (.inl (U9 86 6))], [], (am_sh, am_mm U9))) 6 (fun _ => rfl) (fun hc => ?_) (fun hc => ?_)
          · have ha12a2a11 := ha12a2a1.1 hc
            subst ha12a2a11
            exact ev_end 2 (fun _ => rfl)
          · have ha12a2a12 := ha12a2a1.2 hc
            refine ev_seg (σ1 := ((d + 1), 268, 71, [some (.inr (.inr 86)), some (.inl x1), some (.inl x2), some (.inl (U9 86 6))], [.inr (.inr 86)], (am_sh, am_mm U9))) 1 (fun _ => rfl) ?_
            obtain ⟨U10, ha12a2a12c, ha12a2a12a⟩ := ha12a2a12
            refine ev_cal (σc := (d, 93, 0, [some (.inr (.inr 86)), none, none, none, none, none], [], (am_sh, am_mm U9))) (fun _ => rfl) ha12a2a12c ?_
            show Ev (am_kz N X) ((d + 1), 268, 74, [some (.inr (.inr 86)), some (.inl x1), some (.inl x2), some (.inl (U9 86 6))], [], (am_sh, am_mm U10)) R
            subst ha12a2a12a
            exact ev_end 2 (fun _ => rfl)
        · have ha12a2a2 := ha12a2a.2 hc
          refine ev_seg (σ1 := ((d + 1), 268, 55, [some (.inr (.inr 86)), some (.inl x1), some (.inl x2), none], [.inl (U9 86 4), .inl 4, .inr (.inr 86)], (am_sh, am_mm U9))) 4 (fun _ => rfl) ?_
          obtain ⟨U11, ha12a2a2c, ha12a2a2a⟩ := ha12a2a2
          refine ev_cal (σc := (d, 196, 0, [some (.inr (.inr 86)), some (.inl 4), some (.inl (U9 86 4))], [], (am_sh, am_mm U9))) (fun _ => rfl) ha12a2a2c ?_
          show Ev (am_kz N X) ((d + 1), 268, 58, [some (.inr (.inr 86)), some (.inl x1), some (.inl x2), none], [], (am_sh, am_mm U11)) R
          refine ev_br (P := ¬ (U11 86 8) = 0) (σ1 := ((d + 1), 268, 74, [some (.inr (.inr 86)), some (.inl x1), some (.inl x2), some (.inl (U11 86 6))], [], (am_sh, am_mm U11))) (σ2 := ((d + 1), 268, 70, [some (.inr (.inr 86)), some (.inl x1), some (.inl x2), some (.inl (U11 86 6))], [], (am_sh, am_mm U11))) 6 (fun _ => rfl) (fun hc => ?_) (fun hc => ?_)
          · have ha12a2a2a1 := ha12a2a2a.1 hc
            subst ha12a2a2a1
            exact ev_end 2 (fun _ => rfl)
          · have ha12a2a2a2 := ha12a2a2a.2 hc
            refine ev_seg (σ1 := ((d + 1), 268, 71, [some (.inr (.inr 86)), some (.inl x1), some (.inl x2), some (.inl (U11 86 6))], [.inr (.inr 86)], (am_sh, am_mm U11))) 1 (fun _ => rfl) ?_
            obtain ⟨U12, ha12a2a2a2c, ha12a2a2a2a⟩ := ha12a2a2a2
            refine ev_cal (σc := (d, 93, 0, [some (.inr (.inr 86)), none, none, none, none, none], [], (am_sh, am_mm U11))) (fun _ => rfl) ha12a2a2a2c ?_
            show Ev (am_kz N X) ((d + 1), 268, 74, [some (.inr (.inr 86)), some (.inl x1), some (.inl x2), some (.inl (U11 86 6))], [], (am_sh, am_mm U12)) R
            subst ha12a2a2a2a
            exact ev_end 2 (fun _ => rfl)
  · have ha2 := ha.2 hc
    subst ha2
    exact ev_end 2 (fun _ => rfl)
set_option maxRecDepth 8000 in
theorem st267_86_0 (N : Nat) (X : Nat → Int) (d : Nat) (x1 : Int) (U : Nat → Nat → Int) (R : Option am_V × am_M) (h : ∃ (r1 : Int) (U1 : Nat → Nat → Int), Ev (am_kz N X) (d, 269, 0, [some (.inr (.inr 86)), some (.inl x1), none], [], (am_sh, am_mm U)) (some (.inl r1), (am_sh, am_mm U1)) ∧ (((¬ (U1 86 8) = 0 : Prop)) → ((((U1 86 8) ≤ 0 : Prop)) → R = (some (.inl r1), (am_sh, am_mm U1))) ∧ (¬ ((U1 86 8) ≤ 0) → R = (some (.inl 0), (am_sh, am_mm U1)))) ∧ (¬ (¬ (U1 86 8) = 0) → ∃ U2 : Nat → Nat → Int, Ev (am_kz N X) (d, 93, 0, [some (.inr (.inr 86)), none, none, none, none, none], [], (am_sh, am_mm U1)) (none, (am_sh, am_mm U2)) ∧ ((((U2 86 8) ≤ 0 : Prop)) → R = (some (.inl r1), (am_sh, am_mm U2))) ∧ (¬ ((U2 86 8) ≤ 0) → R = (some (.inl 0), (am_sh, am_mm U2))))) : Ev (am_kz N X) ((d + 1), 267, 0, [some (.inr (.inr 86)), some (.inl x1), none], [], (am_sh, am_mm U)) R := by
  refine ev_seg (σ1 := ((d + 1), 267, 2, [some (.inr (.inr 86)), some (.inl x1), none], [.inl x1, .inr (.inr 86)], (am_sh, am_mm U))) 2 (fun _ => rfl) ?_
  obtain ⟨r1, U1, hc, ha⟩ := h
  refine ev_cal (σc := (d, 269, 0, [some (.inr (.inr 86)), some (.inl x1), none], [], (am_sh, am_mm U))) (fun _ => rfl) hc ?_
  show Ev (am_kz N X) ((d + 1), 267, 5, [some (.inr (.inr 86)), some (.inl x1), none], [.inl r1], (am_sh, am_mm U1)) R
  refine ev_br (P := ¬ (U1 86 8) = 0) (σ1 := ((d + 1), 267, 17, [some (.inr (.inr 86)), some (.inl x1), some (.inl r1)], [], (am_sh, am_mm U1))) (σ2 := ((d + 1), 267, 13, [some (.inr (.inr 86)), some (.inl x1), some (.inl r1)], [], (am_sh, am_mm U1))) 4 (fun _ => rfl) (fun hc => ?_) (fun hc => ?_)
  · have ha1 := ha.1 hc
    refine ev_br (P := (U1 86 8) ≤ 0) (σ1 := ((d + 1), 267, 28, [some (.inr (.inr 86)), some (.inl x1), some (.inl r1)], [], (am_sh, am_mm U1))) (σ2 := ((d + 1), 267, 24, [some (.inr (.inr 86)), some (.inl x1), some (.inl r1)], [], (am_sh, am_mm U1))) 3 (fun _ => rfl) (fun hc => ?_) (fun hc => ?_)
    · have ha11 := ha1.1 hc
      subst ha11
      exact ev_end 2 (fun _ => rfl)
    · have ha12 := ha1.2 hc
      subst ha12
      exact ev_end 3 (fun _ => rfl)
  · have ha2 := ha.2 hc
    refine ev_seg (σ1 := ((d + 1), 267, 14, [some (.inr (.inr 86)), some (.inl x1), some (.inl r1)], [.inr (.inr 86)], (am_sh, am_mm U1))) 1 (fun _ => rfl) ?_
    obtain ⟨U2, ha2c, ha2a⟩ := ha2
    refine ev_cal (σc := (d, 93, 0, [some (.inr (.inr 86)), none, none, none, none, none], [], (am_sh, am_mm U1))) (fun _ => rfl) ha2c ?_
    show Ev (am_kz N X) ((d + 1), 267, 17, [some (.inr (.inr 86)), some (.inl x1), some (.inl r1)], [], (am_sh, am_mm U2)) R
    refine ev_br (P := (U2 86 8) ≤ 0) (σ1 := ((d + 1), 267, 28, [some (.inr (.inr 86)), some (.inl x1), some (.inl r1)], [], (am_sh, am_mm U2))) (σ2 := ((d + 1), 267, 24, [some (.inr (.inr 86)), some (.inl x1), some (.inl r1)], [], (am_sh, am_mm U2))) 3 (fun _ => rfl) (fun hc => ?_) (fun hc => ?_)
    · have ha2a1 := ha2a.1 hc
      subst ha2a1
      exact ev_end 2 (fun _ => rfl)
    · have ha2a2 := ha2a.2 hc
      subst ha2a2
      exact ev_end 3 (fun _ => rfl)
set_option maxRecDepth 8000 in
theorem st269_86_0 (N : Nat) (X : Nat → Int) (d : Nat) (x1 : Int) (U : Nat → Nat → Int) (R : Option am_V × am_M) (h : ∃ U1 : Nat → Nat → Int, Ev (am_kz N X) (d, 186, 0, [some (.inr (.inr 86))], [], (am_sh, am_mm U)) (none, (am_sh, am_mm U1)) ∧ ((((U1 86 8) ≤ 0 : Prop)) → (((¬ (U1 86 3) = 1 : Prop)) → ∃ U2 : Nat → Nat → Int, Ev (am_kz N X) (d, 196, 0, [some (.inr (.inr 86)), some (.inl 1), some (.inl (U1 86 4))], [], (am_sh, am_mm U1)) (none, (am_sh, am_mm U2)) ∧ ((((U2 86 8) ≤ 0 : Prop)) → ∃ (r3 : Int) (U3 : Nat → Nat → Int), Ev (am_kz N X) (d, 307, 0, [some (.inr (.inr 86)), some (.inl x1), some (.inr (.inl (U2 86 7))), none, none], [], (am_sh, am_mm U2)) (some (.inl r3), (am_sh, am_mm U3)) ∧ (((¬ (U3 86 8) = 0 : Prop)) → Ev (am_kz N X) ((d + 1), 269, 83, [some (.inr (.inr 86)), some (.inl x1), some (.inl r3)], [], (am_sh, am_mm U3)) R) ∧ (¬ (¬ (U3 86 8) = 0) → (((¬ r3 = (-1) : Prop)) → Ev (am_kz N X) ((d + 1), 269, 83, [some (.inr (.inr 86)), some (.inl x1), some (.inl r3)], [], (am_sh, am_mm U3)) R) ∧ (¬ (¬ r3 = (-1)) → ∃ U4 : Nat → Nat → Int, Ev (am_kz N X) (d, 196, 0, [some (.inr (.inr 86)), some (.inl 3), some (.inl (U3 86 4))], [], (am_sh, am_mm U3)) (none, (am_sh, am_mm U4)) ∧ Ev (am_kz N X) ((d + 1), 269, 83, [some (.inr (.inr 86)), some (.inl x1), some (.inl r3)], [], (am_sh, am_mm U4)) R))) ∧ (¬ ((U2 86 8) ≤ 0) → (((¬ (U2 86 8) = 0 : Prop)) → Ev (am_kz N X) ((d + 1), 269, 83, [some (.inr (.inr 86)), some (.inl x1), some (.inl 0)], [], (am_sh, am_mm U2)) R) ∧ (¬ (¬ (U2 86 8) = 0) → (((¬ 0 = (-1) : Prop)) → Ev (am_kz N X) ((d + 1), 269, 83, [some (.inr (.inr 86)), some (.inl x1), some (.inl 0)], [], (am_sh, am_mm U2)) R) ∧ (¬ (¬ 0 = (-1)) → ∃ U5 : Nat → Nat → Int, Ev (am_kz N X) (d, 196, 0, [some (.inr (.inr 86)), some (.inl 3), some (.inl (U2 86 4))], [], (am_sh, am_mm U2)) (none, (am_sh, am_mm U5)) ∧ Ev (am_kz N X) ((d + 1), 269, 83, [some (.inr (.inr 86)), some (.inl x1), some (.inl 0)], [], (am_sh, am_mm U5)) R)))) ∧ (¬ (¬ (U1 86 3) = 1) → ∃ (r6 : Int) (U6 : Nat → Nat → Int), Ev (am_kz N X) (d, 306, 0, [some (.inr (.inr 86)), some (.inr (.inl (U1 86 7))), none], [], (am_sh, am_mm U1)) (some (.inl r6), (am_sh, am_mm U6)) ∧ (((r6 = 0 : Prop)) → ((((U6 86 8) ≤ 0 : Prop)) → ∃ (r7 : Int) (U7 : Nat → Nat → Int), Ev (am_kz N X) (d, 307, 0, [some (.inr (.inr 86)), some (.inl x1), some (.inr (.inl (U6 86 7))), none, none], [], (am_sh, am_mm U6)) (some (.inl r7), (am_sh, am_mm U7)) ∧ (((¬ (U7 86 8) = 0 : Prop)) → Ev (am_kz N X) ((d + 1), 269, 83, [some (.inr (.inr 86)), some (.inl x1), some (.inl r7)], [], (am_sh, am_mm U7)) R) ∧ (¬ (¬ (U7 86 8) = 0) → (((¬ r7 = (-1) : Prop)) → Ev (am_kz N X) ((d + 1), 269, 83, [some (.inr (.inr 86)), some (.inl x1), some (.inl r7)], [], (am_sh, am_mm U7)) R) ∧ (¬ (¬ r7 = (-1)) → ∃ U8 : Nat → Nat → Int, Ev (am_kz N X) (d, 196, 0, [some (.inr (.inr 86)), some (.inl 3), some (.inl (U7 86 4))], [], (am_sh, am_mm U7)) (none, (am_sh, am_mm U8)) ∧ Ev (am_kz N X) ((d + 1), 269, 83, [some (.inr (.inr 86)), some (.inl x1), some (.inl r7)], [], (am_sh, am_mm U8)) R))) ∧ (¬ ((U6 86 8) ≤ 0) → (((¬ (U6 86 8) = 0 : Prop)) → Ev (am_kz N X) ((d + 1), 269, 83, [some (.inr (.inr 86)), some (.inl x1), some (.inl 0)], [], (am_sh, am_mm U6)) R) ∧ (¬ (¬ (U6 86 8) = 0) → (((¬ 0 = (-1) : Prop)) → Ev (am_kz N X) ((d + 1), 269, 83, [some (.inr (.inr 86)), some (.inl x1), some (.inl 0)], [], (am_sh, am_mm U6)) R) ∧ (¬ (¬ 0 = (-1)) → ∃ U9 : Nat → Nat → Int, Ev (am_kz N X) (d, 196, 0, [some (.inr (.inr 86)), some (.inl 3), some (.inl (U6 86 4))], [], (am_sh, am_mm U6)) (none, (am_sh, am_mm U9)) ∧ Ev (am_kz N X) ((d + 1), 269, 83, [some (.inr (.inr 86)), some (.inl x1), some (.inl 0)], [], (am_sh, am_mm U9)) R)))) ∧ (¬ (r6 = 0) → ∃ U10 : Nat → Nat → Int, Ev (am_kz N X) (d, 196, 0, [some (.inr (.inr 86)), some (.inl 1), some (.inl (U6 86 4))], [], (am_sh, am_mm U6)) (none, (am_sh, am_mm U10)) ∧ ((((U10 86 8) ≤ 0 : Prop)) → ∃ (r11 : Int) (U11 : Nat → Nat → Int), Ev (am_kz N X) (d, 307, 0, [some (.inr (.inr 86)), some (.inl x1), some (.inr (.inl (U10 86 7))), none, none], [], (am_sh, am_mm U10)) (some (.inl r11), (am_sh, am_mm U11)) ∧ (((¬ (U11 86 8) = 0 : Prop)) → Ev (am_kz N X) ((d + 1), 269, 83, [some (.inr (.inr 86)), some (.inl x1), some (.inl r11)], [], (am_sh, am_mm U11)) R) ∧ (¬ (¬ (U11 86 8) = 0) → (((¬ r11 = (-1) : Prop)) → Ev (am_kz N X) ((d + 1), 269, 83, [some (.inr (.inr 86)), some (.inl x1), some (.inl r11)], [], (am_sh, am_mm U11)) R) ∧ (¬ (¬ r11 = (-1)) → ∃ U12 : Nat → Nat → Int, Ev (am_kz N X) (d, 196, 0, [some (.inr (.inr 86)), some (.inl 3), some (.inl (U11 86 4))], [], (am_sh, am_mm U11)) (none, (am_sh, am_mm U12)) ∧ Ev (am_kz N X) ((d + 1), 269, 83, [some (.inr (.inr 86)), some (.inl x1), some (.inl r11)], [], (am_sh, am_mm U12)) R))) ∧ (¬ ((U10 86 8) ≤ 0) → (((¬ (U10 86 8) = 0 : Prop)) → Ev (am_kz N X) ((d + 1), 269, 83, [some (.inr (.inr 86)), some (.inl x1), some (.inl 0)], [], (am_sh, am_mm U10)) R) ∧ (¬ (¬ (U10 86 8) = 0) → (((¬ 0 = (-1) : Prop)) → Ev (am_kz N X) ((d + 1), 269, 83, [some (.inr (.inr 86)), some (.inl x1), some (.inl 0)], [], (am_sh, am_mm U10)) R) ∧ (¬ (¬ 0 = (-1)) → ∃ U13 : Nat → Nat → Int, Ev (am_kz N X) (d, 196, 0, [some (.inr (.inr 86)), some (.inl 3), some (.inl (U10 86 4))], [], (am_sh, am_mm U10)) (none, (am_sh, am_mm U13)) ∧ Ev (am_kz N X) ((d + 1), 269, 83, [some (.inr (.inr 86)), some (.inl x1), some (.inl 0)], [], (am_sh, am_mm U13)) R)))))) ∧ (¬ ((U1 86 8) ≤ 0) → R = (some (.inl 0), (am_sh, am_mm U1)))) : Ev (am_kz N X) ((d + 1), 269, 0, [some (.inr (.inr 86)), some (.inl x1), none], [], (am_sh, am_mm U)) R := by
  refine ev_seg (σ1 := ((d + 1), 269, 1, [some (.inr (.inr 86)), some (.inl x1), none], [.inr (.inr 86)], (am_sh, am_mm U))) 1 (fun _ => rfl) ?_
  obtain ⟨U1, hc, ha⟩ := h
  refine ev_cal (σc := (d, 186, 0, [some (.inr (.inr 86))], [], (am_sh, am_mm U))) (fun _ => rfl) hc ?_
  show Ev (am_kz N X) ((d + 1), 269, 4, [some (.inr (.inr 86)), some (.inl x1), none], [], (am_sh, am_mm U1)) R
  refine ev_br (P := (U1 86 8) ≤ 0) (σ1 := ((d + 1), 269, 13, [some (.inr (.inr 86)), some (.inl x1), none], [], (am_sh, am_mm U1))) (σ2 := ((d + 1), 269, 11, [some (.inr (.inr 86)), some (.inl x1), none], [], (am_sh, am_mm U1))) 3 (fun _ => rfl) (fun hc => ?_) (fun hc => ?_)
  · have ha1 := ha.1 hc
    refine ev_br (P := ¬ (U1 86 3) = 1) (σ1 := ((d + 1), 269, 32, [some (.inr (.inr 86)), some (.inl x1), none], [], (am_sh, am_mm U1))) (σ2 := ((d + 1), 269, 21, [some (.inr (.inr 86)), some (.inl x1), none], [], (am_sh, am_mm U1))) 4 (fun _ => rfl) (fun hc => ?_) (fun hc => ?_)
    · have ha11 := ha1.1 hc
      refine ev_seg (σ1 := ((d + 1), 269, 38, [some (.inr (.inr 86)), some (.inl x1), none], [.inl (U1 86 4), .inl 1, .inr (.inr 86)], (am_sh, am_mm U1))) 4 (fun _ => rfl) ?_
      obtain ⟨U2, ha11c, ha11a⟩ := ha11
      refine ev_cal (σc := (d, 196, 0, [some (.inr (.inr 86)), some (.inl 1), some (.inl (U1 86 4))], [], (am_sh, am_mm U1))) (fun _ => rfl) ha11c ?_
      show Ev (am_kz N X) ((d + 1), 269, 41, [some (.inr (.inr 86)), some (.inl x1), none], [], (am_sh, am_mm U2)) R
      refine ev_br (P := (U2 86 8) ≤ 0) (σ1 := ((d + 1), 269, 52, [some (.inr (.inr 86)), some (.inl x1), none], [], (am_sh, am_mm U2))) (σ2 := ((d + 1), 269, 48, [some (.inr (.inr 86)), some (.inl x1), none], [], (am_sh, am_mm U2))) 3 (fun _ => rfl) (fun hc => ?_) (fun hc => ?_)
      · have ha11a1 := ha11a.1 hc
        refine ev_seg (σ1 := ((d + 1), 269, 58, [some (.inr (.inr 86)), some (.inl x1), none], [.inr (.inl (U2 86 7)), .inl x1, .inr (.inr 86)], (am_sh, am_mm U2))) 4 (fun _ => rfl) ?_
        obtain ⟨r3, U3, ha11a1c, ha11a1a⟩ := ha11a1
        refine ev_cal (σc := (d, 307, 0, [some (.inr (.inr 86)), some (.inl x1), some (.inr (.inl (U2 86 7))), none, none], [], (am_sh, am_mm U2))) (fun _ => rfl) ha11a1c ?_
        show Ev (am_kz N X) ((d + 1), 269, 61, [some (.inr (.inr 86)), some (.inl x1), none], [.inl r3], (am_sh, am_mm U3)) R
        refine ev_br (P := ¬ (U3 86 8) = 0) (σ1 := ((d + 1), 269, 83, [some (.inr (.inr 86)), some (.inl x1), some (.inl r3)], [], (am_sh, am_mm U3))) (σ2 := ((d + 1), 269, 69, [some (.inr (.inr 86)), some (.inl x1), some (.inl r3)], [], (am_sh, am_mm U3))) 4 (fun _ => rfl) (fun hc => ?_) (fun hc => ?_)
        · have ha11a1a1 := ha11a1a.1 hc
          exact ha11a1a1
        · have ha11a1a2 := ha11a1a.2 hc
          refine ev_br (P := ¬ r3 = (-1)) (σ1 := ((d + 1), 269, 83, [some (.inr (.inr 86)), some (.inl x1), some (.inl r3)], [], (am_sh, am_mm U3))) (σ2 := ((d + 1), 269, 74, [some (.inr (.inr 86)), some (.inl x1), some (.inl r3)], [], (am_sh, am_mm U3))) 3 (fun _ => rfl) (fun hc => ?_) (fun hc => ?_)
          · have ha11a1a21 := ha11a1a2.1 hc
            exact ha11a1a21
          · have ha11a1a22 := ha11a1a2.2 hc
            refine ev_seg (σ1 := ((d + 1), 269, 80, [some (.inr (.inr 86)), some (.inl x1), some (.inl r3)], [.inl (U3 86 4), .inl 3, .inr (.inr 86)], (am_sh, am_mm U3))) 4 (fun _ => rfl) ?_
            obtain ⟨U4, ha11a1a22c, ha11a1a22a⟩ := ha11a1a22
            refine ev_cal (σc := (d, 196, 0, [some (.inr (.inr 86)), some (.inl 3), some (.inl (U3 86 4))], [], (am_sh, am_mm U3))) (fun _ => rfl) ha11a1a22c ?_
            show Ev (am_kz N X) ((d + 1), 269, 83, [some (.inr (.inr 86)), some (.inl x1), some (.inl r3)], [], (am_sh, am_mm U4)) R
            exact ha11a1a22a
      · have ha11a2 := ha11a.2 hc
        refine ev_br (P := ¬ (U2 86 8) = 0) (σ1 := ((d + 1), 269, 83, [some (.inr (.inr 86)), some (.inl x1), some (.inl 0)], [], (am_sh, am_mm U2))) (σ2 := ((d + 1), 269, 69, [some (.inr (.inr 86)), some (.inl x1), some (.inl 0)], [], (am_sh, am_mm U2))) 6 (fun _ => rfl) (fun hc => ?_) (fun hc => ?_)
        · have ha11a21 := ha11a2.1 hc
          exact ha11a21
        · have ha11a22 := ha11a2.2 hc
          refine ev_br (P := ¬ 0 = (-1)) (σ1 := ((d + 1), 269, 83, [some (.inr (.inr 86)), some (.inl x1), some (.inl 0)], [], (am_sh, am_mm U2))) (σ2 := ((d + 1), 269, 74, [some (.inr (.inr 86)), some (.inl x1), some (.inl 0)], [], (am_sh, am_mm U2))) 3 (fun _ => rfl) (fun hc => ?_) (fun hc => ?_)
          · have ha11a221 := ha11a22.1 hc
            exact ha11a221
          · have ha11a222 := ha11a22.2 hc
            refine ev_seg (σ1 := ((d + 1), 269, 80, [some (.inr (.inr 86)), some (.inl x1), some (.inl 0)], [.inl (U2 86 4), .inl 3, .inr (.inr 86)], (am_sh, am_mm U2))) 4 (fun _ => rfl) ?_
            obtain ⟨U5, ha11a222c, ha11a222a⟩ := ha11a222
            refine ev_cal (σc := (d, 196, 0, [some (.inr (.inr 86)), some (.inl 3), some (.inl (U2 86 4))], [], (am_sh, am_mm U2))) (fun _ => rfl) ha11a222c ?_
            show Ev (am_kz N X) ((d + 1), 269, 83, [some (.inr (.inr 86)), some (.inl x1), some (.inl 0)], [], (am_sh, am_mm U5)) R
            exact ha11a222a
    · have ha12 := ha1.2 hc
      refine ev_seg (σ1 := ((d + 1), 269, 26, [some (.inr (.inr 86)), some (.inl x1), none], [.inr (.inl (U1 86 7)), .inr (.inr 86)], (am_sh, am_mm U1))) 3 (fun _ => rfl) ?_
      obtain ⟨r6, U6, ha12c, ha12a⟩ := ha12
      refine ev_cal (σc := (d, 306, 0, [some (.inr (.inr 86)), some (.inr (.inl (U1 86 7))), none], [], (am_sh, am_mm U1))) (fun _ => rfl) ha12c ?_
      show Ev (am_kz N X) ((d + 1), 269, 29, [some (.inr (.inr 86)), some (.inl x1), none], [.inl r6], (am_sh, am_mm U6)) R
      refine ev_br (P := r6 = 0) (σ1 := ((d + 1), 269, 41, [some (.inr (.inr 86)), some (.inl x1), none], [], (am_sh, am_mm U6))) (σ2 := ((d + 1), 269, 32, [some (.inr (.inr 86)), some (.inl x1), none], [], (am_sh, am_mm U6))) 1 (fun _ => rfl) (fun hc => ?_) (fun hc => ?_)
      · have ha12a1 := ha12a.1 hc
        refine ev_br (P := (U6 86 8) ≤ 0) (σ1 := ((d + 1), 269, 52, [some (.inr (.inr 86)), some (.inl x1), none], [], (am_sh, am_mm U6))) (σ2 := ((d + 1), 269, 48, [some (.inr (.inr 86)), some (.inl x1), none], [], (am_sh, am_mm U6))) 3 (fun _ => rfl) (fun hc => ?_) (fun hc => ?_)
        · have ha12a11 := ha12a1.1 hc
          refine ev_seg (σ1 := ((d + 1), 269, 58, [some (.inr (.inr 86)), some (.inl x1), none], [.inr (.inl (U6 86 7)), .inl x1, .inr (.inr 86)], (am_sh, am_mm U6))) 4 (fun _ => rfl) ?_
          obtain ⟨r7, U7, ha12a11c, ha12a11a⟩ := ha12a11
          refine ev_cal (σc := (d, 307, 0, [some (.inr (.inr 86)), some (.inl x1), some (.inr (.inl (U6 86 7))), none, none], [], (am_sh, am_mm U6))) (fun _ => rfl) ha12a11c ?_
          show Ev (am_kz N X) ((d + 1), 269, 61, [some (.inr (.inr 86)), some (.inl x1), none], [.inl r7], (am_sh, am_mm U7)) R
          refine ev_br (P := ¬ (U7 86 8) = 0) (σ1 := ((d + 1), 269, 83, [some (.inr (.inr 86)), some (.inl x1), some (.inl r7)], [], (am_sh, am_mm U7))) (σ2 := ((d + 1), 269, 69, [some (.inr (.inr 86)), some (.inl x1), some (.inl r7)], [], (am_sh, am_mm U7))) 4 (fun _ => rfl) (fun hc => ?_) (fun hc => ?_)
          · have ha12a11a1 := ha12a11a.1 hc
            exact ha12a11a1
          · have ha12a11a2 := ha12a11a.2 hc
            refine ev_br (P := ¬ r7 = (-1)) (σ1 := ((d + 1), 269, 83, [some (.inr (.inr 86)), some (.inl x1), some (.inl r7)], [], (am_sh, am_mm U7))) (σ2 := ((d + 1), 269, 74, [some (.inr (.inr 86)), some (.inl x1), some (.inl r7)], [], (am_sh, am_mm U7))) 3 (fun _ => rfl) (fun hc => ?_) (fun hc => ?_)
            · have ha12a11a21 := ha12a11a2.1 hc
              exact ha12a11a21
            · have ha12a11a22 := ha12a11a2.2 hc
              refine ev_seg (σ1 := ((d + 1), 269, 80, [some (.inr (.inr 86)), some (.inl x1), some (.inl r7)], [.inl (U7 86 4), .inl 3, .inr (.inr 86)], (am_sh, am_mm U7))) 4 (fun _ => rfl) ?_
              obtain ⟨U8, ha12a11a22c, ha12a11a22a⟩ := ha12a11a22
              refine ev_cal (σc := (d, 196, 0, [some (.inr (.inr 86)), some (.inl 3), some (.inl (U7 86 4))], [], (am_sh, am_mm U7))) (fun _ => rfl) ha12a11a22c ?_
              show Ev (am_kz N X) ((d + 1), 269, 83, [some (.inr (.inr 86)), some (.inl x1), some (.inl r7)], [], (am_sh, am_mm U8)) R
              exact ha12a11a22a
        · have ha12a12 := ha12a1.2 hc
          refine ev_br (P := ¬ (U6 86 8) = 0) (σ1 := ((d + 1), 269, 83, [some (.inr (.inr 86)), some (.inl x1), some (.inl 0)], [], (am_sh, am_mm U6))) (σ2 := ((d + 1), 269, 69, [some (.inr (.inr 86)), some (.inl x1), some (.inl 0)], [], (am_sh, am_mm U6))) 6 (fun _ => rfl) (fun hc => ?_) (fun hc => ?_)
          · have ha12a121 := ha12a12.1 hc
            exact ha12a121
          · have ha12a122 := ha12a12.2 hc
            refine ev_br (P := ¬ 0 = (-1)) (σ1 := ((d + 1), 269, 83, [some (.inr (.inr 86)), some (.inl x1), some (.inl 0)], [], (am_sh, am_mm U6))) (σ2 := ((d + 1), 269, 74, [some (.inr (.inr 86)), some (.inl x1), some (.inl 0)], [], (am_sh, am_mm U6))) 3 (fun _ => rfl) (fun hc => ?_) (fun hc => ?_)
            · have ha12a1221 := ha12a122.1 hc
              exact ha12a1221
            · have ha12a1222 := ha12a122.2 hc
              refine ev_seg (σ1 := ((d + 1), 269, 80, [some (.inr (.inr 86)), some (.inl x1), some (.inl 0)], [.inl (U6 86 4), .inl 3, .inr (.inr 86)], (am_sh, am_mm U6))) 4 (fun _ => rfl) ?_
              obtain ⟨U9, ha12a1222c, ha12a1222a⟩ := ha12a1222
              refine ev_cal (σc := (d, 196, 0, [some (.inr (.inr 86)), some (.inl 3), some (.inl (U6 86 4))], [], (am_sh, am_mm U6))) (fun _ => rfl) ha12a1222c ?_
              show Ev (am_kz N X) ((d + 1), 269, 83, [some (.inr (.inr 86)), some (.inl x1), some (.inl 0)], [], (am_sh, am_mm U9)) R
              exact ha12a1222a
      · have ha12a2 := ha12a.2 hc
        refine ev_seg (σ1 := ((d + 1), 269, 38, [some (.inr (.inr 86)), some (.inl x1), none], [.inl (U6 86 4), .inl 1, .inr (.inr 86)], (am_sh, am_mm U6))) 4 (fun _ => rfl) ?_
        obtain ⟨U10, ha12a2c, ha12a2a⟩ := ha12a2
        refine ev_cal (σc := (d, 196, 0, [some (.inr (.inr 86)), some (.inl 1), some (.inl (U6 86 4))], [], (am_sh, am_mm U6))) (fun _ => rfl) ha12a2c ?_
        show Ev (am_kz N X) ((d + 1), 269, 41, [some (.inr (.inr 86)), some (.inl x1), none], [], (am_sh, am_mm U10)) R
        refine ev_br (P := (U10 86 8) ≤ 0) (σ1 := ((d + 1), 269, 52, [some (.inr (.inr 86)), some (.inl x1), none], [], (am_sh, am_mm U10))) (σ2 := ((d + 1), 269, 48, [some (.inr (.inr 86)), some (.inl x1), none], [], (am_sh, am_mm U10))) 3 (fun _ => rfl) (fun hc => ?_) (fun hc => ?_)
        · have ha12a2a1 := ha12a2a.1 hc
          refine ev_seg (σ1 := ((d + 1), 269, 58, [some (.inr (.inr 86)), some (.inl x1), none], [.inr (.inl (U10 86 7)), .inl x1, .inr (.inr 86)], (am_sh, am_mm U10))) 4 (fun _ => rfl) ?_
          obtain ⟨r11, U11, ha12a2a1c, ha12a2a1a⟩ := ha12a2a1
          refine ev_cal (σc := (d, 307, 0, [some (.inr (.inr 86)), some (.inl x1), some (.inr (.inl (U10 86 7))), none, none], [], (am_sh, am_mm U10))) (fun _ => rfl) ha12a2a1c ?_
          show Ev (am_kz N X) ((d + 1), 269, 61, [some (.inr (.inr 86)), some (.inl x1), none], [.inl r11], (am_sh, am_mm U11)) R
          refine ev_br (P := ¬ (U11 86 8) = 0) (σ1 := ((d + 1), 269, 83, [some (.inr (.inr 86)), some (.inl x1), some (.inl r11)], [], (am_sh, am_mm U11))) (σ2 := ((d + 1), 269, 69, [some (.inr (.inr 86)), some (.inl x1), some (.inl r11)], [], (am_sh, am_mm U11))) 4 (fun _ => rfl) (fun hc => ?_) (fun hc => ?_)
          · have ha12a2a1a1 := ha12a2a1a.1 hc
            exact ha12a2a1a1
          · have ha12a2a1a2 := ha12a2a1a.2 hc
            refine ev_br (P := ¬ r11 = (-1)) (σ1 := ((d + 1), 269, 83, [some (.inr (.inr 86)), some (.inl x1), some (.inl r11)], [], (am_sh, am_mm U11))) (σ2 := ((d + 1), 269, 74, [some (.inr (.inr 86)), some (.inl x1), some (.inl r11)], [], (am_sh, am_mm U11))) 3 (fun _ => rfl) (fun hc => ?_) (fun hc => ?_)
            · have ha12a2a1a21 := ha12a2a1a2.1 hc
              exact ha12a2a1a21
            · have ha12a2a1a22 := ha12a2a1a2.2 hc
              refine ev_seg (σ1 := ((d + 1), 269, 80, [some (.inr (.inr 86)), some (.inl x1), some (.inl r11)], [.inl (U11 86 4), .inl 3, .inr (.inr 86)], (am_sh, am_mm U11))) 4 (fun _ => rfl) ?_
              obtain ⟨U12, ha12a2a1a22c, ha12a2a1a22a⟩ := ha12a2a1a22
              refine ev_cal (σc := (d, 196, 0, [some (.inr (.inr 86)), some (.inl 3), some (.inl (U11 86 4))], [], (am_sh, am_mm U11))) (fun _ => rfl) ha12a2a1a22c ?_
              show Ev (am_kz N X) ((d + 1), 269, 83, [some (.inr (.inr 86)), some (.inl x1), some (.inl r11)], [], (am_sh, am_mm U12)) R
              exact ha12a2a1a22a
        · have ha12a2a2 := ha12a2a.2 hc
          refine ev_br (P := ¬ (U10 86 8) = 0) (σ1 := ((d + 1), 269, 83, [some (.inr (.inr 86)), some (.inl x1), some (.inl 0)], [], (am_sh, am_mm U10))) (σ2 := ((d + 1), 269, 69, [some (.inr (.inr 86)), some (.inl x1), some (.inl 0)], [], (am_sh, am_mm U10))) 6 (fun _ => rfl) (fun hc => ?_) (fun hc => ?_)
          · have ha12a2a21 := ha12a2a2.1 hc
            exact ha12a2a21
          · have ha12a2a22 := ha12a2a2.2 hc
            refine ev_br (P := ¬ 0 = (-1)) (σ1 := ((d + 1), 269, 83, [some (.inr (.inr 86)), some (.inl x1), some (.inl 0)], [], (am_sh, am_mm U10))) (σ2 := ((d + 1), 269, 74, [some (.inr (.inr 86)), some (.inl x1), some (.inl 0)], [], (am_sh, am_mm U10))) 3 (fun _ => rfl) (fun hc => ?_) (fun hc => ?_)
            · have ha12a2a221 := ha12a2a22.1 hc
              exact ha12a2a221
            · have ha12a2a222 := ha12a2a22.2 hc
              refine ev_seg (σ1 := ((d + 1), 269, 80, [some (.inr (.inr 86)), some (.inl x1), some (.inl 0)], [.inl (U10 86 4), .inl 3, .inr (.inr 86)], (am_sh, am_mm U10))) 4 (fun _ => rfl) ?_
              obtain ⟨U13, ha12a2a222c, ha12a2a222a⟩ := ha12a2a222
              refine ev_cal (σc := (d, 196, 0, [some (.inr (.inr 86)), some (.inl 3), some (.inl (U10 86 4))], [], (am_sh, am_mm U10))) (fun _ => rfl) ha12a2a222c ?_
              show Ev (am_kz N X) ((d + 1), 269, 83, [some (.inr (.inr 86)), some (.inl x1), some (.inl 0)], [], (am_sh, am_mm U13)) R
              exact ha12a2a222a
  · have ha2 := ha.2 hc
    subst ha2
    exact ev_end 2 (fun _ => rfl)
set_option maxRecDepth 8000 in
theorem st269_86_83 (N : Nat) (X : Nat → Int) (d : Nat) (x1 x2 : Int) (U : Nat → Nat → Int) (R : Option am_V × am_M) (h : ((((U 86 8) ≤ 0 : Prop)) → R = (some (.inl x2), (am_sh, am_mm U))) ∧ (¬ ((U 86 8) ≤ 0) → R = (some (.inl 0), (am_sh, am_mm U)))) : Ev (am_kz N X) ((d + 1), 269, 83, [some (.inr (.inr 86)), some (.inl x1), some (.inl x2)], [], (am_sh, am_mm U)) R := by
  refine ev_br (P := (U 86 8) ≤ 0) (σ1 := ((d + 1), 269, 94, [some (.inr (.inr 86)), some (.inl x1), some (.inl x2)], [], (am_sh, am_mm U))) (σ2 := ((d + 1), 269, 90, [some (.inr (.inr 86)), some (.inl x1), some (.inl x2)], [], (am_sh, am_mm U))) 3 (fun _ => rfl) (fun hc => ?_) (fun hc => ?_)
  · have h1 := h.1 hc
    subst h1
    exact ev_end 2 (fun _ => rfl)
  · have h2 := h.2 hc
    subst h2
    exact ev_end 3 (fun _ => rfl)
set_option maxRecDepth 8000 in
theorem st266_86_0 (N : Nat) (X : Nat → Int) (d : Nat) (x1 : Int) (U : Nat → Nat → Int) (R : Option am_V × am_M) (h : ∃ U1 : Nat → Nat → Int, Ev (am_kz N X) (d, 186, 0, [some (.inr (.inr 86))], [], (am_sh, am_mm U)) (none, (am_sh, am_mm U1)) ∧ ((((U1 86 8) ≤ 0 : Prop)) → ∃ (r2 : Int) (U2 : Nat → Nat → Int), Ev (am_kz N X) (d, 187, 0, [some (.inr (.inr 86)), some (.inr (.inl x1)), none], [], (am_sh, am_mm U1)) (some (.inl r2), (am_sh, am_mm U2)) ∧ (((¬ r2 = 0 : Prop)) → (((¬ (U2 86 8) = 0 : Prop)) → R = (none, (am_sh, am_mm U2))) ∧ (¬ (¬ (U2 86 8) = 0) → ∃ U3 : Nat → Nat → Int, Ev (am_kz N X) (d, 93, 0, [some (.inr (.inr 86)), none, none, none, none, none], [], (am_sh, am_mm U2)) (none, (am_sh, am_mm U3)) ∧ R = (none, (am_sh, am_mm U3)))) ∧ (¬ (¬ r2 = 0) → ∃ U4 : Nat → Nat → Int, Ev (am_kz N X) (d, 196, 0, [some (.inr (.inr 86)), some (.inl 1), some (.inl (U2 86 4))], [], (am_sh, am_mm U2)) (none, (am_sh, am_mm U4)) ∧ (((¬ (U4 86 8) = 0 : Prop)) → R = (none, (am_sh, am_mm U4))) ∧ (¬ (¬ (U4 86 8) = 0) → ∃ U5 : Nat → Nat → Int, Ev (am_kz N X) (d, 93, 0, [some (.inr (.inr 86)), none, none, none, none, none], [], (am_sh, am_mm U4)) (none, (am_sh, am_mm U5)) ∧ R = (none, (am_sh, am_mm U5))))) ∧ (¬ ((U1 86 8) ≤ 0) → R = (none, (am_sh, am_mm U1)))) : Ev (am_kz N X) ((d + 1), 266, 0, [some (.inr (.inr 86)), some (.inr (.inl x1)), none], [], (am_sh, am_mm U)) R := by
  refine ev_seg (σ1 := ((d + 1), 266, 1, [some (.inr (.inr 86)), some (.inr (.inl x1)), none], [.inr (.inr 86)], (am_sh, am_mm U))) 1 (fun _ => rfl) ?_
  obtain ⟨U1, hc, ha⟩ := h
  refine ev_cal (σc := (d, 186, 0, [some (.inr (.inr 86))], [], (am_sh, am_mm U))) (fun _ => rfl) hc ?_
  show Ev (am_kz N X) ((d + 1), 266, 4, [some (.inr (.inr 86)), some (.inr (.inl x1)), none], [], (am_sh, am_mm U1)) R
  refine ev_br (P := (U1 86 8) ≤ 0) (σ1 := ((d + 1), 266, 12, [some (.inr (.inr 86)), some (.inr (.inl x1)), none], [], (am_sh, am_mm U1))) (σ2 := ((d + 1), 266, 11, [some (.inr (.inr 86)), some (.inr (.inl x1)), none], [], (am_sh, am_mm U1))) 3 (fun _ => rfl) (fun hc => ?_) (fun hc => ?_)
  · have ha1 := ha.1 hc
    refine ev_seg (σ1 := ((d + 1), 266, 14, [some (.inr (.inr 86)), some (.inr (.inl x1)), none], [.inr (.inl x1), .inr (.inr 86)], (am_sh, am_mm U1))) 2 (fun _ => rfl) ?_
    obtain ⟨r2, U2, ha1c, ha1a⟩ := ha1
    refine ev_cal (σc := (d, 187, 0, [some (.inr (.inr 86)), some (.inr (.inl x1)), none], [], (am_sh, am_mm U1))) (fun _ => rfl) ha1c ?_
    show Ev (am_kz N X) ((d + 1), 266, 17, [some (.inr (.inr 86)), some (.inr (.inl x1)), none], [.inl r2], (am_sh, am_mm U2)) R
    refine ev_br (P := ¬ r2 = 0) (σ1 := ((d + 1), 266, 29, [some (.inr (.inr 86)), some (.inr (.inl x1)), none], [], (am_sh, am_mm U2))) (σ2 := ((d + 1), 266, 20, [some (.inr (.inr 86)), some (.inr (.inl x1)), none], [], (am_sh, am_mm U2))) 1 (fun _ => rfl) (fun hc => ?_) (fun hc => ?_)
    · have ha1a1 := ha1a.1 hc
      refine ev_br (P := ¬ (U2 86 8) = 0) (σ1 := ((d + 1), 266, 40, [some (.inr (.inr 86)), some (.inr (.inl x1)), none], [], (am_sh, am_mm U2))) (σ2 := ((d + 1), 266, 36, [some (.inr (.inr 86)), some (.inr (.inl x1)), none], [], (am_sh, am_mm U2))) 3 (fun _ => rfl) (fun hc => ?_) (fun hc => ?_)
      · have ha1a11 := ha1a1.1 hc
        subst ha1a11
        exact ev_end 1 (fun _ => rfl)
      · have ha1a12 := ha1a1.2 hc
        refine ev_seg (σ1 := ((d + 1), 266, 37, [some (.inr (.inr 86)), some (.inr (.inl x1)), none], [.inr (.inr 86)], (am_sh, am_mm U2))) 1 (fun _ => rfl) ?_
        obtain ⟨U3, ha1a12c, ha1a12a⟩ := ha1a12
        refine ev_cal (σc := (d, 93, 0, [some (.inr (.inr 86)), none, none, none, none, none], [], (am_sh, am_mm U2))) (fun _ => rfl) ha1a12c ?_
        show Ev (am_kz N X) ((d + 1), 266, 40, [some (.inr (.inr 86)), some (.inr (.inl x1)), none], [], (am_sh, am_mm U3)) R
        subst ha1a12a
        exact ev_end 1 (fun _ => rfl)
    · have ha1a2 := ha1a.2 hc
      refine ev_seg (σ1 := ((d + 1), 266, 26, [some (.inr (.inr 86)), some (.inr (.inl x1)), none], [.inl (U2 86 4), .inl 1, .inr (.inr 86)], (am_sh, am_mm U2))) 4 (fun _ => rfl) ?_
      obtain ⟨U4, ha1a2c, ha1a2a⟩ := ha1a2
      refine ev_cal (σc := (d, 196, 0, [some (.inr (.inr 86)), some (.inl 1), some (.inl (U2 86 4))], [], (am_sh, am_mm U2))) (fun _ => rfl) ha1a2c ?_
      show Ev (am_kz N X) ((d + 1), 266, 29, [some (.inr (.inr 86)), some (.inr (.inl x1)), none], [], (am_sh, am_mm U4)) R
      refine ev_br (P := ¬ (U4 86 8) = 0) (σ1 := ((d + 1), 266, 40, [some (.inr (.inr 86)), some (.inr (.inl x1)), none], [], (am_sh, am_mm U4))) (σ2 := ((d + 1), 266, 36, [some (.inr (.inr 86)), some (.inr (.inl x1)), none], [], (am_sh, am_mm U4))) 3 (fun _ => rfl) (fun hc => ?_) (fun hc => ?_)
      · have ha1a2a1 := ha1a2a.1 hc
        subst ha1a2a1
        exact ev_end 1 (fun _ => rfl)
      · have ha1a2a2 := ha1a2a.2 hc
        refine ev_seg (σ1 := ((d + 1), 266, 37, [some (.inr (.inr 86)), some (.inr (.inl x1)), none], [.inr (.inr 86)], (am_sh, am_mm U4))) 1 (fun _ => rfl) ?_
        obtain ⟨U5, ha1a2a2c, ha1a2a2a⟩ := ha1a2a2
        refine ev_cal (σc := (d, 93, 0, [some (.inr (.inr 86)), none, none, none, none, none], [], (am_sh, am_mm U4))) (fun _ => rfl) ha1a2a2c ?_
        show Ev (am_kz N X) ((d + 1), 266, 40, [some (.inr (.inr 86)), some (.inr (.inl x1)), none], [], (am_sh, am_mm U5)) R
        subst ha1a2a2a
        exact ev_end 1 (fun _ => rfl)
  · have ha2 := ha.2 hc
    subst ha2
    exact ev_end 1 (fun _ => rfl)
set_option maxRecDepth 8000 in
theorem st270_86_0 (N : Nat) (X : Nat → Int) (d : Nat) (x1 : Int) (U : Nat → Nat → Int) (R : Option am_V × am_M) (h : Ev (am_kz N X) (d, 270, 4, [some (.inr (.inr 86)), some (.inl x1), some (.inl 0), some (.inl 0)], [], (am_sh, am_mm U)) R) : Ev (am_kz N X) (d, 270, 0, [some (.inr (.inr 86)), some (.inl x1), none, none], [], (am_sh, am_mm U)) R := by
  refine ev_seg (σ1 := (d, 270, 4, [some (.inr (.inr 86)), some (.inl x1), some (.inl 0), some (.inl 0)], [], (am_sh, am_mm U))) 4 (fun _ => rfl) ?_
  exact h
set_option maxRecDepth 8000 in
theorem st270_86_4 (N : Nat) (X : Nat → Int) (d : Nat) (x1 x2 x3 : Int) (U : Nat → Nat → Int) (R : Option am_V × am_M) (h : (0 ≤ (U 86 40) ∧ (U 86 40) < 2) ∧ ((((U 97 (U 86 40).toNat) ≤ x3 : Prop)) → R = (some (.inl x2), (am_sh, am_mm U))) ∧ (¬ ((U 97 (U 86 40).toNat) ≤ x3) → (0 ≤ (w32 ((w32 (16 * (U 86 40))) + x3)) ∧ (w32 ((w32 (16 * (U 86 40))) + x3)) < 32) ∧ (((¬ (U 99 (w32 ((w32 (16 * (U 86 40))) + x3)).toNat) = x1 : Prop)) → Ev (am_kz N X) (d, 270, 4, [some (.inr (.inr 86)), some (.inl x1), some (.inl (w32 (x2 + 0))), some (.inl (w32 (x3 + 1)))], [], (am_sh, am_mm U)) R) ∧ (¬ (¬ (U 99 (w32 ((w32 (16 * (U 86 40))) + x3)).toNat) = x1) → Ev (am_kz N X) (d, 270, 4, [some (.inr (.inr 86)), some (.inl x1), some (.inl (w32 (x2 + 1))), some (.inl (w32 (x3 + 1)))], [], (am_sh, am_mm U)) R))) : Ev (am_kz N X) (d, 270, 4, [some (.inr (.inr 86)), some (.inl x1), some (.inl x2), some (.inl x3)], [], (am_sh, am_mm U)) R := by
  refine ev_seg (σ1 := (d, 270, 13, [some (.inr (.inr 86)), some (.inl x1), some (.inl x2), some (.inl x3)], [.inl (U 86 40), .inr (.inr 97), .inl x3], (am_sh, am_mm U))) 5 (fun _ => rfl) ?_
  refine eu_iald 97 (n := 2) rfl (by decide) rfl (fun _ => rfl) h.1 ?_
  have ha := h.2
  refine ev_br (P := (U 97 (U 86 40).toNat) ≤ x3) (σ1 := (d, 270, 49, [some (.inr (.inr 86)), some (.inl x1), some (.inl x2), some (.inl x3)], [], (am_sh, am_mm U))) (σ2 := (d, 270, 17, [some (.inr (.inr 86)), some (.inl x1), some (.inl x2), some (.inl x3)], [], (am_sh, am_mm U))) 1 (fun _ => rfl) (fun hc => ?_) (fun hc => ?_)
  · have ha1 := ha.1 hc
    subst ha1
    exact ev_end 2 (fun _ => rfl)
  · have ha2 := ha.2 hc
    refine ev_seg (σ1 := (d, 270, 31, [some (.inr (.inr 86)), some (.inl x1), some (.inl x2), some (.inl x3)], [.inl (w32 ((w32 (16 * (U 86 40))) + x3)), .inr (.inr 99), .inl x2], (am_sh, am_mm U))) 9 (fun _ => rfl) ?_
    refine eu_iald 99 (n := 32) rfl (by decide) rfl (fun _ => rfl) ha2.1 ?_
    have ha2a := ha2.2
    refine ev_br (P := ¬ (U 99 (w32 ((w32 (16 * (U 86 40))) + x3)).toNat) = x1) (σ1 := (d, 270, 40, [some (.inr (.inr 86)), some (.inl x1), some (.inl x2), some (.inl x3)], [.inl x2], (am_sh, am_mm U))) (σ2 := (d, 270, 36, [some (.inr (.inr 86)), some (.inl x1), some (.inl x2), some (.inl x3)], [.inl x2], (am_sh, am_mm U))) 2 (fun _ => rfl) (fun hc => ?_) (fun hc => ?_)
    · have ha2a1 := ha2a.1 hc
      refine ev_seg (σ1 := (d, 270, 4, [some (.inr (.inr 86)), some (.inl x1), some (.inl (w32 (x2 + 0))), some (.inl (w32 (x3 + 1)))], [], (am_sh, am_mm U))) 5 (fun _ => rfl) ?_
      exact ha2a1
    · have ha2a2 := ha2a.2 hc
      refine ev_seg (σ1 := (d, 270, 4, [some (.inr (.inr 86)), some (.inl x1), some (.inl (w32 (x2 + 1))), some (.inl (w32 (x3 + 1)))], [], (am_sh, am_mm U))) 6 (fun _ => rfl) ?_
      exact ha2a2
set_option maxRecDepth 8000 in
theorem st272_45_0 (N : Nat) (X : Nat → Int) (d : Nat) (x1 x2 x3 : Int) (U : Nat → Nat → Int) (R : Option am_V × am_M) (h : (0 ≤ x1 ∧ x1 < 8) ∧ (((¬ (U 12 x1.toNat) = 8 : Prop)) → (((¬ (U 12 x1.toNat) = 10 : Prop)) → ∃ (r1 : Int) (U1 : Nat → Nat → Int), Ev (am_kz N X) (d, 205, 0, [some (.inr (.inr 45)), some (.inl x2), none, none, none], [], (am_sh, am_mm U)) (some (.inl r1), (am_sh, am_mm U1)) ∧ (((¬ (am_and r1 x3) = 0 : Prop)) → Ev (am_kz N X) ((d + 1), 272, 106, [some (.inr (.inr 45)), some (.inl x1), some (.inl x2), some (.inl x3), some (.inl (U 12 x1.toNat)), some (.inl (am_and r1 x3)), some (.inl 0), some (.inl 0)], [], (am_sh, am_mm U1)) R) ∧ (¬ (¬ (am_and r1 x3) = 0) → R = (some (.inl 0), (am_sh, am_mm U1)))) ∧ (¬ (¬ (U 12 x1.toNat) = 10) → ∃ (r2 : Int) (U2 : Nat → Nat → Int), Ev (am_kz N X) (d, 204, 0, [some (.inr (.inr 45)), some (.inl x2), none], [], (am_sh, am_mm U)) (some (.inl r2), (am_sh, am_mm U2)) ∧ (((¬ (am_and r2 x3) = 0 : Prop)) → Ev (am_kz N X) ((d + 1), 272, 106, [some (.inr (.inr 45)), some (.inl x1), some (.inl x2), some (.inl x3), some (.inl (U 12 x1.toNat)), some (.inl (am_and r2 x3)), some (.inl 0), some (.inl 0)], [], (am_sh, am_mm U2)) R) ∧ (¬ (¬ (am_and r2 x3) = 0) → R = (some (.inl 0), (am_sh, am_mm U2))))) ∧ (¬ (¬ (U 12 x1.toNat) = 8) → (0 ≤ x2 ∧ x2 < 16) ∧ ((((U 18 x2.toNat) = (-1) : Prop)) → (((¬ 1 = 0 : Prop)) → R = (some (.inl 0), (am_sh, am_mm U))) ∧ (¬ (¬ 1 = 0) → ∃ (r3 : Int) (U3 : Nat → Nat → Int), Ev (am_kz N X) (d, 134, 0, [some (.inr (.inr 45)), some (.inl x1), some (.inl x2), some (.inl 0), none, none, none, none, none], [], (am_sh, am_mm U)) (some (.inl r3), (am_sh, am_mm U3)) ∧ (((r3 = 0 : Prop)) → R = (some (.inl 65536), (am_sh, am_mm U3))) ∧ (¬ (r3 = 0) → R = (some (.inl 0), (am_sh, am_mm U3))))) ∧ (¬ ((U 18 x2.toNat) = (-1)) → (((¬ (am_and (am_shr x3 16) 1) = 0 : Prop)) → (((¬ 0 = 0 : Prop)) → R = (some (.inl 0), (am_sh, am_mm U))) ∧ (¬ (¬ 0 = 0) → ∃ (r4 : Int) (U4 : Nat → Nat → Int), Ev (am_kz N X) (d, 134, 0, [some (.inr (.inr 45)), some (.inl x1), some (.inl x2), some (.inl 0), none, none, none, none, none], [], (am_sh, am_mm U)) (some (.inl r4), (am_sh, am_mm U4)) ∧ (((r4 = 0 : Prop)) → R = (some (.inl 65536), (am_sh, am_mm U4))) ∧ (¬ (r4 = 0) → R = (some (.inl 0), (am_sh, am_mm U4))))) ∧ (¬ (¬ (am_and (am_shr x3 16) 1) = 0) → (((¬ 1 = 0 : Prop)) → R = (some (.inl 0), (am_sh, am_mm U))) ∧ (¬ (¬ 1 = 0) → ∃ (r5 : Int) (U5 : Nat → Nat → Int), Ev (am_kz N X) (d, 134, 0, [some (.inr (.inr 45)), some (.inl x1), some (.inl x2), some (.inl 0), none, none, none, none, none], [], (am_sh, am_mm U)) (some (.inl r5), (am_sh, am_mm U5)) ∧ (((r5 = 0 : Prop)) → R = (some (.inl 65536), (am_sh, am_mm U5))) ∧ (¬ (r5 = 0) → R = (some (.inl 0), (am_sh, am_mm U5)))))))) : Ev (am_kz N X) ((d + 1), 272, 0, [some (.inr (.inr 45)), some (.inl x1), some (.inl x2), some (.inl x3), none, none, none, none], [], (am_sh, am_mm U)) R := by
  refine ev_seg (σ1 := ((d + 1), 272, 8, [some (.inr (.inr 45)), some (.inl x1), some (.inl x2), some (.inl x3), none, none, none, none], [.inl x1, .inr (.inr 12)], (am_sh, am_mm U))) 4 (fun _ => rfl) ?_
  refine eu_iald 12 (n := 8) rfl (by decide) rfl (fun _ => rfl) h.1 ?_
  have ha := h.2
  refine ev_br (P := ¬ (U 12 x1.toNat) = 8) (σ1 := ((d + 1), 272, 69, [some (.inr (.inr 45)), some (.inl x1), some (.inl x2), some (.inl x3), some (.inl (U 12 x1.toNat)), none, none, none], [], (am_sh, am_mm U))) (σ2 := ((d + 1), 272, 18, [some (.inr (.inr 45)), some (.inl x1), some (.inl x2), some (.inl x3), some (.inl (U 12 x1.toNat)), none, none, none], [], (am_sh, am_mm U))) 4 (fun _ => rfl) (fun hc => ?_) (fun hc => ?_)
  · have ha1 := ha.1 hc
    refine ev_br (P := ¬ (U 12 x1.toNat) = 10) (σ1 := ((d + 1), 272, 84, [some (.inr (.inr 45)), some (.inl x1), some (.inl x2), some (.inl x3), some (.inl (U 12 x1.toNat)), none, none, none], [], (am_sh, am_mm U))) (σ2 := ((d + 1), 272, 76, [some (.inr (.inr 45)), some (.inl x1), some (.inl x2), some (.inl x3), some (.inl (U 12 x1.toNat)), none, none, none], [], (am_sh, am_mm U))) 3 (fun _ => rfl) (fun hc => ?_) (fun hc => ?_)
    · have ha11 := ha1.1 hc
      refine ev_seg (σ1 := ((d + 1), 272, 86, [some (.inr (.inr 45)), some (.inl x1), some (.inl x2), some (.inl x3), some (.inl (U 12 x1.toNat)), none, none, none], [.inl x2, .inr (.inr 45)], (am_sh, am_mm U))) 2 (fun _ => rfl) ?_
      obtain ⟨r1, U1, ha11c, ha11a⟩ := ha11
      refine ev_cal (σc := (d, 205, 0, [some (.inr (.inr 45)), some (.inl x2), none, none, none], [], (am_sh, am_mm U))) (fun _ => rfl) ha11c ?_
      show Ev (am_kz N X) ((d + 1), 272, 89, [some (.inr (.inr 45)), some (.inl x1), some (.inl x2), some (.inl x3), some (.inl (U 12 x1.toNat)), none, none, none], [.inl r1], (am_sh, am_mm U1)) R
      refine ev_br (P := ¬ (am_and r1 x3) = 0) (σ1 := ((d + 1), 272, 100, [some (.inr (.inr 45)), some (.inl x1), some (.inl x2), some (.inl x3), some (.inl (U 12 x1.toNat)), some (.inl (am_and r1 x3)), none, none], [], (am_sh, am_mm U1))) (σ2 := ((d + 1), 272, 98, [some (.inr (.inr 45)), some (.inl x1), some (.inl x2), some (.inl x3), some (.inl (U 12 x1.toNat)), some (.inl (am_and r1 x3)), none, none], [], (am_sh, am_mm U1))) 5 (fun _ => rfl) (fun hc => ?_) (fun hc => ?_)
      · have ha11a1 := ha11a.1 hc
        refine ev_seg (σ1 := ((d + 1), 272, 106, [some (.inr (.inr 45)), some (.inl x1), some (.inl x2), some (.inl x3), some (.inl (U 12 x1.toNat)), some (.inl (am_and r1 x3)), some (.inl 0), some (.inl 0)], [], (am_sh, am_mm U1))) 4 (fun _ => rfl) ?_
        exact ha11a1
      · have ha11a2 := ha11a.2 hc
        subst ha11a2
        exact ev_end 2 (fun _ => rfl)
    · have ha12 := ha1.2 hc
      refine ev_seg (σ1 := ((d + 1), 272, 78, [some (.inr (.inr 45)), some (.inl x1), some (.inl x2), some (.inl x3), some (.inl (U 12 x1.toNat)), none, none, none], [.inl x2, .inr (.inr 45)], (am_sh, am_mm U))) 2 (fun _ => rfl) ?_
      obtain ⟨r2, U2, ha12c, ha12a⟩ := ha12
      refine ev_cal (σc := (d, 204, 0, [some (.inr (.inr 45)), some (.inl x2), none], [], (am_sh, am_mm U))) (fun _ => rfl) ha12c ?_
      show Ev (am_kz N X) ((d + 1), 272, 81, [some (.inr (.inr 45)), some (.inl x1), some (.inl x2), some (.inl x3), some (.inl (U 12 x1.toNat)), none, none, none], [.inl r2], (am_sh, am_mm U2)) R
      refine ev_br (P := ¬ (am_and r2 x3) = 0) (σ1 := ((d + 1), 272, 100, [some (.inr (.inr 45)), some (.inl x1), some (.inl x2), some (.inl x3), some (.inl (U 12 x1.toNat)), some (.inl (am_and r2 x3)), none, none], [], (am_sh, am_mm U2))) (σ2 := ((d + 1), 272, 98, [some (.inr (.inr 45)), some (.inl x1), some (.inl x2), some (.inl x3), some (.inl (U 12 x1.toNat)), some (.inl (am_and r2 x3)), none, none], [], (am_sh, am_mm U2))) 6 (fun _ => rfl) (fun hc => ?_) (fun hc => ?_)
      · have ha12a1 := ha12a.1 hc
        refine ev_seg (σ1 := ((d + 1), 272, 106, [some (.inr (.inr 45)), some (.inl x1), some (.inl x2), some (.inl x3), some (.inl (U 12 x1.toNat)), some (.inl (am_and r2 x3)), some (.inl 0), some (.inl 0)], [], (am_sh, am_mm U2))) 4 (fun _ => rfl) ?_
        exact ha12a1
      · have ha12a2 := ha12a.2 hc
        subst ha12a2
        exact ev_end 2 (fun _ => rfl)
  · have ha2 := ha.2 hc
    refine ev_seg (σ1 := ((d + 1), 272, 26, [some (.inr (.inr 45)), some (.inl x1), some (.inl x2), some (.inl x3), some (.inl (U 12 x1.toNat)), none, none, none], [.inl x2, .inr (.inr 18)], (am_sh, am_mm U))) 4 (fun _ => rfl) ?_
    refine eu_iald 18 (n := 16) rfl (by decide) rfl (fun _ => rfl) ha2.1 ?_
    have ha2a := ha2.2
    refine ev_br (P := (U 18 x2.toNat) = (-1)) (σ1 := ((d + 1), 272, 40, [some (.inr (.inr 45)), some (.inl x1), some (.inl x2), some (.inl x3), some (.inl (U 12 x1.toNat)), none, none, none], [], (am_sh, am_mm U))) (σ2 := ((d + 1), 272, 31, [some (.inr (.inr 45)), some (.inl x1), some (.inl x2), some (.inl x3), some (.inl (U 12 x1.toNat)), none, none, none], [], (am_sh, am_mm U))) 2 (fun _ => rfl) (fun hc => ?_) (fun hc => ?_)
    · have ha2a1 := ha2a.1 hc
      refine ev_br (P := ¬ 1 = 0) (σ1 := ((d + 1), 272, 62, [some (.inr (.inr 45)), some (.inl x1), some (.inl x2), some (.inl x3), some (.inl (U 12 x1.toNat)), some (.inl 1), none, none], [], (am_sh, am_mm U))) (σ2 := ((d + 1), 272, 52, [some (.inr (.inr 45)), some (.inl x1), some (.inl x2), some (.inl x3), some (.inl (U 12 x1.toNat)), some (.inl 1), none, none], [], (am_sh, am_mm U))) 5 (fun _ => rfl) (fun hc => ?_) (fun hc => ?_)
      · have ha2a11 := ha2a1.1 hc
        subst ha2a11
        exact ev_end 3 (fun _ => rfl)
      · have ha2a12 := ha2a1.2 hc
        refine ev_seg (σ1 := ((d + 1), 272, 56, [some (.inr (.inr 45)), some (.inl x1), some (.inl x2), some (.inl x3), some (.inl (U 12 x1.toNat)), some (.inl 1), none, none], [.inl 0, .inl x2, .inl x1, .inr (.inr 45)], (am_sh, am_mm U))) 4 (fun _ => rfl) ?_
        obtain ⟨r3, U3, ha2a12c, ha2a12a⟩ := ha2a12
        refine ev_cal (σc := (d, 134, 0, [some (.inr (.inr 45)), some (.inl x1), some (.inl x2), some (.inl 0), none, none, none, none, none], [], (am_sh, am_mm U))) (fun _ => rfl) ha2a12c ?_
        show Ev (am_kz N X) ((d + 1), 272, 59, [some (.inr (.inr 45)), some (.inl x1), some (.inl x2), some (.inl x3), some (.inl (U 12 x1.toNat)), some (.inl 1), none, none], [.inl r3], (am_sh, am_mm U3)) R
        refine ev_br (P := r3 = 0) (σ1 := ((d + 1), 272, 66, [some (.inr (.inr 45)), some (.inl x1), some (.inl x2), some (.inl x3), some (.inl (U 12 x1.toNat)), some (.inl 1), none, none], [], (am_sh, am_mm U3))) (σ2 := ((d + 1), 272, 62, [some (.inr (.inr 45)), some (.inl x1), some (.inl x2), some (.inl x3), some (.inl (U 12 x1.toNat)), some (.inl 1), none, none], [], (am_sh, am_mm U3))) 1 (fun _ => rfl) (fun hc => ?_) (fun hc => ?_)
        · have ha2a12a1 := ha2a12a.1 hc
          subst ha2a12a1
          exact ev_end 2 (fun _ => rfl)
        · have ha2a12a2 := ha2a12a.2 hc
          subst ha2a12a2
          exact ev_end 3 (fun _ => rfl)
    · have ha2a2 := ha2a.2 hc
      refine ev_br (P := ¬ (am_and (am_shr x3 16) 1) = 0) (σ1 := ((d + 1), 272, 44, [some (.inr (.inr 45)), some (.inl x1), some (.inl x2), some (.inl x3), some (.inl (U 12 x1.toNat)), none, none, none], [], (am_sh, am_mm U))) (σ2 := ((d + 1), 272, 40, [some (.inr (.inr 45)), some (.inl x1), some (.inl x2), some (.inl x3), some (.inl (U 12 x1.toNat)), none, none, none], [], (am_sh, am_mm U))) 6 (fun _ => rfl) (fun hc => ?_) (fun hc => ?_)
      · have ha2a21 := ha2a2.1 hc
        refine ev_br (P := ¬ 0 = 0) (σ1 := ((d + 1), 272, 62, [some (.inr (.inr 45)), some (.inl x1), some (.inl x2), some (.inl x3), some (.inl (U 12 x1.toNat)), some (.inl 0), none, none], [], (am_sh, am_mm U))) (σ2 := ((d + 1), 272, 52, [some (.inr (.inr 45)), some (.inl x1), some (.inl x2), some (.inl x3), some (.inl (U 12 x1.toNat)), some (.inl 0), none, none], [], (am_sh, am_mm U))) 4 (fun _ => rfl) (fun hc => ?_) (fun hc => ?_)
        · have ha2a211 := ha2a21.1 hc
          subst ha2a211
          exact ev_end 3 (fun _ => rfl)
        · have ha2a212 := ha2a21.2 hc
          refine ev_seg (σ1 := ((d + 1), 272, 56, [some (.inr (.inr 45)), some (.inl x1), some (.inl x2), some (.inl x3), some (.inl (U 12 x1.toNat)), some (.inl 0), none, none], [.inl 0, .inl x2, .inl x1, .inr (.inr 45)], (am_sh, am_mm U))) 4 (fun _ => rfl) ?_
          obtain ⟨r4, U4, ha2a212c, ha2a212a⟩ := ha2a212
          refine ev_cal (σc := (d, 134, 0, [some (.inr (.inr 45)), some (.inl x1), some (.inl x2), some (.inl 0), none, none, none, none, none], [], (am_sh, am_mm U))) (fun _ => rfl) ha2a212c ?_
          show Ev (am_kz N X) ((d + 1), 272, 59, [some (.inr (.inr 45)), some (.inl x1), some (.inl x2), some (.inl x3), some (.inl (U 12 x1.toNat)), some (.inl 0), none, none], [.inl r4], (am_sh, am_mm U4)) R
          refine ev_br (P := r4 = 0) (σ1 := ((d + 1), 272, 66, [some (.inr (.inr 45)), some (.inl x1), some (.inl x2), some (.inl x3), some (.inl (U 12 x1.toNat)), some (.inl 0), none, none], [], (am_sh, am_mm U4))) (σ2 := ((d + 1), 272, 62, [some (.inr (.inr 45)), some (.inl x1), some (.inl x2), some (.inl x3), some (.inl (U 12 x1.toNat)), some (.inl 0), none, none], [], (am_sh, am_mm U4))) 1 (fun _ => rfl) (fun hc => ?_) (fun hc => ?_)
          · have ha2a212a1 := ha2a212a.1 hc
            subst ha2a212a1
            exact ev_end 2 (fun _ => rfl)
          · have ha2a212a2 := ha2a212a.2 hc
            subst ha2a212a2
            exact ev_end 3 (fun _ => rfl)
      · have ha2a22 := ha2a2.2 hc
        refine ev_br (P := ¬ 1 = 0) (σ1 := ((d + 1), 272, 62, [some (.inr (.inr 45)), some (.inl x1), some (.inl x2), some (.inl x3), some (.inl (U 12 x1.toNat)), some (.inl 1), none, none], [], (am_sh, am_mm U))) (σ2 := ((d + 1), 272, 52, [some (.inr (.inr 45)), some (.inl x1), some (.inl x2), some (.inl x3), some (.inl (U 12 x1.toNat)), some (.inl 1), none, none], [], (am_sh, am_mm U))) 5 (fun _ => rfl) (fun hc => ?_) (fun hc => ?_)
        · have ha2a221 := ha2a22.1 hc
          subst ha2a221
          exact ev_end 3 (fun _ => rfl)
        · have ha2a222 := ha2a22.2 hc
          refine ev_seg (σ1 := ((d + 1), 272, 56, [some (.inr (.inr 45)), some (.inl x1), some (.inl x2), some (.inl x3), some (.inl (U 12 x1.toNat)), some (.inl 1), none, none], [.inl 0, .inl x2, .inl x1, .inr (.inr 45)], (am_sh, am_mm U))) 4 (fun _ => rfl) ?_
          obtain ⟨r5, U5, ha2a222c, ha2a222a⟩ := ha2a222
          refine ev_cal (σc := (d, 134, 0, [some (.inr (.inr 45)), some (.inl x1), some (.inl x2), some (.inl 0), none, none, none, none, none], [], (am_sh, am_mm U))) (fun _ => rfl) ha2a222c ?_
          show Ev (am_kz N X) ((d + 1), 272, 59, [some (.inr (.inr 45)), some (.inl x1), some (.inl x2), some (.inl x3), some (.inl (U 12 x1.toNat)), some (.inl 1), none, none], [.inl r5], (am_sh, am_mm U5)) R
          refine ev_br (P := r5 = 0) (σ1 := ((d + 1), 272, 66, [some (.inr (.inr 45)), some (.inl x1), some (.inl x2), some (.inl x3), some (.inl (U 12 x1.toNat)), some (.inl 1), none, none], [], (am_sh, am_mm U5))) (σ2 := ((d + 1), 272, 62, [some (.inr (.inr 45)), some (.inl x1), some (.inl x2), some (.inl x3), some (.inl (U 12 x1.toNat)), some (.inl 1), none, none], [], (am_sh, am_mm U5))) 1 (fun _ => rfl) (fun hc => ?_) (fun hc => ?_)
          · have ha2a222a1 := ha2a222a.1 hc
            subst ha2a222a1
            exact ev_end 2 (fun _ => rfl)
          · have ha2a222a2 := ha2a222a.2 hc
            subst ha2a222a2
            exact ev_end 3 (fun _ => rfl)
set_option maxRecDepth 8000 in
theorem st272_45_106 (N : Nat) (X : Nat → Int) (d : Nat) (x1 x2 x3 x4 x5 x6 x7 : Int) (U : Nat → Nat → Int) (R : Option am_V × am_M) (h : ((((U 16 0) ≤ x7 : Prop)) → R = (some (.inl x6), (am_sh, am_mm U))) ∧ (¬ ((U 16 0) ≤ x7) → (((¬ (am_and (am_shr x5 x7) 1) = 1 : Prop)) → Ev (am_kz N X) ((d + 1), 272, 106, [some (.inr (.inr 45)), some (.inl x1), some (.inl x2), some (.inl x3), some (.inl x4), some (.inl x5), some (.inl x6), some (.inl (w32 (x7 + 1)))], [], (am_sh, am_mm U)) R) ∧ (¬ (¬ (am_and (am_shr x5 x7) 1) = 1) → (0 ≤ x7 ∧ x7 < 16) ∧ ∃ (r1 : Int) (U1 : Nat → Nat → Int), Ev (am_kz N X) (d, 134, 0, [some (.inr (.inr 45)), some (.inl x1), some (.inl x2), some (.inl (U 17 x7.toNat)), none, none, none, none, none], [], (am_sh, am_mm U)) (some (.inl r1), (am_sh, am_mm U1)) ∧ (((¬ r1 = 0 : Prop)) → Ev (am_kz N X) ((d + 1), 272, 106, [some (.inr (.inr 45)), some (.inl x1), some (.inl x2), some (.inl x3), some (.inl x4), some (.inl x5), some (.inl x6), some (.inl (w32 (x7 + 1)))], [], (am_sh, am_mm U1)) R) ∧ (¬ (¬ r1 = 0) → Ev (am_kz N X) ((d + 1), 272, 106, [some (.inr (.inr 45)), some (.inl x1), some (.inl x2), some (.inl x3), some (.inl x4), some (.inl x5), some (.inl (am_or x6 (am_shl 1 x7))), some (.inl (w32 (x7 + 1)))], [], (am_sh, am_mm U1)) R)))) : Ev (am_kz N X) ((d + 1), 272, 106, [some (.inr (.inr 45)), some (.inl x1), some (.inl x2), some (.inl x3), some (.inl x4), some (.inl x5), some (.inl x6), some (.inl x7)], [], (am_sh, am_mm U)) R := by
  refine ev_br (P := (U 16 0) ≤ x7) (σ1 := ((d + 1), 272, 163, [some (.inr (.inr 45)), some (.inl x1), some (.inl x2), some (.inl x3), some (.inl x4), some (.inl x5), some (.inl x6), some (.inl x7)], [], (am_sh, am_mm U))) (σ2 := ((d + 1), 272, 118, [some (.inr (.inr 45)), some (.inl x1), some (.inl x2), some (.inl x3), some (.inl x4), some (.inl x5), some (.inl x6), some (.inl x7)], [], (am_sh, am_mm U))) 5 (fun _ => rfl) (fun hc => ?_) (fun hc => ?_)
  · have h1 := h.1 hc
    subst h1
    exact ev_end 2 (fun _ => rfl)
  · have h2 := h.2 hc
    refine ev_br (P := ¬ (am_and (am_shr x5 x7) 1) = 1) (σ1 := ((d + 1), 272, 157, [some (.inr (.inr 45)), some (.inl x1), some (.inl x2), some (.inl x3), some (.inl x4), some (.inl x5), some (.inl x6), some (.inl x7)], [], (am_sh, am_mm U))) (σ2 := ((d + 1), 272, 129, [some (.inr (.inr 45)), some (.inl x1), some (.inl x2), some (.inl x3), some (.inl x4), some (.inl x5), some (.inl x6), some (.inl x7)], [], (am_sh, am_mm U))) 7 (fun _ => rfl) (fun hc => ?_) (fun hc => ?_)
    · have h21 := h2.1 hc
      refine ev_seg (σ1 := ((d + 1), 272, 106, [some (.inr (.inr 45)), some (.inl x1), some (.inl x2), some (.inl x3), some (.inl x4), some (.inl x5), some (.inl x6), some (.inl (w32 (x7 + 1)))], [], (am_sh, am_mm U))) 2 (fun _ => rfl) ?_
      exact h21
    · have h22 := h2.2 hc
      refine ev_seg (σ1 := ((d + 1), 272, 141, [some (.inr (.inr 45)), some (.inl x1), some (.inl x2), some (.inl x3), some (.inl x4), some (.inl x5), some (.inl x6), some (.inl x7)], [.inl x7, .inr (.inr 17), .inl x2, .inl x1, .inr (.inr 45)], (am_sh, am_mm U))) 7 (fun _ => rfl) ?_
      refine eu_iald 17 (n := 16) rfl (by decide) rfl (fun _ => rfl) h22.1 ?_
      have h22a := h22.2
      obtain ⟨r1, U1, h22ac, h22aa⟩ := h22a
      refine ev_cal (σc := (d, 134, 0, [some (.inr (.inr 45)), some (.inl x1), some (.inl x2), some (.inl (U 17 x7.toNat)), none, none, none, none, none], [], (am_sh, am_mm U))) (fun _ => rfl) h22ac ?_
      show Ev (am_kz N X) ((d + 1), 272, 145, [some (.inr (.inr 45)), some (.inl x1), some (.inl x2), some (.inl x3), some (.inl x4), some (.inl x5), some (.inl x6), some (.inl x7)], [.inl r1], (am_sh, am_mm U1)) R
      refine ev_br (P := ¬ r1 = 0) (σ1 := ((d + 1), 272, 157, [some (.inr (.inr 45)), some (.inl x1), some (.inl x2), some (.inl x3), some (.inl x4), some (.inl x5), some (.inl x6), some (.inl x7)], [], (am_sh, am_mm U1))) (σ2 := ((d + 1), 272, 148, [some (.inr (.inr 45)), some (.inl x1), some (.inl x2), some (.inl x3), some (.inl x4), some (.inl x5), some (.inl x6), some (.inl x7)], [], (am_sh, am_mm U1))) 1 (fun _ => rfl) (fun hc => ?_) (fun hc => ?_)
      · have h22aa1 := h22aa.1 hc
        refine ev_seg (σ1 := ((d + 1), 272, 106, [some (.inr (.inr 45)), some (.inl x1), some (.inl x2), some (.inl x3), some (.inl x4), some (.inl x5), some (.inl x6), some (.inl (w32 (x7 + 1)))], [], (am_sh, am_mm U1))) 2 (fun _ => rfl) ?_
        exact h22aa1
      · have h22aa2 := h22aa.2 hc
        refine ev_seg (σ1 := ((d + 1), 272, 106, [some (.inr (.inr 45)), some (.inl x1), some (.inl x2), some (.inl x3), some (.inl x4), some (.inl x5), some (.inl (am_or x6 (am_shl 1 x7))), some (.inl (w32 (x7 + 1)))], [], (am_sh, am_mm U1))) 8 (fun _ => rfl) ?_
        exact h22aa2
set_option maxRecDepth 8000 in
theorem st211_47_0 (N : Nat) (X : Nat → Int) (d : Nat) (x1 : Int) (U : Nat → Nat → Int) (R : Option am_V × am_M) (h : Ev (am_kz N X) (d, 211, 5, [some (.inr (.inr 47)), some (.inl x1), some (.inl 0), some (.inl 128)], [], (am_sh, am_mm U)) R) : Ev (am_kz N X) (d, 211, 0, [some (.inr (.inr 47)), some (.inl x1), none, none], [], (am_sh, am_mm U)) R := by
  refine ev_seg (σ1 := (d, 211, 5, [some (.inr (.inr 47)), some (.inl x1), some (.inl 0), some (.inl 128)], [], (am_sh, am_mm U))) 5 (fun _ => rfl) ?_
  exact h
set_option maxRecDepth 8000 in
theorem st211_47_5 (N : Nat) (X : Nat → Int) (d : Nat) (x1 x2 x3 : Int) (U : Nat → Nat → Int) (R : Option am_V × am_M) (h : (((x3 ≤ x2 : Prop)) → R = (none, (am_sh, am_mm U))) ∧ (¬ (x3 ≤ x2) → (0 ≤ x2 ∧ x2 < 128) ∧ Ev (am_kz N X) (d, 211, 5, [some (.inr (.inr 47)), some (.inl x1), some (.inl (w32 (x2 + 1))), some (.inl x3)], [], (am_sh, am_mm (am_upd U 47 x2.toNat x1))) R)) : Ev (am_kz N X) (d, 211, 5, [some (.inr (.inr 47)), some (.inl x1), some (.inl x2), some (.inl x3)], [], (am_sh, am_mm U)) R := by
  refine ev_br (P := x3 ≤ x2) (σ1 := (d, 211, 20, [some (.inr (.inr 47)), some (.inl x1), some (.inl x2), some (.inl x3)], [], (am_sh, am_mm U))) (σ2 := (d, 211, 10, [some (.inr (.inr 47)), some (.inl x1), some (.inl x2), some (.inl x3)], [], (am_sh, am_mm U))) 3 (fun _ => rfl) (fun hc => ?_) (fun hc => ?_)
  · have h1 := h.1 hc
    subst h1
    exact ev_end 1 (fun _ => rfl)
  · have h2 := h.2 hc
    refine ev_seg (σ1 := (d, 211, 13, [some (.inr (.inr 47)), some (.inl x1), some (.inl x2), some (.inl x3)], [.inl x1, .inl x2, .inr (.inr 47)], (am_sh, am_mm U))) 3 (fun _ => rfl) ?_
    refine eu_iast 47 (n := 128) rfl (by decide) rfl (fun _ => rfl) h2.1 ?_
    have h2a := h2.2
    refine ev_seg (σ1 := (d, 211, 5, [some (.inr (.inr 47)), some (.inl x1), some (.inl (w32 (x2 + 1))), some (.inl x3)], [], (am_sh, am_mm (am_upd U 47 x2.toNat x1)))) 2 (fun _ => rfl) ?_
    exact h2a
set_option maxRecDepth 8000 in
theorem st273_0 (N : Nat) (X : Nat → Int) (d : Nat) (x0 x2 x4 : Int) (U : Nat → Nat → Int) (R : Option am_V × am_M) (h : x4 ≠ 0 ∧ Ev (am_kz N X) (d, 273, 12, [some (.inr (.inl x0)), none, some (.inr (.inl x2)), none, some (.inr (.inl x4)), none, some (.inr (.inl 1)), none, some (.inr (.inl (Int.tmod x0 x4))), none, some (.inr (.inl x2)), none], [], (am_sh, am_mm U)) R) : Ev (am_kz N X) (d, 273, 0, [some (.inr (.inl x0)), none, some (.inr (.inl x2)), none, some (.inr (.inl x4)), none, none, none, none, none, none, none], [], (am_sh, am_mm U)) R := by
  refine ev_seg (σ1 := (d, 273, 6, [some (.inr (.inl x0)), none, some (.inr (.inl x2)), none, some (.inr (.inl x4)), none, some (.inr (.inl 1)), none, none, none, none, none], [.inr (.inl x4), .inr (.inl x0)], (am_sh, am_mm U))) 4 (fun _ => rfl) ?_
  refine ev_lrem rfl h.1 ?_
  have ha := h.2
  refine ev_seg (σ1 := (d, 273, 12, [some (.inr (.inl x0)), none, some (.inr (.inl x2)), none, some (.inr (.inl x4)), none, some (.inr (.inl 1)), none, some (.inr (.inl (Int.tmod x0 x4))), none, some (.inr (.inl x2)), none], [], (am_sh, am_mm U))) 3 (fun _ => rfl) ?_
  exact ha
set_option maxRecDepth 8000 in
theorem st273_12 (N : Nat) (X : Nat → Int) (d : Nat) (x0 x2 x4 x6 x8 x10 : Int) (U : Nat → Nat → Int) (R : Option am_V × am_M) (h : ((((am_lcmp x10 0) ≤ 0 : Prop)) → R = (some (.inr (.inl x6)), (am_sh, am_mm U))) ∧ (¬ ((am_lcmp x10 0) ≤ 0) → (((¬ (am_lcmp (am_land x10 1) 1) = 0 : Prop)) → x4 ≠ 0 ∧ Ev (am_kz N X) (d, 273, 12, [some (.inr (.inl x0)), none, some (.inr (.inl x2)), none, some (.inr (.inl x4)), none, some (.inr (.inl x6)), none, some (.inr (.inl (Int.tmod (w64 (x8 * x8)) x4))), none, some (.inr (.inl (am_lshr x10 1))), none], [], (am_sh, am_mm U)) R) ∧ (¬ (¬ (am_lcmp (am_land x10 1) 1) = 0) → x4 ≠ 0 ∧ x4 ≠ 0 ∧ Ev (am_kz N X) (d, 273, 12, [some (.inr (.inl x0)), none, some (.inr (.inl x2)), none, some (.inr (.inl x4)), none, some (.inr (.inl (Int.tmod (w64 (x6 * x8)) x4))), none, some (.inr (.inl (Int.tmod (w64 (x8 * x8)) x4))), none, some (.inr (.inl (am_lshr x10 1))), none], [], (am_sh, am_mm U)) R))) : Ev (am_kz N X) (d, 273, 12, [some (.inr (.inl x0)), none, some (.inr (.inl x2)), none, some (.inr (.inl x4)), none, some (.inr (.inl x6)), none, some (.inr (.inl x8)), none, some (.inr (.inl x10)), none], [], (am_sh, am_mm U)) R := by
  refine ev_br (P := (am_lcmp x10 0) ≤ 0) (σ1 := (d, 273, 57, [some (.inr (.inl x0)), none, some (.inr (.inl x2)), none, some (.inr (.inl x4)), none, some (.inr (.inl x6)), none, some (.inr (.inl x8)), none, some (.inr (.inl x10)), none], [], (am_sh, am_mm U))) (σ2 := (d, 273, 19, [some (.inr (.inl x0)), none, some (.inr (.inl x2)), none, some (.inr (.inl x4)), none, some (.inr (.inl x6)), none, some (.inr (.inl x8)), none, some (.inr (.inl x10)), none], [], (am_sh, am_mm U))) 4 (fun _ => rfl) (fun hc => ?_) (fun hc => ?_)
  · have h1 := h.1 hc
    subst h1
    exact ev_end 2 (fun _ => rfl)
  · have h2 := h.2 hc
    refine ev_br (P := ¬ (am_lcmp (am_land x10 1) 1) = 0) (σ1 := (d, 273, 38, [some (.inr (.inl x0)), none, some (.inr (.inl x2)), none, some (.inr (.inl x4)), none, some (.inr (.inl x6)), none, some (.inr (.inl x8)), none, some (.inr (.inl x10)), none], [], (am_sh, am_mm U))) (σ2 := (d, 273, 28, [some (.inr (.inl x0)), none, some (.inr (.inl x2)), none, some (.inr (.inl x4)), none, some (.inr (.inl x6)), none, some (.inr (.inl x8)), none, some (.inr (.inl x10)), none], [], (am_sh, am_mm U))) 6 (fun _ => rfl) (fun hc => ?_) (fun hc => ?_)
    · have h21 := h2.1 hc
      refine ev_seg (σ1 := (d, 273, 45, [some (.inr (.inl x0)), none, some (.inr (.inl x2)), none, some (.inr (.inl x4)), none, some (.inr (.inl x6)), none, some (.inr (.inl x8)), none, some (.inr (.inl x10)), none], [.inr (.inl x4), .inr (.inl (w64 (x8 * x8)))], (am_sh, am_mm U))) 4 (fun _ => rfl) ?_
      refine ev_lrem rfl h21.1 ?_
      have h21a := h21.2
      refine ev_seg (σ1 := (d, 273, 12, [some (.inr (.inl x0)), none, some (.inr (.inl x2)), none, some (.inr (.inl x4)), none, some (.inr (.inl x6)), none, some (.inr (.inl (Int.tmod (w64 (x8 * x8)) x4))), none, some (.inr (.inl (am_lshr x10 1))), none], [], (am_sh, am_mm U))) 6 (fun _ => rfl) ?_
      exact h21a
    · have h22 := h2.2 hc
      refine ev_seg (σ1 := (d, 273, 35, [some (.inr (.inl x0)), none, some (.inr (.inl x2)), none, some (.inr (.inl x4)), none, some (.inr (.inl x6)), none, some (.inr (.inl x8)), none, some (.inr (.inl x10)), none], [.inr (.inl x4), .inr (.inl (w64 (x6 * x8)))], (am_sh, am_mm U))) 4 (fun _ => rfl) ?_
      refine ev_lrem rfl h22.1 ?_
      have h22a := h22.2
      refine ev_seg (σ1 := (d, 273, 45, [some (.inr (.inl x0)), none, some (.inr (.inl x2)), none, some (.inr (.inl x4)), none, some (.inr (.inl (Int.tmod (w64 (x6 * x8)) x4))), none, some (.inr (.inl x8)), none, some (.inr (.inl x10)), none], [.inr (.inl x4), .inr (.inl (w64 (x8 * x8)))], (am_sh, am_mm U))) 5 (fun _ => rfl) ?_
      refine ev_lrem rfl h22a.1 ?_
      have h22aa := h22a.2
      refine ev_seg (σ1 := (d, 273, 12, [some (.inr (.inl x0)), none, some (.inr (.inl x2)), none, some (.inr (.inl x4)), none, some (.inr (.inl (Int.tmod (w64 (x6 * x8)) x4))), none, some (.inr (.inl (Int.tmod (w64 (x8 * x8)) x4))), none, some (.inr (.inl (am_lshr x10 1))), none], [], (am_sh, am_mm U))) 6 (fun _ => rfl) ?_
      exact h22aa
set_option maxRecDepth 8000 in
theorem st274_48_0 (N : Nat) (X : Nat → Int) (d : Nat) (x1 : Int) (U : Nat → Nat → Int) (R : Option am_V × am_M) (h : (0 ≤ x1 ∧ x1 < 12) ∧ ∃ (r1 : Int) (U1 : Nat → Nat → Int), Ev (am_kz N X) (d, 98, 0, [some (.inl (am_and (U 19 x1.toNat) (U 48 7)))], [], (am_sh, am_mm U)) (some (.inl r1), (am_sh, am_mm U1)) ∧ ((((w32 ((w32 (4 * x1)) + r1)) < 48 : Prop)) → (0 ≤ (w32 ((w32 (4 * x1)) + r1)) ∧ (w32 ((w32 (4 * x1)) + r1)) < 48) ∧ ((((U1 51 (w32 ((w32 (4 * x1)) + r1)).toNat) = 0 : Prop)) → (0 ≤ (w32 ((w32 (4 * x1)) + r1)) ∧ (w32 ((w32 (4 * x1)) + r1)) < 48) ∧ (0 ≤ x1 ∧ x1 < 12) ∧ Ev (am_kz N X) ((d + 1), 274, 85, [some (.inr (.inr 48)), some (.inl x1), some (.inl (w32 ((w32 (4 * x1)) + r1))), some (.inl (am_and ((am_upd U1 51 (w32 ((w32 (4 * x1)) + r1)).toNat 1) 19 x1.toNat) (am_xor ((am_upd U1 51 (w32 ((w32 (4 * x1)) + r1)).toNat 1) 48 7) (-1)))), some (.inl 0), none], [], (am_sh, am_mm (am_upd U1 51 (w32 ((w32 (4 * x1)) + r1)).toNat 1))) R) ∧ (¬ ((U1 51 (w32 ((w32 (4 * x1)) + r1)).toNat) = 0) → (0 ≤ (w32 ((w32 (4 * x1)) + r1)) ∧ (w32 ((w32 (4 * x1)) + r1)) < 48) ∧ (((¬ (U1 51 (w32 ((w32 (4 * x1)) + r1)).toNat) = 2 : Prop)) → R = (some (.inl 0), (am_sh, am_mm U1))) ∧ (¬ (¬ (U1 51 (w32 ((w32 (4 * x1)) + r1)).toNat) = 2) → R = (some (.inl 1), (am_sh, am_mm U1))))) ∧ (¬ ((w32 ((w32 (4 * x1)) + r1)) < 48) → R = (some (.inl 0), (am_sh, am_mm U1)))) : Ev (am_kz N X) ((d + 1), 274, 0, [some (.inr (.inr 48)), some (.inl x1), none, none, none, none], [], (am_sh, am_mm U)) R := by
  refine ev_seg (σ1 := ((d + 1), 274, 11, [some (.inr (.inr 48)), some (.inl x1), none, none, none, none], [.inl x1, .inr (.inr 19), .inl (w32 (4 * x1))], (am_sh, am_mm U))) 7 (fun _ => rfl) ?_
  refine eu_iald 19 (n := 12) rfl (by decide) rfl (fun _ => rfl) h.1 ?_
  have ha := h.2
  refine ev_seg (σ1 := ((d + 1), 274, 17, [some (.inr (.inr 48)), some (.inl x1), none, none, none, none], [.inl (am_and (U 19 x1.toNat) (U 48 7)), .inl (w32 (4 * x1))], (am_sh, am_mm U))) 3 (fun _ => rfl) ?_
  obtain ⟨r1, U1, hac, haa⟩ := ha
  refine ev_cal (σc := (d, 98, 0, [some (.inl (am_and (U 19 x1.toNat) (U 48 7)))], [], (am_sh, am_mm U))) (fun _ => rfl) hac ?_
  show Ev (am_kz N X) ((d + 1), 274, 20, [some (.inr (.inr 48)), some (.inl x1), none, none, none, none], [.inl r1, .inl (w32 (4 * x1))], (am_sh, am_mm U1)) R
  refine ev_br (P := (w32 ((w32 (4 * x1)) + r1)) < 48) (σ1 := ((d + 1), 274, 33, [some (.inr (.inr 48)), some (.inl x1), some (.inl (w32 ((w32 (4 * x1)) + r1))), none, none, none], [], (am_sh, am_mm U1))) (σ2 := ((d + 1), 274, 31, [some (.inr (.inr 48)), some (.inl x1), some (.inl (w32 ((w32 (4 * x1)) + r1))), none, none, none], [], (am_sh, am_mm U1))) 7 (fun _ => rfl) (fun hc => ?_) (fun hc => ?_)
  · have haa1 := haa.1 hc
    refine ev_seg (σ1 := ((d + 1), 274, 38, [some (.inr (.inr 48)), some (.inl x1), some (.inl (w32 ((w32 (4 * x1)) + r1))), none, none, none], [.inl (w32 ((w32 (4 * x1)) + r1)), .inr (.inr 51)], (am_sh, am_mm U1))) 3 (fun _ => rfl) ?_
    refine eu_iald 51 (n := 48) rfl (by decide) rfl (fun _ => rfl) haa1.1 ?_
    have haa1a := haa1.2
    refine ev_br (P := (U1 51 (w32 ((w32 (4 * x1)) + r1)).toNat) = 0) (σ1 := ((d + 1), 274, 58, [some (.inr (.inr 48)), some (.inl x1), some (.inl (w32 ((w32 (4 * x1)) + r1))), none, none, none], [], (am_sh, am_mm U1))) (σ2 := ((d + 1), 274, 42, [some (.inr (.inr 48)), some (.inl x1), some (.inl (w32 ((w32 (4 * x1)) + r1))), none, none, none], [], (am_sh, am_mm U1))) 1 (fun _ => rfl) (fun hc => ?_) (fun hc => ?_)
    · have haa1a1 := haa1a.1 hc
      refine ev_seg (σ1 := ((d + 1), 274, 64, [some (.inr (.inr 48)), some (.inl x1), some (.inl (w32 ((w32 (4 * x1)) + r1))), none, none, none], [.inl 1, .inl (w32 ((w32 (4 * x1)) + r1)), .inr (.inr 51)], (am_sh, am_mm U1))) 4 (fun _ => rfl) ?_
      refine eu_iast 51 (n := 48) rfl (by decide) rfl (fun _ => rfl) haa1a1.1 ?_
      have haa1a1a := haa1a1.2
      refine ev_seg (σ1 := ((d + 1), 274, 73, [some (.inr (.inr 48)), some (.inl x1), some (.inl (w32 ((w32 (4 * x1)) + r1))), none, none, none], [.inl x1, .inr (.inr 19)], (am_sh, am_mm (am_upd U1 51 (w32 ((w32 (4 * x1)) + r1)).toNat 1)))) 4 (fun _ => rfl) ?_
      refine eu_iald 19 (n := 12) rfl (by decide) rfl (fun _ => rfl) haa1a1a.1 ?_
      have haa1a1aa := haa1a1a.2
      refine ev_seg (σ1 := ((d + 1), 274, 85, [some (.inr (.inr 48)), some (.inl x1), some (.inl (w32 ((w32 (4 * x1)) + r1))), some (.inl (am_and ((am_upd U1 51 (w32 ((w32 (4 * x1)) + r1)).toNat 1) 19 x1.toNat) (am_xor ((am_upd U1 51 (w32 ((w32 (4 * x1)) + r1)).toNat 1) 48 7) (-1)))), some (.inl 0), none], [], (am_sh, am_mm (am_upd U1 51 (w32 ((w32 (4 * x1)) + r1)).toNat 1)))) 8 (fun _ => rfl) ?_
      exact haa1a1aa
    · have haa1a2 := haa1a.2 hc
      refine ev_seg (σ1 := ((d + 1), 274, 47, [some (.inr (.inr 48)), some (.inl x1), some (.inl (w32 ((w32 (4 * x1)) + r1))), none, none, none], [.inl (w32 ((w32 (4 * x1)) + r1)), .inr (.inr 51)], (am_sh, am_mm U1))) 3 (fun _ => rfl) ?_
      refine eu_iald 51 (n := 48) rfl (by decide) rfl (fun _ => rfl) haa1a2.1 ?_
      have haa1a2a := haa1a2.2
      refine ev_br (P := ¬ (U1 51 (w32 ((w32 (4 * x1)) + r1)).toNat) = 2) (σ1 := ((d + 1), 274, 56, [some (.inr (.inr 48)), some (.inl x1), some (.inl (w32 ((w32 (4 * x1)) + r1))), none, none, none], [], (am_sh, am_mm U1))) (σ2 := ((d + 1), 274, 52, [some (.inr (.inr 48)), some (.inl x1), some (.inl (w32 ((w32 (4 * x1)) + r1))), none, none, none], [], (am_sh, am_mm U1))) 2 (fun _ => rfl) (fun hc => ?_) (fun hc => ?_)
      · have haa1a2a1 := haa1a2a.1 hc
        subst haa1a2a1
        exact ev_end 2 (fun _ => rfl)
      · have haa1a2a2 := haa1a2a.2 hc
        subst haa1a2a2
        exact ev_end 3 (fun _ => rfl)
  · have haa2 := haa.2 hc
    subst haa2
    exact ev_end 2 (fun _ => rfl)
set_option maxRecDepth 8000 in
theorem st274_48_85 (N : Nat) (X : Nat → Int) (d : Nat) (x1 x2 x3 x4 : Int) (U : Nat → Nat → Int) (R : Option am_V × am_M) (h : ((((U 16 0) ≤ x4 : Prop)) → (0 ≤ x2 ∧ x2 < 48) ∧ (((¬ (U 51 x2.toNat) = 2 : Prop)) → R = (some (.inl 0), (am_sh, am_mm U))) ∧ (¬ (¬ (U 51 x2.toNat) = 2) → R = (some (.inl 1), (am_sh, am_mm U)))) ∧ (¬ ((U 16 0) ≤ x4) → Ev (am_kz N X) ((d + 1), 274, 100, [some (.inr (.inr 48)), some (.inl x1), some (.inl x2), some (.inl x3), some (.inl x4), some (.inl 0)], [], (am_sh, am_mm U)) R)) : Ev (am_kz N X) ((d + 1), 274, 85, [some (.inr (.inr 48)), some (.inl x1), some (.inl x2), some (.inl x3), some (.inl x4), none], [], (am_sh, am_mm U)) R := by
  refine ev_br (P := (U 16 0) ≤ x4) (σ1 := ((d + 1), 274, 161, [some (.inr (.inr 48)), some (.inl x1), some (.inl x2), some (.inl x3), some (.inl x4), none], [], (am_sh, am_mm U))) (σ2 := ((d + 1), 274, 97, [some (.inr (.inr 48)), some (.inl x1), some (.inl x2), some (.inl x3), some (.inl x4), none], [], (am_sh, am_mm U))) 5 (fun _ => rfl) (fun hc => ?_) (fun hc => ?_)
  · have h1 := h.1 hc
    refine ev_seg (σ1 := ((d + 1), 274, 166, [some (.inr (.inr 48)), some (.inl x1), some (.inl x2), some (.inl x3), some (.inl x4), none], [.inl x2, .inr (.inr 51)], (am_sh, am_mm U))) 3 (fun _ => rfl) ?_
    refine eu_iald 51 (n := 48) rfl (by decide) rfl (fun _ => rfl) h1.1 ?_
    have h1a := h1.2
    refine ev_br (P := ¬ (U 51 x2.toNat) = 2) (σ1 := ((d + 1), 274, 175, [some (.inr (.inr 48)), some (.inl x1), some (.inl x2), some (.inl x3), some (.inl x4), none], [], (am_sh, am_mm U))) (σ2 := ((d + 1), 274, 171, [some (.inr (.inr 48)), some (.inl x1), some (.inl x2), some (.inl x3), some (.inl x4), none], [], (am_sh, am_mm U))) 2 (fun _ => rfl) (fun hc => ?_) (fun hc => ?_)
    · have h1a1 := h1a.1 hc
      subst h1a1
      exact ev_end 2 (fun _ => rfl)
    · have h1a2 := h1a.2 hc
      subst h1a2
      exact ev_end 3 (fun _ => rfl)
  · have h2 := h.2 hc
    refine ev_seg (σ1 := ((d + 1), 274, 100, [some (.inr (.inr 48)), some (.inl x1), some (.inl x2), some (.inl x3), some (.inl x4), some (.inl 0)], [], (am_sh, am_mm U))) 2 (fun _ => rfl) ?_
    exact h2
set_option maxRecDepth 8000 in
theorem st274_48_100 (N : Nat) (X : Nat → Int) (d : Nat) (x1 x2 x3 x4 x5 : Int) (U : Nat → Nat → Int) (R : Option am_V × am_M) (h : ((((U 3 4) ≤ x5 : Prop)) → Ev (am_kz N X) ((d + 1), 274, 85, [some (.inr (.inr 48)), some (.inl x1), some (.inl x2), some (.inl x3), some (.inl (w32 (x4 + 1))), some (.inl x5)], [], (am_sh, am_mm U)) R) ∧ (¬ ((U 3 4) ≤ x5) → (((¬ (am_and (am_shr x3 x4) 1) = 1 : Prop)) → Ev (am_kz N X) ((d + 1), 274, 85, [some (.inr (.inr 48)), some (.inl x1), some (.inl x2), some (.inl x3), some (.inl (w32 (x4 + 1))), some (.inl x5)], [], (am_sh, am_mm U)) R) ∧ (¬ (¬ (am_and (am_shr x3 x4) 1) = 1) → ∃ (r1 : Int) (U1 : Nat → Nat → Int), Ev (am_kz N X) (d, 272, 0, [some (.inr (.inr 45)), some (.inl x5), some (.inl x4), some (.inl (am_xor (U 48 7) (-1))), none, none, none, none], [], (am_sh, am_mm U)) (some (.inl r1), (am_sh, am_mm U1)) ∧ (((r1 = 0 : Prop)) → Ev (am_kz N X) ((d + 1), 274, 100, [some (.inr (.inr 48)), some (.inl x1), some (.inl x2), some (.inl x3), some (.inl x4), some (.inl (w32 (x5 + 1)))], [], (am_sh, am_mm U1)) R) ∧ (¬ (r1 = 0) → (0 ≤ x2 ∧ x2 < 48) ∧ Ev (am_kz N X) ((d + 1), 274, 100, [some (.inr (.inr 48)), some (.inl x1), some (.inl x2), some (.inl x3), some (.inl x4), some (.inl (w32 (x5 + 1)))], [], (am_sh, am_mm (am_upd U1 51 x2.toNat 2))) R)))) : Ev (am_kz N X) ((d + 1), 274, 100, [some (.inr (.inr 48)), some (.inl x1), some (.inl x2), some (.inl x3), some (.inl x4), some (.inl x5)], [], (am_sh, am_mm U)) R := by
  refine ev_br (P := (U 3 4) ≤ x5) (σ1 := ((d + 1), 274, 155, [some (.inr (.inr 48)), some (.inl x1), some (.inl x2), some (.inl x3), some (.inl x4), some (.inl x5)], [], (am_sh, am_mm U))) (σ2 := ((d + 1), 274, 112, [some (.inr (.inr 48)), some (.inl x1), some (.inl x2), some (.inl x3), some (.inl x4), some (.inl x5)], [], (am_sh, am_mm U))) 5 (fun _ => rfl) (fun hc => ?_) (fun hc => ?_)
  · have h1 := h.1 hc
    refine ev_seg (σ1 := ((d + 1), 274, 85, [some (.inr (.inr 48)), some (.inl x1), some (.inl x2), some (.inl x3), some (.inl (w32 (x4 + 1))), some (.inl x5)], [], (am_sh, am_mm U))) 2 (fun _ => rfl) ?_
    exact h1
  · have h2 := h.2 hc
    refine ev_br (P := ¬ (am_and (am_shr x3 x4) 1) = 1) (σ1 := ((d + 1), 274, 155, [some (.inr (.inr 48)), some (.inl x1), some (.inl x2), some (.inl x3), some (.inl x4), some (.inl x5)], [], (am_sh, am_mm U))) (σ2 := ((d + 1), 274, 122, [some (.inr (.inr 48)), some (.inl x1), some (.inl x2), some (.inl x3), some (.inl x4), some (.inl x5)], [], (am_sh, am_mm U))) 7 (fun _ => rfl) (fun hc => ?_) (fun hc => ?_)
    · have h21 := h2.1 hc
      refine ev_seg (σ1 := ((d + 1), 274, 85, [some (.inr (.inr 48)), some (.inl x1), some (.inl x2), some (.inl x3), some (.inl (w32 (x4 + 1))), some (.inl x5)], [], (am_sh, am_mm U))) 2 (fun _ => rfl) ?_
      exact h21
    · have h22 := h2.2 hc
      refine ev_seg (σ1 := ((d + 1), 274, 136, [some (.inr (.inr 48)), some (.inl x1), some (.inl x2), some (.inl x3), some (.inl x4), some (.inl x5)], [.inl (am_xor (U 48 7) (-1)), .inl x4, .inl x5, .inr (.inr 45)], (am_sh, am_mm U))) 8 (fun _ => rfl) ?_
      obtain ⟨r1, U1, h22c, h22a⟩ := h22
      refine ev_cal (σc := (d, 272, 0, [some (.inr (.inr 45)), some (.inl x5), some (.inl x4), some (.inl (am_xor (U 48 7) (-1))), none, none, none, none], [], (am_sh, am_mm U))) (fun _ => rfl) h22c ?_
      show Ev (am_kz N X) ((d + 1), 274, 139, [some (.inr (.inr 48)), some (.inl x1), some (.inl x2), some (.inl x3), some (.inl x4), some (.inl x5)], [.inl r1], (am_sh, am_mm U1)) R
      refine ev_br (P := r1 = 0) (σ1 := ((d + 1), 274, 149, [some (.inr (.inr 48)), some (.inl x1), some (.inl x2), some (.inl x3), some (.inl x4), some (.inl x5)], [], (am_sh, am_mm U1))) (σ2 := ((d + 1), 274, 142, [some (.inr (.inr 48)), some (.inl x1), some (.inl x2), some (.inl x3), some (.inl x4), some (.inl x5)], [], (am_sh, am_mm U1))) 1 (fun _ => rfl) (fun hc => ?_) (fun hc => ?_)
      · have h22a1 := h22a.1 hc
        refine ev_seg (σ1 := ((d + 1), 274, 100, [some (.inr (.inr 48)), some (.inl x1), some (.inl x2), some (.inl x3), some (.inl x4), some (.inl (w32 (x5 + 1)))], [], (am_sh, am_mm U1))) 2 (fun _ => rfl) ?_
        exact h22a1
      · have h22a2 := h22a.2 hc
        refine ev_seg (σ1 := ((d + 1), 274, 148, [some (.inr (.inr 48)), some (.inl x1), some (.inl x2), some (.inl x3), some (.inl x4), some (.inl x5)], [.inl 2, .inl x2, .inr (.inr 51)], (am_sh, am_mm U1))) 4 (fun _ => rfl) ?_
        refine eu_iast 51 (n := 48) rfl (by decide) rfl (fun _ => rfl) h22a2.1 ?_
        have h22a2a := h22a2.2
        refine ev_seg (σ1 := ((d + 1), 274, 100, [some (.inr (.inr 48)), some (.inl x1), some (.inl x2), some (.inl x3), some (.inl x4), some (.inl (w32 (x5 + 1)))], [], (am_sh, am_mm (am_upd U1 51 x2.toNat 2)))) 2 (fun _ => rfl) ?_
        exact h22a2a
