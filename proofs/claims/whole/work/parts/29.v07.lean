set_option maxRecDepth 8000 in
theorem st244_84_0 (kz : am_Z) (d : Nat) (x1 : Int) (U : Nat → Nat → Int) (R : Option am_V × am_M) (h : Ev kz (d, 244, 5, [some (.inr (.inr 84)), some (.inl x1), some (.inl 73), some (.inl 0)], [], (am_sh, am_mm U)) R) : Ev kz (d, 244, 0, [some (.inr (.inr 84)), some (.inl x1), none, none], [], (am_sh, am_mm U)) R := by
  refine ev_seg (σ1 := (d, 244, 5, [some (.inr (.inr 84)), some (.inl x1), some (.inl 73), some (.inl 0)], [], (am_sh, am_mm U))) 4 (fun _ => rfl) ?_
  exact h
set_option maxRecDepth 8000 in
theorem st244_84_5 (kz : am_Z) (d : Nat) (x1 x2 x3 : Int) (U : Nat → Nat → Int) (R : Option am_V × am_M) (h : (((x1 ≤ x3 : Prop)) → R = (some (.inl x2), (am_sh, am_mm U))) ∧ (¬ (x1 ≤ x3) → (((85 ≤ x3 : Prop)) → R = (some (.inl x2), (am_sh, am_mm U))) ∧ (¬ (85 ≤ x3) → (0 ≤ x3 ∧ x3 < 85) ∧ Ev kz (d, 244, 5, [some (.inr (.inr 84)), some (.inl x1), some (.inl (Int.tmod (w32 ((w32 (5 * x2)) + (U 84 x3.toNat))) 251)), some (.inl (w32 (x3 + 1)))], [], (am_sh, am_mm U)) R))) : Ev kz (d, 244, 5, [some (.inr (.inr 84)), some (.inl x1), some (.inl x2), some (.inl x3)], [], (am_sh, am_mm U)) R := by
  refine ev_br (P := x1 ≤ x3) (σ1 := (d, 244, 34, [some (.inr (.inr 84)), some (.inl x1), some (.inl x2), some (.inl x3)], [], (am_sh, am_mm U))) (σ2 := (d, 244, 10, [some (.inr (.inr 84)), some (.inl x1), some (.inl x2), some (.inl x3)], [], (am_sh, am_mm U))) 3 (fun _ => rfl) (fun hc => ?_) (fun hc => ?_)
  · have h1 := h.1 hc
    subst h1
    exact ev_end 2 (fun _ => rfl)
  · have h2 := h.2 hc
    refine ev_br (P := 85 ≤ x3) (σ1 := (d, 244, 34, [some (.inr (.inr 84)), some (.inl x1), some (.inl x2), some (.inl x3)], [], (am_sh, am_mm U))) (σ2 := (d, 244, 16, [some (.inr (.inr 84)), some (.inl x1), some (.inl x2), some (.inl x3)], [], (am_sh, am_mm U))) 4 (fun _ => rfl) (fun hc => ?_) (fun hc => ?_)
    · have h21 := h2.1 hc
      subst h21
      exact ev_end 2 (fun _ => rfl)
    · have h22 := h2.2 hc
      refine ev_seg (σ1 := (d, 244, 21, [some (.inr (.inr 84)), some (.inl x1), some (.inl x2), some (.inl x3)], [.inl x3, .inr (.inr 84), .inl (w32 (5 * x2))], (am_sh, am_mm U))) 5 (fun _ => rfl) ?_
      refine eu_iald 84 (n := 85) rfl (by decide) rfl (fun _ => rfl) h22.1 ?_
      have h22a := h22.2
      refine ev_seg (σ1 := (d, 244, 26, [some (.inr (.inr 84)), some (.inl x1), some (.inl x2), some (.inl x3)], [.inl 251, .inl (w32 ((w32 (5 * x2)) + (U 84 x3.toNat)))], (am_sh, am_mm U))) 2 (fun _ => rfl) ?_
      refine ev_irem rfl (by decide) ?_
      refine ev_seg (σ1 := (d, 244, 5, [some (.inr (.inr 84)), some (.inl x1), some (.inl (Int.tmod (w32 ((w32 (5 * x2)) + (U 84 x3.toNat))) 251)), some (.inl (w32 (x3 + 1)))], [], (am_sh, am_mm U))) 3 (fun _ => rfl) ?_
      exact h22a
set_option maxRecDepth 8000 in
theorem st245_21_3_0 (kz : am_Z) (d : Nat) (x1 x2 : Int) (U : Nat → Nat → Int) (R : Option am_V × am_M) (h : (((x1 = 0 : Prop)) → R = (some (.inl 0), (am_sh, am_mm U))) ∧ (¬ (x1 = 0) → (((999999999 < x1 : Prop)) → R = (some (.inl 0), (am_sh, am_mm U))) ∧ (¬ (999999999 < x1) → (((x1 < (-999999999) : Prop)) → R = (some (.inl 0), (am_sh, am_mm U))) ∧ (¬ (x1 < (-999999999)) → ∃ (r1 : Int) (U1 : Nat → Nat → Int), Ev kz (d, 280, 0, [some (.inr (.inr 21)), some (.inl x1), none], [], (am_sh, am_mm U)) (some (.inl r1), (am_sh, am_mm U1)) ∧ (((r1 < 0 : Prop)) → ((((U1 3 1) ≤ x2 : Prop)) → R = (some (.inl 0), (am_sh, am_mm U1))) ∧ (¬ ((U1 3 1) ≤ x2) → (((x2 < 0 : Prop)) → ∃ U2 : Nat → Nat → Int, Ev kz (d, 180, 0, [some (.inr (.inr 21)), some (.inl x1), some (.inl x2)], [], (am_sh, am_mm U1)) (none, (am_sh, am_mm U2)) ∧ R = (some (.inl 1), (am_sh, am_mm U2))) ∧ (¬ (x2 < 0) → ∃ (r3 : Int) (U3 : Nat → Nat → Int), Ev kz (d, 106, 0, [some (.inr (.inr 21)), some (.inl x2)], [], (am_sh, am_mm U1)) (some (.inl r3), (am_sh, am_mm U3)) ∧ (0 ≤ x2 ∧ x2 < 12) ∧ (((r3 < (U3 8 x2.toNat) : Prop)) → ∃ U4 : Nat → Nat → Int, Ev kz (d, 180, 0, [some (.inr (.inr 21)), some (.inl x1), some (.inl x2)], [], (am_sh, am_mm U3)) (none, (am_sh, am_mm U4)) ∧ R = (some (.inl 1), (am_sh, am_mm U4))) ∧ (¬ (r3 < (U3 8 x2.toNat)) → R = (some (.inl 0), (am_sh, am_mm U3)))))) ∧ (¬ (r1 < 0) → R = (some (.inl 0), (am_sh, am_mm U1))))))) : Ev kz ((d + 1), 245, 0, [some (.inr (.inr 21)), some (.inl x1), some (.inl x2), some (.inr (.inr 3))], [], (am_sh, am_mm U)) R := by
  refine ev_br (P := x1 = 0) (σ1 := ((d + 1), 245, 24, [some (.inr (.inr 21)), some (.inl x1), some (.inl x2), some (.inr (.inr 3))], [], (am_sh, am_mm U))) (σ2 := ((d + 1), 245, 4, [some (.inr (.inr 21)), some (.inl x1), some (.inl x2), some (.inr (.inr 3))], [], (am_sh, am_mm U))) 2 (fun _ => rfl) (fun hc => ?_) (fun hc => ?_)
  · have h1 := h.1 hc
    subst h1
    exact ev_end 2 (fun _ => rfl)
  · have h2 := h.2 hc
    refine ev_br (P := 999999999 < x1) (σ1 := ((d + 1), 245, 24, [some (.inr (.inr 21)), some (.inl x1), some (.inl x2), some (.inr (.inr 3))], [], (am_sh, am_mm U))) (σ2 := ((d + 1), 245, 10, [some (.inr (.inr 21)), some (.inl x1), some (.inl x2), some (.inr (.inr 3))], [], (am_sh, am_mm U))) 3 (fun _ => rfl) (fun hc => ?_) (fun hc => ?_)
    · have h21 := h2.1 hc
      subst h21
      exact ev_end 2 (fun _ => rfl)
    · have h22 := h2.2 hc
      refine ev_br (P := x1 < (-999999999)) (σ1 := ((d + 1), 245, 24, [some (.inr (.inr 21)), some (.inl x1), some (.inl x2), some (.inr (.inr 3))], [], (am_sh, am_mm U))) (σ2 := ((d + 1), 245, 16, [some (.inr (.inr 21)), some (.inl x1), some (.inl x2), some (.inr (.inr 3))], [], (am_sh, am_mm U))) 3 (fun _ => rfl) (fun hc => ?_) (fun hc => ?_)
      · have h221 := h22.1 hc
        subst h221
        exact ev_end 2 (fun _ => rfl)
      · have h222 := h22.2 hc
        refine ev_seg (σ1 := ((d + 1), 245, 18, [some (.inr (.inr 21)), some (.inl x1), some (.inl x2), some (.inr (.inr 3))], [.inl x1, .inr (.inr 21)], (am_sh, am_mm U))) 2 (fun _ => rfl) ?_
        obtain ⟨r1, U1, h222c, h222a⟩ := h222
        refine ev_cal (σc := (d, 280, 0, [some (.inr (.inr 21)), some (.inl x1), none], [], (am_sh, am_mm U))) (fun _ => rfl) h222c ?_
        show Ev kz ((d + 1), 245, 21, [some (.inr (.inr 21)), some (.inl x1), some (.inl x2), some (.inr (.inr 3))], [.inl r1], (am_sh, am_mm U1)) R
        refine ev_br (P := r1 < 0) (σ1 := ((d + 1), 245, 26, [some (.inr (.inr 21)), some (.inl x1), some (.inl x2), some (.inr (.inr 3))], [], (am_sh, am_mm U1))) (σ2 := ((d + 1), 245, 24, [some (.inr (.inr 21)), some (.inl x1), some (.inl x2), some (.inr (.inr 3))], [], (am_sh, am_mm U1))) 1 (fun _ => rfl) (fun hc => ?_) (fun hc => ?_)
        · have h222a1 := h222a.1 hc
          refine ev_br (P := (U1 3 1) ≤ x2) (σ1 := ((d + 1), 245, 52, [some (.inr (.inr 21)), some (.inl x1), some (.inl x2), some (.inr (.inr 3))], [], (am_sh, am_mm U1))) (σ2 := ((d + 1), 245, 34, [some (.inr (.inr 21)), some (.inl x1), some (.inl x2), some (.inr (.inr 3))], [], (am_sh, am_mm U1))) 4 (fun _ => rfl) (fun hc => ?_) (fun hc => ?_)
          · have h222a11 := h222a1.1 hc
            subst h222a11
            exact ev_end 2 (fun _ => rfl)
          · have h222a12 := h222a1.2 hc
            refine ev_br (P := x2 < 0) (σ1 := ((d + 1), 245, 54, [some (.inr (.inr 21)), some (.inl x1), some (.inl x2), some (.inr (.inr 3))], [], (am_sh, am_mm U1))) (σ2 := ((d + 1), 245, 38, [some (.inr (.inr 21)), some (.inl x1), some (.inl x2), some (.inr (.inr 3))], [], (am_sh, am_mm U1))) 2 (fun _ => rfl) (fun hc => ?_) (fun hc => ?_)
            · have h222a121 := h222a12.1 hc
              refine ev_seg (σ1 := ((d + 1), 245, 57, [some (.inr (.inr 21)), some (.inl x1), some (.inl x2), some (.inr (.inr 3))], [.inl x2, .inl x1, .inr (.inr 21)], (am_sh, am_mm U1))) 3 (fun _ => rfl) ?_
              obtain ⟨U2, h222a121c, h222a121a⟩ := h222a121
              refine ev_cal (σc := (d, 180, 0, [some (.inr (.inr 21)), some (.inl x1), some (.inl x2)], [], (am_sh, am_mm U1))) (fun _ => rfl) h222a121c ?_
              show Ev kz ((d + 1), 245, 60, [some (.inr (.inr 21)), some (.inl x1), some (.inl x2), some (.inr (.inr 3))], [], (am_sh, am_mm U2)) R
              subst h222a121a
              exact ev_end 2 (fun _ => rfl)
            · have h222a122 := h222a12.2 hc
              refine ev_seg (σ1 := ((d + 1), 245, 40, [some (.inr (.inr 21)), some (.inl x1), some (.inl x2), some (.inr (.inr 3))], [.inl x2, .inr (.inr 21)], (am_sh, am_mm U1))) 2 (fun _ => rfl) ?_
              obtain ⟨r3, U3, h222a122c, h222a122a⟩ := h222a122
              refine ev_cal (σc := (d, 106, 0, [some (.inr (.inr 21)), some (.inl x2)], [], (am_sh, am_mm U1))) (fun _ => rfl) h222a122c ?_
              show Ev kz ((d + 1), 245, 43, [some (.inr (.inr 21)), some (.inl x1), some (.inl x2), some (.inr (.inr 3))], [.inl r3], (am_sh, am_mm U3)) R
              refine ev_seg (σ1 := ((d + 1), 245, 48, [some (.inr (.inr 21)), some (.inl x1), some (.inl x2), some (.inr (.inr 3))], [.inl x2, .inr (.inr 8), .inl r3], (am_sh, am_mm U3))) 3 (fun _ => rfl) ?_
              refine eu_iald 8 (n := 12) rfl (by decide) rfl (fun _ => rfl) h222a122a.1 ?_
              have h222a122aa := h222a122a.2
              refine ev_br (P := r3 < (U3 8 x2.toNat)) (σ1 := ((d + 1), 245, 54, [some (.inr (.inr 21)), some (.inl x1), some (.inl x2), some (.inr (.inr 3))], [], (am_sh, am_mm U3))) (σ2 := ((d + 1), 245, 52, [some (.inr (.inr 21)), some (.inl x1), some (.inl x2), some (.inr (.inr 3))], [], (am_sh, am_mm U3))) 1 (fun _ => rfl) (fun hc => ?_) (fun hc => ?_)
              · have h222a122aa1 := h222a122aa.1 hc
                refine ev_seg (σ1 := ((d + 1), 245, 57, [some (.inr (.inr 21)), some (.inl x1), some (.inl x2), some (.inr (.inr 3))], [.inl x2, .inl x1, .inr (.inr 21)], (am_sh, am_mm U3))) 3 (fun _ => rfl) ?_
                obtain ⟨U4, h222a122aa1c, h222a122aa1a⟩ := h222a122aa1
                refine ev_cal (σc := (d, 180, 0, [some (.inr (.inr 21)), some (.inl x1), some (.inl x2)], [], (am_sh, am_mm U3))) (fun _ => rfl) h222a122aa1c ?_
                show Ev kz ((d + 1), 245, 60, [some (.inr (.inr 21)), some (.inl x1), some (.inl x2), some (.inr (.inr 3))], [], (am_sh, am_mm U4)) R
                subst h222a122aa1a
                exact ev_end 2 (fun _ => rfl)
              · have h222a122aa2 := h222a122aa.2 hc
                subst h222a122aa2
                exact ev_end 2 (fun _ => rfl)
        · have h222a2 := h222a.2 hc
          subst h222a2
          exact ev_end 2 (fun _ => rfl)
set_option maxRecDepth 8000 in
theorem st244_2_0 (kz : am_Z) (d : Nat) (x1 : Int) (U : Nat → Nat → Int) (R : Option am_V × am_M) (h : Ev kz (d, 244, 5, [some (.inr (.inr 2)), some (.inl x1), some (.inl 73), some (.inl 0)], [], (am_sh, am_mm U)) R) : Ev kz (d, 244, 0, [some (.inr (.inr 2)), some (.inl x1), none, none], [], (am_sh, am_mm U)) R := by
  refine ev_seg (σ1 := (d, 244, 5, [some (.inr (.inr 2)), some (.inl x1), some (.inl 73), some (.inl 0)], [], (am_sh, am_mm U))) 4 (fun _ => rfl) ?_
  exact h
set_option maxRecDepth 8000 in
theorem st244_2_5 (kz : am_Z) (d : Nat) (x1 x2 x3 : Int) (U : Nat → Nat → Int) (R : Option am_V × am_M) (h : (((x1 ≤ x3 : Prop)) → R = (some (.inl x2), (am_sh, am_mm U))) ∧ (¬ (x1 ≤ x3) → (((1600 ≤ x3 : Prop)) → R = (some (.inl x2), (am_sh, am_mm U))) ∧ (¬ (1600 ≤ x3) → (0 ≤ x3 ∧ x3 < 1600) ∧ Ev kz (d, 244, 5, [some (.inr (.inr 2)), some (.inl x1), some (.inl (Int.tmod (w32 ((w32 (5 * x2)) + (U 2 x3.toNat))) 251)), some (.inl (w32 (x3 + 1)))], [], (am_sh, am_mm U)) R))) : Ev kz (d, 244, 5, [some (.inr (.inr 2)), some (.inl x1), some (.inl x2), some (.inl x3)], [], (am_sh, am_mm U)) R := by
  refine ev_br (P := x1 ≤ x3) (σ1 := (d, 244, 34, [some (.inr (.inr 2)), some (.inl x1), some (.inl x2), some (.inl x3)], [], (am_sh, am_mm U))) (σ2 := (d, 244, 10, [some (.inr (.inr 2)), some (.inl x1), some (.inl x2), some (.inl x3)], [], (am_sh, am_mm U))) 3 (fun _ => rfl) (fun hc => ?_) (fun hc => ?_)
  · have h1 := h.1 hc
    subst h1
    exact ev_end 2 (fun _ => rfl)
  · have h2 := h.2 hc
    refine ev_br (P := 1600 ≤ x3) (σ1 := (d, 244, 34, [some (.inr (.inr 2)), some (.inl x1), some (.inl x2), some (.inl x3)], [], (am_sh, am_mm U))) (σ2 := (d, 244, 16, [some (.inr (.inr 2)), some (.inl x1), some (.inl x2), some (.inl x3)], [], (am_sh, am_mm U))) 4 (fun _ => rfl) (fun hc => ?_) (fun hc => ?_)
    · have h21 := h2.1 hc
      subst h21
      exact ev_end 2 (fun _ => rfl)
    · have h22 := h2.2 hc
      refine ev_seg (σ1 := (d, 244, 21, [some (.inr (.inr 2)), some (.inl x1), some (.inl x2), some (.inl x3)], [.inl x3, .inr (.inr 2), .inl (w32 (5 * x2))], (am_sh, am_mm U))) 5 (fun _ => rfl) ?_
      refine eu_iald 2 (n := 1600) rfl (by decide) rfl (fun _ => rfl) h22.1 ?_
      have h22a := h22.2
      refine ev_seg (σ1 := (d, 244, 26, [some (.inr (.inr 2)), some (.inl x1), some (.inl x2), some (.inl x3)], [.inl 251, .inl (w32 ((w32 (5 * x2)) + (U 2 x3.toNat)))], (am_sh, am_mm U))) 2 (fun _ => rfl) ?_
      refine ev_irem rfl (by decide) ?_
      refine ev_seg (σ1 := (d, 244, 5, [some (.inr (.inr 2)), some (.inl x1), some (.inl (Int.tmod (w32 ((w32 (5 * x2)) + (U 2 x3.toNat))) 251)), some (.inl (w32 (x3 + 1)))], [], (am_sh, am_mm U))) 3 (fun _ => rfl) ?_
      exact h22a
set_option maxRecDepth 8000 in
theorem st246_86_0 (kz : am_Z) (d : Nat) (x1 : Int) (U : Nat → Nat → Int) (R : Option am_V × am_M) (h : (0 ≤ x1 ∧ x1 < 1800) ∧ (0 ≤ (w32 (x1 + 1)) ∧ (w32 (x1 + 1)) < 1800) ∧ (0 ≤ (w32 (x1 + 2)) ∧ (w32 (x1 + 2)) < 1800) ∧ (0 ≤ (w32 (x1 + 3)) ∧ (w32 (x1 + 3)) < 1800) ∧ R = (some (.inl (am_or (am_or (am_or (am_shl (U 87 x1.toNat) 24) (am_shl (U 87 (w32 (x1 + 1)).toNat) 16)) (am_shl (U 87 (w32 (x1 + 2)).toNat) 8)) (U 87 (w32 (x1 + 3)).toNat))), (am_sh, am_mm U))) : Ev kz (d, 246, 0, [some (.inr (.inr 86)), some (.inl x1)], [], (am_sh, am_mm U)) R := by
  refine ev_seg (σ1 := (d, 246, 5, [some (.inr (.inr 86)), some (.inl x1)], [.inl x1, .inr (.inr 87)], (am_sh, am_mm U))) 3 (fun _ => rfl) ?_
  refine eu_iald 87 (n := 1800) rfl (by decide) rfl (fun _ => rfl) h.1 ?_
  have ha := h.2
  refine ev_seg (σ1 := (d, 246, 16, [some (.inr (.inr 86)), some (.inl x1)], [.inl (w32 (x1 + 1)), .inr (.inr 87), .inl (am_shl (U 87 x1.toNat) 24)], (am_sh, am_mm U))) 7 (fun _ => rfl) ?_
  refine eu_iald 87 (n := 1800) rfl (by decide) rfl (fun _ => rfl) ha.1 ?_
  have haa := ha.2
  refine ev_seg (σ1 := (d, 246, 28, [some (.inr (.inr 86)), some (.inl x1)], [.inl (w32 (x1 + 2)), .inr (.inr 87), .inl (am_or (am_shl (U 87 x1.toNat) 24) (am_shl (U 87 (w32 (x1 + 1)).toNat) 16))], (am_sh, am_mm U))) 8 (fun _ => rfl) ?_
  refine eu_iald 87 (n := 1800) rfl (by decide) rfl (fun _ => rfl) haa.1 ?_
  have haaa := haa.2
  refine ev_seg (σ1 := (d, 246, 40, [some (.inr (.inr 86)), some (.inl x1)], [.inl (w32 (x1 + 3)), .inr (.inr 87), .inl (am_or (am_or (am_shl (U 87 x1.toNat) 24) (am_shl (U 87 (w32 (x1 + 1)).toNat) 16)) (am_shl (U 87 (w32 (x1 + 2)).toNat) 8))], (am_sh, am_mm U))) 8 (fun _ => rfl) ?_
  refine eu_iald 87 (n := 1800) rfl (by decide) rfl (fun _ => rfl) haaa.1 ?_
  have haaaa := haaa.2
  subst haaaa
  exact ev_end 2 (fun _ => rfl)
set_option maxRecDepth 8000 in
theorem st211_24_0 (kz : am_Z) (d : Nat) (x1 : Int) (U : Nat → Nat → Int) (R : Option am_V × am_M) (h : Ev kz (d, 211, 5, [some (.inr (.inr 24)), some (.inl x1), some (.inl 0), some (.inl 12)], [], (am_sh, am_mm U)) R) : Ev kz (d, 211, 0, [some (.inr (.inr 24)), some (.inl x1), none, none], [], (am_sh, am_mm U)) R := by
  refine ev_seg (σ1 := (d, 211, 5, [some (.inr (.inr 24)), some (.inl x1), some (.inl 0), some (.inl 12)], [], (am_sh, am_mm U))) 5 (fun _ => rfl) ?_
  exact h
set_option maxRecDepth 8000 in
theorem st211_24_5 (kz : am_Z) (d : Nat) (x1 x2 x3 : Int) (U : Nat → Nat → Int) (R : Option am_V × am_M) (h : (((x3 ≤ x2 : Prop)) → R = (none, (am_sh, am_mm U))) ∧ (¬ (x3 ≤ x2) → (0 ≤ x2 ∧ x2 < 12) ∧ Ev kz (d, 211, 5, [some (.inr (.inr 24)), some (.inl x1), some (.inl (w32 (x2 + 1))), some (.inl x3)], [], (am_sh, am_mm (am_upd U 24 x2.toNat x1))) R)) : Ev kz (d, 211, 5, [some (.inr (.inr 24)), some (.inl x1), some (.inl x2), some (.inl x3)], [], (am_sh, am_mm U)) R := by
  refine ev_br (P := x3 ≤ x2) (σ1 := (d, 211, 20, [some (.inr (.inr 24)), some (.inl x1), some (.inl x2), some (.inl x3)], [], (am_sh, am_mm U))) (σ2 := (d, 211, 10, [some (.inr (.inr 24)), some (.inl x1), some (.inl x2), some (.inl x3)], [], (am_sh, am_mm U))) 3 (fun _ => rfl) (fun hc => ?_) (fun hc => ?_)
  · have h1 := h.1 hc
    subst h1
    exact ev_end 1 (fun _ => rfl)
  · have h2 := h.2 hc
    refine ev_seg (σ1 := (d, 211, 13, [some (.inr (.inr 24)), some (.inl x1), some (.inl x2), some (.inl x3)], [.inl x1, .inl x2, .inr (.inr 24)], (am_sh, am_mm U))) 3 (fun _ => rfl) ?_
    refine eu_iast 24 (n := 12) rfl (by decide) rfl (fun _ => rfl) h2.1 ?_
    have h2a := h2.2
    refine ev_seg (σ1 := (d, 211, 5, [some (.inr (.inr 24)), some (.inl x1), some (.inl (w32 (x2 + 1))), some (.inl x3)], [], (am_sh, am_mm (am_upd U 24 x2.toNat x1)))) 2 (fun _ => rfl) ?_
    exact h2a
set_option maxRecDepth 8000 in
theorem st247_27_2_0 (kz : am_Z) (d : Nat) (x2 x3 : Int) (U : Nat → Nat → Int) (R : Option am_V × am_M) (h : (0 ≤ x3 ∧ x3 < 1600) ∧ ((((U 2 x3.toNat) = 10 : Prop)) → R = (some (.inl (w32 (x3 + 1))), (am_sh, am_mm U))) ∧ (¬ ((U 2 x3.toNat) = 10) → (((¬ (U 2 x3.toNat) = 32 : Prop)) → ∃ (r1 : Int) (U1 : Nat → Nat → Int), Ev kz (d, 287, 0, [some (.inl (U 2 x3.toNat))], [], (am_sh, am_mm U)) (some (.inl r1), (am_sh, am_mm U1)) ∧ (((¬ r1 = 0 : Prop)) → ∃ (r2 : Int) (U2 : Nat → Nat → Int), Ev kz (d, 287, 0, [some (.inl (U 2 x3.toNat))], [], (am_sh, am_mm U1)) (some (.inl r2), (am_sh, am_mm U2)) ∧ ∃ (r3 : Int) (U3 : Nat → Nat → Int), Ev kz (d, 289, 0, [some (.inr (.inr 27)), some (.inr (.inr 2)), some (.inl x2), some (.inl x3), some (.inl r2), none, none, none], [], (am_sh, am_mm U2)) (some (.inl r3), (am_sh, am_mm U3)) ∧ R = (some (.inl r3), (am_sh, am_mm U3))) ∧ (¬ (¬ r1 = 0) → ∃ (r4 : Int) (U4 : Nat → Nat → Int), Ev kz (d, 288, 0, [some (.inl (U 2 x3.toNat))], [], (am_sh, am_mm U1)) (some (.inl r4), (am_sh, am_mm U4)) ∧ (((r4 = 0 : Prop)) → ∃ (r5 : Int) (U5 : Nat → Nat → Int), Ev kz (d, 290, 0, [some (.inr (.inr (-2))), some (.inl (((Int32.ofInt (U 2 x3.toNat)).toUInt32 % 65536).toInt32.toInt))], [], (am_sh, am_mm U4)) (some (.inl r5), (am_sh, am_mm U5)) ∧ (((0 ≤ r5 : Prop)) → ∃ U6 : Nat → Nat → Int, Ev kz (d, 248, 0, [some (.inr (.inr 27)), some (.inl 4), some (.inl (U 2 x3.toNat)), some (.inl x3)], [], (am_sh, am_mm U5)) (none, (am_sh, am_mm U6)) ∧ R = (some (.inl (w32 (x3 + 1))), (am_sh, am_mm U6))) ∧ (¬ (0 ≤ r5) → ∃ (r7 : Int) (U7 : Nat → Nat → Int), Ev kz (d, 291, 0, [some (.inr (.inr 27)), some (.inl x3), some (.inl x3), some (.inl x2)], [], (am_sh, am_mm U5)) (some (.inl r7), (am_sh, am_mm U7)) ∧ R = (some (.inl r7), (am_sh, am_mm U7)))) ∧ (¬ (r4 = 0) → ∃ (r8 : Int) (U8 : Nat → Nat → Int), Ev kz (d, 287, 0, [some (.inl (U 2 x3.toNat))], [], (am_sh, am_mm U4)) (some (.inl r8), (am_sh, am_mm U8)) ∧ ∃ (r9 : Int) (U9 : Nat → Nat → Int), Ev kz (d, 289, 0, [some (.inr (.inr 27)), some (.inr (.inr 2)), some (.inl x2), some (.inl x3), some (.inl r8), none, none, none], [], (am_sh, am_mm U8)) (some (.inl r9), (am_sh, am_mm U9)) ∧ R = (some (.inl r9), (am_sh, am_mm U9))))) ∧ (¬ (¬ (U 2 x3.toNat) = 32) → R = (some (.inl (w32 (x3 + 1))), (am_sh, am_mm U))))) : Ev kz ((d + 1), 247, 0, [some (.inr (.inr 27)), some (.inr (.inr 2)), some (.inl x2), some (.inl x3), none], [], (am_sh, am_mm U)) R := by
  refine ev_seg (σ1 := ((d + 1), 247, 2, [some (.inr (.inr 27)), some (.inr (.inr 2)), some (.inl x2), some (.inl x3), none], [.inl x3, .inr (.inr 2)], (am_sh, am_mm U))) 2 (fun _ => rfl) ?_
  refine eu_iald 2 (n := 1600) rfl (by decide) rfl (fun _ => rfl) h.1 ?_
  have ha := h.2
  refine ev_br (P := (U 2 x3.toNat) = 10) (σ1 := ((d + 1), 247, 19, [some (.inr (.inr 27)), some (.inr (.inr 2)), some (.inl x2), some (.inl x3), some (.inl (U 2 x3.toNat))], [], (am_sh, am_mm U))) (σ2 := ((d + 1), 247, 12, [some (.inr (.inr 27)), some (.inr (.inr 2)), some (.inl x2), some (.inl x3), some (.inl (U 2 x3.toNat))], [], (am_sh, am_mm U))) 4 (fun _ => rfl) (fun hc => ?_) (fun hc => ?_)
  · have ha1 := ha.1 hc
    subst ha1
    exact ev_end 4 (fun _ => rfl)
  · have ha2 := ha.2 hc
    refine ev_br (P := ¬ (U 2 x3.toNat) = 32) (σ1 := ((d + 1), 247, 23, [some (.inr (.inr 27)), some (.inr (.inr 2)), some (.inl x2), some (.inl x3), some (.inl (U 2 x3.toNat))], [], (am_sh, am_mm U))) (σ2 := ((d + 1), 247, 19, [some (.inr (.inr 27)), some (.inr (.inr 2)), some (.inl x2), some (.inl x3), some (.inl (U 2 x3.toNat))], [], (am_sh, am_mm U))) 3 (fun _ => rfl) (fun hc => ?_) (fun hc => ?_)
    · have ha21 := ha2.1 hc
      refine ev_seg (σ1 := ((d + 1), 247, 25, [some (.inr (.inr 27)), some (.inr (.inr 2)), some (.inl x2), some (.inl x3), some (.inl (U 2 x3.toNat))], [.inl (U 2 x3.toNat)], (am_sh, am_mm U))) 1 (fun _ => rfl) ?_
      obtain ⟨r1, U1, ha21c, ha21a⟩ := ha21
      refine ev_cal (σc := (d, 287, 0, [some (.inl (U 2 x3.toNat))], [], (am_sh, am_mm U))) (fun _ => rfl) ha21c ?_
      show Ev kz ((d + 1), 247, 28, [some (.inr (.inr 27)), some (.inr (.inr 2)), some (.inl x2), some (.inl x3), some (.inl (U 2 x3.toNat))], [.inl r1], (am_sh, am_mm U1)) R
      refine ev_br (P := ¬ r1 = 0) (σ1 := ((d + 1), 247, 39, [some (.inr (.inr 27)), some (.inr (.inr 2)), some (.inl x2), some (.inl x3), some (.inl (U 2 x3.toNat))], [], (am_sh, am_mm U1))) (σ2 := ((d + 1), 247, 31, [some (.inr (.inr 27)), some (.inr (.inr 2)), some (.inl x2), some (.inl x3), some (.inl (U 2 x3.toNat))], [], (am_sh, am_mm U1))) 1 (fun _ => rfl) (fun hc => ?_) (fun hc => ?_)
      · have ha21a1 := ha21a.1 hc
        refine ev_seg (σ1 := ((d + 1), 247, 45, [some (.inr (.inr 27)), some (.inr (.inr 2)), some (.inl x2), some (.inl x3), some (.inl (U 2 x3.toNat))], [.inl (U 2 x3.toNat), .inl x3, .inl x2, .inr (.inr 2), .inr (.inr 27)], (am_sh, am_mm U1))) 5 (fun _ => rfl) ?_
        obtain ⟨r2, U2, ha21a1c, ha21a1a⟩ := ha21a1
        refine ev_cal (σc := (d, 287, 0, [some (.inl (U 2 x3.toNat))], [], (am_sh, am_mm U1))) (fun _ => rfl) ha21a1c ?_
        show Ev kz ((d + 1), 247, 48, [some (.inr (.inr 27)), some (.inr (.inr 2)), some (.inl x2), some (.inl x3), some (.inl (U 2 x3.toNat))], [.inl r2, .inl x3, .inl x2, .inr (.inr 2), .inr (.inr 27)], (am_sh, am_mm U2)) R
        obtain ⟨r3, U3, ha21a1ac, ha21a1aa⟩ := ha21a1a
        refine ev_cal (σc := (d, 289, 0, [some (.inr (.inr 27)), some (.inr (.inr 2)), some (.inl x2), some (.inl x3), some (.inl r2), none, none, none], [], (am_sh, am_mm U2))) (fun _ => rfl) ha21a1ac ?_
        show Ev kz ((d + 1), 247, 51, [some (.inr (.inr 27)), some (.inr (.inr 2)), some (.inl x2), some (.inl x3), some (.inl (U 2 x3.toNat))], [.inl r3], (am_sh, am_mm U3)) R
        subst ha21a1aa
        exact ev_end 1 (fun _ => rfl)
      · have ha21a2 := ha21a.2 hc
        refine ev_seg (σ1 := ((d + 1), 247, 33, [some (.inr (.inr 27)), some (.inr (.inr 2)), some (.inl x2), some (.inl x3), some (.inl (U 2 x3.toNat))], [.inl (U 2 x3.toNat)], (am_sh, am_mm U1))) 1 (fun _ => rfl) ?_
        obtain ⟨r4, U4, ha21a2c, ha21a2a⟩ := ha21a2
        refine ev_cal (σc := (d, 288, 0, [some (.inl (U 2 x3.toNat))], [], (am_sh, am_mm U1))) (fun _ => rfl) ha21a2c ?_
        show Ev kz ((d + 1), 247, 36, [some (.inr (.inr 27)), some (.inr (.inr 2)), some (.inl x2), some (.inl x3), some (.inl (U 2 x3.toNat))], [.inl r4], (am_sh, am_mm U4)) R
        refine ev_br (P := r4 = 0) (σ1 := ((d + 1), 247, 52, [some (.inr (.inr 27)), some (.inr (.inr 2)), some (.inl x2), some (.inl x3), some (.inl (U 2 x3.toNat))], [], (am_sh, am_mm U4))) (σ2 := ((d + 1), 247, 39, [some (.inr (.inr 27)), some (.inr (.inr 2)), some (.inl x2), some (.inl x3), some (.inl (U 2 x3.toNat))], [], (am_sh, am_mm U4))) 1 (fun _ => rfl) (fun hc => ?_) (fun hc => ?_)
        · have ha21a2a1 := ha21a2a.1 hc
          refine ev_seg (σ1 := ((d + 1), 247, 57, [some (.inr (.inr 27)), some (.inr (.inr 2)), some (.inl x2), some (.inl x3), some (.inl (U 2 x3.toNat))], [.inl (((Int32.ofInt (U 2 x3.toNat)).toUInt32 % 65536).toInt32.toInt), .inr (.inr (-2))], (am_sh, am_mm U4))) 3 (fun _ => rfl) ?_
          obtain ⟨r5, U5, ha21a2a1c, ha21a2a1a⟩ := ha21a2a1
          refine ev_cal (σc := (d, 290, 0, [some (.inr (.inr (-2))), some (.inl (((Int32.ofInt (U 2 x3.toNat)).toUInt32 % 65536).toInt32.toInt))], [], (am_sh, am_mm U4))) (fun _ => rfl) ha21a2a1c ?_
          show Ev kz ((d + 1), 247, 60, [some (.inr (.inr 27)), some (.inr (.inr 2)), some (.inl x2), some (.inl x3), some (.inl (U 2 x3.toNat))], [.inl r5], (am_sh, am_mm U5)) R
          refine ev_br (P := 0 ≤ r5) (σ1 := ((d + 1), 247, 71, [some (.inr (.inr 27)), some (.inr (.inr 2)), some (.inl x2), some (.inl x3), some (.inl (U 2 x3.toNat))], [], (am_sh, am_mm U5))) (σ2 := ((d + 1), 247, 63, [some (.inr (.inr 27)), some (.inr (.inr 2)), some (.inl x2), some (.inl x3), some (.inl (U 2 x3.toNat))], [], (am_sh, am_mm U5))) 1 (fun _ => rfl) (fun hc => ?_) (fun hc => ?_)
          · have ha21a2a1a1 := ha21a2a1a.1 hc
            refine ev_seg (σ1 := ((d + 1), 247, 76, [some (.inr (.inr 27)), some (.inr (.inr 2)), some (.inl x2), some (.inl x3), some (.inl (U 2 x3.toNat))], [.inl x3, .inl (U 2 x3.toNat), .inl 4, .inr (.inr 27)], (am_sh, am_mm U5))) 4 (fun _ => rfl) ?_
            obtain ⟨U6, ha21a2a1a1c, ha21a2a1a1a⟩ := ha21a2a1a1
            refine ev_cal (σc := (d, 248, 0, [some (.inr (.inr 27)), some (.inl 4), some (.inl (U 2 x3.toNat)), some (.inl x3)], [], (am_sh, am_mm U5))) (fun _ => rfl) ha21a2a1a1c ?_
            show Ev kz ((d + 1), 247, 79, [some (.inr (.inr 27)), some (.inr (.inr 2)), some (.inl x2), some (.inl x3), some (.inl (U 2 x3.toNat))], [], (am_sh, am_mm U6)) R
            subst ha21a2a1a1a
            exact ev_end 4 (fun _ => rfl)
          · have ha21a2a1a2 := ha21a2a1a.2 hc
            refine ev_seg (σ1 := ((d + 1), 247, 67, [some (.inr (.inr 27)), some (.inr (.inr 2)), some (.inl x2), some (.inl x3), some (.inl (U 2 x3.toNat))], [.inl x2, .inl x3, .inl x3, .inr (.inr 27)], (am_sh, am_mm U5))) 4 (fun _ => rfl) ?_
            obtain ⟨r7, U7, ha21a2a1a2c, ha21a2a1a2a⟩ := ha21a2a1a2
            refine ev_cal (σc := (d, 291, 0, [some (.inr (.inr 27)), some (.inl x3), some (.inl x3), some (.inl x2)], [], (am_sh, am_mm U5))) (fun _ => rfl) ha21a2a1a2c ?_
            show Ev kz ((d + 1), 247, 70, [some (.inr (.inr 27)), some (.inr (.inr 2)), some (.inl x2), some (.inl x3), some (.inl (U 2 x3.toNat))], [.inl r7], (am_sh, am_mm U7)) R
            subst ha21a2a1a2a
            exact ev_end 1 (fun _ => rfl)
        · have ha21a2a2 := ha21a2a.2 hc
          refine ev_seg (σ1 := ((d + 1), 247, 45, [some (.inr (.inr 27)), some (.inr (.inr 2)), some (.inl x2), some (.inl x3), some (.inl (U 2 x3.toNat))], [.inl (U 2 x3.toNat), .inl x3, .inl x2, .inr (.inr 2), .inr (.inr 27)], (am_sh, am_mm U4))) 5 (fun _ => rfl) ?_
          obtain ⟨r8, U8, ha21a2a2c, ha21a2a2a⟩ := ha21a2a2
          refine ev_cal (σc := (d, 287, 0, [some (.inl (U 2 x3.toNat))], [], (am_sh, am_mm U4))) (fun _ => rfl) ha21a2a2c ?_
          show Ev kz ((d + 1), 247, 48, [some (.inr (.inr 27)), some (.inr (.inr 2)), some (.inl x2), some (.inl x3), some (.inl (U 2 x3.toNat))], [.inl r8, .inl x3, .inl x2, .inr (.inr 2), .inr (.inr 27)], (am_sh, am_mm U8)) R
          obtain ⟨r9, U9, ha21a2a2ac, ha21a2a2aa⟩ := ha21a2a2a
          refine ev_cal (σc := (d, 289, 0, [some (.inr (.inr 27)), some (.inr (.inr 2)), some (.inl x2), some (.inl x3), some (.inl r8), none, none, none], [], (am_sh, am_mm U8))) (fun _ => rfl) ha21a2a2ac ?_
          show Ev kz ((d + 1), 247, 51, [some (.inr (.inr 27)), some (.inr (.inr 2)), some (.inl x2), some (.inl x3), some (.inl (U 2 x3.toNat))], [.inl r9], (am_sh, am_mm U9)) R
          subst ha21a2a2aa
          exact ev_end 1 (fun _ => rfl)
    · have ha22 := ha2.2 hc
      subst ha22
      exact ev_end 4 (fun _ => rfl)
set_option maxRecDepth 8000 in
theorem st248_27_0 (kz : am_Z) (d : Nat) (x1 x2 x3 : Int) (U : Nat → Nat → Int) (R : Option am_V × am_M) (h : (((1601 ≤ (U 27 3) : Prop)) → R = (none, (am_sh, am_mm U))) ∧ (¬ (1601 ≤ (U 27 3)) → (0 ≤ (U 27 3) ∧ (U 27 3) < 1601) ∧ (0 ≤ ((am_upd U 28 (U 27 3).toNat x1) 27 3) ∧ ((am_upd U 28 (U 27 3).toNat x1) 27 3) < 1601) ∧ (0 ≤ ((am_upd (am_upd U 28 (U 27 3).toNat x1) 29 ((am_upd U 28 (U 27 3).toNat x1) 27 3).toNat x2) 27 3) ∧ ((am_upd (am_upd U 28 (U 27 3).toNat x1) 29 ((am_upd U 28 (U 27 3).toNat x1) 27 3).toNat x2) 27 3) < 1601) ∧ R = (none, (am_sh, am_mm (am_upd (am_upd (am_upd (am_upd U 28 (U 27 3).toNat x1) 29 ((am_upd U 28 (U 27 3).toNat x1) 27 3).toNat x2) 30 ((am_upd (am_upd U 28 (U 27 3).toNat x1) 29 ((am_upd U 28 (U 27 3).toNat x1) 27 3).toNat x2) 27 3).toNat x3) 27 3 (w32 (((am_upd (am_upd (am_upd U 28 (U 27 3).toNat x1) 29 ((am_upd U 28 (U 27 3).toNat x1) 27 3).toNat x2) 30 ((am_upd (am_upd U 28 (U 27 3).toNat x1) 29 ((am_upd U 28 (U 27 3).toNat x1) 27 3).toNat x2) 27 3).toNat x3) 27 3) + 1))))))) : Ev kz (d, 248, 0, [some (.inr (.inr 27)), some (.inl x1), some (.inl x2), some (.inl x3)], [], (am_sh, am_mm U)) R := by
  refine ev_br (P := 1601 ≤ (U 27 3)) (σ1 := (d, 248, 52, [some (.inr (.inr 27)), some (.inl x1), some (.inl x2), some (.inl x3)], [], (am_sh, am_mm U))) (σ2 := (d, 248, 12, [some (.inr (.inr 27)), some (.inl x1), some (.inl x2), some (.inl x3)], [], (am_sh, am_mm U))) 6 (fun _ => rfl) (fun hc => ?_) (fun hc => ?_)
  · have h1 := h.1 hc
    subst h1
    exact ev_end 1 (fun _ => rfl)
  · have h2 := h.2 hc
    refine ev_seg (σ1 := (d, 248, 21, [some (.inr (.inr 27)), some (.inl x1), some (.inl x2), some (.inl x3)], [.inl x1, .inl (U 27 3), .inr (.inr 28)], (am_sh, am_mm U))) 5 (fun _ => rfl) ?_
    refine eu_iast 28 (n := 1601) rfl (by decide) rfl (fun _ => rfl) h2.1 ?_
    have h2a := h2.2
    refine ev_seg (σ1 := (d, 248, 31, [some (.inr (.inr 27)), some (.inl x1), some (.inl x2), some (.inl x3)], [.inl x2, .inl ((am_upd U 28 (U 27 3).toNat x1) 27 3), .inr (.inr 29)], (am_sh, am_mm (am_upd U 28 (U 27 3).toNat x1)))) 5 (fun _ => rfl) ?_
    refine eu_iast 29 (n := 1601) rfl (by decide) rfl (fun _ => rfl) h2a.1 ?_
    have h2aa := h2a.2
    refine ev_seg (σ1 := (d, 248, 41, [some (.inr (.inr 27)), some (.inl x1), some (.inl x2), some (.inl x3)], [.inl x3, .inl ((am_upd (am_upd U 28 (U 27 3).toNat x1) 29 ((am_upd U 28 (U 27 3).toNat x1) 27 3).toNat x2) 27 3), .inr (.inr 30)], (am_sh, am_mm (am_upd (am_upd U 28 (U 27 3).toNat x1) 29 ((am_upd U 28 (U 27 3).toNat x1) 27 3).toNat x2)))) 5 (fun _ => rfl) ?_
    refine eu_iast 30 (n := 1601) rfl (by decide) rfl (fun _ => rfl) h2aa.1 ?_
    have h2aaa := h2aa.2
    refine ev_seg (σ1 := (d, 248, 49, [some (.inr (.inr 27)), some (.inl x1), some (.inl x2), some (.inl x3)], [.inl (w32 (((am_upd (am_upd (am_upd U 28 (U 27 3).toNat x1) 29 ((am_upd U 28 (U 27 3).toNat x1) 27 3).toNat x2) 30 ((am_upd (am_upd U 28 (U 27 3).toNat x1) 29 ((am_upd U 28 (U 27 3).toNat x1) 27 3).toNat x2) 27 3).toNat x3) 27 3) + 1)), .inr (.inr 27)], (am_sh, am_mm (am_upd (am_upd (am_upd U 28 (U 27 3).toNat x1) 29 ((am_upd U 28 (U 27 3).toNat x1) 27 3).toNat x2) 30 ((am_upd (am_upd U 28 (U 27 3).toNat x1) 29 ((am_upd U 28 (U 27 3).toNat x1) 27 3).toNat x2) 27 3).toNat x3)))) 5 (fun _ => rfl) ?_
    refine eu_puti 27 (n := 6) rfl (by decide) rfl rfl ?_
    subst h2aaa
    exact ev_end 1 (fun _ => rfl)
set_option maxRecDepth 8000 in
theorem st211_19_0 (kz : am_Z) (d : Nat) (x1 : Int) (U : Nat → Nat → Int) (R : Option am_V × am_M) (h : Ev kz (d, 211, 5, [some (.inr (.inr 19)), some (.inl x1), some (.inl 0), some (.inl 12)], [], (am_sh, am_mm U)) R) : Ev kz (d, 211, 0, [some (.inr (.inr 19)), some (.inl x1), none, none], [], (am_sh, am_mm U)) R := by
  refine ev_seg (σ1 := (d, 211, 5, [some (.inr (.inr 19)), some (.inl x1), some (.inl 0), some (.inl 12)], [], (am_sh, am_mm U))) 5 (fun _ => rfl) ?_
  exact h
set_option maxRecDepth 8000 in
theorem st211_19_5 (kz : am_Z) (d : Nat) (x1 x2 x3 : Int) (U : Nat → Nat → Int) (R : Option am_V × am_M) (h : (((x3 ≤ x2 : Prop)) → R = (none, (am_sh, am_mm U))) ∧ (¬ (x3 ≤ x2) → (0 ≤ x2 ∧ x2 < 12) ∧ Ev kz (d, 211, 5, [some (.inr (.inr 19)), some (.inl x1), some (.inl (w32 (x2 + 1))), some (.inl x3)], [], (am_sh, am_mm (am_upd U 19 x2.toNat x1))) R)) : Ev kz (d, 211, 5, [some (.inr (.inr 19)), some (.inl x1), some (.inl x2), some (.inl x3)], [], (am_sh, am_mm U)) R := by
  refine ev_br (P := x3 ≤ x2) (σ1 := (d, 211, 20, [some (.inr (.inr 19)), some (.inl x1), some (.inl x2), some (.inl x3)], [], (am_sh, am_mm U))) (σ2 := (d, 211, 10, [some (.inr (.inr 19)), some (.inl x1), some (.inl x2), some (.inl x3)], [], (am_sh, am_mm U))) 3 (fun _ => rfl) (fun hc => ?_) (fun hc => ?_)
  · have h1 := h.1 hc
    subst h1
    exact ev_end 1 (fun _ => rfl)
  · have h2 := h.2 hc
    refine ev_seg (σ1 := (d, 211, 13, [some (.inr (.inr 19)), some (.inl x1), some (.inl x2), some (.inl x3)], [.inl x1, .inl x2, .inr (.inr 19)], (am_sh, am_mm U))) 3 (fun _ => rfl) ?_
    refine eu_iast 19 (n := 12) rfl (by decide) rfl (fun _ => rfl) h2.1 ?_
    have h2a := h2.2
    refine ev_seg (σ1 := (d, 211, 5, [some (.inr (.inr 19)), some (.inl x1), some (.inl (w32 (x2 + 1))), some (.inl x3)], [], (am_sh, am_mm (am_upd U 19 x2.toNat x1)))) 2 (fun _ => rfl) ?_
    exact h2a
set_option maxRecDepth 8000 in
theorem st268_86_0 (kz : am_Z) (d : Nat) (x1 x2 : Int) (U : Nat → Nat → Int) (R : Option am_V × am_M) (h : ∃ U1 : Nat → Nat → Int, Ev kz (d, 186, 0, [some (.inr (.inr 86))], [], (am_sh, am_mm U)) (none, (am_sh, am_mm U1)) ∧ ((((U1 86 8) ≤ 0 : Prop)) → ((((U1 86 3) = 2 : Prop)) → (((¬ (U1 86 8) = 0 : Prop)) → (((¬ (U1 86 8) = 0 : Prop)) → R = (some (.inl (U1 86 6)), (am_sh, am_mm U1))) ∧ (¬ (¬ (U1 86 8) = 0) → ∃ U2 : Nat → Nat → Int, Ev kz (d, 93, 0, [some (.inr (.inr 86)), none, none, none, none, none], [], (am_sh, am_mm U1)) (none, (am_sh, am_mm U2)) ∧ R = (some (.inl (U1 86 6)), (am_sh, am_mm U2)))) ∧ (¬ (¬ (U1 86 8) = 0) → ∃ (r3 : Int) (U3 : Nat → Nat → Int), Ev kz (d, 103, 0, [some (.inl (U1 86 6)), some (.inl x1), some (.inl x2)], [], (am_sh, am_mm U1)) (some (.inl r3), (am_sh, am_mm U3)) ∧ (((¬ r3 = 0 : Prop)) → (((¬ (U3 86 8) = 0 : Prop)) → R = (some (.inl (U3 86 6)), (am_sh, am_mm U3))) ∧ (¬ (¬ (U3 86 8) = 0) → ∃ U4 : Nat → Nat → Int, Ev kz (d, 93, 0, [some (.inr (.inr 86)), none, none, none, none, none], [], (am_sh, am_mm U3)) (none, (am_sh, am_mm U4)) ∧ R = (some (.inl (U3 86 6)), (am_sh, am_mm U4)))) ∧ (¬ (¬ r3 = 0) → ∃ U5 : Nat → Nat → Int, Ev kz (d, 196, 0, [some (.inr (.inr 86)), some (.inl 4), some (.inl (U3 86 4))], [], (am_sh, am_mm U3)) (none, (am_sh, am_mm U5)) ∧ (((¬ (U5 86 8) = 0 : Prop)) → R = (some (.inl (U5 86 6)), (am_sh, am_mm U5))) ∧ (¬ (¬ (U5 86 8) = 0) → ∃ U6 : Nat → Nat → Int, Ev kz (d, 93, 0, [some (.inr (.inr 86)), none, none, none, none, none], [], (am_sh, am_mm U5)) (none, (am_sh, am_mm U6)) ∧ R = (some (.inl (U5 86 6)), (am_sh, am_mm U6)))))) ∧ (¬ ((U1 86 3) = 2) → ∃ U7 : Nat → Nat → Int, Ev kz (d, 196, 0, [some (.inr (.inr 86)), some (.inl 1), some (.inl (U1 86 4))], [], (am_sh, am_mm U1)) (none, (am_sh, am_mm U7)) ∧ (((¬ (U7 86 8) = 0 : Prop)) → (((¬ (U7 86 8) = 0 : Prop)) → R = (some (.inl (U7 86 6)), (am_sh, am_mm U7))) ∧ (¬ (¬ (U7 86 8) = 0) → ∃ U8 : Nat → Nat → Int, Ev kz (d, 93, 0, [some (.inr (.inr 86)), none, none, none, none, none], [], (am_sh, am_mm U7)) (none, (am_sh, am_mm U8)) ∧ R = (some (.inl (U7 86 6)), (am_sh, am_mm U8)))) ∧ (¬ (¬ (U7 86 8) = 0) → ∃ (r9 : Int) (U9 : Nat → Nat → Int), Ev kz (d, 103, 0, [some (.inl (U7 86 6)), some (.inl x1), some (.inl x2)], [], (am_sh, am_mm U7)) (some (.inl r9), (am_sh, am_mm U9)) ∧ (((¬ r9 = 0 : Prop)) → (((¬ (U9 86 8) = 0 : Prop)) → R = (some (.inl (U9 86 6)), (am_sh, am_mm U9))) ∧ (¬ (¬ (U9 86 8) = 0) → ∃ U10 : Nat → Nat → Int, Ev kz (d, 93, 0, [some (.inr (.inr 86)), none, none, none, none, none], [], (am_sh, am_mm U9)) (none, (am_sh, am_mm U10)) ∧ R = (some (.inl (U9 86 6)), (am_sh, am_mm U10)))) ∧ (¬ (¬ r9 = 0) → ∃ U11 : Nat → Nat → Int, Ev kz (d, 196, 0, [some (.inr (.inr 86)), some (.inl 4), some (.inl (U9 86 4))], [], (am_sh, am_mm U9)) (none, (am_sh, am_mm U11)) ∧ (((¬ (U11 86 8) = 0 : Prop)) → R = (some (.inl (U11 86 6)), (am_sh, am_mm U11))) ∧ (¬ (¬ (U11 86 8) = 0) → ∃ U12 : Nat → Nat → Int, Ev kz (d, 93, 0, [some (.inr (.inr 86)), none, none, none, none, none], [], (am_sh, am_mm U11)) (none, (am_sh, am_mm U12)) ∧ R = (some (.inl (U11 86 6)), (am_sh, am_mm U12))))))) ∧ (¬ ((U1 86 8) ≤ 0) → R = (some (.inl 0), (am_sh, am_mm U1)))) : Ev kz ((d + 1), 268, 0, [some (.inr (.inr 86)), some (.inl x1), some (.inl x2), none], [], (am_sh, am_mm U)) R := by
  refine ev_seg (σ1 := ((d + 1), 268, 1, [some (.inr (.inr 86)), some (.inl x1), some (.inl x2), none], [.inr (.inr 86)], (am_sh, am_mm U))) 1 (fun _ => rfl) ?_
  obtain ⟨U1, hc, ha⟩ := h
  refine ev_cal (σc := (d, 186, 0, [some (.inr (.inr 86))], [], (am_sh, am_mm U))) (fun _ => rfl) hc ?_
  show Ev kz ((d + 1), 268, 4, [some (.inr (.inr 86)), some (.inl x1), some (.inl x2), none], [], (am_sh, am_mm U1)) R
  refine ev_br (P := (U1 86 8) ≤ 0) (σ1 := ((d + 1), 268, 13, [some (.inr (.inr 86)), some (.inl x1), some (.inl x2), none], [], (am_sh, am_mm U1))) (σ2 := ((d + 1), 268, 11, [some (.inr (.inr 86)), some (.inl x1), some (.inl x2), none], [], (am_sh, am_mm U1))) 3 (fun _ => rfl) (fun hc => ?_) (fun hc => ?_)
  · have ha1 := ha.1 hc
    refine ev_br (P := (U1 86 3) = 2) (σ1 := ((d + 1), 268, 30, [some (.inr (.inr 86)), some (.inl x1), some (.inl x2), none], [], (am_sh, am_mm U1))) (σ2 := ((d + 1), 268, 21, [some (.inr (.inr 86)), some (.inl x1), some (.inl x2), none], [], (am_sh, am_mm U1))) 4 (fun _ => rfl) (fun hc => ?_) (fun hc => ?_)
    · have ha11 := ha1.1 hc
      refine ev_br (P := ¬ (U1 86 8) = 0) (σ1 := ((d + 1), 268, 58, [some (.inr (.inr 86)), some (.inl x1), some (.inl x2), none], [], (am_sh, am_mm U1))) (σ2 := ((d + 1), 268, 37, [some (.inr (.inr 86)), some (.inl x1), some (.inl x2), none], [], (am_sh, am_mm U1))) 3 (fun _ => rfl) (fun hc => ?_) (fun hc => ?_)
      · have ha111 := ha11.1 hc
        refine ev_br (P := ¬ (U1 86 8) = 0) (σ1 := ((d + 1), 268, 74, [some (.inr (.inr 86)), some (.inl x1), some (.inl x2), some (.inl (U1 86 6))], [], (am_sh, am_mm U1))) (σ2 := ((d + 1), 268, 70, [some (.inr (.inr 86)), some (.inl x1), some (.inl x2), some (.inl (U1 86 6))], [], (am_sh, am_mm U1))) 6 (fun _ => rfl) (fun hc => ?_) (fun hc => ?_)
        · have ha1111 := ha111.1 hc
          subst ha1111
          exact ev_end 2 (fun _ => rfl)
        · have ha1112 := ha111.2 hc
          refine ev_seg (σ1 := ((d + 1), 268, 71, [some (.inr (.inr 86)), some (.inl x1), some (.inl x2), some (.inl (U1 86 6))], [.inr (.inr 86)], (am_sh, am_mm U1))) 1 (fun _ => rfl) ?_
          obtain ⟨U2, ha1112c, ha1112a⟩ := ha1112
          refine ev_cal (σc := (d, 93, 0, [some (.inr (.inr 86)), none, none, none, none, none], [], (am_sh, am_mm U1))) (fun _ => rfl) ha1112c ?_
          show Ev kz ((d + 1), 268, 74, [some (.inr (.inr 86)), some (.inl x1), some (.inl x2), some (.inl (U1 86 6))], [], (am_sh, am_mm U2)) R
          subst ha1112a
          exact ev_end 2 (fun _ => rfl)
      · have ha112 := ha11.2 hc
        refine ev_seg (σ1 := ((d + 1), 268, 43, [some (.inr (.inr 86)), some (.inl x1), some (.inl x2), none], [.inl x2, .inl x1, .inl (U1 86 6)], (am_sh, am_mm U1))) 4 (fun _ => rfl) ?_
        obtain ⟨r3, U3, ha112c, ha112a⟩ := ha112
        refine ev_cal (σc := (d, 103, 0, [some (.inl (U1 86 6)), some (.inl x1), some (.inl x2)], [], (am_sh, am_mm U1))) (fun _ => rfl) ha112c ?_
        show Ev kz ((d + 1), 268, 46, [some (.inr (.inr 86)), some (.inl x1), some (.inl x2), none], [.inl r3], (am_sh, am_mm U3)) R
        refine ev_br (P := ¬ r3 = 0) (σ1 := ((d + 1), 268, 58, [some (.inr (.inr 86)), some (.inl x1), some (.inl x2), none], [], (am_sh, am_mm U3))) (σ2 := ((d + 1), 268, 49, [some (.inr (.inr 86)), some (.inl x1), some (.inl x2), none], [], (am_sh, am_mm U3))) 1 (fun _ => rfl) (fun hc => ?_) (fun hc => ?_)
        · have ha112a1 := ha112a.1 hc
          refine ev_br (P := ¬ (U3 86 8) = 0) (σ1 := ((d + 1), 268, 74, [some (.inr (.inr 86)), some (.inl x1), some (.inl x2), some (.inl (U3 86 6))], [], (am_sh, am_mm U3))) (σ2 := ((d + 1), 268, 70, [some (.inr (.inr 86)), some (.inl x1), some (.inl x2), some (.inl (U3 86 6))], [], (am_sh, am_mm U3))) 6 (fun _ => rfl) (fun hc => ?_) (fun hc => ?_)
          · have ha112a11 := ha112a1.1 hc
            subst ha112a11
            exact ev_end 2 (fun _ => rfl)
          · have ha112a12 := ha112a1.2 hc
            refine ev_seg (σ1 := ((d + 1), 268, 71, [some (.inr (.inr 86)), some (.inl x1), some (.inl x2), some (.inl (U3 86 6))], [.inr (.inr 86)], (am_sh, am_mm U3))) 1 (fun _ => rfl) ?_
            obtain ⟨U4, ha112a12c, ha112a12a⟩ := ha112a12
            refine ev_cal (σc := (d, 93, 0, [some (.inr (.inr 86)), none, none, none, none, none], [], (am_sh, am_mm U3))) (fun _ => rfl) ha112a12c ?_
            show Ev kz ((d + 1), 268, 74, [some (.inr (.inr 86)), some (.inl x1), some (.inl x2), some (.inl (U3 86 6))], [], (am_sh, am_mm U4)) R
            subst ha112a12a
            exact ev_end 2 (fun _ => rfl)
        · have ha112a2 := ha112a.2 hc
          refine ev_seg (σ1 := ((d + 1), 268, 55, [some (.inr (.inr 86)), some (.inl x1), some (.inl x2), none], [.inl (U3 86 4), .inl 4, .inr (.inr 86)], (am_sh, am_mm U3))) 4 (fun _ => rfl) ?_
          obtain ⟨U5, ha112a2c, ha112a2a⟩ := ha112a2
          refine ev_cal (σc := (d, 196, 0, [some (.inr (.inr 86)), some (.inl 4), some (.inl (U3 86 4))], [], (am_sh, am_mm U3))) (fun _ => rfl) ha112a2c ?_
          show Ev kz ((d + 1), 268, 58, [some (.inr (.inr 86)), some (.inl x1), some (.inl x2), none], [], (am_sh, am_mm U5)) R
          refine ev_br (P := ¬ (U5 86 8) = 0) (σ1 := ((d + 1), 268, 74, [some (.inr (.inr 86)), some (.inl x1), some (.inl x2), some (.inl (U5 86 6))], [], (am_sh, am_mm U5))) (σ2 := ((d + 1), 268, 70, [some (.inr (.inr 86)), some (.inl x1), some (.inl x2), some (.inl (U5 86 6))], [], (am_sh, am_mm U5))) 6 (fun _ => rfl) (fun hc => ?_) (fun hc => ?_)
          · have ha112a2a1 := ha112a2a.1 hc
            subst ha112a2a1
            exact ev_end 2 (fun _ => rfl)
          · have ha112a2a2 := ha112a2a.2 hc
            refine ev_seg (σ1 := ((d + 1), 268, 71, [some (.inr (.inr 86)), some (.inl x1), some (.inl x2), some (.inl (U5 86 6))], [.inr (.inr 86)], (am_sh, am_mm U5))) 1 (fun _ => rfl) ?_
            obtain ⟨U6, ha112a2a2c, ha112a2a2a⟩ := ha112a2a2
            refine ev_cal (σc := (d, 93, 0, [some (.inr (.inr 86)), none, none, none, none, none], [], (am_sh, am_mm U5))) (fun _ => rfl) ha112a2a2c ?_
            show Ev kz ((d + 1), 268, 74, [some (.inr (.inr 86)), some (.inl x1), some (.inl x2), some (.inl (U5 86 6))], [], (am_sh, am_mm U6)) R
            subst ha112a2a2a
            exact ev_end 2 (fun _ => rfl)
    · have ha12 := ha1.2 hc
      refine ev_seg (σ1 := ((d + 1), 268, 27, [some (.inr (.inr 86)), some (.inl x1), some (.inl x2), none], [.inl (U1 86 4), .inl 1, .inr (.inr 86)], (am_sh, am_mm U1))) 4 (fun _ => rfl) ?_
      obtain ⟨U7, ha12c, ha12a⟩ := ha12
      refine ev_cal (σc := (d, 196, 0, [some (.inr (.inr 86)), some (.inl 1), some (.inl (U1 86 4))], [], (am_sh, am_mm U1))) (fun _ => rfl) ha12c ?_
      show Ev kz ((d + 1), 268, 30, [some (.inr (.inr 86)), some (.inl x1), some (.inl x2), none], [], (am_sh, am_mm U7)) R
      refine ev_br (P := ¬ (U7 86 8) = 0) (σ1 := ((d + 1), 268, 58, [some (.inr (.inr 86)), some (.inl x1), some (.inl x2), none], [], (am_sh, am_mm U7))) (σ2 := ((d + 1), 268, 37, [some (.inr (.inr 86)), some (.inl x1), some (.inl x2), none], [], (am_sh, am_mm U7))) 3 (fun _ => rfl) (fun hc => ?_) (fun hc => ?_)
      · have ha12a1 := ha12a.1 hc
        refine ev_br (P := ¬ (U7 86 8) = 0) (σ1 := ((d + 1), 268, 74, [some (.inr (.inr 86)), some (.inl x1), some (.inl x2), some (.inl (U7 86 6))], [], (am_sh, am_mm U7))) (σ2 := ((d + 1), 268, 70, [some (.inr (.inr 86)), some (.inl x1), some (.inl x2), some (.inl (U7 86 6))], [], (am_sh, am_mm U7))) 6 (fun _ => rfl) (fun hc => ?_) (fun hc => ?_)
        · have ha12a11 := ha12a1.1 hc
          subst ha12a11
          exact ev_end 2 (fun _ => rfl)
        · have ha12a12 := ha12a1.2 hc
          refine ev_seg (σ1 := ((d + 1), 268, 71, [some (.inr (.inr 86)), some (.inl x1), some (.inl x2), some (.inl (U7 86 6))], [.inr (.inr 86)], (am_sh, am_mm U7))) 1 (fun _ => rfl) ?_
          obtain ⟨U8, ha12a12c, ha12a12a⟩ := ha12a12
          refine ev_cal (σc := (d, 93, 0, [some (.inr (.inr 86)), none, none, none, none, none], [], (am_sh, am_mm U7))) (fun _ => rfl) ha12a12c ?_
          show Ev kz ((d + 1), 268, 74, [some (.inr (.inr 86)), some (.inl x1), some (.inl x2), some (.inl (U7 86 6))], [], (am_sh, am_mm U8)) R
          subst ha12a12a
          exact ev_end 2 (fun _ => rfl)
      · have ha12a2 := ha12a.2 hc
        refine ev_seg (σ1 := ((d + 1), 268, 43, [some (.inr (.inr 86)), some (.inl x1), some (.inl x2), none], [.inl x2, .inl x1, .inl (U7 86 6)], (am_sh, am_mm U7))) 4 (fun _ => rfl) ?_
        obtain ⟨r9, U9, ha12a2c, ha12a2a⟩ := ha12a2
        refine ev_cal (σc := (d, 103, 0, [some (.inl (U7 86 6)), some (.inl x1), some (.inl x2)], [], (am_sh, am_mm U7))) (fun _ => rfl) ha12a2c ?_
        show Ev kz ((d + 1), 268, 46, [some (.inr (.inr 86)), some (.inl x1), some (.inl x2), none], [.inl r9], (am_sh, am_mm U9)) R
        refine ev_br (P := ¬ r9 = 0) (σ1 := ((d + 1), 268, 58, [some (.inr (.inr 86)), some (.inl x1), some (.inl x2), none], [], (am_sh, am_mm U9))) (σ2 := ((d + 1), 268, 49, [some (.inr (.inr 86)), some (.inl x1), some (.inl x2), none], [], (am_sh, am_mm U9))) 1 (fun _ => rfl) (fun hc => ?_) (fun hc => ?_)
        · have ha12a2a1 := ha12a2a.1 hc
          refine ev_br (P := ¬ (U9 86 8) = 0) (σ1 := ((d + 1), 268, 74, [some (.inr (.inr 86)), some (.inl x1), some (.inl x2), some (.inl (U9 86 6))], [], (am_sh, am_mm U9))) (σ2 := ((d + 1), 268, 70, [some (.inr (.inr 86)), some (.inl x1), some (.inl x2), some (.inl (U9 86 6))], [], (am_sh, am_mm U9))) 6 (fun _ => rfl) (fun hc => ?_) (fun hc => ?_)
          · have ha12a2a11 := ha12a2a1.1 hc
            subst ha12a2a11
            exact ev_end 2 (fun _ => rfl)
          · have ha12a2a12 := ha12a2a1.2 hc
            refine ev_seg (σ1 := ((d + 1), 268, 71, [some (.inr (.inr 86)), some (.inl x1), some (.inl x2), some (.inl (U9 86 6))], [.inr (.inr 86)], (am_sh, am_mm U9))) 1 (fun _ => rfl) ?_
            obtain ⟨U10, ha12a2a12c, ha12a2a12a⟩ := ha12a2a12
            refine ev_cal (σc := (d, 93, 0, [some (.inr (.inr 86)), none, none, none, none, none], [], (am_sh, am_mm U9))) (fun _ => rfl) ha12a2a12c ?_
            show Ev kz ((d + 1), 268, 74, [some (.inr (.inr 86)), some (.inl x1), some (.inl x2), some (.inl (U9 86 6))], [], (am_sh, am_mm U10)) R
            subst ha12a2a12a
            exact ev_end 2 (fun _ => rfl)
        · have ha12a2a2 := ha12a2a.2 hc
          refine ev_seg (σ1 := ((d + 1), 268, 55, [some (.inr (.inr 86)), some (.inl x1), some (.inl x2), none], [.inl (U9 86 4), .inl 4, .inr (.inr 86)], (am_sh, am_mm U9))) 4 (fun _ => rfl) ?_
          obtain ⟨U11, ha12a2a2c, ha12a2a2a⟩ := ha12a2a2
          refine ev_cal (σc := (d, 196, 0, [some (.inr (.inr 86)), some (.inl 4), some (.inl (U9 86 4))], [], (am_sh, am_mm U9))) (fun _ => rfl) ha12a2a2c ?_
          show Ev kz ((d + 1), 268, 58, [some (.inr (.inr 86)), some (.inl x1), some (.inl x2), none], [], (am_sh, am_mm U11)) R
          refine ev_br (P := ¬ (U11 86 8) = 0) (σ1 := ((d + 1), 268, 74, [some (.inr (.inr 86)), some (.inl x1), some (.inl x2), some (.inl (U11 86 6))], [], (am_sh, am_mm U11))) (σ2 := ((d + 1), 268, 70, [some (.inr (.inr 86)), some (.inl x1), some (.inl x2), some (.inl (U11 86 6))], [], (am_sh, am_mm U11))) 6 (fun _ => rfl) (fun hc => ?_) (fun hc => ?_)
          · have ha12a2a2a1 := ha12a2a2a.1 hc
            subst ha12a2a2a1
            exact ev_end 2 (fun _ => rfl)
          · have ha12a2a2a2 := ha12a2a2a.2 hc
            refine ev_seg (σ1 := ((d + 1), 268, 71, [some (.inr (.inr 86)), some (.inl x1), some (.inl x2), some (.inl (U11 86 6))], [.inr (.inr 86)], (am_sh, am_mm U11))) 1 (fun _ => rfl) ?_
            obtain ⟨U12, ha12a2a2a2c, ha12a2a2a2a⟩ := ha12a2a2a2
            refine ev_cal (σc := (d, 93, 0, [some (.inr (.inr 86)), none, none, none, none, none], [], (am_sh, am_mm U11))) (fun _ => rfl) ha12a2a2a2c ?_
            show Ev kz ((d + 1), 268, 74, [some (.inr (.inr 86)), some (.inl x1), some (.inl x2), some (.inl (U11 86 6))], [], (am_sh, am_mm U12)) R
            subst ha12a2a2a2a
            exact ev_end 2 (fun _ => rfl)
  · have ha2 := ha.2 hc
    subst ha2
    exact ev_end 2 (fun _ => rfl)
set_option maxRecDepth 8000 in
theorem st264_86_0 (kz : am_Z) (d : Nat) (x1 : Int) (U : Nat → Nat → Int) (R : Option am_V × am_M) (h : (((¬ (U 86 8) = 0 : Prop)) → (((¬ (U 86 8) = 0 : Prop)) → (((¬ (U 86 8) = 0 : Prop)) → R = (some (.inl 0), (am_sh, am_mm U))) ∧ (¬ (¬ (U 86 8) = 0) → R = (some (.inl 1), (am_sh, am_mm U)))) ∧ (¬ (¬ (U 86 8) = 0) → ∃ U1 : Nat → Nat → Int, Ev kz (d, 93, 0, [some (.inr (.inr 86)), none, none, none, none, none], [], (am_sh, am_mm U)) (none, (am_sh, am_mm U1)) ∧ (((¬ (U1 86 8) = 0 : Prop)) → R = (some (.inl 0), (am_sh, am_mm U1))) ∧ (¬ (¬ (U1 86 8) = 0) → R = (some (.inl 1), (am_sh, am_mm U1))))) ∧ (¬ (¬ (U 86 8) = 0) → (((x1 = 0 : Prop)) → (((¬ (U 86 8) = 0 : Prop)) → (((¬ (U 86 8) = 0 : Prop)) → R = (some (.inl 0), (am_sh, am_mm U))) ∧ (¬ (¬ (U 86 8) = 0) → R = (some (.inl 1), (am_sh, am_mm U)))) ∧ (¬ (¬ (U 86 8) = 0) → ∃ U2 : Nat → Nat → Int, Ev kz (d, 93, 0, [some (.inr (.inr 86)), none, none, none, none, none], [], (am_sh, am_mm U)) (none, (am_sh, am_mm U2)) ∧ (((¬ (U2 86 8) = 0 : Prop)) → R = (some (.inl 0), (am_sh, am_mm U2))) ∧ (¬ (¬ (U2 86 8) = 0) → R = (some (.inl 1), (am_sh, am_mm U2))))) ∧ (¬ (x1 = 0) → ∃ U3 : Nat → Nat → Int, Ev kz (d, 196, 0, [some (.inr (.inr 86)), some (.inl 6), some (.inl (U 86 4))], [], (am_sh, am_mm U)) (none, (am_sh, am_mm U3)) ∧ (((¬ (U3 86 8) = 0 : Prop)) → (((¬ (U3 86 8) = 0 : Prop)) → R = (some (.inl 0), (am_sh, am_mm U3))) ∧ (¬ (¬ (U3 86 8) = 0) → R = (some (.inl 1), (am_sh, am_mm U3)))) ∧ (¬ (¬ (U3 86 8) = 0) → ∃ U4 : Nat → Nat → Int, Ev kz (d, 93, 0, [some (.inr (.inr 86)), none, none, none, none, none], [], (am_sh, am_mm U3)) (none, (am_sh, am_mm U4)) ∧ (((¬ (U4 86 8) = 0 : Prop)) → R = (some (.inl 0), (am_sh, am_mm U4))) ∧ (¬ (¬ (U4 86 8) = 0) → R = (some (.inl 1), (am_sh, am_mm U4))))))) : Ev kz ((d + 1), 264, 0, [some (.inr (.inr 86)), some (.inl x1)], [], (am_sh, am_mm U)) R := by
  refine ev_br (P := ¬ (U 86 8) = 0) (σ1 := ((d + 1), 264, 21, [some (.inr (.inr 86)), some (.inl x1)], [], (am_sh, am_mm U))) (σ2 := ((d + 1), 264, 7, [some (.inr (.inr 86)), some (.inl x1)], [], (am_sh, am_mm U))) 3 (fun _ => rfl) (fun hc => ?_) (fun hc => ?_)
  · have h1 := h.1 hc
    refine ev_br (P := ¬ (U 86 8) = 0) (σ1 := ((d + 1), 264, 32, [some (.inr (.inr 86)), some (.inl x1)], [], (am_sh, am_mm U))) (σ2 := ((d + 1), 264, 28, [some (.inr (.inr 86)), some (.inl x1)], [], (am_sh, am_mm U))) 3 (fun _ => rfl) (fun hc => ?_) (fun hc => ?_)
    · have h11 := h1.1 hc
      refine ev_br (P := ¬ (U 86 8) = 0) (σ1 := ((d + 1), 264, 43, [some (.inr (.inr 86)), some (.inl x1)], [], (am_sh, am_mm U))) (σ2 := ((d + 1), 264, 39, [some (.inr (.inr 86)), some (.inl x1)], [], (am_sh, am_mm U))) 3 (fun _ => rfl) (fun hc => ?_) (fun hc => ?_)
      · have h111 := h11.1 hc
        subst h111
        exact ev_end 2 (fun _ => rfl)
      · have h112 := h11.2 hc
        subst h112
        exact ev_end 3 (fun _ => rfl)
    · have h12 := h1.2 hc
      refine ev_seg (σ1 := ((d + 1), 264, 29, [some (.inr (.inr 86)), some (.inl x1)], [.inr (.inr 86)], (am_sh, am_mm U))) 1 (fun _ => rfl) ?_
      obtain ⟨U1, h12c, h12a⟩ := h12
      refine ev_cal (σc := (d, 93, 0, [some (.inr (.inr 86)), none, none, none, none, none], [], (am_sh, am_mm U))) (fun _ => rfl) h12c ?_
      show Ev kz ((d + 1), 264, 32, [some (.inr (.inr 86)), some (.inl x1)], [], (am_sh, am_mm U1)) R
      refine ev_br (P := ¬ (U1 86 8) = 0) (σ1 := ((d + 1), 264, 43, [some (.inr (.inr 86)), some (.inl x1)], [], (am_sh, am_mm U1))) (σ2 := ((d + 1), 264, 39, [some (.inr (.inr 86)), some (.inl x1)], [], (am_sh, am_mm U1))) 3 (fun _ => rfl) (fun hc => ?_) (fun hc => ?_)
      · have h12a1 := h12a.1 hc
        subst h12a1
        exact ev_end 2 (fun _ => rfl)
      · have h12a2 := h12a.2 hc
        subst h12a2
        exact ev_end 3 (fun _ => rfl)
  · have h2 := h.2 hc
    refine ev_br (P := x1 = 0) (σ1 := ((d + 1), 264, 21, [some (.inr (.inr 86)), some (.inl x1)], [], (am_sh, am_mm U))) (σ2 := ((d + 1), 264, 11, [some (.inr (.inr 86)), some (.inl x1)], [], (am_sh, am_mm U))) 2 (fun _ => rfl) (fun hc => ?_) (fun hc => ?_)
    · have h21 := h2.1 hc
      refine ev_br (P := ¬ (U 86 8) = 0) (σ1 := ((d + 1), 264, 32, [some (.inr (.inr 86)), some (.inl x1)], [], (am_sh, am_mm U))) (σ2 := ((d + 1), 264, 28, [some (.inr (.inr 86)), some (.inl x1)], [], (am_sh, am_mm U))) 3 (fun _ => rfl) (fun hc => ?_) (fun hc => ?_)
      · have h211 := h21.1 hc
        refine ev_br (P := ¬ (U 86 8) = 0) (σ1 := ((d + 1), 264, 43, [some (.inr (.inr 86)), some (.inl x1)], [], (am_sh, am_mm U))) (σ2 := ((d + 1), 264, 39, [some (.inr (.inr 86)), some (.inl x1)], [], (am_sh, am_mm U))) 3 (fun _ => rfl) (fun hc => ?_) (fun hc => ?_)
        · have h2111 := h211.1 hc
          subst h2111
          exact ev_end 2 (fun _ => rfl)
        · have h2112 := h211.2 hc
          subst h2112
          exact ev_end 3 (fun _ => rfl)
      · have h212 := h21.2 hc
        refine ev_seg (σ1 := ((d + 1), 264, 29, [some (.inr (.inr 86)), some (.inl x1)], [.inr (.inr 86)], (am_sh, am_mm U))) 1 (fun _ => rfl) ?_
        obtain ⟨U2, h212c, h212a⟩ := h212
        refine ev_cal (σc := (d, 93, 0, [some (.inr (.inr 86)), none, none, none, none, none], [], (am_sh, am_mm U))) (fun _ => rfl) h212c ?_
        show Ev kz ((d + 1), 264, 32, [some (.inr (.inr 86)), some (.inl x1)], [], (am_sh, am_mm U2)) R
        refine ev_br (P := ¬ (U2 86 8) = 0) (σ1 := ((d + 1), 264, 43, [some (.inr (.inr 86)), some (.inl x1)], [], (am_sh, am_mm U2))) (σ2 := ((d + 1), 264, 39, [some (.inr (.inr 86)), some (.inl x1)], [], (am_sh, am_mm U2))) 3 (fun _ => rfl) (fun hc => ?_) (fun hc => ?_)
        · have h212a1 := h212a.1 hc
          subst h212a1
          exact ev_end 2 (fun _ => rfl)
        · have h212a2 := h212a.2 hc
          subst h212a2
          exact ev_end 3 (fun _ => rfl)
    · have h22 := h2.2 hc
      refine ev_seg (σ1 := ((d + 1), 264, 18, [some (.inr (.inr 86)), some (.inl x1)], [.inl (U 86 4), .inl 6, .inr (.inr 86)], (am_sh, am_mm U))) 4 (fun _ => rfl) ?_
      obtain ⟨U3, h22c, h22a⟩ := h22
      refine ev_cal (σc := (d, 196, 0, [some (.inr (.inr 86)), some (.inl 6), some (.inl (U 86 4))], [], (am_sh, am_mm U))) (fun _ => rfl) h22c ?_
      show Ev kz ((d + 1), 264, 21, [some (.inr (.inr 86)), some (.inl x1)], [], (am_sh, am_mm U3)) R
      refine ev_br (P := ¬ (U3 86 8) = 0) (σ1 := ((d + 1), 264, 32, [some (.inr (.inr 86)), some (.inl x1)], [], (am_sh, am_mm U3))) (σ2 := ((d + 1), 264, 28, [some (.inr (.inr 86)), some (.inl x1)], [], (am_sh, am_mm U3))) 3 (fun _ => rfl) (fun hc => ?_) (fun hc => ?_)
      · have h22a1 := h22a.1 hc
        refine ev_br (P := ¬ (U3 86 8) = 0) (σ1 := ((d + 1), 264, 43, [some (.inr (.inr 86)), some (.inl x1)], [], (am_sh, am_mm U3))) (σ2 := ((d + 1), 264, 39, [some (.inr (.inr 86)), some (.inl x1)], [], (am_sh, am_mm U3))) 3 (fun _ => rfl) (fun hc => ?_) (fun hc => ?_)
        · have h22a11 := h22a1.1 hc
          subst h22a11
          exact ev_end 2 (fun _ => rfl)
        · have h22a12 := h22a1.2 hc
          subst h22a12
          exact ev_end 3 (fun _ => rfl)
      · have h22a2 := h22a.2 hc
        refine ev_seg (σ1 := ((d + 1), 264, 29, [some (.inr (.inr 86)), some (.inl x1)], [.inr (.inr 86)], (am_sh, am_mm U3))) 1 (fun _ => rfl) ?_
        obtain ⟨U4, h22a2c, h22a2a⟩ := h22a2
        refine ev_cal (σc := (d, 93, 0, [some (.inr (.inr 86)), none, none, none, none, none], [], (am_sh, am_mm U3))) (fun _ => rfl) h22a2c ?_
        show Ev kz ((d + 1), 264, 32, [some (.inr (.inr 86)), some (.inl x1)], [], (am_sh, am_mm U4)) R
        refine ev_br (P := ¬ (U4 86 8) = 0) (σ1 := ((d + 1), 264, 43, [some (.inr (.inr 86)), some (.inl x1)], [], (am_sh, am_mm U4))) (σ2 := ((d + 1), 264, 39, [some (.inr (.inr 86)), some (.inl x1)], [], (am_sh, am_mm U4))) 3 (fun _ => rfl) (fun hc => ?_) (fun hc => ?_)
        · have h22a2a1 := h22a2a.1 hc
          subst h22a2a1
          exact ev_end 2 (fun _ => rfl)
        · have h22a2a2 := h22a2a.2 hc
          subst h22a2a2
          exact ev_end 3 (fun _ => rfl)
set_option maxRecDepth 8000 in
theorem st267_86_0 (kz : am_Z) (d : Nat) (x1 : Int) (U : Nat → Nat → Int) (R : Option am_V × am_M) (h : ∃ (r1 : Int) (U1 : Nat → Nat → Int), Ev kz (d, 269, 0, [some (.inr (.inr 86)), some (.inl x1), none], [], (am_sh, am_mm U)) (some (.inl r1), (am_sh, am_mm U1)) ∧ (((¬ (U1 86 8) = 0 : Prop)) → ((((U1 86 8) ≤ 0 : Prop)) → R = (some (.inl r1), (am_sh, am_mm U1))) ∧ (¬ ((U1 86 8) ≤ 0) → R = (some (.inl 0), (am_sh, am_mm U1)))) ∧ (¬ (¬ (U1 86 8) = 0) → ∃ U2 : Nat → Nat → Int, Ev kz (d, 93, 0, [some (.inr (.inr 86)), none, none, none, none, none], [], (am_sh, am_mm U1)) (none, (am_sh, am_mm U2)) ∧ ((((U2 86 8) ≤ 0 : Prop)) → R = (some (.inl r1), (am_sh, am_mm U2))) ∧ (¬ ((U2 86 8) ≤ 0) → R = (some (.inl 0), (am_sh, am_mm U2))))) : Ev kz ((d + 1), 267, 0, [some (.inr (.inr 86)), some (.inl x1), none], [], (am_sh, am_mm U)) R := by
  refine ev_seg (σ1 := ((d + 1), 267, 2, [some (.inr (.inr 86)), some (.inl x1), none], [.inl x1, .inr (.inr 86)], (am_sh, am_mm U))) 2 (fun _ => rfl) ?_
  obtain ⟨r1, U1, hc, ha⟩ := h
  refine ev_cal (σc := (d, 269, 0, [some (.inr (.inr 86)), some (.inl x1), none], [], (am_sh, am_mm U))) (fun _ => rfl) hc ?_
  show Ev kz ((d + 1), 267, 5, [some (.inr (.inr 86)), some (.inl x1), none], [.inl r1], (am_sh, am_mm U1)) R
  refine ev_br (P := ¬ (U1 86 8) = 0) (σ1 := ((d + 1), 267, 17, [some (.inr (.inr 86)), some (.inl x1), some (.inl r1)], [], (am_sh, am_mm U1))) (σ2 := ((d + 1), 267, 13, [some (.inr (.inr 86)), some (.inl x1), some (.inl r1)], [], (am_sh, am_mm U1))) 4 (fun _ => rfl) (fun hc => ?_) (fun hc => ?_)
  · have ha1 := ha.1 hc
    refine ev_br (P := (U1 86 8) ≤ 0) (σ1 := ((d + 1), 267, 28, [some (.inr (.inr 86)), some (.inl x1), some (.inl r1)], [], (am_sh, am_mm U1))) (σ2 := ((d + 1), 267, 24, [some (.inr (.inr 86)), some (.inl x1), some (.inl r1)], [], (am_sh, am_mm U1))) 3 (fun _ => rfl) (fun hc => ?_) (fun hc => ?_)
    · have ha11 := ha1.1 hc
      subst ha11
      exact ev_end 2 (fun _ => rfl)
    · have ha12 := ha1.2 hc
      subst ha12
      exact ev_end 3 (fun _ => rfl)
  · have ha2 := ha.2 hc
    refine ev_seg (σ1 := ((d + 1), 267, 14, [some (.inr (.inr 86)), some (.inl x1), some (.inl r1)], [.inr (.inr 86)], (am_sh, am_mm U1))) 1 (fun _ => rfl) ?_
    obtain ⟨U2, ha2c, ha2a⟩ := ha2
    refine ev_cal (σc := (d, 93, 0, [some (.inr (.inr 86)), none, none, none, none, none], [], (am_sh, am_mm U1))) (fun _ => rfl) ha2c ?_
    show Ev kz ((d + 1), 267, 17, [some (.inr (.inr 86)), some (.inl x1), some (.inl r1)], [], (am_sh, am_mm U2)) R
    refine ev_br (P := (U2 86 8) ≤ 0) (σ1 := ((d + 1), 267, 28, [some (.inr (.inr 86)), some (.inl x1), some (.inl r1)], [], (am_sh, am_mm U2))) (σ2 := ((d + 1), 267, 24, [some (.inr (.inr 86)), some (.inl x1), some (.inl r1)], [], (am_sh, am_mm U2))) 3 (fun _ => rfl) (fun hc => ?_) (fun hc => ?_)
    · have ha2a1 := ha2a.1 hc
      subst ha2a1
      exact ev_end 2 (fun _ => rfl)
    · have ha2a2 := ha2a.2 hc
      subst ha2a2
      exact ev_end 3 (fun _ => rfl)
set_option maxRecDepth 8000 in
theorem st269_86_0 (kz : am_Z) (d : Nat) (x1 : Int) (U : Nat → Nat → Int) (R : Option am_V × am_M) (h : ∃ U1 : Nat → Nat → Int, Ev kz (d, 186, 0, [some (.inr (.inr 86))], [], (am_sh, am_mm U)) (none, (am_sh, am_mm U1)) ∧ ((((U1 86 8) ≤ 0 : Prop)) → (((¬ (U1 86 3) = 1 : Prop)) → ∃ U2 : Nat → Nat → Int, Ev kz (d, 196, 0, [some (.inr (.inr 86)), some (.inl 1), some (.inl (U1 86 4))], [], (am_sh, am_mm U1)) (none, (am_sh, am_mm U2)) ∧ ((((U2 86 8) ≤ 0 : Prop)) → ∃ (r3 : Int) (U3 : Nat → Nat → Int), Ev kz (d, 307, 0, [some (.inr (.inr 86)), some (.inl x1), some (.inr (.inl (U2 86 7))), none, none], [], (am_sh, am_mm U2)) (some (.inl r3), (am_sh, am_mm U3)) ∧ (((¬ (U3 86 8) = 0 : Prop)) → Ev kz ((d + 1), 269, 83, [some (.inr (.inr 86)), some (.inl x1), some (.inl r3)], [], (am_sh, am_mm U3)) R) ∧ (¬ (¬ (U3 86 8) = 0) → (((¬ r3 = (-1) : Prop)) → Ev kz ((d + 1), 269, 83, [some (.inr (.inr 86)), some (.inl x1), some (.inl r3)], [], (am_sh, am_mm U3)) R) ∧ (¬ (¬ r3 = (-1)) → ∃ U4 : Nat → Nat → Int, Ev kz (d, 196, 0, [some (.inr (.inr 86)), some (.inl 3), some (.inl (U3 86 4))], [], (am_sh, am_mm U3)) (none, (am_sh, am_mm U4)) ∧ Ev kz ((d + 1), 269, 83, [some (.inr (.inr 86)), some (.inl x1), some (.inl r3)], [], (am_sh, am_mm U4)) R))) ∧ (¬ ((U2 86 8) ≤ 0) → (((¬ (U2 86 8) = 0 : Prop)) → Ev kz ((d + 1), 269, 83, [some (.inr (.inr 86)), some (.inl x1), some (.inl 0)], [], (am_sh, am_mm U2)) R) ∧ (¬ (¬ (U2 86 8) = 0) → (((¬ 0 = (-1) : Prop)) → Ev kz ((d + 1), 269, 83, [some (.inr (.inr 86)), some (.inl x1), some (.inl 0)], [], (am_sh, am_mm U2)) R) ∧ (¬ (¬ 0 = (-1)) → ∃ U5 : Nat → Nat → Int, Ev kz (d, 196, 0, [some (.inr (.inr 86)), some (.inl 3), some (.inl (U2 86 4))], [], (am_sh, am_mm U2)) (none, (am_sh, am_mm U5)) ∧ Ev kz ((d + 1), 269, 83, [some (.inr (.inr 86)), some (.inl x1), some (.inl 0)], [], (am_sh, am_mm U5)) R)))) ∧ (¬ (¬ (U1 86 3) = 1) → ∃ (r6 : Int) (U6 : Nat → Nat → Int), Ev kz (d, 306, 0, [some (.inr (.inr 86)), some (.inr (.inl (U1 86 7))), none], [], (am_sh, am_mm U1)) (some (.inl r6), (am_sh, am_mm U6)) ∧ (((r6 = 0 : Prop)) → ((((U6 86 8) ≤ 0 : Prop)) → ∃ (r7 : Int) (U7 : Nat → Nat → Int), Ev kz (d, 307, 0, [some (.inr (.inr 86)), some (.inl x1), some (.inr (.inl (U6 86 7))), none, none], [], (am_sh, am_mm U6)) (some (.inl r7), (am_sh, am_mm U7)) ∧ (((¬ (U7 86 8) = 0 : Prop)) → Ev kz ((d + 1), 269, 83, [some (.inr (.inr 86)), some (.inl x1), some (.inl r7)], [], (am_sh, am_mm U7)) R) ∧ (¬ (¬ (U7 86 8) = 0) → (((¬ r7 = (-1) : Prop)) → Ev kz ((d + 1), 269, 83, [some (.inr (.inr 86)), some (.inl x1), some (.inl r7)], [], (am_sh, am_mm U7)) R) ∧ (¬ (¬ r7 = (-1)) → ∃ U8 : Nat → Nat → Int, Ev kz (d, 196, 0, [some (.inr (.inr 86)), some (.inl 3), some (.inl (U7 86 4))], [], (am_sh, am_mm U7)) (none, (am_sh, am_mm U8)) ∧ Ev kz ((d + 1), 269, 83, [some (.inr (.inr 86)), some (.inl x1), some (.inl r7)], [], (am_sh, am_mm U8)) R))) ∧ (¬ ((U6 86 8) ≤ 0) → (((¬ (U6 86 8) = 0 : Prop)) → Ev kz ((d + 1), 269, 83, [some (.inr (.inr 86)), some (.inl x1), some (.inl 0)], [], (am_sh, am_mm U6)) R) ∧ (¬ (¬ (U6 86 8) = 0) → (((¬ 0 = (-1) : Prop)) → Ev kz ((d + 1), 269, 83, [some (.inr (.inr 86)), some (.inl x1), some (.inl 0)], [], (am_sh, am_mm U6)) R) ∧ (¬ (¬ 0 = (-1)) → ∃ U9 : Nat → Nat → Int, Ev kz (d, 196, 0, [some (.inr (.inr 86)), some (.inl 3), some (.inl (U6 86 4))], [], (am_sh, am_mm U6)) (none, (am_sh, am_mm U9)) ∧ Ev kz ((d + 1), 269, 83, [some (.inr (.inr 86)), some (.inl x1), some (.inl 0)], [], (am_sh, am_mm U9)) R)))) ∧ (¬ (r6 = 0) → ∃ U10 : Nat → Nat → Int, Ev kz (d, 196, 0, [some (.inr (.inr 86)), some (.inl 1), some (.inl (U6 86 4))], [], (am_sh, am_mm U6)) (none, (am_sh, am_mm U10)) ∧ ((((U10 86 8) ≤ 0 : Prop)) → ∃ (r11 : Int) (U11 : Nat → Nat → Int), Ev kz (d, 307, 0, [some (.inr (.inr 86)), some (.inl x1), some (.inr (.inl (U10 86 7))), none, none], [], (am_sh, am_mm U10)) (some (.inl r11), (am_sh, am_mm U11)) ∧ (((¬ (U11 86 8) = 0 : Prop)) → Ev kz ((d + 1), 269, 83, [some (.inr (.inr 86)), some (.inl x1), some (.inl r11)], [], (am_sh, am_mm U11)) R) ∧ (¬ (¬ (U11 86 8) = 0) → (((¬ r11 = (-1) : Prop)) → Ev kz ((d + 1), 269, 83, [some (.inr (.inr 86)), some (.inl x1), some (.inl r11)], [], (am_sh, am_mm U11)) R) ∧ (¬ (¬ r11 = (-1)) → ∃ U12 : Nat → Nat → Int, Ev kz (d, 196, 0, [some (.inr (.inr 86)), some (.inl 3), some (.inl (U11 86 4))], [], (am_sh, am_mm U11)) (none, (am_sh, am_mm U12)) ∧ Ev kz ((d + 1), 269, 83, [some (.inr (.inr 86)), some (.inl x1), some (.inl r11)], [], (am_sh, am_mm U12)) R))) ∧ (¬ ((U10 86 8) ≤ 0) → (((¬ (U10 86 8) = 0 : Prop)) → Ev kz ((d + 1), 269, 83, [some (.inr (.inr 86)), some (.inl x1), some (.inl 0)], [], (am_sh, am_mm U10)) R) ∧ (¬ (¬ (U10 86 8) = 0) → (((¬ 0 = (-1) : Prop)) → Ev kz ((d + 1), 269, 83, [some (.inr (.inr 86)), some (.inl x1), some (.inl 0)], [], (am_sh, am_mm U10)) R) ∧ (¬ (¬ 0 = (-1)) → ∃ U13 : Nat → Nat → Int, Ev kz (d, 196, 0, [some (.inr (.inr 86)), some (.inl 3), some (.inl (U10 86 4))], [], (am_sh, am_mm U10)) (none, (am_sh, am_mm U13)) ∧ Ev kz ((d + 1), 269, 83, [some (.inr (.inr 86)), some (.inl x1), some (.inl 0)], [], (am_sh, am_mm U13)) R)))))) ∧ (¬ ((U1 86 8) ≤ 0) → R = (some (.inl 0), (am_sh, am_mm U1)))) : Ev kz ((d + 1), 269, 0, [some (.inr (.inr 86)), some (.inl x1), none], [], (am_sh, am_mm U)) R := by
  refine ev_seg (σ1 := ((d + 1), 269, 1, [some (.inr (.inr 86)), some (.inl x1), none], [.inr (.inr 86)], (am_sh, am_mm U))) 1 (fun _ => rfl) ?_
  obtain ⟨U1, hc, ha⟩ := h
  refine ev_cal (σc := (d, 186, 0, [some (.inr (.inr 86))], [], (am_sh, am_mm U))) (fun _ => rfl) hc ?_
  show Ev kz ((d + 1), 269, 4, [some (.inr (.inr 86)), some (.inl x1), none], [], (am_sh, am_mm U1)) R
  refine ev_br (P := (U1 86 8) ≤ 0) (σ1 := ((d + 1), 269, 13, [some (.inr (.inr 86)), some (.inl x1), none], [], (am_sh, am_mm U1))) (σ2 := ((d + 1), 269, 11, [some (.inr (.inr 86)), some (.inl x1), none], [], (am_sh, am_mm U1))) 3 (fun _ => rfl) (fun hc => ?_) (fun hc => ?_)
  · have ha1 := ha.1 hc
    refine ev_br (P := ¬ (U1 86 3) = 1) (σ1 := ((d + 1), 269, 32, [some (.inr (.inr 86)), some (.inl x1), none], [], (am_sh, am_mm U1))) (σ2 := ((d + 1), 269, 21, [some (.inr (.inr 86)), some (.inl x1), none], [], (am_sh, am_mm U1))) 4 (fun _ => rfl) (fun hc => ?_) (fun hc => ?_)
    · have ha11 := ha1.1 hc
      refine ev_seg (σ1 := ((d + 1), 269, 38, [some (.inr (.inr 86)), some (.inl x1), none], [.inl (U1 86 4), .inl 1, .inr (.inr 86)], (am_sh, am_mm U1))) 4 (fun _ => rfl) ?_
      obtain ⟨U2, ha11c, ha11a⟩ := ha11
      refine ev_cal (σc := (d, 196, 0, [some (.inr (.inr 86)), some (.inl 1), some (.inl (U1 86 4))], [], (am_sh, am_mm U1))) (fun _ => rfl) ha11c ?_
      show Ev kz ((d + 1), 269, 41, [some (.inr (.inr 86)), some (.inl x1), none], [], (am_sh, am_mm U2)) R
      refine ev_br (P := (U2 86 8) ≤ 0) (σ1 := ((d + 1), 269, 52, [some (.inr (.inr 86)), some (.inl x1), none], [], (am_sh, am_mm U2))) (σ2 := ((d + 1), 269, 48, [some (.inr (.inr 86)), some (.inl x1), none], [], (am_sh, am_mm U2))) 3 (fun _ => rfl) (fun hc => ?_) (fun hc => ?_)
      · have ha11a1 := ha11a.1 hc
        refine ev_seg (σ1 := ((d + 1), 269, 58, [some (.inr (.inr 86)), some (.inl x1), none], [.inr (.inl (U2 86 7)), .inl x1, .inr (.inr 86)], (am_sh, am_mm U2))) 4 (fun _ => rfl) ?_
        obtain ⟨r3, U3, ha11a1c, ha11a1a⟩ := ha11a1
        refine ev_cal (σc := (d, 307, 0, [some (.inr (.inr 86)), some (.inl x1), some (.inr (.inl (U2 86 7))), none, none], [], (am_sh, am_mm U2))) (fun _ => rfl) ha11a1c ?_
        show Ev kz ((d + 1), 269, 61, [some (.inr (.inr 86)), some (.inl x1), none], [.inl r3], (am_sh, am_mm U3)) R
        refine ev_br (P := ¬ (U3 86 8) = 0) (σ1 := ((d + 1), 269, 83, [some (.inr (.inr 86)), some (.inl x1), some (.inl r3)], [], (am_sh, am_mm U3))) (σ2 := ((d + 1), 269, 69, [some (.inr (.inr 86)), some (.inl x1), some (.inl r3)], [], (am_sh, am_mm U3))) 4 (fun _ => rfl) (fun hc => ?_) (fun hc => ?_)
        · have ha11a1a1 := ha11a1a.1 hc
          exact ha11a1a1
        · have ha11a1a2 := ha11a1a.2 hc
          refine ev_br (P := ¬ r3 = (-1)) (σ1 := ((d + 1), 269, 83, [some (.inr (.inr 86)), some (.inl x1), some (.inl r3)], [], (am_sh, am_mm U3))) (σ2 := ((d + 1), 269, 74, [some (.inr (.inr 86)), some (.inl x1), some (.inl r3)], [], (am_sh, am_mm U3))) 3 (fun _ => rfl) (fun hc => ?_) (fun hc => ?_)
          · have ha11a1a21 := ha11a1a2.1 hc
            exact ha11a1a21
          · have ha11a1a22 := ha11a1a2.2 hc
            refine ev_seg (σ1 := ((d + 1), 269, 80, [some (.inr (.inr 86)), some (.inl x1), some (.inl r3)], [.inl (U3 86 4), .inl 3, .inr (.inr 86)], (am_sh, am_mm U3))) 4 (fun _ => rfl) ?_
            obtain ⟨U4, ha11a1a22c, ha11a1a22a⟩ := ha11a1a22
            refine ev_cal (σc := (d, 196, 0, [some (.inr (.inr 86)), some (.inl 3), some (.inl (U3 86 4))], [], (am_sh, am_mm U3))) (fun _ => rfl) ha11a1a22c ?_
            show Ev kz ((d + 1), 269, 83, [some (.inr (.inr 86)), some (.inl x1), some (.inl r3)], [], (am_sh, am_mm U4)) R
            exact ha11a1a22a
      · have ha11a2 := ha11a.2 hc
        refine ev_br (P := ¬ (U2 86 8) = 0) (σ1 := ((d + 1), 269, 83, [some (.inr (.inr 86)), some (.inl x1), some (.inl 0)], [], (am_sh, am_mm U2))) (σ2 := ((d + 1), 269, 69, [some (.inr (.inr 86)), some (.inl x1), some (.inl 0)], [], (am_sh, am_mm U2))) 6 (fun _ => rfl) (fun hc => ?_) (fun hc => ?_)
        · have ha11a21 := ha11a2.1 hc
          exact ha11a21
        · have ha11a22 := ha11a2.2 hc
          refine ev_br (P := ¬ 0 = (-1)) (σ1 := ((d + 1), 269, 83, [some (.inr (.inr 86)), some (.inl x1), some (.inl 0)], [], (am_sh, am_mm U2))) (σ2 := ((d + 1), 269, 74, [some (.inr (.inr 86)), some (.inl x1), some (.inl 0)], [], (am_sh, am_mm U2))) 3 (fun _ => rfl) (fun hc => ?_) (fun hc => ?_)
          · have ha11a221 := ha11a22.1 hc
            exact ha11a221
          · have ha11a222 := ha11a22.2 hc
            refine ev_seg (σ1 := ((d + 1), 269, 80, [some (.inr (.inr 86)), some (.inl x1), some (.inl 0)], [.inl (U2 86 4), .inl 3, .inr (.inr 86)], (am_sh, am_mm U2))) 4 (fun _ => rfl) ?_
            obtain ⟨U5, ha11a222c, ha11a222a⟩ := ha11a222
            refine ev_cal (σc := (d, 196, 0, [some (.inr (.inr 86)), some (.inl 3), some (.inl (U2 86 4))], [], (am_sh, am_mm U2))) (fun _ => rfl) ha11a222c ?_
            show Ev kz ((d + 1), 269, 83, [some (.inr (.inr 86)), some (.inl x1), some (.inl 0)], [], (am_sh, am_mm U5)) R
            exact ha11a222a
    · have ha12 := ha1.2 hc
      refine ev_seg (σ1 := ((d + 1), 269, 26, [some (.inr (.inr 86)), some (.inl x1), none], [.inr (.inl (U1 86 7)), .inr (.inr 86)], (am_sh, am_mm U1))) 3 (fun _ => rfl) ?_
      obtain ⟨r6, U6, ha12c, ha12a⟩ := ha12
      refine ev_cal (σc := (d, 306, 0, [some (.inr (.inr 86)), some (.inr (.inl (U1 86 7))), none], [], (am_sh, am_mm U1))) (fun _ => rfl) ha12c ?_
      show Ev kz ((d + 1), 269, 29, [some (.inr (.inr 86)), some (.inl x1), none], [.inl r6], (am_sh, am_mm U6)) R
      refine ev_br (P := r6 = 0) (σ1 := ((d + 1), 269, 41, [some (.inr (.inr 86)), some (.inl x1), none], [], (am_sh, am_mm U6))) (σ2 := ((d + 1), 269, 32, [some (.inr (.inr 86)), some (.inl x1), none], [], (am_sh, am_mm U6))) 1 (fun _ => rfl) (fun hc => ?_) (fun hc => ?_)
      · have ha12a1 := ha12a.1 hc
        refine ev_br (P := (U6 86 8) ≤ 0) (σ1 := ((d + 1), 269, 52, [some (.inr (.inr 86)), some (.inl x1), none], [], (am_sh, am_mm U6))) (σ2 := ((d + 1), 269, 48, [some (.inr (.inr 86)), some (.inl x1), none], [], (am_sh, am_mm U6))) 3 (fun _ => rfl) (fun hc => ?_) (fun hc => ?_)
        · have ha12a11 := ha12a1.1 hc
          refine ev_seg (σ1 := ((d + 1), 269, 58, [some (.inr (.inr 86)), some (.inl x1), none], [.inr (.inl (U6 86 7)), .inl x1, .inr (.inr 86)], (am_sh, am_mm U6))) 4 (fun _ => rfl) ?_
          obtain ⟨r7, U7, ha12a11c, ha12a11a⟩ := ha12a11
          refine ev_cal (σc := (d, 307, 0, [some (.inr (.inr 86)), some (.inl x1), some (.inr (.inl (U6 86 7))), none, none], [], (am_sh, am_mm U6))) (fun _ => rfl) ha12a11c ?_
          show Ev kz ((d + 1), 269, 61, [some (.inr (.inr 86)), some (.inl x1), none], [.inl r7], (am_sh, am_mm U7)) R
          refine ev_br (P := ¬ (U7 86 8) = 0) (σ1 := ((d + 1), 269, 83, [some (.inr (.inr 86)), some (.inl x1), some (.inl r7)], [], (am_sh, am_mm U7))) (σ2 := ((d + 1), 269, 69, [some (.inr (.inr 86)), some (.inl x1), some (.inl r7)], [], (am_sh, am_mm U7))) 4 (fun _ => rfl) (fun hc => ?_) (fun hc => ?_)
          · have ha12a11a1 := ha12a11a.1 hc
            exact ha12a11a1
          · have ha12a11a2 := ha12a11a.2 hc
            refine ev_br (P := ¬ r7 = (-1)) (σ1 := ((d + 1), 269, 83, [some (.inr (.inr 86)), some (.inl x1), some (.inl r7)], [], (am_sh, am_mm U7))) (σ2 := ((d + 1), 269, 74, [some (.inr (.inr 86)), some (.inl x1), some (.inl r7)], [], (am_sh, am_mm U7))) 3 (fun _ => rfl) (fun hc => ?_) (fun hc => ?_)
            · have ha12a11a21 := ha12a11a2.1 hc
              exact ha12a11a21
            · have ha12a11a22 := ha12a11a2.2 hc
              refine ev_seg (σ1 := ((d + 1), 269, 80, [some (.inr (.inr 86)), some (.inl x1), some (.inl r7)], [.inl (U7 86 4), .inl 3, .inr (.inr 86)], (am_sh, am_mm U7))) 4 (fun _ => rfl) ?_
              obtain ⟨U8, ha12a11a22c, ha12a11a22a⟩ := ha12a11a22
              refine ev_cal (σc := (d, 196, 0, [some (.inr (.inr 86)), some (.inl 3), some (.inl (U7 86 4))], [], (am_sh, am_mm U7))) (fun _ => rfl) ha12a11a22c ?_
              show Ev kz ((d + 1), 269, 83, [some (.inr (.inr 86)), some (.inl x1), some (.inl r7)], [], (am_sh, am_mm U8)) R
              exact ha12a11a22a
        · have ha12a12 := ha12a1.2 hc
          refine ev_br (P := ¬ (U6 86 8) = 0) (σ1 := ((d + 1), 269, 83, [some (.inr (.inr 86)), some (.inl x1), some (.inl 0)], [], (am_sh, am_mm U6))) (σ2 := ((d + 1), 269, 69, [some (.inr (.inr 86)), some (.inl x1), some (.inl 0)], [], (am_sh, am_mm U6))) 6 (fun _ => rfl) (fun hc => ?_) (fun hc => ?_)
          · have ha12a121 := ha12a12.1 hc
            exact ha12a121
          · have ha12a122 := ha12a12.2 hc
            refine ev_br (P := ¬ 0 = (-1)) (σ1 := ((d + 1), 269, 83, [some (.inr (.inr 86)), some (.inl x1), some (.inl 0)], [], (am_sh, am_mm U6))) (σ2 := ((d + 1), 269, 74, [some (.inr (.inr 86)), some (.inl x1), some (.inl 0)], [], (am_sh, am_mm U6))) 3 (fun _ => rfl) (fun hc => ?_) (fun hc => ?_)
            · have ha12a1221 := ha12a122.1 hc
              exact ha12a1221
            · have ha12a1222 := ha12a122.2 hc
              refine ev_seg (σ1 := ((d + 1), 269, 80, [some (.inr (.inr 86)), some (.inl x1), some (.inl 0)], [.inl (U6 86 4), .inl 3, .inr (.inr 86)], (am_sh, am_mm U6))) 4 (fun _ => rfl) ?_
              obtain ⟨U9, ha12a1222c, ha12a1222a⟩ := ha12a1222
              refine ev_cal (σc := (d, 196, 0, [some (.inr (.inr 86)), some (.inl 3), some (.inl (U6 86 4))], [], (am_sh, am_mm U6))) (fun _ => rfl) ha12a1222c ?_
              show Ev kz ((d + 1), 269, 83, [some (.inr (.inr 86)), some (.inl x1), some (.inl 0)], [], (am_sh, am_mm U9)) R
              exact ha12a1222a
      · have ha12a2 := ha12a.2 hc
        refine ev_seg (σ1 := ((d + 1), 269, 38, [some (.inr (.inr 86)), some (.inl x1), none], [.inl (U6 86 4), .inl 1, .inr (.inr 86)], (am_sh, am_mm U6))) 4 (fun _ => rfl) ?_
        obtain ⟨U10, ha12a2c, ha12a2a⟩ := ha12a2
        refine ev_cal (σc := (d, 196, 0, [some (.inr (.inr 86)), some (.inl 1), some (.inl (U6 86 4))], [], (am_sh, am_mm U6))) (fun _ => rfl) ha12a2c ?_
        show Ev kz ((d + 1), 269, 41, [some (.inr (.inr 86)), some (.inl x1), none], [], (am_sh, am_mm U10)) R
        refine ev_br (P := (U10 86 8) ≤ 0) (σ1 := ((d + 1), 269, 52, [some (.inr (.inr 86)), some (.inl x1), none], [], (am_sh, am_mm U10))) (σ2 := ((d + 1), 269, 48, [some (.inr (.inr 86)), some (.inl x1), none], [], (am_sh, am_mm U10))) 3 (fun _ => rfl) (fun hc => ?_) (fun hc => ?_)
        · have ha12a2a1 := ha12a2a.1 hc
          refine ev_seg (σ1 := ((d + 1), 269, 58, [some (.inr (.inr 86)), some (.inl x1), none], [.inr (.inl (U10 86 7)), .inl x1, .inr (.inr 86)], (am_sh, am_mm U10))) 4 (fun _ => rfl) ?_
          obtain ⟨r11, U11, ha12a2a1c, ha12a2a1a⟩ := ha12a2a1
          refine ev_cal (σc := (d, 307, 0, [some (.inr (.inr 86)), some (.inl x1), some (.inr (.inl (U10 86 7))), none, none], [], (am_sh, am_mm U10))) (fun _ => rfl) ha12a2a1c ?_
          show Ev kz ((d + 1), 269, 61, [some (.inr (.inr 86)), some (.inl x1), none], [.inl r11], (am_sh, am_mm U11)) R
          refine ev_br (P := ¬ (U11 86 8) = 0) (σ1 := ((d + 1), 269, 83, [some (.inr (.inr 86)), some (.inl x1), some (.inl r11)], [], (am_sh, am_mm U11))) (σ2 := ((d + 1), 269, 69, [some (.inr (.inr 86)), some (.inl x1), some (.inl r11)], [], (am_sh, am_mm U11))) 4 (fun _ => rfl) (fun hc => ?_) (fun hc => ?_)
          · have ha12a2a1a1 := ha12a2a1a.1 hc
            exact ha12a2a1a1
          · have ha12a2a1a2 := ha12a2a1a.2 hc
            refine ev_br (P := ¬ r11 = (-1)) (σ1 := ((d + 1), 269, 83, [some (.inr (.inr 86)), some (.inl x1), some (.inl r11)], [], (am_sh, am_mm U11))) (σ2 := ((d + 1), 269, 74, [some (.inr (.inr 86)), some (.inl x1), some (.inl r11)], [], (am_sh, am_mm U11))) 3 (fun _ => rfl) (fun hc => ?_) (fun hc => ?_)
            · have ha12a2a1a21 := ha12a2a1a2.1 hc
              exact ha12a2a1a21
            · have ha12a2a1a22 := ha12a2a1a2.2 hc
              refine ev_seg (σ1 := ((d + 1), 269, 80, [some (.inr (.inr 86)), some (.inl x1), some (.inl r11)], [.inl (U11 86 4), .inl 3, .inr (.inr 86)], (am_sh, am_mm U11))) 4 (fun _ => rfl) ?_
              obtain ⟨U12, ha12a2a1a22c, ha12a2a1a22a⟩ := ha12a2a1a22
              refine ev_cal (σc := (d, 196, 0, [some (.inr (.inr 86)), some (.inl 3), some (.inl (U11 86 4))], [], (am_sh, am_mm U11))) (fun _ => rfl) ha12a2a1a22c ?_
              show Ev kz ((d + 1), 269, 83, [some (.inr (.inr 86)), some (.inl x1), some (.inl r11)], [], (am_sh, am_mm U12)) R
              exact ha12a2a1a22a
        · have ha12a2a2 := ha12a2a.2 hc
          refine ev_br (P := ¬ (U10 86 8) = 0) (σ1 := ((d + 1), 269, 83, [some (.inr (.inr 86)), some (.inl x1), some (.inl 0)], [], (am_sh, am_mm U10))) (σ2 := ((d + 1), 269, 69, [some (.inr (.inr 86)), some (.inl x1), some (.inl 0)], [], (am_sh, am_mm U10))) 6 (fun _ => rfl) (fun hc => ?_) (fun hc => ?_)
          · have ha12a2a21 := ha12a2a2.1 hc
            exact ha12a2a21
          · have ha12a2a22 := ha12a2a2.2 hc
            refine ev_br (P := ¬ 0 = (-1)) (σ1 := ((d + 1), 269, 83, [some (.inr (.inr 86)), some (.inl x1), some (.inl 0)], [], (am_sh, am_mm U10))) (σ2 := ((d + 1), 269, 74, [some (.inr (.inr 86)), some (.inl x1), some (.inl 0)], [], (am_sh, am_mm U10))) 3 (fun _ => rfl) (fun hc => ?_) (fun hc => ?_)
            · have ha12a2a221 := ha12a2a22.1 hc
              exact ha12a2a221
            · have ha12a2a222 := ha12a2a22.2 hc
              refine ev_seg (σ1 := ((d + 1), 269, 80, [some (.inr (.inr 86)), some (.inl x1), some (.inl 0)], [.inl (U10 86 4), .inl 3, .inr (.inr 86)], (am_sh, am_mm U10))) 4 (fun _ => rfl) ?_
              obtain ⟨U13, ha12a2a222c, ha12a2a222a⟩ := ha12a2a222
              refine ev_cal (σc := (d, 196, 0, [some (.inr (.inr 86)), some (.inl 3), some (.inl (U10 86 4))], [], (am_sh, am_mm U10))) (fun _ => rfl) ha12a2a222c ?_
              show Ev kz ((d + 1), 269, 83, [some (.inr (.inr 86)), some (.inl x1), some (.inl 0)], [], (am_sh, am_mm U13)) R
              exact ha12a2a222a
  · have ha2 := ha.2 hc
    subst ha2
    exact ev_end 2 (fun _ => rfl)
set_option maxRecDepth 8000 in
theorem st269_86_83 (kz : am_Z) (d : Nat) (x1 x2 : Int) (U : Nat → Nat → Int) (R : Option am_V × am_M) (h : ((((U 86 8) ≤ 0 : Prop)) → R = (some (.inl x2), (am_sh, am_mm U))) ∧ (¬ ((U 86 8) ≤ 0) → R = (some (.inl 0), (am_sh, am_mm U)))) : Ev kz ((d + 1), 269, 83, [some (.inr (.inr 86)), some (.inl x1), some (.inl x2)], [], (am_sh, am_mm U)) R := by
  refine ev_br (P := (U 86 8) ≤ 0) (σ1 := ((d + 1), 269, 94, [some (.inr (.inr 86)), some (.inl x1), some (.inl x2)], [], (am_sh, am_mm U))) (σ2 := ((d + 1), 269, 90, [some (.inr (.inr 86)), some (.inl x1), some (.inl x2)], [], (am_sh, am_mm U))) 3 (fun _ => rfl) (fun hc => ?_) (fun hc => ?_)
  · have h1 := h.1 hc
    subst h1
    exact ev_end 2 (fun _ => rfl)
  · have h2 := h.2 hc
    subst h2
    exact ev_end 3 (fun _ => rfl)
set_option maxRecDepth 8000 in
theorem st271_86_0 (kz : am_Z) (d : Nat) (x1 : Int) (U : Nat → Nat → Int) (R : Option am_V × am_M) (h : ((((U 86 8) ≤ 0 : Prop)) → (((x1 = 0 : Prop)) → ∃ U1 : Nat → Nat → Int, Ev kz (d, 308, 0, [some (.inr (.inr 86)), some (.inl 0)], [], (am_sh, am_mm (am_upd (am_upd (am_upd (am_upd U 86 46 0) 86 47 0) 86 49 0) 86 50 0))) (none, (am_sh, am_mm U1)) ∧ Ev kz ((d + 1), 271, 43, [some (.inr (.inr 86)), some (.inl x1), some (.inl 1)], [], (am_sh, am_mm U1)) R) ∧ (¬ (x1 = 0) → ∃ U2 : Nat → Nat → Int, Ev kz (d, 308, 0, [some (.inr (.inr 86)), some (.inl 1)], [], (am_sh, am_mm (am_upd (am_upd (am_upd (am_upd U 86 46 0) 86 47 0) 86 49 0) 86 50 0))) (none, (am_sh, am_mm U2)) ∧ Ev kz ((d + 1), 271, 43, [some (.inr (.inr 86)), some (.inl x1), some (.inl 1)], [], (am_sh, am_mm U2)) R)) ∧ (¬ ((U 86 8) ≤ 0) → R = (none, (am_sh, am_mm U)))) : Ev kz ((d + 1), 271, 0, [some (.inr (.inr 86)), some (.inl x1), none], [], (am_sh, am_mm U)) R := by
  refine ev_br (P := (U 86 8) ≤ 0) (σ1 := ((d + 1), 271, 8, [some (.inr (.inr 86)), some (.inl x1), none], [], (am_sh, am_mm U))) (σ2 := ((d + 1), 271, 7, [some (.inr (.inr 86)), some (.inl x1), none], [], (am_sh, am_mm U))) 3 (fun _ => rfl) (fun hc => ?_) (fun hc => ?_)
  · have h1 := h.1 hc
    refine ev_seg (σ1 := ((d + 1), 271, 10, [some (.inr (.inr 86)), some (.inl x1), none], [.inl 0, .inr (.inr 86)], (am_sh, am_mm U))) 2 (fun _ => rfl) ?_
    refine eu_puti 86 (n := 90) rfl (by decide) rfl rfl ?_
    refine ev_seg (σ1 := ((d + 1), 271, 15, [some (.inr (.inr 86)), some (.inl x1), none], [.inl 0, .inr (.inr 86)], (am_sh, am_mm (am_upd U 86 46 0)))) 2 (fun _ => rfl) ?_
    refine eu_puti 86 (n := 90) rfl (by decide) rfl rfl ?_
    refine ev_seg (σ1 := ((d + 1), 271, 20, [some (.inr (.inr 86)), some (.inl x1), none], [.inl 0, .inr (.inr 86)], (am_sh, am_mm (am_upd (am_upd U 86 46 0) 86 47 0)))) 2 (fun _ => rfl) ?_
    refine eu_puti 86 (n := 90) rfl (by decide) rfl rfl ?_
    refine ev_seg (σ1 := ((d + 1), 271, 25, [some (.inr (.inr 86)), some (.inl x1), none], [.inl 0, .inr (.inr 86)], (am_sh, am_mm (am_upd (am_upd (am_upd U 86 46 0) 86 47 0) 86 49 0)))) 2 (fun _ => rfl) ?_
    refine eu_putz 86 (n := 90) rfl (by decide) rfl rfl (by decide) ?_
    refine ev_br (P := x1 = 0) (σ1 := ((d + 1), 271, 37, [some (.inr (.inr 86)), some (.inl x1), none], [.inr (.inr 86)], (am_sh, am_mm (am_upd (am_upd (am_upd (am_upd U 86 46 0) 86 47 0) 86 49 0) 86 50 0)))) (σ2 := ((d + 1), 271, 33, [some (.inr (.inr 86)), some (.inl x1), none], [.inr (.inr 86)], (am_sh, am_mm (am_upd (am_upd (am_upd (am_upd U 86 46 0) 86 47 0) 86 49 0) 86 50 0)))) 3 (fun _ => rfl) (fun hc => ?_) (fun hc => ?_)
    · have h11 := h1.1 hc
      refine ev_seg (σ1 := ((d + 1), 271, 38, [some (.inr (.inr 86)), some (.inl x1), none], [.inl 0, .inr (.inr 86)], (am_sh, am_mm (am_upd (am_upd (am_upd (am_upd U 86 46 0) 86 47 0) 86 49 0) 86 50 0)))) 1 (fun _ => rfl) ?_
      obtain ⟨U1, h11c, h11a⟩ := h11
      refine ev_cal (σc := (d, 308, 0, [some (.inr (.inr 86)), some (.inl 0)], [], (am_sh, am_mm (am_upd (am_upd (am_upd (am_upd U 86 46 0) 86 47 0) 86 49 0) 86 50 0)))) (fun _ => rfl) h11c ?_
      show Ev kz ((d + 1), 271, 41, [some (.inr (.inr 86)), some (.inl x1), none], [], (am_sh, am_mm U1)) R
      refine ev_seg (σ1 := ((d + 1), 271, 43, [some (.inr (.inr 86)), some (.inl x1), some (.inl 1)], [], (am_sh, am_mm U1))) 2 (fun _ => rfl) ?_
      exact h11a
    · have h12 := h1.2 hc
      refine ev_seg (σ1 := ((d + 1), 271, 38, [some (.inr (.inr 86)), some (.inl x1), none], [.inl 1, .inr (.inr 86)], (am_sh, am_mm (am_upd (am_upd (am_upd (am_upd U 86 46 0) 86 47 0) 86 49 0) 86 50 0)))) 2 (fun _ => rfl) ?_
      obtain ⟨U2, h12c, h12a⟩ := h12
      refine ev_cal (σc := (d, 308, 0, [some (.inr (.inr 86)), some (.inl 1)], [], (am_sh, am_mm (am_upd (am_upd (am_upd (am_upd U 86 46 0) 86 47 0) 86 49 0) 86 50 0)))) (fun _ => rfl) h12c ?_
      show Ev kz ((d + 1), 271, 41, [some (.inr (.inr 86)), some (.inl x1), none], [], (am_sh, am_mm U2)) R
      refine ev_seg (σ1 := ((d + 1), 271, 43, [some (.inr (.inr 86)), some (.inl x1), some (.inl 1)], [], (am_sh, am_mm U2))) 2 (fun _ => rfl) ?_
      exact h12a
  · have h2 := h.2 hc
    subst h2
    exact ev_end 1 (fun _ => rfl)
set_option maxRecDepth 8000 in
theorem st271_86_43 (kz : am_Z) (d : Nat) (x1 x2 : Int) (U : Nat → Nat → Int) (R : Option am_V × am_M) (h : (((x2 = 0 : Prop)) → R = (none, (am_sh, am_mm U))) ∧ (¬ (x2 = 0) → (((¬ (U 86 50) = 0 : Prop)) → ∃ (r1 : Int) (U1 : Nat → Nat → Int), Ev kz (d, 310, 0, [some (.inr (.inr 86)), none, none, none, none], [], (am_sh, am_mm U)) (some (.inl r1), (am_sh, am_mm U1)) ∧ (((r1 = 0 : Prop)) → Ev kz ((d + 1), 271, 43, [some (.inr (.inr 86)), some (.inl x1), some (.inl 0)], [], (am_sh, am_mm U1)) R) ∧ (¬ (r1 = 0) → (((¬ (U1 86 8) = 0 : Prop)) → Ev kz ((d + 1), 271, 43, [some (.inr (.inr 86)), some (.inl x1), some (.inl 0)], [], (am_sh, am_mm U1)) R) ∧ (¬ (¬ (U1 86 8) = 0) → Ev kz ((d + 1), 271, 43, [some (.inr (.inr 86)), some (.inl x1), some (.inl 1)], [], (am_sh, am_mm U1)) R))) ∧ (¬ (¬ (U 86 50) = 0) → ∃ (r2 : Int) (U2 : Nat → Nat → Int), Ev kz (d, 309, 0, [some (.inr (.inr 86)), none, none, none], [], (am_sh, am_mm U)) (some (.inl r2), (am_sh, am_mm U2)) ∧ (r2 = 0 ∨ r2 = 1) ∧ (((x2 = 0 : Prop)) → Ev kz ((d + 1), 271, 43, [some (.inr (.inr 86)), some (.inl x1), some (.inl 0)], [], (am_sh, am_mm (am_upd U2 86 50 r2))) R) ∧ (¬ (x2 = 0) → (((¬ ((am_upd U2 86 50 r2) 86 8) = 0 : Prop)) → Ev kz ((d + 1), 271, 43, [some (.inr (.inr 86)), some (.inl x1), some (.inl 0)], [], (am_sh, am_mm (am_upd U2 86 50 r2))) R) ∧ (¬ (¬ ((am_upd U2 86 50 r2) 86 8) = 0) → Ev kz ((d + 1), 271, 43, [some (.inr (.inr 86)), some (.inl x1), some (.inl 1)], [], (am_sh, am_mm (am_upd U2 86 50 r2))) R))))) : Ev kz ((d + 1), 271, 43, [some (.inr (.inr 86)), some (.inl x1), some (.inl x2)], [], (am_sh, am_mm U)) R := by
  refine ev_br (P := x2 = 0) (σ1 := ((d + 1), 271, 90, [some (.inr (.inr 86)), some (.inl x1), some (.inl x2)], [], (am_sh, am_mm U))) (σ2 := ((d + 1), 271, 47, [some (.inr (.inr 86)), some (.inl x1), some (.inl x2)], [], (am_sh, am_mm U))) 2 (fun _ => rfl) (fun hc => ?_) (fun hc => ?_)
  · have h1 := h.1 hc
    subst h1
    exact ev_end 1 (fun _ => rfl)
  · have h2 := h.2 hc
    refine ev_br (P := ¬ (U 86 50) = 0) (σ1 := ((d + 1), 271, 65, [some (.inr (.inr 86)), some (.inl x1), some (.inl x2)], [], (am_sh, am_mm U))) (σ2 := ((d + 1), 271, 54, [some (.inr (.inr 86)), some (.inl x1), some (.inl x2)], [], (am_sh, am_mm U))) 3 (fun _ => rfl) (fun hc => ?_) (fun hc => ?_)
    · have h21 := h2.1 hc
      refine ev_seg (σ1 := ((d + 1), 271, 66, [some (.inr (.inr 86)), some (.inl x1), some (.inl x2)], [.inr (.inr 86)], (am_sh, am_mm U))) 1 (fun _ => rfl) ?_
      obtain ⟨r1, U1, h21c, h21a⟩ := h21
      refine ev_cal (σc := (d, 310, 0, [some (.inr (.inr 86)), none, none, none, none], [], (am_sh, am_mm U))) (fun _ => rfl) h21c ?_
      show Ev kz ((d + 1), 271, 69, [some (.inr (.inr 86)), some (.inl x1), some (.inl x2)], [.inl r1], (am_sh, am_mm U1)) R
      refine ev_br (P := r1 = 0) (σ1 := ((d + 1), 271, 85, [some (.inr (.inr 86)), some (.inl x1), some (.inl r1)], [], (am_sh, am_mm U1))) (σ2 := ((d + 1), 271, 74, [some (.inr (.inr 86)), some (.inl x1), some (.inl r1)], [], (am_sh, am_mm U1))) 3 (fun _ => rfl) (fun hc => ?_) (fun hc => ?_)
      · have h21a1 := h21a.1 hc
        refine ev_seg (σ1 := ((d + 1), 271, 43, [some (.inr (.inr 86)), some (.inl x1), some (.inl 0)], [], (am_sh, am_mm U1))) 3 (fun _ => rfl) ?_
        exact h21a1
      · have h21a2 := h21a.2 hc
        refine ev_br (P := ¬ (U1 86 8) = 0) (σ1 := ((d + 1), 271, 85, [some (.inr (.inr 86)), some (.inl x1), some (.inl r1)], [], (am_sh, am_mm U1))) (σ2 := ((d + 1), 271, 81, [some (.inr (.inr 86)), some (.inl x1), some (.inl r1)], [], (am_sh, am_mm U1))) 3 (fun _ => rfl) (fun hc => ?_) (fun hc => ?_)
        · have h21a21 := h21a2.1 hc
          refine ev_seg (σ1 := ((d + 1), 271, 43, [some (.inr (.inr 86)), some (.inl x1), some (.inl 0)], [], (am_sh, am_mm U1))) 3 (fun _ => rfl) ?_
          exact h21a21
        · have h21a22 := h21a2.2 hc
          refine ev_seg (σ1 := ((d + 1), 271, 43, [some (.inr (.inr 86)), some (.inl x1), some (.inl 1)], [], (am_sh, am_mm U1))) 4 (fun _ => rfl) ?_
          exact h21a22
    · have h22 := h2.2 hc
      refine ev_seg (σ1 := ((d + 1), 271, 56, [some (.inr (.inr 86)), some (.inl x1), some (.inl x2)], [.inr (.inr 86), .inr (.inr 86)], (am_sh, am_mm U))) 2 (fun _ => rfl) ?_
      obtain ⟨r2, U2, h22c, h22a⟩ := h22
      refine ev_cal (σc := (d, 309, 0, [some (.inr (.inr 86)), none, none, none], [], (am_sh, am_mm U))) (fun _ => rfl) h22c ?_
      show Ev kz ((d + 1), 271, 59, [some (.inr (.inr 86)), some (.inl x1), some (.inl x2)], [.inl r2, .inr (.inr 86)], (am_sh, am_mm U2)) R
      refine eu_putz 86 (n := 90) rfl (by decide) rfl rfl h22a.1 ?_
      have h22aa := h22a.2
      refine ev_br (P := x2 = 0) (σ1 := ((d + 1), 271, 85, [some (.inr (.inr 86)), some (.inl x1), some (.inl x2)], [], (am_sh, am_mm (am_upd U2 86 50 r2)))) (σ2 := ((d + 1), 271, 74, [some (.inr (.inr 86)), some (.inl x1), some (.inl x2)], [], (am_sh, am_mm (am_upd U2 86 50 r2)))) 3 (fun _ => rfl) (fun hc => ?_) (fun hc => ?_)
      · have h22aa1 := h22aa.1 hc
        refine ev_seg (σ1 := ((d + 1), 271, 43, [some (.inr (.inr 86)), some (.inl x1), some (.inl 0)], [], (am_sh, am_mm (am_upd U2 86 50 r2)))) 3 (fun _ => rfl) ?_
        exact h22aa1
      · have h22aa2 := h22aa.2 hc
        refine ev_br (P := ¬ ((am_upd U2 86 50 r2) 86 8) = 0) (σ1 := ((d + 1), 271, 85, [some (.inr (.inr 86)), some (.inl x1), some (.inl x2)], [], (am_sh, am_mm (am_upd U2 86 50 r2)))) (σ2 := ((d + 1), 271, 81, [some (.inr (.inr 86)), some (.inl x1), some (.inl x2)], [], (am_sh, am_mm (am_upd U2 86 50 r2)))) 3 (fun _ => rfl) (fun hc => ?_) (fun hc => ?_)
        · have h22aa21 := h22aa2.1 hc
          refine ev_seg (σ1 := ((d + 1), 271, 43, [some (.inr (.inr 86)), some (.inl x1), some (.inl 0)], [], (am_sh, am_mm (am_upd U2 86 50 r2)))) 3 (fun _ => rfl) ?_
          exact h22aa21
        · have h22aa22 := h22aa2.2 hc
          refine ev_seg (σ1 := ((d + 1), 271, 43, [some (.inr (.inr 86)), some (.inl x1), some (.inl 1)], [], (am_sh, am_mm (am_upd U2 86 50 r2)))) 4 (fun _ => rfl) ?_
          exact h22aa22
set_option maxRecDepth 8000 in
theorem st270_86_0 (kz : am_Z) (d : Nat) (x1 : Int) (U : Nat → Nat → Int) (R : Option am_V × am_M) (h : Ev kz (d, 270, 4, [some (.inr (.inr 86)), some (.inl x1), some (.inl 0), some (.inl 0)], [], (am_sh, am_mm U)) R) : Ev kz (d, 270, 0, [some (.inr (.inr 86)), some (.inl x1), none, none], [], (am_sh, am_mm U)) R := by
  refine ev_seg (σ1 := (d, 270, 4, [some (.inr (.inr 86)), some (.inl x1), some (.inl 0), some (.inl 0)], [], (am_sh, am_mm U))) 4 (fun _ => rfl) ?_
  exact h
set_option maxRecDepth 8000 in
theorem st270_86_4 (kz : am_Z) (d : Nat) (x1 x2 x3 : Int) (U : Nat → Nat → Int) (R : Option am_V × am_M) (h : (0 ≤ (U 86 40) ∧ (U 86 40) < 2) ∧ ((((U 97 (U 86 40).toNat) ≤ x3 : Prop)) → R = (some (.inl x2), (am_sh, am_mm U))) ∧ (¬ ((U 97 (U 86 40).toNat) ≤ x3) → (0 ≤ (w32 ((w32 (16 * (U 86 40))) + x3)) ∧ (w32 ((w32 (16 * (U 86 40))) + x3)) < 32) ∧ (((¬ (U 99 (w32 ((w32 (16 * (U 86 40))) + x3)).toNat) = x1 : Prop)) → Ev kz (d, 270, 4, [some (.inr (.inr 86)), some (.inl x1), some (.inl (w32 (x2 + 0))), some (.inl (w32 (x3 + 1)))], [], (am_sh, am_mm U)) R) ∧ (¬ (¬ (U 99 (w32 ((w32 (16 * (U 86 40))) + x3)).toNat) = x1) → Ev kz (d, 270, 4, [some (.inr (.inr 86)), some (.inl x1), some (.inl (w32 (x2 + 1))), some (.inl (w32 (x3 + 1)))], [], (am_sh, am_mm U)) R))) : Ev kz (d, 270, 4, [some (.inr (.inr 86)), some (.inl x1), some (.inl x2), some (.inl x3)], [], (am_sh, am_mm U)) R := by
  refine ev_seg (σ1 := (d, 270, 13, [some (.inr (.inr 86)), some (.inl x1), some (.inl x2), some (.inl x3)], [.inl (U 86 40), .inr (.inr 97), .inl x3], (am_sh, am_mm U))) 5 (fun _ => rfl) ?_
  refine eu_iald 97 (n := 2) rfl (by decide) rfl (fun _ => rfl) h.1 ?_
  have ha := h.2
  refine ev_br (P := (U 97 (U 86 40).toNat) ≤ x3) (σ1 := (d, 270, 49, [some (.inr (.inr 86)), some (.inl x1), some (.inl x2), some (.inl x3)], [], (am_sh, am_mm U))) (σ2 := (d, 270, 17, [some (.inr (.inr 86)), some (.inl x1), some (.inl x2), some (.inl x3)], [], (am_sh, am_mm U))) 1 (fun _ => rfl) (fun hc => ?_) (fun hc => ?_)
  · have ha1 := ha.1 hc
    subst ha1
    exact ev_end 2 (fun _ => rfl)
  · have ha2 := ha.2 hc
    refine ev_seg (σ1 := (d, 270, 31, [some (.inr (.inr 86)), some (.inl x1), some (.inl x2), some (.inl x3)], [.inl (w32 ((w32 (16 * (U 86 40))) + x3)), .inr (.inr 99), .inl x2], (am_sh, am_mm U))) 9 (fun _ => rfl) ?_
    refine eu_iald 99 (n := 32) rfl (by decide) rfl (fun _ => rfl) ha2.1 ?_
    have ha2a := ha2.2
    refine ev_br (P := ¬ (U 99 (w32 ((w32 (16 * (U 86 40))) + x3)).toNat) = x1) (σ1 := (d, 270, 40, [some (.inr (.inr 86)), some (.inl x1), some (.inl x2), some (.inl x3)], [.inl x2], (am_sh, am_mm U))) (σ2 := (d, 270, 36, [some (.inr (.inr 86)), some (.inl x1), some (.inl x2), some (.inl x3)], [.inl x2], (am_sh, am_mm U))) 2 (fun _ => rfl) (fun hc => ?_) (fun hc => ?_)
    · have ha2a1 := ha2a.1 hc
      refine ev_seg (σ1 := (d, 270, 4, [some (.inr (.inr 86)), some (.inl x1), some (.inl (w32 (x2 + 0))), some (.inl (w32 (x3 + 1)))], [], (am_sh, am_mm U))) 5 (fun _ => rfl) ?_
      exact ha2a1
    · have ha2a2 := ha2a.2 hc
      refine ev_seg (σ1 := (d, 270, 4, [some (.inr (.inr 86)), some (.inl x1), some (.inl (w32 (x2 + 1))), some (.inl (w32 (x3 + 1)))], [], (am_sh, am_mm U))) 6 (fun _ => rfl) ?_
      exact ha2a2
set_option maxRecDepth 8000 in
theorem st265_86_0 (kz : am_Z) (d : Nat) (U : Nat → Nat → Int) (R : Option am_V × am_M) (h : ∃ U1 : Nat → Nat → Int, Ev kz (d, 186, 0, [some (.inr (.inr 86))], [], (am_sh, am_mm U)) (none, (am_sh, am_mm U1)) ∧ ((((U1 86 8) ≤ 0 : Prop)) → (((¬ (U1 86 3) = 1 : Prop)) → ∃ U2 : Nat → Nat → Int, Ev kz (d, 196, 0, [some (.inr (.inr 86)), some (.inl 1), some (.inl (U1 86 4))], [], (am_sh, am_mm U1)) (none, (am_sh, am_mm U2)) ∧ Ev kz ((d + 1), 265, 43, [some (.inr (.inr 86)), some (.inl 0), none], [], (am_sh, am_mm U2)) R) ∧ (¬ (¬ (U1 86 3) = 1) → ∃ (r3 : Int) (U3 : Nat → Nat → Int), Ev kz (d, 306, 0, [some (.inr (.inr 86)), some (.inr (.inl (U1 86 7))), none], [], (am_sh, am_mm U1)) (some (.inl r3), (am_sh, am_mm U3)) ∧ (((r3 = 0 : Prop)) → Ev kz ((d + 1), 265, 43, [some (.inr (.inr 86)), some (.inl 0), none], [], (am_sh, am_mm U3)) R) ∧ (¬ (r3 = 0) → ∃ U4 : Nat → Nat → Int, Ev kz (d, 196, 0, [some (.inr (.inr 86)), some (.inl 1), some (.inl (U3 86 4))], [], (am_sh, am_mm U3)) (none, (am_sh, am_mm U4)) ∧ Ev kz ((d + 1), 265, 43, [some (.inr (.inr 86)), some (.inl 0), none], [], (am_sh, am_mm U4)) R))) ∧ (¬ ((U1 86 8) ≤ 0) → R = (some (.inr (.inl 0)), (am_sh, am_mm U1)))) : Ev kz ((d + 1), 265, 0, [some (.inr (.inr 86)), none, none], [], (am_sh, am_mm U)) R := by
  refine ev_seg (σ1 := ((d + 1), 265, 1, [some (.inr (.inr 86)), none, none], [.inr (.inr 86)], (am_sh, am_mm U))) 1 (fun _ => rfl) ?_
  obtain ⟨U1, hc, ha⟩ := h
  refine ev_cal (σc := (d, 186, 0, [some (.inr (.inr 86))], [], (am_sh, am_mm U))) (fun _ => rfl) hc ?_
  show Ev kz ((d + 1), 265, 4, [some (.inr (.inr 86)), none, none], [], (am_sh, am_mm U1)) R
  refine ev_br (P := (U1 86 8) ≤ 0) (σ1 := ((d + 1), 265, 13, [some (.inr (.inr 86)), none, none], [], (am_sh, am_mm U1))) (σ2 := ((d + 1), 265, 11, [some (.inr (.inr 86)), none, none], [], (am_sh, am_mm U1))) 3 (fun _ => rfl) (fun hc => ?_) (fun hc => ?_)
  · have ha1 := ha.1 hc
    refine ev_br (P := ¬ (U1 86 3) = 1) (σ1 := ((d + 1), 265, 32, [some (.inr (.inr 86)), none, none], [], (am_sh, am_mm U1))) (σ2 := ((d + 1), 265, 21, [some (.inr (.inr 86)), none, none], [], (am_sh, am_mm U1))) 4 (fun _ => rfl) (fun hc => ?_) (fun hc => ?_)
    · have ha11 := ha1.1 hc
      refine ev_seg (σ1 := ((d + 1), 265, 38, [some (.inr (.inr 86)), none, none], [.inl (U1 86 4), .inl 1, .inr (.inr 86)], (am_sh, am_mm U1))) 4 (fun _ => rfl) ?_
      obtain ⟨U2, ha11c, ha11a⟩ := ha11
      refine ev_cal (σc := (d, 196, 0, [some (.inr (.inr 86)), some (.inl 1), some (.inl (U1 86 4))], [], (am_sh, am_mm U1))) (fun _ => rfl) ha11c ?_
      show Ev kz ((d + 1), 265, 41, [some (.inr (.inr 86)), none, none], [], (am_sh, am_mm U2)) R
      refine ev_seg (σ1 := ((d + 1), 265, 43, [some (.inr (.inr 86)), some (.inl 0), none], [], (am_sh, am_mm U2))) 2 (fun _ => rfl) ?_
      exact ha11a
    · have ha12 := ha1.2 hc
      refine ev_seg (σ1 := ((d + 1), 265, 26, [some (.inr (.inr 86)), none, none], [.inr (.inl (U1 86 7)), .inr (.inr 86)], (am_sh, am_mm U1))) 3 (fun _ => rfl) ?_
      obtain ⟨r3, U3, ha12c, ha12a⟩ := ha12
      refine ev_cal (σc := (d, 306, 0, [some (.inr (.inr 86)), some (.inr (.inl (U1 86 7))), none], [], (am_sh, am_mm U1))) (fun _ => rfl) ha12c ?_
      show Ev kz ((d + 1), 265, 29, [some (.inr (.inr 86)), none, none], [.inl r3], (am_sh, am_mm U3)) R
      refine ev_br (P := r3 = 0) (σ1 := ((d + 1), 265, 41, [some (.inr (.inr 86)), none, none], [], (am_sh, am_mm U3))) (σ2 := ((d + 1), 265, 32, [some (.inr (.inr 86)), none, none], [], (am_sh, am_mm U3))) 1 (fun _ => rfl) (fun hc => ?_) (fun hc => ?_)
      · have ha12a1 := ha12a.1 hc
        refine ev_seg (σ1 := ((d + 1), 265, 43, [some (.inr (.inr 86)), some (.inl 0), none], [], (am_sh, am_mm U3))) 2 (fun _ => rfl) ?_
        exact ha12a1
      · have ha12a2 := ha12a.2 hc
        refine ev_seg (σ1 := ((d + 1), 265, 38, [some (.inr (.inr 86)), none, none], [.inl (U3 86 4), .inl 1, .inr (.inr 86)], (am_sh, am_mm U3))) 4 (fun _ => rfl) ?_
        obtain ⟨U4, ha12a2c, ha12a2a⟩ := ha12a2
        refine ev_cal (σc := (d, 196, 0, [some (.inr (.inr 86)), some (.inl 1), some (.inl (U3 86 4))], [], (am_sh, am_mm U3))) (fun _ => rfl) ha12a2c ?_
        show Ev kz ((d + 1), 265, 41, [some (.inr (.inr 86)), none, none], [], (am_sh, am_mm U4)) R
        refine ev_seg (σ1 := ((d + 1), 265, 43, [some (.inr (.inr 86)), some (.inl 0), none], [], (am_sh, am_mm U4))) 2 (fun _ => rfl) ?_
        exact ha12a2a
  · have ha2 := ha.2 hc
    subst ha2
    exact ev_end 2 (fun _ => rfl)
set_option maxRecDepth 8000 in
theorem st265_86_43 (kz : am_Z) (d : Nat) (x1 : Int) (U : Nat → Nat → Int) (R : Option am_V × am_M) (h : (((1 < x1 : Prop)) → (((¬ (U 86 8) = 0 : Prop)) → R = (some (.inr (.inl (U 86 7))), (am_sh, am_mm U))) ∧ (¬ (¬ (U 86 8) = 0) → ∃ U1 : Nat → Nat → Int, Ev kz (d, 93, 0, [some (.inr (.inr 86)), none, none, none, none, none], [], (am_sh, am_mm U)) (none, (am_sh, am_mm U1)) ∧ R = (some (.inr (.inl (U 86 7))), (am_sh, am_mm U1)))) ∧ (¬ (1 < x1) → (((¬ (U 86 8) = 0 : Prop)) → (((¬ (U 86 8) = 0 : Prop)) → R = (some (.inr (.inl (U 86 7))), (am_sh, am_mm U))) ∧ (¬ (¬ (U 86 8) = 0) → ∃ U2 : Nat → Nat → Int, Ev kz (d, 93, 0, [some (.inr (.inr 86)), none, none, none, none, none], [], (am_sh, am_mm U)) (none, (am_sh, am_mm U2)) ∧ R = (some (.inr (.inl (U 86 7))), (am_sh, am_mm U2)))) ∧ (¬ (¬ (U 86 8) = 0) → ∃ (r3 : Int) (U3 : Nat → Nat → Int), Ev kz (d, 307, 0, [some (.inr (.inr 86)), some (.inl x1), some (.inr (.inl (U 86 7))), none, none], [], (am_sh, am_mm U)) (some (.inl r3), (am_sh, am_mm U3)) ∧ (((r3 = (-1) : Prop)) → Ev kz ((d + 1), 265, 43, [some (.inr (.inr 86)), some (.inl (w32 (x1 + 1))), none], [], (am_sh, am_mm U3)) R) ∧ (¬ (r3 = (-1)) → ∃ U4 : Nat → Nat → Int, Ev kz (d, 196, 0, [some (.inr (.inr 86)), some (.inl 2), some (.inl (U3 86 4))], [], (am_sh, am_mm U3)) (none, (am_sh, am_mm U4)) ∧ Ev kz ((d + 1), 265, 43, [some (.inr (.inr 86)), some (.inl (w32 (x1 + 1))), none], [], (am_sh, am_mm U4)) R)))) : Ev kz ((d + 1), 265, 43, [some (.inr (.inr 86)), some (.inl x1), none], [], (am_sh, am_mm U)) R := by
  refine ev_br (P := 1 < x1) (σ1 := ((d + 1), 265, 83, [some (.inr (.inr 86)), some (.inl x1), none], [], (am_sh, am_mm U))) (σ2 := ((d + 1), 265, 48, [some (.inr (.inr 86)), some (.inl x1), none], [], (am_sh, am_mm U))) 3 (fun _ => rfl) (fun hc => ?_) (fun hc => ?_)
  · have h1 := h.1 hc
    refine ev_br (P := ¬ (U 86 8) = 0) (σ1 := ((d + 1), 265, 99, [some (.inr (.inr 86)), some (.inr (.inl (U 86 7))), none], [], (am_sh, am_mm U))) (σ2 := ((d + 1), 265, 95, [some (.inr (.inr 86)), some (.inr (.inl (U 86 7))), none], [], (am_sh, am_mm U))) 6 (fun _ => rfl) (fun hc => ?_) (fun hc => ?_)
    · have h11 := h1.1 hc
      subst h11
      exact ev_end 2 (fun _ => rfl)
    · have h12 := h1.2 hc
      refine ev_seg (σ1 := ((d + 1), 265, 96, [some (.inr (.inr 86)), some (.inr (.inl (U 86 7))), none], [.inr (.inr 86)], (am_sh, am_mm U))) 1 (fun _ => rfl) ?_
      obtain ⟨U1, h12c, h12a⟩ := h12
      refine ev_cal (σc := (d, 93, 0, [some (.inr (.inr 86)), none, none, none, none, none], [], (am_sh, am_mm U))) (fun _ => rfl) h12c ?_
      show Ev kz ((d + 1), 265, 99, [some (.inr (.inr 86)), some (.inr (.inl (U 86 7))), none], [], (am_sh, am_mm U1)) R
      subst h12a
      exact ev_end 2 (fun _ => rfl)
  · have h2 := h.2 hc
    refine ev_br (P := ¬ (U 86 8) = 0) (σ1 := ((d + 1), 265, 83, [some (.inr (.inr 86)), some (.inl x1), none], [], (am_sh, am_mm U))) (σ2 := ((d + 1), 265, 55, [some (.inr (.inr 86)), some (.inl x1), none], [], (am_sh, am_mm U))) 3 (fun _ => rfl) (fun hc => ?_) (fun hc => ?_)
    · have h21 := h2.1 hc
      refine ev_br (P := ¬ (U 86 8) = 0) (σ1 := ((d + 1), 265, 99, [some (.inr (.inr 86)), some (.inr (.inl (U 86 7))), none], [], (am_sh, am_mm U))) (σ2 := ((d + 1), 265, 95, [some (.inr (.inr 86)), some (.inr (.inl (U 86 7))), none], [], (am_sh, am_mm U))) 6 (fun _ => rfl) (fun hc => ?_) (fun hc => ?_)
      · have h211 := h21.1 hc
        subst h211
        exact ev_end 2 (fun _ => rfl)
      · have h212 := h21.2 hc
        refine ev_seg (σ1 := ((d + 1), 265, 96, [some (.inr (.inr 86)), some (.inr (.inl (U 86 7))), none], [.inr (.inr 86)], (am_sh, am_mm U))) 1 (fun _ => rfl) ?_
        obtain ⟨U2, h212c, h212a⟩ := h212
        refine ev_cal (σc := (d, 93, 0, [some (.inr (.inr 86)), none, none, none, none, none], [], (am_sh, am_mm U))) (fun _ => rfl) h212c ?_
        show Ev kz ((d + 1), 265, 99, [some (.inr (.inr 86)), some (.inr (.inl (U 86 7))), none], [], (am_sh, am_mm U2)) R
        subst h212a
        exact ev_end 2 (fun _ => rfl)
    · have h22 := h2.2 hc
      refine ev_seg (σ1 := ((d + 1), 265, 61, [some (.inr (.inr 86)), some (.inl x1), none], [.inr (.inl (U 86 7)), .inl x1, .inr (.inr 86)], (am_sh, am_mm U))) 4 (fun _ => rfl) ?_
      obtain ⟨r3, U3, h22c, h22a⟩ := h22
      refine ev_cal (σc := (d, 307, 0, [some (.inr (.inr 86)), some (.inl x1), some (.inr (.inl (U 86 7))), none, none], [], (am_sh, am_mm U))) (fun _ => rfl) h22c ?_
      show Ev kz ((d + 1), 265, 64, [some (.inr (.inr 86)), some (.inl x1), none], [.inl r3], (am_sh, am_mm U3)) R
      refine ev_br (P := r3 = (-1)) (σ1 := ((d + 1), 265, 77, [some (.inr (.inr 86)), some (.inl x1), none], [], (am_sh, am_mm U3))) (σ2 := ((d + 1), 265, 68, [some (.inr (.inr 86)), some (.inl x1), none], [], (am_sh, am_mm U3))) 2 (fun _ => rfl) (fun hc => ?_) (fun hc => ?_)
      · have h22a1 := h22a.1 hc
        refine ev_seg (σ1 := ((d + 1), 265, 43, [some (.inr (.inr 86)), some (.inl (w32 (x1 + 1))), none], [], (am_sh, am_mm U3))) 2 (fun _ => rfl) ?_
        exact h22a1
      · have h22a2 := h22a.2 hc
        refine ev_seg (σ1 := ((d + 1), 265, 74, [some (.inr (.inr 86)), some (.inl x1), none], [.inl (U3 86 4), .inl 2, .inr (.inr 86)], (am_sh, am_mm U3))) 4 (fun _ => rfl) ?_
        obtain ⟨U4, h22a2c, h22a2a⟩ := h22a2
        refine ev_cal (σc := (d, 196, 0, [some (.inr (.inr 86)), some (.inl 2), some (.inl (U3 86 4))], [], (am_sh, am_mm U3))) (fun _ => rfl) h22a2c ?_
        show Ev kz ((d + 1), 265, 77, [some (.inr (.inr 86)), some (.inl x1), none], [], (am_sh, am_mm U4)) R
        refine ev_seg (σ1 := ((d + 1), 265, 43, [some (.inr (.inr 86)), some (.inl (w32 (x1 + 1))), none], [], (am_sh, am_mm U4))) 2 (fun _ => rfl) ?_
        exact h22a2a
set_option maxRecDepth 8000 in
theorem st266_86_0 (kz : am_Z) (d : Nat) (x1 : Int) (U : Nat → Nat → Int) (R : Option am_V × am_M) (h : ∃ U1 : Nat → Nat → Int, Ev kz (d, 186, 0, [some (.inr (.inr 86))], [], (am_sh, am_mm U)) (none, (am_sh, am_mm U1)) ∧ ((((U1 86 8) ≤ 0 : Prop)) → ∃ (r2 : Int) (U2 : Nat → Nat → Int), Ev kz (d, 187, 0, [some (.inr (.inr 86)), some (.inr (.inl x1)), none], [], (am_sh, am_mm U1)) (some (.inl r2), (am_sh, am_mm U2)) ∧ (((¬ r2 = 0 : Prop)) → (((¬ (U2 86 8) = 0 : Prop)) → R = (none, (am_sh, am_mm U2))) ∧ (¬ (¬ (U2 86 8) = 0) → ∃ U3 : Nat → Nat → Int, Ev kz (d, 93, 0, [some (.inr (.inr 86)), none, none, none, none, none], [], (am_sh, am_mm U2)) (none, (am_sh, am_mm U3)) ∧ R = (none, (am_sh, am_mm U3)))) ∧ (¬ (¬ r2 = 0) → ∃ U4 : Nat → Nat → Int, Ev kz (d, 196, 0, [some (.inr (.inr 86)), some (.inl 1), some (.inl (U2 86 4))], [], (am_sh, am_mm U2)) (none, (am_sh, am_mm U4)) ∧ (((¬ (U4 86 8) = 0 : Prop)) → R = (none, (am_sh, am_mm U4))) ∧ (¬ (¬ (U4 86 8) = 0) → ∃ U5 : Nat → Nat → Int, Ev kz (d, 93, 0, [some (.inr (.inr 86)), none, none, none, none, none], [], (am_sh, am_mm U4)) (none, (am_sh, am_mm U5)) ∧ R = (none, (am_sh, am_mm U5))))) ∧ (¬ ((U1 86 8) ≤ 0) → R = (none, (am_sh, am_mm U1)))) : Ev kz ((d + 1), 266, 0, [some (.inr (.inr 86)), some (.inr (.inl x1)), none], [], (am_sh, am_mm U)) R := by
  refine ev_seg (σ1 := ((d + 1), 266, 1, [some (.inr (.inr 86)), some (.inr (.inl x1)), none], [.inr (.inr 86)], (am_sh, am_mm U))) 1 (fun _ => rfl) ?_
  obtain ⟨U1, hc, ha⟩ := h
  refine ev_cal (σc := (d, 186, 0, [some (.inr (.inr 86))], [], (am_sh, am_mm U))) (fun _ => rfl) hc ?_
  show Ev kz ((d + 1), 266, 4, [some (.inr (.inr 86)), some (.inr (.inl x1)), none], [], (am_sh, am_mm U1)) R
  refine ev_br (P := (U1 86 8) ≤ 0) (σ1 := ((d + 1), 266, 12, [some (.inr (.inr 86)), some (.inr (.inl x1)), none], [], (am_sh, am_mm U1))) (σ2 := ((d + 1), 266, 11, [some (.inr (.inr 86)), some (.inr (.inl x1)), none], [], (am_sh, am_mm U1))) 3 (fun _ => rfl) (fun hc => ?_) (fun hc => ?_)
  · have ha1 := ha.1 hc
    refine ev_seg (σ1 := ((d + 1), 266, 14, [some (.inr (.inr 86)), some (.inr (.inl x1)), none], [.inr (.inl x1), .inr (.inr 86)], (am_sh, am_mm U1))) 2 (fun _ => rfl) ?_
    obtain ⟨r2, U2, ha1c, ha1a⟩ := ha1
    refine ev_cal (σc := (d, 187, 0, [some (.inr (.inr 86)), some (.inr (.inl x1)), none], [], (am_sh, am_mm U1))) (fun _ => rfl) ha1c ?_
    show Ev kz ((d + 1), 266, 17, [some (.inr (.inr 86)), some (.inr (.inl x1)), none], [.inl r2], (am_sh, am_mm U2)) R
    refine ev_br (P := ¬ r2 = 0) (σ1 := ((d + 1), 266, 29, [some (.inr (.inr 86)), some (.inr (.inl x1)), none], [], (am_sh, am_mm U2))) (σ2 := ((d + 1), 266, 20, [some (.inr (.inr 86)), some (.inr (.inl x1)), none], [], (am_sh, am_mm U2))) 1 (fun _ => rfl) (fun hc => ?_) (fun hc => ?_)
    · have ha1a1 := ha1a.1 hc
      refine ev_br (P := ¬ (U2 86 8) = 0) (σ1 := ((d + 1), 266, 40, [some (.inr (.inr 86)), some (.inr (.inl x1)), none], [], (am_sh, am_mm U2))) (σ2 := ((d + 1), 266, 36, [some (.inr (.inr 86)), some (.inr (.inl x1)), none], [], (am_sh, am_mm U2))) 3 (fun _ => rfl) (fun hc => ?_) (fun hc => ?_)
      · have ha1a11 := ha1a1.1 hc
        subst ha1a11
        exact ev_end 1 (fun _ => rfl)
      · have ha1a12 := ha1a1.2 hc
        refine ev_seg (σ1 := ((d + 1), 266, 37, [some (.inr (.inr 86)), some (.inr (.inl x1)), none], [.inr (.inr 86)], (am_sh, am_mm U2))) 1 (fun _ => rfl) ?_
        obtain ⟨U3, ha1a12c, ha1a12a⟩ := ha1a12
        refine ev_cal (σc := (d, 93, 0, [some (.inr (.inr 86)), none, none, none, none, none], [], (am_sh, am_mm U2))) (fun _ => rfl) ha1a12c ?_
        show Ev kz ((d + 1), 266, 40, [some (.inr (.inr 86)), some (.inr (.inl x1)), none], [], (am_sh, am_mm U3)) R
        subst ha1a12a
        exact ev_end 1 (fun _ => rfl)
    · have ha1a2 := ha1a.2 hc
      refine ev_seg (σ1 := ((d + 1), 266, 26, [some (.inr (.inr 86)), some (.inr (.inl x1)), none], [.inl (U2 86 4), .inl 1, .inr (.inr 86)], (am_sh, am_mm U2))) 4 (fun _ => rfl) ?_
      obtain ⟨U4, ha1a2c, ha1a2a⟩ := ha1a2
      refine ev_cal (σc := (d, 196, 0, [some (.inr (.inr 86)), some (.inl 1), some (.inl (U2 86 4))], [], (am_sh, am_mm U2))) (fun _ => rfl) ha1a2c ?_
      show Ev kz ((d + 1), 266, 29, [some (.inr (.inr 86)), some (.inr (.inl x1)), none], [], (am_sh, am_mm U4)) R
      refine ev_br (P := ¬ (U4 86 8) = 0) (σ1 := ((d + 1), 266, 40, [some (.inr (.inr 86)), some (.inr (.inl x1)), none], [], (am_sh, am_mm U4))) (σ2 := ((d + 1), 266, 36, [some (.inr (.inr 86)), some (.inr (.inl x1)), none], [], (am_sh, am_mm U4))) 3 (fun _ => rfl) (fun hc => ?_) (fun hc => ?_)
      · have ha1a2a1 := ha1a2a.1 hc
        subst ha1a2a1
        exact ev_end 1 (fun _ => rfl)
      · have ha1a2a2 := ha1a2a.2 hc
        refine ev_seg (σ1 := ((d + 1), 266, 37, [some (.inr (.inr 86)), some (.inr (.inl x1)), none], [.inr (.inr 86)], (am_sh, am_mm U4))) 1 (fun _ => rfl) ?_
        obtain ⟨U5, ha1a2a2c, ha1a2a2a⟩ := ha1a2a2
        refine ev_cal (σc := (d, 93, 0, [some (.inr (.inr 86)), none, none, none, none, none], [], (am_sh, am_mm U4))) (fun _ => rfl) ha1a2a2c ?_
        show Ev kz ((d + 1), 266, 40, [some (.inr (.inr 86)), some (.inr (.inl x1)), none], [], (am_sh, am_mm U5)) R
        subst ha1a2a2a
        exact ev_end 1 (fun _ => rfl)
  · have ha2 := ha.2 hc
    subst ha2
    exact ev_end 1 (fun _ => rfl)
set_option maxRecDepth 8000 in
theorem st113_86_0 (kz : am_Z) (d : Nat) (x1 x2 x3 : Int) (U : Nat → Nat → Int) (R : Option am_V × am_M) (h : (((¬ x2 = x3 : Prop)) → (0 ≤ (w32 ((w32 (12 * x1)) + x2)) ∧ (w32 ((w32 (12 * x1)) + x2)) < 24) ∧ (0 ≤ (w32 ((w32 (12 * x1)) + x3)) ∧ (w32 ((w32 (12 * x1)) + x3)) < 24) ∧ (((¬ (U 92 (w32 ((w32 (12 * x1)) + x2)).toNat) = (U 92 (w32 ((w32 (12 * x1)) + x3)).toNat) : Prop)) → Ev kz ((d + 1), 113, 64, [some (.inr (.inr 86)), some (.inl x1), some (.inl x2), some (.inl x3), some (.inl 0), none], [], (am_sh, am_mm U)) R) ∧ (¬ (¬ (U 92 (w32 ((w32 (12 * x1)) + x2)).toNat) = (U 92 (w32 ((w32 (12 * x1)) + x3)).toNat)) → ∃ (r1 : Int) (U1 : Nat → Nat → Int), Ev kz (d, 112, 0, [some (.inr (.inr 86)), some (.inl x1), some (.inl x2), none, none], [], (am_sh, am_mm U)) (some (.inl r1), (am_sh, am_mm U1)) ∧ ∃ (r2 : Int) (U2 : Nat → Nat → Int), Ev kz (d, 112, 0, [some (.inr (.inr 86)), some (.inl x1), some (.inl x3), none, none], [], (am_sh, am_mm U1)) (some (.inl r2), (am_sh, am_mm U2)) ∧ ((((w32 (r1 - r2)) = 1 : Prop)) → R = (some (.inl 1), (am_sh, am_mm U2))) ∧ (¬ ((w32 (r1 - r2)) = 1) → (((¬ (w32 (r1 - r2)) = (-1) : Prop)) → Ev kz ((d + 1), 113, 64, [some (.inr (.inr 86)), some (.inl x1), some (.inl x2), some (.inl x3), some (.inl 0), none], [], (am_sh, am_mm U2)) R) ∧ (¬ (¬ (w32 (r1 - r2)) = (-1)) → R = (some (.inl 1), (am_sh, am_mm U2)))))) ∧ (¬ (¬ x2 = x3) → R = (some (.inl 0), (am_sh, am_mm U)))) : Ev kz ((d + 1), 113, 0, [some (.inr (.inr 86)), some (.inl x1), some (.inl x2), some (.inl x3), none, none], [], (am_sh, am_mm U)) R := by
  refine ev_br (P := ¬ x2 = x3) (σ1 := ((d + 1), 113, 7, [some (.inr (.inr 86)), some (.inl x1), some (.inl x2), some (.inl x3), none, none], [], (am_sh, am_mm U))) (σ2 := ((d + 1), 113, 5, [some (.inr (.inr 86)), some (.inl x1), some (.inl x2), some (.inl x3), none, none], [], (am_sh, am_mm U))) 3 (fun _ => rfl) (fun hc => ?_) (fun hc => ?_)
  · have h1 := h.1 hc
    refine ev_seg (σ1 := ((d + 1), 113, 17, [some (.inr (.inr 86)), some (.inl x1), some (.inl x2), some (.inl x3), none, none], [.inl (w32 ((w32 (12 * x1)) + x2)), .inr (.inr 92)], (am_sh, am_mm U))) 7 (fun _ => rfl) ?_
    refine eu_iald 92 (n := 24) rfl (by decide) rfl (fun _ => rfl) h1.1 ?_
    have h1a := h1.2
    refine ev_seg (σ1 := ((d + 1), 113, 28, [some (.inr (.inr 86)), some (.inl x1), some (.inl x2), some (.inl x3), none, none], [.inl (w32 ((w32 (12 * x1)) + x3)), .inr (.inr 92), .inl (U 92 (w32 ((w32 (12 * x1)) + x2)).toNat)], (am_sh, am_mm U))) 7 (fun _ => rfl) ?_
    refine eu_iald 92 (n := 24) rfl (by decide) rfl (fun _ => rfl) h1a.1 ?_
    have h1aa := h1a.2
    refine ev_br (P := ¬ (U 92 (w32 ((w32 (12 * x1)) + x2)).toNat) = (U 92 (w32 ((w32 (12 * x1)) + x3)).toNat)) (σ1 := ((d + 1), 113, 61, [some (.inr (.inr 86)), some (.inl x1), some (.inl x2), some (.inl x3), none, none], [], (am_sh, am_mm U))) (σ2 := ((d + 1), 113, 32, [some (.inr (.inr 86)), some (.inl x1), some (.inl x2), some (.inl x3), none, none], [], (am_sh, am_mm U))) 1 (fun _ => rfl) (fun hc => ?_) (fun hc => ?_)
    · have h1aa1 := h1aa.1 hc
      refine ev_seg (σ1 := ((d + 1), 113, 64, [some (.inr (.inr 86)), some (.inl x1), some (.inl x2), some (.inl x3), some (.inl 0), none], [], (am_sh, am_mm U))) 2 (fun _ => rfl) ?_
      exact h1aa1
    · have h1aa2 := h1aa.2 hc
      refine ev_seg (σ1 := ((d + 1), 113, 35, [some (.inr (.inr 86)), some (.inl x1), some (.inl x2), some (.inl x3), none, none], [.inl x2, .inl x1, .inr (.inr 86)], (am_sh, am_mm U))) 3 (fun _ => rfl) ?_
      obtain ⟨r1, U1, h1aa2c, h1aa2a⟩ := h1aa2
      refine ev_cal (σc := (d, 112, 0, [some (.inr (.inr 86)), some (.inl x1), some (.inl x2), none, none], [], (am_sh, am_mm U))) (fun _ => rfl) h1aa2c ?_
      show Ev kz ((d + 1), 113, 38, [some (.inr (.inr 86)), some (.inl x1), some (.inl x2), some (.inl x3), none, none], [.inl r1], (am_sh, am_mm U1)) R
      refine ev_seg (σ1 := ((d + 1), 113, 41, [some (.inr (.inr 86)), some (.inl x1), some (.inl x2), some (.inl x3), none, none], [.inl x3, .inl x1, .inr (.inr 86), .inl r1], (am_sh, am_mm U1))) 3 (fun _ => rfl) ?_
      obtain ⟨r2, U2, h1aa2ac, h1aa2aa⟩ := h1aa2a
      refine ev_cal (σc := (d, 112, 0, [some (.inr (.inr 86)), some (.inl x1), some (.inl x3), none, none], [], (am_sh, am_mm U1))) (fun _ => rfl) h1aa2ac ?_
      show Ev kz ((d + 1), 113, 44, [some (.inr (.inr 86)), some (.inl x1), some (.inl x2), some (.inl x3), none, none], [.inl r2, .inl r1], (am_sh, am_mm U2)) R
      refine ev_br (P := (w32 (r1 - r2)) = 1) (σ1 := ((d + 1), 113, 59, [some (.inr (.inr 86)), some (.inl x1), some (.inl x2), some (.inl x3), some (.inl (w32 (r1 - r2))), none], [], (am_sh, am_mm U2))) (σ2 := ((d + 1), 113, 53, [some (.inr (.inr 86)), some (.inl x1), some (.inl x2), some (.inl x3), some (.inl (w32 (r1 - r2))), none], [], (am_sh, am_mm U2))) 5 (fun _ => rfl) (fun hc => ?_) (fun hc => ?_)
      · have h1aa2aa1 := h1aa2aa.1 hc
        subst h1aa2aa1
        exact ev_end 2 (fun _ => rfl)
      · have h1aa2aa2 := h1aa2aa.2 hc
        refine ev_br (P := ¬ (w32 (r1 - r2)) = (-1)) (σ1 := ((d + 1), 113, 61, [some (.inr (.inr 86)), some (.inl x1), some (.inl x2), some (.inl x3), some (.inl (w32 (r1 - r2))), none], [], (am_sh, am_mm U2))) (σ2 := ((d + 1), 113, 59, [some (.inr (.inr 86)), some (.inl x1), some (.inl x2), some (.inl x3), some (.inl (w32 (r1 - r2))), none], [], (am_sh, am_mm U2))) 3 (fun _ => rfl) (fun hc => ?_) (fun hc => ?_)
        · have h1aa2aa21 := h1aa2aa2.1 hc
          refine ev_seg (σ1 := ((d + 1), 113, 64, [some (.inr (.inr 86)), some (.inl x1), some (.inl x2), some (.inl x3), some (.inl 0), none], [], (am_sh, am_mm U2))) 2 (fun _ => rfl) ?_
          exact h1aa2aa21
        · have h1aa2aa22 := h1aa2aa2.2 hc
          subst h1aa2aa22
          exact ev_end 2 (fun _ => rfl)
  · have h2 := h.2 hc
    subst h2
    exact ev_end 2 (fun _ => rfl)
set_option maxRecDepth 8000 in
theorem st113_86_64 (kz : am_Z) (d : Nat) (x1 x2 x3 x4 : Int) (U : Nat → Nat → Int) (R : Option am_V × am_M) (h : (0 ≤ x1 ∧ x1 < 2) ∧ ((((U 94 x1.toNat) ≤ x4 : Prop)) → R = (some (.inl 0), (am_sh, am_mm U))) ∧ (¬ ((U 94 x1.toNat) ≤ x4) → (0 ≤ (w32 ((w32 (10 * x1)) + x4)) ∧ (w32 ((w32 (10 * x1)) + x4)) < 20) ∧ (((¬ (U 95 (w32 ((w32 (10 * x1)) + x4)).toNat) = x2 : Prop)) → (0 ≤ (w32 ((w32 (10 * x1)) + x4)) ∧ (w32 ((w32 (10 * x1)) + x4)) < 20) ∧ (((¬ (U 95 (w32 ((w32 (10 * x1)) + x4)).toNat) = x3 : Prop)) → Ev kz ((d + 1), 113, 64, [some (.inr (.inr 86)), some (.inl x1), some (.inl x2), some (.inl x3), some (.inl (w32 (x4 + 1))), some (.inl (w32 ((w32 (10 * x1)) + x4)))], [], (am_sh, am_mm U)) R) ∧ (¬ (¬ (U 95 (w32 ((w32 (10 * x1)) + x4)).toNat) = x3) → (0 ≤ (w32 ((w32 (10 * x1)) + x4)) ∧ (w32 ((w32 (10 * x1)) + x4)) < 20) ∧ (((¬ (U 96 (w32 ((w32 (10 * x1)) + x4)).toNat) = x2 : Prop)) → Ev kz ((d + 1), 113, 64, [some (.inr (.inr 86)), some (.inl x1), some (.inl x2), some (.inl x3), some (.inl (w32 (x4 + 1))), some (.inl (w32 ((w32 (10 * x1)) + x4)))], [], (am_sh, am_mm U)) R) ∧ (¬ (¬ (U 96 (w32 ((w32 (10 * x1)) + x4)).toNat) = x2) → R = (some (.inl 1), (am_sh, am_mm U))))) ∧ (¬ (¬ (U 95 (w32 ((w32 (10 * x1)) + x4)).toNat) = x2) → (0 ≤ (w32 ((w32 (10 * x1)) + x4)) ∧ (w32 ((w32 (10 * x1)) + x4)) < 20) ∧ ((((U 96 (w32 ((w32 (10 * x1)) + x4)).toNat) = x3 : Prop)) → R = (some (.inl 1), (am_sh, am_mm U))) ∧ (¬ ((U 96 (w32 ((w32 (10 * x1)) + x4)).toNat) = x3) → (0 ≤ (w32 ((w32 (10 * x1)) + x4)) ∧ (w32 ((w32 (10 * x1)) + x4)) < 20) ∧ (((¬ (U 95 (w32 ((w32 (10 * x1)) + x4)).toNat) = x3 : Prop)) → Ev kz ((d + 1), 113, 64, [some (.inr (.inr 86)), some (.inl x1), some (.inl x2), some (.inl x3), some (.inl (w32 (x4 + 1))), some (.inl (w32 ((w32 (10 * x1)) + x4)))], [], (am_sh, am_mm U)) R) ∧ (¬ (¬ (U 95 (w32 ((w32 (10 * x1)) + x4)).toNat) = x3) → (0 ≤ (w32 ((w32 (10 * x1)) + x4)) ∧ (w32 ((w32 (10 * x1)) + x4)) < 20) ∧ (((¬ (U 96 (w32 ((w32 (10 * x1)) + x4)).toNat) = x2 : Prop)) → Ev kz ((d + 1), 113, 64, [some (.inr (.inr 86)), some (.inl x1), some (.inl x2), some (.inl x3), some (.inl (w32 (x4 + 1))), some (.inl (w32 ((w32 (10 * x1)) + x4)))], [], (am_sh, am_mm U)) R) ∧ (¬ (¬ (U 96 (w32 ((w32 (10 * x1)) + x4)).toNat) = x2) → R = (some (.inl 1), (am_sh, am_mm U)))))))) : Ev kz ((d + 1), 113, 64, [some (.inr (.inr 86)), some (.inl x1), some (.inl x2), some (.inl x3), some (.inl x4), none], [], (am_sh, am_mm U)) R := by
  refine ev_seg (σ1 := ((d + 1), 113, 71, [some (.inr (.inr 86)), some (.inl x1), some (.inl x2), some (.inl x3), some (.inl x4), none], [.inl x1, .inr (.inr 94), .inl x4], (am_sh, am_mm U))) 4 (fun _ => rfl) ?_
  refine eu_iald 94 (n := 2) rfl (by decide) rfl (fun _ => rfl) h.1 ?_
  have ha := h.2
  refine ev_br (P := (U 94 x1.toNat) ≤ x4) (σ1 := ((d + 1), 113, 136, [some (.inr (.inr 86)), some (.inl x1), some (.inl x2), some (.inl x3), some (.inl x4), none], [], (am_sh, am_mm U))) (σ2 := ((d + 1), 113, 75, [some (.inr (.inr 86)), some (.inl x1), some (.inl x2), some (.inl x3), some (.inl x4), none], [], (am_sh, am_mm U))) 1 (fun _ => rfl) (fun hc => ?_) (fun hc => ?_)
  · have ha1 := ha.1 hc
    subst ha1
    exact ev_end 2 (fun _ => rfl)
  · have ha2 := ha.2 hc
    refine ev_seg (σ1 := ((d + 1), 113, 90, [some (.inr (.inr 86)), some (.inl x1), some (.inl x2), some (.inl x3), some (.inl x4), some (.inl (w32 ((w32 (10 * x1)) + x4)))], [.inl (w32 ((w32 (10 * x1)) + x4)), .inr (.inr 95)], (am_sh, am_mm U))) 9 (fun _ => rfl) ?_
    refine eu_iald 95 (n := 20) rfl (by decide) rfl (fun _ => rfl) ha2.1 ?_
    have ha2a := ha2.2
    refine ev_br (P := ¬ (U 95 (w32 ((w32 (10 * x1)) + x4)).toNat) = x2) (σ1 := ((d + 1), 113, 106, [some (.inr (.inr 86)), some (.inl x1), some (.inl x2), some (.inl x3), some (.inl x4), some (.inl (w32 ((w32 (10 * x1)) + x4)))], [], (am_sh, am_mm U))) (σ2 := ((d + 1), 113, 95, [some (.inr (.inr 86)), some (.inl x1), some (.inl x2), some (.inl x3), some (.inl x4), some (.inl (w32 ((w32 (10 * x1)) + x4)))], [], (am_sh, am_mm U))) 2 (fun _ => rfl) (fun hc => ?_) (fun hc => ?_)
    · have ha2a1 := ha2a.1 hc
      refine ev_seg (σ1 := ((d + 1), 113, 112, [some (.inr (.inr 86)), some (.inl x1), some (.inl x2), some (.inl x3), some (.inl x4), some (.inl (w32 ((w32 (10 * x1)) + x4)))], [.inl (w32 ((w32 (10 * x1)) + x4)), .inr (.inr 95)], (am_sh, am_mm U))) 3 (fun _ => rfl) ?_
      refine eu_iald 95 (n := 20) rfl (by decide) rfl (fun _ => rfl) ha2a1.1 ?_
      have ha2a1a := ha2a1.2
      refine ev_br (P := ¬ (U 95 (w32 ((w32 (10 * x1)) + x4)).toNat) = x3) (σ1 := ((d + 1), 113, 130, [some (.inr (.inr 86)), some (.inl x1), some (.inl x2), some (.inl x3), some (.inl x4), some (.inl (w32 ((w32 (10 * x1)) + x4)))], [], (am_sh, am_mm U))) (σ2 := ((d + 1), 113, 117, [some (.inr (.inr 86)), some (.inl x1), some (.inl x2), some (.inl x3), some (.inl x4), some (.inl (w32 ((w32 (10 * x1)) + x4)))], [], (am_sh, am_mm U))) 2 (fun _ => rfl) (fun hc => ?_) (fun hc => ?_)
      · have ha2a1a1 := ha2a1a.1 hc
        refine ev_seg (σ1 := ((d + 1), 113, 64, [some (.inr (.inr 86)), some (.inl x1), some (.inl x2), some (.inl x3), some (.inl (w32 (x4 + 1))), some (.inl (w32 ((w32 (10 * x1)) + x4)))], [], (am_sh, am_mm U))) 2 (fun _ => rfl) ?_
        exact ha2a1a1
      · have ha2a1a2 := ha2a1a.2 hc
        refine ev_seg (σ1 := ((d + 1), 113, 123, [some (.inr (.inr 86)), some (.inl x1), some (.inl x2), some (.inl x3), some (.inl x4), some (.inl (w32 ((w32 (10 * x1)) + x4)))], [.inl (w32 ((w32 (10 * x1)) + x4)), .inr (.inr 96)], (am_sh, am_mm U))) 3 (fun _ => rfl) ?_
        refine eu_iald 96 (n := 20) rfl (by decide) rfl (fun _ => rfl) ha2a1a2.1 ?_
        have ha2a1a2a := ha2a1a2.2
        refine ev_br (P := ¬ (U 96 (w32 ((w32 (10 * x1)) + x4)).toNat) = x2) (σ1 := ((d + 1), 113, 130, [some (.inr (.inr 86)), some (.inl x1), some (.inl x2), some (.inl x3), some (.inl x4), some (.inl (w32 ((w32 (10 * x1)) + x4)))], [], (am_sh, am_mm U))) (σ2 := ((d + 1), 113, 128, [some (.inr (.inr 86)), some (.inl x1), some (.inl x2), some (.inl x3), some (.inl x4), some (.inl (w32 ((w32 (10 * x1)) + x4)))], [], (am_sh, am_mm U))) 2 (fun _ => rfl) (fun hc => ?_) (fun hc => ?_)
        · have ha2a1a2a1 := ha2a1a2a.1 hc
          refine ev_seg (σ1 := ((d + 1), 113, 64, [some (.inr (.inr 86)), some (.inl x1), some (.inl x2), some (.inl x3), some (.inl (w32 (x4 + 1))), some (.inl (w32 ((w32 (10 * x1)) + x4)))], [], (am_sh, am_mm U))) 2 (fun _ => rfl) ?_
          exact ha2a1a2a1
        · have ha2a1a2a2 := ha2a1a2a.2 hc
          subst ha2a1a2a2
          exact ev_end 2 (fun _ => rfl)
    · have ha2a2 := ha2a.2 hc
      refine ev_seg (σ1 := ((d + 1), 113, 101, [some (.inr (.inr 86)), some (.inl x1), some (.inl x2), some (.inl x3), some (.inl x4), some (.inl (w32 ((w32 (10 * x1)) + x4)))], [.inl (w32 ((w32 (10 * x1)) + x4)), .inr (.inr 96)], (am_sh, am_mm U))) 3 (fun _ => rfl) ?_
      refine eu_iald 96 (n := 20) rfl (by decide) rfl (fun _ => rfl) ha2a2.1 ?_
      have ha2a2a := ha2a2.2
      refine ev_br (P := (U 96 (w32 ((w32 (10 * x1)) + x4)).toNat) = x3) (σ1 := ((d + 1), 113, 128, [some (.inr (.inr 86)), some (.inl x1), some (.inl x2), some (.inl x3), some (.inl x4), some (.inl (w32 ((w32 (10 * x1)) + x4)))], [], (am_sh, am_mm U))) (σ2 := ((d + 1), 113, 106, [some (.inr (.inr 86)), some (.inl x1), some (.inl x2), some (.inl x3), some (.inl x4), some (.inl (w32 ((w32 (10 * x1)) + x4)))], [], (am_sh, am_mm U))) 2 (fun _ => rfl) (fun hc => ?_) (fun hc => ?_)
      · have ha2a2a1 := ha2a2a.1 hc
        subst ha2a2a1
        exact ev_end 2 (fun _ => rfl)
      · have ha2a2a2 := ha2a2a.2 hc
        refine ev_seg (σ1 := ((d + 1), 113, 112, [some (.inr (.inr 86)), some (.inl x1), some (.inl x2), some (.inl x3), some (.inl x4), some (.inl (w32 ((w32 (10 * x1)) + x4)))], [.inl (w32 ((w32 (10 * x1)) + x4)), .inr (.inr 95)], (am_sh, am_mm U))) 3 (fun _ => rfl) ?_
        refine eu_iald 95 (n := 20) rfl (by decide) rfl (fun _ => rfl) ha2a2a2.1 ?_
        have ha2a2a2a := ha2a2a2.2
        refine ev_br (P := ¬ (U 95 (w32 ((w32 (10 * x1)) + x4)).toNat) = x3) (σ1 := ((d + 1), 113, 130, [some (.inr (.inr 86)), some (.inl x1), some (.inl x2), some (.inl x3), some (.inl x4), some (.inl (w32 ((w32 (10 * x1)) + x4)))], [], (am_sh, am_mm U))) (σ2 := ((d + 1), 113, 117, [some (.inr (.inr 86)), some (.inl x1), some (.inl x2), some (.inl x3), some (.inl x4), some (.inl (w32 ((w32 (10 * x1)) + x4)))], [], (am_sh, am_mm U))) 2 (fun _ => rfl) (fun hc => ?_) (fun hc => ?_)
        · have ha2a2a2a1 := ha2a2a2a.1 hc
          refine ev_seg (σ1 := ((d + 1), 113, 64, [some (.inr (.inr 86)), some (.inl x1), some (.inl x2), some (.inl x3), some (.inl (w32 (x4 + 1))), some (.inl (w32 ((w32 (10 * x1)) + x4)))], [], (am_sh, am_mm U))) 2 (fun _ => rfl) ?_
          exact ha2a2a2a1
        · have ha2a2a2a2 := ha2a2a2a.2 hc
          refine ev_seg (σ1 := ((d + 1), 113, 123, [some (.inr (.inr 86)), some (.inl x1), some (.inl x2), some (.inl x3), some (.inl x4), some (.inl (w32 ((w32 (10 * x1)) + x4)))], [.inl (w32 ((w32 (10 * x1)) + x4)), .inr (.inr 96)], (am_sh, am_mm U))) 3 (fun _ => rfl) ?_
          refine eu_iald 96 (n := 20) rfl (by decide) rfl (fun _ => rfl) ha2a2a2a2.1 ?_
          have ha2a2a2a2a := ha2a2a2a2.2
          refine ev_br (P := ¬ (U 96 (w32 ((w32 (10 * x1)) + x4)).toNat) = x2) (σ1 := ((d + 1), 113, 130, [some (.inr (.inr 86)), some (.inl x1), some (.inl x2), some (.inl x3), some (.inl x4), some (.inl (w32 ((w32 (10 * x1)) + x4)))], [], (am_sh, am_mm U))) (σ2 := ((d + 1), 113, 128, [some (.inr (.inr 86)), some (.inl x1), some (.inl x2), some (.inl x3), some (.inl x4), some (.inl (w32 ((w32 (10 * x1)) + x4)))], [], (am_sh, am_mm U))) 2 (fun _ => rfl) (fun hc => ?_) (fun hc => ?_)
          · have ha2a2a2a2a1 := ha2a2a2a2a.1 hc
            refine ev_seg (σ1 := ((d + 1), 113, 64, [some (.inr (.inr 86)), some (.inl x1), some (.inl x2), some (.inl x3), some (.inl (w32 (x4 + 1))), some (.inl (w32 ((w32 (10 * x1)) + x4)))], [], (am_sh, am_mm U))) 2 (fun _ => rfl) ?_
            exact ha2a2a2a2a1
          · have ha2a2a2a2a2 := ha2a2a2a2a.2 hc
            subst ha2a2a2a2a2
            exact ev_end 2 (fun _ => rfl)
set_option maxRecDepth 8000 in
theorem st272_45_0 (kz : am_Z) (d : Nat) (x1 x2 x3 : Int) (U : Nat → Nat → Int) (R : Option am_V × am_M) (h : (0 ≤ x1 ∧ x1 < 8) ∧ (((¬ (U 12 x1.toNat) = 8 : Prop)) → (((¬ (U 12 x1.toNat) = 10 : Prop)) → ∃ (r1 : Int) (U1 : Nat → Nat → Int), Ev kz (d, 205, 0, [some (.inr (.inr 45)), some (.inl x2), none, none, none], [], (am_sh, am_mm U)) (some (.inl r1), (am_sh, am_mm U1)) ∧ (((¬ (am_and r1 x3) = 0 : Prop)) → Ev kz ((d + 1), 272, 106, [some (.inr (.inr 45)), some (.inl x1), some (.inl x2), some (.inl x3), some (.inl (U 12 x1.toNat)), some (.inl (am_and r1 x3)), some (.inl 0), some (.inl 0)], [], (am_sh, am_mm U1)) R) ∧ (¬ (¬ (am_and r1 x3) = 0) → R = (some (.inl 0), (am_sh, am_mm U1)))) ∧ (¬ (¬ (U 12 x1.toNat) = 10) → ∃ (r2 : Int) (U2 : Nat → Nat → Int), Ev kz (d, 204, 0, [some (.inr (.inr 45)), some (.inl x2), none], [], (am_sh, am_mm U)) (some (.inl r2), (am_sh, am_mm U2)) ∧ (((¬ (am_and r2 x3) = 0 : Prop)) → Ev kz ((d + 1), 272, 106, [some (.inr (.inr 45)), some (.inl x1), some (.inl x2), some (.inl x3), some (.inl (U 12 x1.toNat)), some (.inl (am_and r2 x3)), some (.inl 0), some (.inl 0)], [], (am_sh, am_mm U2)) R) ∧ (¬ (¬ (am_and r2 x3) = 0) → R = (some (.inl 0), (am_sh, am_mm U2))))) ∧ (¬ (¬ (U 12 x1.toNat) = 8) → (0 ≤ x2 ∧ x2 < 16) ∧ ((((U 18 x2.toNat) = (-1) : Prop)) → (((¬ 1 = 0 : Prop)) → R = (some (.inl 0), (am_sh, am_mm U))) ∧ (¬ (¬ 1 = 0) → ∃ (r3 : Int) (U3 : Nat → Nat → Int), Ev kz (d, 134, 0, [some (.inr (.inr 45)), some (.inl x1), some (.inl x2), some (.inl 0), none, none, none, none, none], [], (am_sh, am_mm U)) (some (.inl r3), (am_sh, am_mm U3)) ∧ (((r3 = 0 : Prop)) → R = (some (.inl 65536), (am_sh, am_mm U3))) ∧ (¬ (r3 = 0) → R = (some (.inl 0), (am_sh, am_mm U3))))) ∧ (¬ ((U 18 x2.toNat) = (-1)) → (((¬ (am_and (am_shr x3 16) 1) = 0 : Prop)) → (((¬ 0 = 0 : Prop)) → R = (some (.inl 0), (am_sh, am_mm U))) ∧ (¬ (¬ 0 = 0) → ∃ (r4 : Int) (U4 : Nat → Nat → Int), Ev kz (d, 134, 0, [some (.inr (.inr 45)), some (.inl x1), some (.inl x2), some (.inl 0), none, none, none, none, none], [], (am_sh, am_mm U)) (some (.inl r4), (am_sh, am_mm U4)) ∧ (((r4 = 0 : Prop)) → R = (some (.inl 65536), (am_sh, am_mm U4))) ∧ (¬ (r4 = 0) → R = (some (.inl 0), (am_sh, am_mm U4))))) ∧ (¬ (¬ (am_and (am_shr x3 16) 1) = 0) → (((¬ 1 = 0 : Prop)) → R = (some (.inl 0), (am_sh, am_mm U))) ∧ (¬ (¬ 1 = 0) → ∃ (r5 : Int) (U5 : Nat → Nat → Int), Ev kz (d, 134, 0, [some (.inr (.inr 45)), some (.inl x1), some (.inl x2), some (.inl 0), none, none, none, none, none], [], (am_sh, am_mm U)) (some (.inl r5), (am_sh, am_mm U5)) ∧ (((r5 = 0 : Prop)) → R = (some (.inl 65536), (am_sh, am_mm U5))) ∧ (¬ (r5 = 0) → R = (some (.inl 0), (am_sh, am_mm U5)))))))) : Ev kz ((d + 1), 272, 0, [some (.inr (.inr 45)), some (.inl x1), some (.inl x2), some (.inl x3), none, none, none, none], [], (am_sh, am_mm U)) R := by
  refine ev_seg (σ1 := ((d + 1), 272, 8, [some (.inr (.inr 45)), some (.inl x1), some (.inl x2), some (.inl x3), none, none, none, none], [.inl x1, .inr (.inr 12)], (am_sh, am_mm U))) 4 (fun _ => rfl) ?_
  refine eu_iald 12 (n := 8) rfl (by decide) rfl (fun _ => rfl) h.1 ?_
  have ha := h.2
  refine ev_br (P := ¬ (U 12 x1.toNat) = 8) (σ1 := ((d + 1), 272, 69, [some (.inr (.inr 45)), some (.inl x1), some (.inl x2), some (.inl x3), some (.inl (U 12 x1.toNat)), none, none, none], [], (am_sh, am_mm U))) (σ2 := ((d + 1), 272, 18, [some (.inr (.inr 45)), some (.inl x1), some (.inl x2), some (.inl x3), some (.inl (U 12 x1.toNat)), none, none, none], [], (am_sh, am_mm U))) 4 (fun _ => rfl) (fun hc => ?_) (fun hc => ?_)
  · have ha1 := ha.1 hc
    refine ev_br (P := ¬ (U 12 x1.toNat) = 10) (σ1 := ((d + 1), 272, 84, [some (.inr (.inr 45)), some (.inl x1), some (.inl x2), some (.inl x3), some (.inl (U 12 x1.toNat)), none, none, none], [], (am_sh, am_mm U))) (σ2 := ((d + 1), 272, 76, [some (.inr (.inr 45)), some (.inl x1), some (.inl x2), some (.inl x3), some (.inl (U 12 x1.toNat)), none, none, none], [], (am_sh, am_mm U))) 3 (fun _ => rfl) (fun hc => ?_) (fun hc => ?_)
    · have ha11 := ha1.1 hc
      refine ev_seg (σ1 := ((d + 1), 272, 86, [some (.inr (.inr 45)), some (.inl x1), some (.inl x2), some (.inl x3), some (.inl (U 12 x1.toNat)), none, none, none], [.inl x2, .inr (.inr 45)], (am_sh, am_mm U))) 2 (fun _ => rfl) ?_
      obtain ⟨r1, U1, ha11c, ha11a⟩ := ha11
      refine ev_cal (σc := (d, 205, 0, [some (.inr (.inr 45)), some (.inl x2), none, none, none], [], (am_sh, am_mm U))) (fun _ => rfl) ha11c ?_
      show Ev kz ((d + 1), 272, 89, [some (.inr (.inr 45)), some (.inl x1), some (.inl x2), some (.inl x3), some (.inl (U 12 x1.toNat)), none, none, none], [.inl r1], (am_sh, am_mm U1)) R
      refine ev_br (P := ¬ (am_and r1 x3) = 0) (σ1 := ((d + 1), 272, 100, [some (.inr (.inr 45)), some (.inl x1), some (.inl x2), some (.inl x3), some (.inl (U 12 x1.toNat)), some (.inl (am_and r1 x3)), none, none], [], (am_sh, am_mm U1))) (σ2 := ((d + 1), 272, 98, [some (.inr (.inr 45)), some (.inl x1), some (.inl x2), some (.inl x3), some (.inl (U 12 x1.toNat)), some (.inl (am_and r1 x3)), none, none], [], (am_sh, am_mm U1))) 5 (fun _ => rfl) (fun hc => ?_) (fun hc => ?_)
      · have ha11a1 := ha11a.1 hc
        refine ev_seg (σ1 := ((d + 1), 272, 106, [some (.inr (.inr 45)), some (.inl x1), some (.inl x2), some (.inl x3), some (.inl (U 12 x1.toNat)), some (.inl (am_and r1 x3)), some (.inl 0), some (.inl 0)], [], (am_sh, am_mm U1))) 4 (fun _ => rfl) ?_
        exact ha11a1
      · have ha11a2 := ha11a.2 hc
        subst ha11a2
        exact ev_end 2 (fun _ => rfl)
    · have ha12 := ha1.2 hc
      refine ev_seg (σ1 := ((d + 1), 272, 78, [some (.inr (.inr 45)), some (.inl x1), some (.inl x2), some (.inl x3), some (.inl (U 12 x1.toNat)), none, none, none], [.inl x2, .inr (.inr 45)], (am_sh, am_mm U))) 2 (fun _ => rfl) ?_
      obtain ⟨r2, U2, ha12c, ha12a⟩ := ha12
      refine ev_cal (σc := (d, 204, 0, [some (.inr (.inr 45)), some (.inl x2), none], [], (am_sh, am_mm U))) (fun _ => rfl) ha12c ?_
      show Ev kz ((d + 1), 272, 81, [some (.inr (.inr 45)), some (.inl x1), some (.inl x2), some (.inl x3), some (.inl (U 12 x1.toNat)), none, none, none], [.inl r2], (am_sh, am_mm U2)) R
      refine ev_br (P := ¬ (am_and r2 x3) = 0) (σ1 := ((d + 1), 272, 100, [some (.inr (.inr 45)), some (.inl x1), some (.inl x2), some (.inl x3), some (.inl (U 12 x1.toNat)), some (.inl (am_and r2 x3)), none, none], [], (am_sh, am_mm U2))) (σ2 := ((d + 1), 272, 98, [some (.inr (.inr 45)), some (.inl x1), some (.inl x2), some (.inl x3), some (.inl (U 12 x1.toNat)), some (.inl (am_and r2 x3)), none, none], [], (am_sh, am_mm U2))) 6 (fun _ => rfl) (fun hc => ?_) (fun hc => ?_)
      · have ha12a1 := ha12a.1 hc
        refine ev_seg (σ1 := ((d + 1), 272, 106, [some (.inr (.inr 45)), some (.inl x1), some (.inl x2), some (.inl x3), some (.inl (U 12 x1.toNat)), some (.inl (am_and r2 x3)), some (.inl 0), some (.inl 0)], [], (am_sh, am_mm U2))) 4 (fun _ => rfl) ?_
        exact ha12a1
      · have ha12a2 := ha12a.2 hc
        subst ha12a2
        exact ev_end 2 (fun _ => rfl)
  · have ha2 := ha.2 hc
    refine ev_seg (σ1 := ((d + 1), 272, 26, [some (.inr (.inr 45)), some (.inl x1), some (.inl x2), some (.inl x3), some (.inl (U 12 x1.toNat)), none, none, none], [.inl x2, .inr (.inr 18)], (am_sh, am_mm U))) 4 (fun _ => rfl) ?_
    refine eu_iald 18 (n := 16) rfl (by decide) rfl (fun _ => rfl) ha2.1 ?_
    have ha2a := ha2.2
    refine ev_br (P := (U 18 x2.toNat) = (-1)) (σ1 := ((d + 1), 272, 40, [some (.inr (.inr 45)), some (.inl x1), some (.inl x2), some (.inl x3), some (.inl (U 12 x1.toNat)), none, none, none], [], (am_sh, am_mm U))) (σ2 := ((d + 1), 272, 31, [some (.inr (.inr 45)), some (.inl x1), some (.inl x2), some (.inl x3), some (.inl (U 12 x1.toNat)), none, none, none], [], (am_sh, am_mm U))) 2 (fun _ => rfl) (fun hc => ?_) (fun hc => ?_)
    · have ha2a1 := ha2a.1 hc
      refine ev_br (P := ¬ 1 = 0) (σ1 := ((d + 1), 272, 62, [some (.inr (.inr 45)), some (.inl x1), some (.inl x2), some (.inl x3), some (.inl (U 12 x1.toNat)), some (.inl 1), none, none], [], (am_sh, am_mm U))) (σ2 := ((d + 1), 272, 52, [some (.inr (.inr 45)), some (.inl x1), some (.inl x2), some (.inl x3), some (.inl (U 12 x1.toNat)), some (.inl 1), none, none], [], (am_sh, am_mm U))) 5 (fun _ => rfl) (fun hc => ?_) (fun hc => ?_)
      · have ha2a11 := ha2a1.1 hc
        subst ha2a11
        exact ev_end 3 (fun _ => rfl)
      · have ha2a12 := ha2a1.2 hc
        refine ev_seg (σ1 := ((d + 1), 272, 56, [some (.inr (.inr 45)), some (.inl x1), some (.inl x2), some (.inl x3), some (.inl (U 12 x1.toNat)), some (.inl 1), none, none], [.inl 0, .inl x2, .inl x1, .inr (.inr 45)], (am_sh, am_mm U))) 4 (fun _ => rfl) ?_
        obtain ⟨r3, U3, ha2a12c, ha2a12a⟩ := ha2a12
        refine ev_cal (σc := (d, 134, 0, [some (.inr (.inr 45)), some (.inl x1), some (.inl x2), some (.inl 0), none, none, none, none, none], [], (am_sh, am_mm U))) (fun _ => rfl) ha2a12c ?_
        show Ev kz ((d + 1), 272, 59, [some (.inr (.inr 45)), some (.inl x1), some (.inl x2), some (.inl x3), some (.inl (U 12 x1.toNat)), some (.inl 1), none, none], [.inl r3], (am_sh, am_mm U3)) R
        refine ev_br (P := r3 = 0) (σ1 := ((d + 1), 272, 66, [some (.inr (.inr 45)), some (.inl x1), some (.inl x2), some (.inl x3), some (.inl (U 12 x1.toNat)), some (.inl 1), none, none], [], (am_sh, am_mm U3))) (σ2 := ((d + 1), 272, 62, [some (.inr (.inr 45)), some (.inl x1), some (.inl x2), some (.inl x3), some (.inl (U 12 x1.toNat)), some (.inl 1), none, none], [], (am_sh, am_mm U3))) 1 (fun _ => rfl) (fun hc => ?_) (fun hc => ?_)
        · have ha2a12a1 := ha2a12a.1 hc
          subst ha2a12a1
          exact ev_end 2 (fun _ => rfl)
        · have ha2a12a2 := ha2a12a.2 hc
          subst ha2a12a2
          exact ev_end 3 (fun _ => rfl)
    · have ha2a2 := ha2a.2 hc
      refine ev_br (P := ¬ (am_and (am_shr x3 16) 1) = 0) (σ1 := ((d + 1), 272, 44, [some (.inr (.inr 45)), some (.inl x1), some (.inl x2), some (.inl x3), some (.inl (U 12 x1.toNat)), none, none, none], [], (am_sh, am_mm U))) (σ2 := ((d + 1), 272, 40, [some (.inr (.inr 45)), some (.inl x1), some (.inl x2), some (.inl x3), some (.inl (U 12 x1.toNat)), none, none, none], [], (am_sh, am_mm U))) 6 (fun _ => rfl) (fun hc => ?_) (fun hc => ?_)
      · have ha2a21 := ha2a2.1 hc
        refine ev_br (P := ¬ 0 = 0) (σ1 := ((d + 1), 272, 62, [some (.inr (.inr 45)), some (.inl x1), some (.inl x2), some (.inl x3), some (.inl (U 12 x1.toNat)), some (.inl 0), none, none], [], (am_sh, am_mm U))) (σ2 := ((d + 1), 272, 52, [some (.inr (.inr 45)), some (.inl x1), some (.inl x2), some (.inl x3), some (.inl (U 12 x1.toNat)), some (.inl 0), none, none], [], (am_sh, am_mm U))) 4 (fun _ => rfl) (fun hc => ?_) (fun hc => ?_)
        · have ha2a211 := ha2a21.1 hc
          subst ha2a211
          exact ev_end 3 (fun _ => rfl)
        · have ha2a212 := ha2a21.2 hc
          refine ev_seg (σ1 := ((d + 1), 272, 56, [some (.inr (.inr 45)), some (.inl x1), some (.inl x2), some (.inl x3), some (.inl (U 12 x1.toNat)), some (.inl 0), none, none], [.inl 0, .inl x2, .inl x1, .inr (.inr 45)], (am_sh, am_mm U))) 4 (fun _ => rfl) ?_
          obtain ⟨r4, U4, ha2a212c, ha2a212a⟩ := ha2a212
          refine ev_cal (σc := (d, 134, 0, [some (.inr (.inr 45)), some (.inl x1), some (.inl x2), some (.inl 0), none, none, none, none, none], [], (am_sh, am_mm U))) (fun _ => rfl) ha2a212c ?_
          show Ev kz ((d + 1), 272, 59, [some (.inr (.inr 45)), some (.inl x1), some (.inl x2), some (.inl x3), some (.inl (U 12 x1.toNat)), some (.inl 0), none, none], [.inl r4], (am_sh, am_mm U4)) R
          refine ev_br (P := r4 = 0) (σ1 := ((d + 1), 272, 66, [some (.inr (.inr 45)), some (.inl x1), some (.inl x2), some (.inl x3), some (.inl (U 12 x1.toNat)), some (.inl 0), none, none], [], (am_sh, am_mm U4))) (σ2 := ((d + 1), 272, 62, [some (.inr (.inr 45)), some (.inl x1), some (.inl x2), some (.inl x3), some (.inl (U 12 x1.toNat)), some (.inl 0), none, none], [], (am_sh, am_mm U4))) 1 (fun _ => rfl) (fun hc => ?_) (fun hc => ?_)
          · have ha2a212a1 := ha2a212a.1 hc
            subst ha2a212a1
            exact ev_end 2 (fun _ => rfl)
          · have ha2a212a2 := ha2a212a.2 hc
            subst ha2a212a2
            exact ev_end 3 (fun _ => rfl)
      · have ha2a22 := ha2a2.2 hc
        refine ev_br (P := ¬ 1 = 0) (σ1 := ((d + 1), 272, 62, [some (.inr (.inr 45)), some (.inl x1), some (.inl x2), some (.inl x3), some (.inl (U 12 x1.toNat)), some (.inl 1), none, none], [], (am_sh, am_mm U))) (σ2 := ((d + 1), 272, 52, [some (.inr (.inr 45)), some (.inl x1), some (.inl x2), some (.inl x3), some (.inl (U 12 x1.toNat)), some (.inl 1), none, none], [], (am_sh, am_mm U))) 5 (fun _ => rfl) (fun hc => ?_) (fun hc => ?_)
        · have ha2a221 := ha2a22.1 hc
          subst ha2a221
          exact ev_end 3 (fun _ => rfl)
        · have ha2a222 := ha2a22.2 hc
          refine ev_seg (σ1 := ((d + 1), 272, 56, [some (.inr (.inr 45)), some (.inl x1), some (.inl x2), some (.inl x3), some (.inl (U 12 x1.toNat)), some (.inl 1), none, none], [.inl 0, .inl x2, .inl x1, .inr (.inr 45)], (am_sh, am_mm U))) 4 (fun _ => rfl) ?_
          obtain ⟨r5, U5, ha2a222c, ha2a222a⟩ := ha2a222
          refine ev_cal (σc := (d, 134, 0, [some (.inr (.inr 45)), some (.inl x1), some (.inl x2), some (.inl 0), none, none, none, none, none], [], (am_sh, am_mm U))) (fun _ => rfl) ha2a222c ?_
          show Ev kz ((d + 1), 272, 59, [some (.inr (.inr 45)), some (.inl x1), some (.inl x2), some (.inl x3), some (.inl (U 12 x1.toNat)), some (.inl 1), none, none], [.inl r5], (am_sh, am_mm U5)) R
          refine ev_br (P := r5 = 0) (σ1 := ((d + 1), 272, 66, [some (.inr (.inr 45)), some (.inl x1), some (.inl x2), some (.inl x3), some (.inl (U 12 x1.toNat)), some (.inl 1), none, none], [], (am_sh, am_mm U5))) (σ2 := ((d + 1), 272, 62, [some (.inr (.inr 45)), some (.inl x1), some (.inl x2), some (.inl x3), some (.inl (U 12 x1.toNat)), some (.inl 1), none, none], [], (am_sh, am_mm U5))) 1 (fun _ => rfl) (fun hc => ?_) (fun hc => ?_)
          · have ha2a222a1 := ha2a222a.1 hc
            subst ha2a222a1
            exact ev_end 2 (fun _ => rfl)
          · have ha2a222a2 := ha2a222a.2 hc
            subst ha2a222a2
            exact ev_end 3 (fun _ => rfl)
set_option maxRecDepth 8000 in
theorem st272_45_106 (kz : am_Z) (d : Nat) (x1 x2 x3 x4 x5 x6 x7 : Int) (U : Nat → Nat → Int) (R : Option am_V × am_M) (h : ((((U 16 0) ≤ x7 : Prop)) → R = (some (.inl x6), (am_sh, am_mm U))) ∧ (¬ ((U 16 0) ≤ x7) → (((¬ (am_and (am_shr x5 x7) 1) = 1 : Prop)) → Ev kz ((d + 1), 272, 106, [some (.inr (.inr 45)), some (.inl x1), some (.inl x2), some (.inl x3), some (.inl x4), some (.inl x5), some (.inl x6), some (.inl (w32 (x7 + 1)))], [], (am_sh, am_mm U)) R) ∧ (¬ (¬ (am_and (am_shr x5 x7) 1) = 1) → (0 ≤ x7 ∧ x7 < 16) ∧ ∃ (r1 : Int) (U1 : Nat → Nat → Int), Ev kz (d, 134, 0, [some (.inr (.inr 45)), some (.inl x1), some (.inl x2), some (.inl (U 17 x7.toNat)), none, none, none, none, none], [], (am_sh, am_mm U)) (some (.inl r1), (am_sh, am_mm U1)) ∧ (((¬ r1 = 0 : Prop)) → Ev kz ((d + 1), 272, 106, [some (.inr (.inr 45)), some (.inl x1), some (.inl x2), some (.inl x3), some (.inl x4), some (.inl x5), some (.inl x6), some (.inl (w32 (x7 + 1)))], [], (am_sh, am_mm U1)) R) ∧ (¬ (¬ r1 = 0) → Ev kz ((d + 1), 272, 106, [some (.inr (.inr 45)), some (.inl x1), some (.inl x2), some (.inl x3), some (.inl x4), some (.inl x5), some (.inl (am_or x6 (am_shl 1 x7))), some (.inl (w32 (x7 + 1)))], [], (am_sh, am_mm U1)) R)))) : Ev kz ((d + 1), 272, 106, [some (.inr (.inr 45)), some (.inl x1), some (.inl x2), some (.inl x3), some (.inl x4), some (.inl x5), some (.inl x6), some (.inl x7)], [], (am_sh, am_mm U)) R := by
  refine ev_br (P := (U 16 0) ≤ x7) (σ1 := ((d + 1), 272, 163, [some (.inr (.inr 45)), some (.inl x1), some (.inl x2), some (.inl x3), some (.inl x4), some (.inl x5), some (.inl x6), some (.inl x7)], [], (am_sh, am_mm U))) (σ2 := ((d + 1), 272, 118, [some (.inr (.inr 45)), some (.inl x1), some (.inl x2), some (.inl x3), some (.inl x4), some (.inl x5), some (.inl x6), some (.inl x7)], [], (am_sh, am_mm U))) 5 (fun _ => rfl) (fun hc => ?_) (fun hc => ?_)
  · have h1 := h.1 hc
    subst h1
    exact ev_end 2 (fun _ => rfl)
  · have h2 := h.2 hc
    refine ev_br (P := ¬ (am_and (am_shr x5 x7) 1) = 1) (σ1 := ((d + 1), 272, 157, [some (.inr (.inr 45)), some (.inl x1), some (.inl x2), some (.inl x3), some (.inl x4), some (.inl x5), some (.inl x6), some (.inl x7)], [], (am_sh, am_mm U))) (σ2 := ((d + 1), 272, 129, [some (.inr (.inr 45)), some (.inl x1), some (.inl x2), some (.inl x3), some (.inl x4), some (.inl x5), some (.inl x6), some (.inl x7)], [], (am_sh, am_mm U))) 7 (fun _ => rfl) (fun hc => ?_) (fun hc => ?_)
    · have h21 := h2.1 hc
      refine ev_seg (σ1 := ((d + 1), 272, 106, [some (.inr (.inr 45)), some (.inl x1), some (.inl x2), some (.inl x3), some (.inl x4), some (.inl x5), some (.inl x6), some (.inl (w32 (x7 + 1)))], [], (am_sh, am_mm U))) 2 (fun _ => rfl) ?_
      exact h21
    · have h22 := h2.2 hc
      refine ev_seg (σ1 := ((d + 1), 272, 141, [some (.inr (.inr 45)), some (.inl x1), some (.inl x2), some (.inl x3), some (.inl x4), some (.inl x5), some (.inl x6), some (.inl x7)], [.inl x7, .inr (.inr 17), .inl x2, .inl x1, .inr (.inr 45)], (am_sh, am_mm U))) 7 (fun _ => rfl) ?_
      refine eu_iald 17 (n := 16) rfl (by decide) rfl (fun _ => rfl) h22.1 ?_
      have h22a := h22.2
      obtain ⟨r1, U1, h22ac, h22aa⟩ := h22a
      refine ev_cal (σc := (d, 134, 0, [some (.inr (.inr 45)), some (.inl x1), some (.inl x2), some (.inl (U 17 x7.toNat)), none, none, none, none, none], [], (am_sh, am_mm U))) (fun _ => rfl) h22ac ?_
      show Ev kz ((d + 1), 272, 145, [some (.inr (.inr 45)), some (.inl x1), some (.inl x2), some (.inl x3), some (.inl x4), some (.inl x5), some (.inl x6), some (.inl x7)], [.inl r1], (am_sh, am_mm U1)) R
      refine ev_br (P := ¬ r1 = 0) (σ1 := ((d + 1), 272, 157, [some (.inr (.inr 45)), some (.inl x1), some (.inl x2), some (.inl x3), some (.inl x4), some (.inl x5), some (.inl x6), some (.inl x7)], [], (am_sh, am_mm U1))) (σ2 := ((d + 1), 272, 148, [some (.inr (.inr 45)), some (.inl x1), some (.inl x2), some (.inl x3), some (.inl x4), some (.inl x5), some (.inl x6), some (.inl x7)], [], (am_sh, am_mm U1))) 1 (fun _ => rfl) (fun hc => ?_) (fun hc => ?_)
      · have h22aa1 := h22aa.1 hc
        refine ev_seg (σ1 := ((d + 1), 272, 106, [some (.inr (.inr 45)), some (.inl x1), some (.inl x2), some (.inl x3), some (.inl x4), some (.inl x5), some (.inl x6), some (.inl (w32 (x7 + 1)))], [], (am_sh, am_mm U1))) 2 (fun _ => rfl) ?_
        exact h22aa1
      · have h22aa2 := h22aa.2 hc
        refine ev_seg (σ1 := ((d + 1), 272, 106, [some (.inr (.inr 45)), some (.inl x1), some (.inl x2), some (.inl x3), some (.inl x4), some (.inl x5), some (.inl (am_or x6 (am_shl 1 x7))), some (.inl (w32 (x7 + 1)))], [], (am_sh, am_mm U1))) 8 (fun _ => rfl) ?_
        exact h22aa2
set_option maxRecDepth 8000 in
theorem st274_48_0 (kz : am_Z) (d : Nat) (x1 : Int) (U : Nat → Nat → Int) (R : Option am_V × am_M) (h : (0 ≤ x1 ∧ x1 < 12) ∧ ∃ (r1 : Int) (U1 : Nat → Nat → Int), Ev kz (d, 98, 0, [some (.inl (am_and (U 19 x1.toNat) (U 48 7)))], [], (am_sh, am_mm U)) (some (.inl r1), (am_sh, am_mm U1)) ∧ ((((w32 ((w32 (4 * x1)) + r1)) < 48 : Prop)) → (0 ≤ (w32 ((w32 (4 * x1)) + r1)) ∧ (w32 ((w32 (4 * x1)) + r1)) < 48) ∧ ((((U1 51 (w32 ((w32 (4 * x1)) + r1)).toNat) = 0 : Prop)) → (0 ≤ (w32 ((w32 (4 * x1)) + r1)) ∧ (w32 ((w32 (4 * x1)) + r1)) < 48) ∧ (0 ≤ x1 ∧ x1 < 12) ∧ Ev kz ((d + 1), 274, 85, [some (.inr (.inr 48)), some (.inl x1), some (.inl (w32 ((w32 (4 * x1)) + r1))), some (.inl (am_and ((am_upd U1 51 (w32 ((w32 (4 * x1)) + r1)).toNat 1) 19 x1.toNat) (am_xor ((am_upd U1 51 (w32 ((w32 (4 * x1)) + r1)).toNat 1) 48 7) (-1)))), some (.inl 0), none], [], (am_sh, am_mm (am_upd U1 51 (w32 ((w32 (4 * x1)) + r1)).toNat 1))) R) ∧ (¬ ((U1 51 (w32 ((w32 (4 * x1)) + r1)).toNat) = 0) → (0 ≤ (w32 ((w32 (4 * x1)) + r1)) ∧ (w32 ((w32 (4 * x1)) + r1)) < 48) ∧ (((¬ (U1 51 (w32 ((w32 (4 * x1)) + r1)).toNat) = 2 : Prop)) → R = (some (.inl 0), (am_sh, am_mm U1))) ∧ (¬ (¬ (U1 51 (w32 ((w32 (4 * x1)) + r1)).toNat) = 2) → R = (some (.inl 1), (am_sh, am_mm U1))))) ∧ (¬ ((w32 ((w32 (4 * x1)) + r1)) < 48) → R = (some (.inl 0), (am_sh, am_mm U1)))) : Ev kz ((d + 1), 274, 0, [some (.inr (.inr 48)), some (.inl x1), none, none, none, none], [], (am_sh, am_mm U)) R := by
  refine ev_seg (σ1 := ((d + 1), 274, 11, [some (.inr (.inr 48)), some (.inl x1), none, none, none, none], [.inl x1, .inr (.inr 19), .inl (w32 (4 * x1))], (am_sh, am_mm U))) 7 (fun _ => rfl) ?_
  refine eu_iald 19 (n := 12) rfl (by decide) rfl (fun _ => rfl) h.1 ?_
  have ha := h.2
  refine ev_seg (σ1 := ((d + 1), 274, 17, [some (.inr (.inr 48)), some (.inl x1), none, none, none, none], [.inl (am_and (U 19 x1.toNat) (U 48 7)), .inl (w32 (4 * x1))], (am_sh, am_mm U))) 3 (fun _ => rfl) ?_
  obtain ⟨r1, U1, hac, haa⟩ := ha
  refine ev_cal (σc := (d, 98, 0, [some (.inl (am_and (U 19 x1.toNat) (U 48 7)))], [], (am_sh, am_mm U))) (fun _ => rfl) hac ?_
  show Ev kz ((d + 1), 274, 20, [some (.inr (.inr 48)), some (.inl x1), none, none, none, none], [.inl r1, .inl (w32 (4 * x1))], (am_sh, am_mm U1)) R
  refine ev_br (P := (w32 ((w32 (4 * x1)) + r1)) < 48) (σ1 := ((d + 1), 274, 33, [some (.inr (.inr 48)), some (.inl x1), some (.inl (w32 ((w32 (4 * x1)) + r1))), none, none, none], [], (am_sh, am_mm U1))) (σ2 := ((d + 1), 274, 31, [some (.inr (.inr 48)), some (.inl x1), some (.inl (w32 ((w32 (4 * x1)) + r1))), none, none, none], [], (am_sh, am_mm U1))) 7 (fun _ => rfl) (fun hc => ?_) (fun hc => ?_)
  · have haa1 := haa.1 hc
    refine ev_seg (σ1 := ((d + 1), 274, 38, [some (.inr (.inr 48)), some (.inl x1), some (.inl (w32 ((w32 (4 * x1)) + r1))), none, none, none], [.inl (w32 ((w32 (4 * x1)) + r1)), .inr (.inr 51)], (am_sh, am_mm U1))) 3 (fun _ => rfl) ?_
    refine eu_iald 51 (n := 48) rfl (by decide) rfl (fun _ => rfl) haa1.1 ?_
    have haa1a := haa1.2
    refine ev_br (P := (U1 51 (w32 ((w32 (4 * x1)) + r1)).toNat) = 0) (σ1 := ((d + 1), 274, 58, [some (.inr (.inr 48)), some (.inl x1), some (.inl (w32 ((w32 (4 * x1)) + r1))), none, none, none], [], (am_sh, am_mm U1))) (σ2 := ((d + 1), 274, 42, [some (.inr (.inr 48)), some (.inl x1), some (.inl (w32 ((w32 (4 * x1)) + r1))), none, none, none], [], (am_sh, am_mm U1))) 1 (fun _ => rfl) (fun hc => ?_) (fun hc => ?_)
    · have haa1a1 := haa1a.1 hc
      refine ev_seg (σ1 := ((d + 1), 274, 64, [some (.inr (.inr 48)), some (.inl x1), some (.inl (w32 ((w32 (4 * x1)) + r1))), none, none, none], [.inl 1, .inl (w32 ((w32 (4 * x1)) + r1)), .inr (.inr 51)], (am_sh, am_mm U1))) 4 (fun _ => rfl) ?_
      refine eu_iast 51 (n := 48) rfl (by decide) rfl (fun _ => rfl) haa1a1.1 ?_
      have haa1a1a := haa1a1.2
      refine ev_seg (σ1 := ((d + 1), 274, 73, [some (.inr (.inr 48)), some (.inl x1), some (.inl (w32 ((w32 (4 * x1)) + r1))), none, none, none], [.inl x1, .inr (.inr 19)], (am_sh, am_mm (am_upd U1 51 (w32 ((w32 (4 * x1)) + r1)).toNat 1)))) 4 (fun _ => rfl) ?_
      refine eu_iald 19 (n := 12) rfl (by decide) rfl (fun _ => rfl) haa1a1a.1 ?_
      have haa1a1aa := haa1a1a.2
      refine ev_seg (σ1 := ((d + 1), 274, 85, [some (.inr (.inr 48)), some (.inl x1), some (.inl (w32 ((w32 (4 * x1)) + r1))), some (.inl (am_and ((am_upd U1 51 (w32 ((w32 (4 * x1)) + r1)).toNat 1) 19 x1.toNat) (am_xor ((am_upd U1 51 (w32 ((w32 (4 * x1)) + r1)).toNat 1) 48 7) (-1)))), some (.inl 0), none], [], (am_sh, am_mm (am_upd U1 51 (w32 ((w32 (4 * x1)) + r1)).toNat 1)))) 8 (fun _ => rfl) ?_
      exact haa1a1aa
    · have haa1a2 := haa1a.2 hc
      refine ev_seg (σ1 := ((d + 1), 274, 47, [some (.inr (.inr 48)), some (.inl x1), some (.inl (w32 ((w32 (4 * x1)) + r1))), none, none, none], [.inl (w32 ((w32 (4 * x1)) + r1)), .inr (.inr 51)], (am_sh, am_mm U1))) 3 (fun _ => rfl) ?_
      refine eu_iald 51 (n := 48) rfl (by decide) rfl (fun _ => rfl) haa1a2.1 ?_
      have haa1a2a := haa1a2.2
      refine ev_br (P := ¬ (U1 51 (w32 ((w32 (4 * x1)) + r1)).toNat) = 2) (σ1 := ((d + 1), 274, 56, [some (.inr (.inr 48)), some (.inl x1), some (.inl (w32 ((w32 (4 * x1)) + r1))), none, none, none], [], (am_sh, am_mm U1))) (σ2 := ((d + 1), 274, 52, [some (.inr (.inr 48)), some (.inl x1), some (.inl (w32 ((w32 (4 * x1)) + r1))), none, none, none], [], (am_sh, am_mm U1))) 2 (fun _ => rfl) (fun hc => ?_) (fun hc => ?_)
      · have haa1a2a1 := haa1a2a.1 hc
        subst haa1a2a1
        exact ev_end 2 (fun _ => rfl)
      · have haa1a2a2 := haa1a2a.2 hc
        subst haa1a2a2
        exact ev_end 3 (fun _ => rfl)
  · have haa2 := haa.2 hc
    subst haa2
    exact ev_end 2 (fun _ => rfl)
set_option maxRecDepth 8000 in
theorem st274_48_85 (kz : am_Z) (d : Nat) (x1 x2 x3 x4 : Int) (U : Nat → Nat → Int) (R : Option am_V × am_M) (h : ((((U 16 0) ≤ x4 : Prop)) → (0 ≤ x2 ∧ x2 < 48) ∧ (((¬ (U 51 x2.toNat) = 2 : Prop)) → R = (some (.inl 0), (am_sh, am_mm U))) ∧ (¬ (¬ (U 51 x2.toNat) = 2) → R = (some (.inl 1), (am_sh, am_mm U)))) ∧ (¬ ((U 16 0) ≤ x4) → Ev kz ((d + 1), 274, 100, [some (.inr (.inr 48)), some (.inl x1), some (.inl x2), some (.inl x3), some (.inl x4), some (.inl 0)], [], (am_sh, am_mm U)) R)) : Ev kz ((d + 1), 274, 85, [some (.inr (.inr 48)), some (.inl x1), some (.inl x2), some (.inl x3), some (.inl x4), none], [], (am_sh, am_mm U)) R := by
  refine ev_br (P := (U 16 0) ≤ x4) (σ1 := ((d + 1), 274, 161, [some (.inr (.inr 48)), some (.inl x1), some (.inl x2), some (.inl x3), some (.inl x4), none], [], (am_sh, am_mm U))) (σ2 := ((d + 1), 274, 97, [some (.inr (.inr 48)), some (.inl x1), some (.inl x2), some (.inl x3), some (.inl x4), none], [], (am_sh, am_mm U))) 5 (fun _ => rfl) (fun hc => ?_) (fun hc => ?_)
  · have h1 := h.1 hc
    refine ev_seg (σ1 := ((d + 1), 274, 166, [some (.inr (.inr 48)), some (.inl x1), some (.inl x2), some (.inl x3), some (.inl x4), none], [.inl x2, .inr (.inr 51)], (am_sh, am_mm U))) 3 (fun _ => rfl) ?_
    refine eu_iald 51 (n := 48) rfl (by decide) rfl (fun _ => rfl) h1.1 ?_
    have h1a := h1.2
    refine ev_br (P := ¬ (U 51 x2.toNat) = 2) (σ1 := ((d + 1), 274, 175, [some (.inr (.inr 48)), some (.inl x1), some (.inl x2), some (.inl x3), some (.inl x4), none], [], (am_sh, am_mm U))) (σ2 := ((d + 1), 274, 171, [some (.inr (.inr 48)), some (.inl x1), some (.inl x2), some (.inl x3), some (.inl x4), none], [], (am_sh, am_mm U))) 2 (fun _ => rfl) (fun hc => ?_) (fun hc => ?_)
    · have h1a1 := h1a.1 hc
      subst h1a1
      exact ev_end 2 (fun _ => rfl)
    · have h1a2 := h1a.2 hc
      subst h1a2
      exact ev_end 3 (fun _ => rfl)
  · have h2 := h.2 hc
    refine ev_seg (σ1 := ((d + 1), 274, 100, [some (.inr (.inr 48)), some (.inl x1), some (.inl x2), some (.inl x3), some (.inl x4), some (.inl 0)], [], (am_sh, am_mm U))) 2 (fun _ => rfl) ?_
    exact h2
set_option maxRecDepth 8000 in
theorem st274_48_100 (kz : am_Z) (d : Nat) (x1 x2 x3 x4 x5 : Int) (U : Nat → Nat → Int) (R : Option am_V × am_M) (h : ((((U 3 4) ≤ x5 : Prop)) → Ev kz ((d + 1), 274, 85, [some (.inr (.inr 48)), some (.inl x1), some (.inl x2), some (.inl x3), some (.inl (w32 (x4 + 1))), some (.inl x5)], [], (am_sh, am_mm U)) R) ∧ (¬ ((U 3 4) ≤ x5) → (((¬ (am_and (am_shr x3 x4) 1) = 1 : Prop)) → Ev kz ((d + 1), 274, 85, [some (.inr (.inr 48)), some (.inl x1), some (.inl x2), some (.inl x3), some (.inl (w32 (x4 + 1))), some (.inl x5)], [], (am_sh, am_mm U)) R) ∧ (¬ (¬ (am_and (am_shr x3 x4) 1) = 1) → ∃ (r1 : Int) (U1 : Nat → Nat → Int), Ev kz (d, 272, 0, [some (.inr (.inr 45)), some (.inl x5), some (.inl x4), some (.inl (am_xor (U 48 7) (-1))), none, none, none, none], [], (am_sh, am_mm U)) (some (.inl r1), (am_sh, am_mm U1)) ∧ (((r1 = 0 : Prop)) → Ev kz ((d + 1), 274, 100, [some (.inr (.inr 48)), some (.inl x1), some (.inl x2), some (.inl x3), some (.inl x4), some (.inl (w32 (x5 + 1)))], [], (am_sh, am_mm U1)) R) ∧ (¬ (r1 = 0) → (0 ≤ x2 ∧ x2 < 48) ∧ Ev kz ((d + 1), 274, 100, [some (.inr (.inr 48)), some (.inl x1), some (.inl x2), some (.inl x3), some (.inl x4), some (.inl (w32 (x5 + 1)))], [], (am_sh, am_mm (am_upd U1 51 x2.toNat 2))) R)))) : Ev kz ((d + 1), 274, 100, [some (.inr (.inr 48)), some (.inl x1), some (.inl x2), some (.inl x3), some (.inl x4), some (.inl x5)], [], (am_sh, am_mm U)) R := by
  refine ev_br (P := (U 3 4) ≤ x5) (σ1 := ((d + 1), 274, 155, [some (.inr (.inr 48)), some (.inl x1), some (.inl x2), some (.inl x3), some (.inl x4), some (.inl x5)], [], (am_sh, am_mm U))) (σ2 := ((d + 1), 274, 112, [some (.inr (.inr 48)), some (.inl x1), some (.inl x2), some (.inl x3), some (.inl x4), some (.inl x5)], [], (am_sh, am_mm U))) 5 (fun _ => rfl) (fun hc => ?_) (fun hc => ?_)
  · have h1 := h.1 hc
    refine ev_seg (σ1 := ((d + 1), 274, 85, [some (.inr (.inr 48)), some (.inl x1), some (.inl x2), some (.inl x3), some (.inl (w32 (x4 + 1))), some (.inl x5)], [], (am_sh, am_mm U))) 2 (fun _ => rfl) ?_
    exact h1
  · have h2 := h.2 hc
    refine ev_br (P := ¬ (am_and (am_shr x3 x4) 1) = 1) (σ1 := ((d + 1), 274, 155, [some (.inr (.inr 48)), some (.inl x1), some (.inl x2), some (.inl x3), some (.inl x4), some (.inl x5)], [], (am_sh, am_mm U))) (σ2 := ((d + 1), 274, 122, [some (.inr (.inr 48)), some (.inl x1), some (.inl x2), some (.inl x3), some (.inl x4), some (.inl x5)], [], (am_sh, am_mm U))) 7 (fun _ => rfl) (fun hc => ?_) (fun hc => ?_)
    · have h21 := h2.1 hc
      refine ev_seg (σ1 := ((d + 1), 274, 85, [some (.inr (.inr 48)), some (.inl x1), some (.inl x2), some (.inl x3), some (.inl (w32 (x4 + 1))), some (.inl x5)], [], (am_sh, am_mm U))) 2 (fun _ => rfl) ?_
      exact h21
    · have h22 := h2.2 hc
      refine ev_seg (σ1 := ((d + 1), 274, 136, [some (.inr (.inr 48)), some (.inl x1), some (.inl x2), some (.inl x3), some (.inl x4), some (.inl x5)], [.inl (am_xor (U 48 7) (-1)), .inl x4, .inl x5, .inr (.inr 45)], (am_sh, am_mm U))) 8 (fun _ => rfl) ?_
      obtain ⟨r1, U1, h22c, h22a⟩ := h22
      refine ev_cal (σc := (d, 272, 0, [some (.inr (.inr 45)), some (.inl x5), some (.inl x4), some (.inl (am_xor (U 48 7) (-1))), none, none, none, none], [], (am_sh, am_mm U))) (fun _ => rfl) h22c ?_
      show Ev kz ((d + 1), 274, 139, [some (.inr (.inr 48)), some (.inl x1), some (.inl x2), some (.inl x3), some (.inl x4), some (.inl x5)], [.inl r1], (am_sh, am_mm U1)) R
      refine ev_br (P := r1 = 0) (σ1 := ((d + 1), 274, 149, [some (.inr (.inr 48)), some (.inl x1), some (.inl x2), some (.inl x3), some (.inl x4), some (.inl x5)], [], (am_sh, am_mm U1))) (σ2 := ((d + 1), 274, 142, [some (.inr (.inr 48)), some (.inl x1), some (.inl x2), some (.inl x3), some (.inl x4), some (.inl x5)], [], (am_sh, am_mm U1))) 1 (fun _ => rfl) (fun hc => ?_) (fun hc => ?_)
      · have h22a1 := h22a.1 hc
        refine ev_seg (σ1 := ((d + 1), 274, 100, [some (.inr (.inr 48)), some (.inl x1), some (.inl x2), some (.inl x3), some (.inl x4), some (.inl (w32 (x5 + 1)))], [], (am_sh, am_mm U1))) 2 (fun _ => rfl) ?_
        exact h22a1
      · have h22a2 := h22a.2 hc
        refine ev_seg (σ1 := ((d + 1), 274, 148, [some (.inr (.inr 48)), some (.inl x1), some (.inl x2), some (.inl x3), some (.inl x4), some (.inl x5)], [.inl 2, .inl x2, .inr (.inr 51)], (am_sh, am_mm U1))) 4 (fun _ => rfl) ?_
        refine eu_iast 51 (n := 48) rfl (by decide) rfl (fun _ => rfl) h22a2.1 ?_
        have h22a2a := h22a2.2
        refine ev_seg (σ1 := ((d + 1), 274, 100, [some (.inr (.inr 48)), some (.inl x1), some (.inl x2), some (.inl x3), some (.inl x4), some (.inl (w32 (x5 + 1)))], [], (am_sh, am_mm (am_upd U1 51 x2.toNat 2)))) 2 (fun _ => rfl) ?_
        exact h22a2a
set_option maxRecDepth 8000 in
theorem st275_86_0 (kz : am_Z) (d : Nat) (x1 x2 : Int) (U : Nat → Nat → Int) (R : Option am_V × am_M) (h : (0 ≤ (w32 ((w32 (8 * (U 86 13))) + x1)) ∧ (w32 ((w32 (8 * (U 86 13))) + x1)) < 16) ∧ ∃ (r1 : Int) (U1 : Nat → Nat → Int), Ev kz (d, 200, 0, [some (.inr (.inr 86)), some (.inl 1), some (.inl x2)], [], (am_sh, am_mm U)) (some (.inl r1), (am_sh, am_mm U1)) ∧ (((¬ r1 = (-1) : Prop)) → (((¬ (U 101 (w32 ((w32 (8 * (U 86 13))) + x1)).toNat) = 0 : Prop)) → Ev kz ((d + 1), 275, 54, [some (.inr (.inr 86)), some (.inl x1), some (.inl x2), some (.inl (U 101 (w32 ((w32 (8 * (U 86 13))) + x1)).toNat)), some (.inl r1), some (.inl 0), none, none], [], (am_sh, am_mm U1)) R) ∧ (¬ (¬ (U 101 (w32 ((w32 (8 * (U 86 13))) + x1)).toNat) = 0) → ∃ (r2 : Int) (U2 : Nat → Nat → Int), Ev kz (d, 311, 0, [some (.inr (.inr 86)), some (.inl x1), some (.inl x2), some (.inl (-1)), none, none], [], (am_sh, am_mm U1)) (some (.inl r2), (am_sh, am_mm U2)) ∧ (((¬ r2 = 0 : Prop)) → R = (some (.inl 0), (am_sh, am_mm U2))) ∧ (¬ (¬ r2 = 0) → R = (some (.inl 1), (am_sh, am_mm U2))))) ∧ (¬ (¬ r1 = (-1)) → R = (some (.inl 0), (am_sh, am_mm U1)))) : Ev kz ((d + 1), 275, 0, [some (.inr (.inr 86)), some (.inl x1), some (.inl x2), none, none, none, none, none], [], (am_sh, am_mm U)) R := by
  refine ev_seg (σ1 := ((d + 1), 275, 13, [some (.inr (.inr 86)), some (.inl x1), some (.inl x2), none, none, none, none, none], [.inl (w32 ((w32 (8 * (U 86 13))) + x1)), .inr (.inr 101)], (am_sh, am_mm U))) 8 (fun _ => rfl) ?_
  refine eu_iald 101 (n := 16) rfl (by decide) rfl (fun _ => rfl) h.1 ?_
  have ha := h.2
  refine ev_seg (σ1 := ((d + 1), 275, 18, [some (.inr (.inr 86)), some (.inl x1), some (.inl x2), some (.inl (U 101 (w32 ((w32 (8 * (U 86 13))) + x1)).toNat)), none, none, none, none], [.inl x2, .inl 1, .inr (.inr 86)], (am_sh, am_mm U))) 4 (fun _ => rfl) ?_
  obtain ⟨r1, U1, hac, haa⟩ := ha
  refine ev_cal (σc := (d, 200, 0, [some (.inr (.inr 86)), some (.inl 1), some (.inl x2)], [], (am_sh, am_mm U))) (fun _ => rfl) hac ?_
  show Ev kz ((d + 1), 275, 21, [some (.inr (.inr 86)), some (.inl x1), some (.inl x2), some (.inl (U 101 (w32 ((w32 (8 * (U 86 13))) + x1)).toNat)), none, none, none, none], [.inl r1], (am_sh, am_mm U1)) R
  refine ev_br (P := ¬ r1 = (-1)) (σ1 := ((d + 1), 275, 31, [some (.inr (.inr 86)), some (.inl x1), some (.inl x2), some (.inl (U 101 (w32 ((w32 (8 * (U 86 13))) + x1)).toNat)), some (.inl r1), none, none, none], [], (am_sh, am_mm U1))) (σ2 := ((d + 1), 275, 29, [some (.inr (.inr 86)), some (.inl x1), some (.inl x2), some (.inl (U 101 (w32 ((w32 (8 * (U 86 13))) + x1)).toNat)), some (.inl r1), none, none, none], [], (am_sh, am_mm U1))) 4 (fun _ => rfl) (fun hc => ?_) (fun hc => ?_)
  · have haa1 := haa.1 hc
    refine ev_br (P := ¬ (U 101 (w32 ((w32 (8 * (U 86 13))) + x1)).toNat) = 0) (σ1 := ((d + 1), 275, 51, [some (.inr (.inr 86)), some (.inl x1), some (.inl x2), some (.inl (U 101 (w32 ((w32 (8 * (U 86 13))) + x1)).toNat)), some (.inl r1), none, none, none], [], (am_sh, am_mm U1))) (σ2 := ((d + 1), 275, 35, [some (.inr (.inr 86)), some (.inl x1), some (.inl x2), some (.inl (U 101 (w32 ((w32 (8 * (U 86 13))) + x1)).toNat)), some (.inl r1), none, none, none], [], (am_sh, am_mm U1))) 2 (fun _ => rfl) (fun hc => ?_) (fun hc => ?_)
    · have haa11 := haa1.1 hc
      refine ev_seg (σ1 := ((d + 1), 275, 54, [some (.inr (.inr 86)), some (.inl x1), some (.inl x2), some (.inl (U 101 (w32 ((w32 (8 * (U 86 13))) + x1)).toNat)), some (.inl r1), some (.inl 0), none, none], [], (am_sh, am_mm U1))) 2 (fun _ => rfl) ?_
      exact haa11
    · have haa12 := haa1.2 hc
      refine ev_seg (σ1 := ((d + 1), 275, 39, [some (.inr (.inr 86)), some (.inl x1), some (.inl x2), some (.inl (U 101 (w32 ((w32 (8 * (U 86 13))) + x1)).toNat)), some (.inl r1), none, none, none], [.inl (-1), .inl x2, .inl x1, .inr (.inr 86)], (am_sh, am_mm U1))) 4 (fun _ => rfl) ?_
      obtain ⟨r2, U2, haa12c, haa12a⟩ := haa12
      refine ev_cal (σc := (d, 311, 0, [some (.inr (.inr 86)), some (.inl x1), some (.inl x2), some (.inl (-1)), none, none], [], (am_sh, am_mm U1))) (fun _ => rfl) haa12c ?_
      show Ev kz ((d + 1), 275, 42, [some (.inr (.inr 86)), some (.inl x1), some (.inl x2), some (.inl (U 101 (w32 ((w32 (8 * (U 86 13))) + x1)).toNat)), some (.inl r1), none, none, none], [.inl r2], (am_sh, am_mm U2)) R
      refine ev_br (P := ¬ r2 = 0) (σ1 := ((d + 1), 275, 49, [some (.inr (.inr 86)), some (.inl x1), some (.inl x2), some (.inl (U 101 (w32 ((w32 (8 * (U 86 13))) + x1)).toNat)), some (.inl r1), none, none, none], [], (am_sh, am_mm U2))) (σ2 := ((d + 1), 275, 45, [some (.inr (.inr 86)), some (.inl x1), some (.inl x2), some (.inl (U 101 (w32 ((w32 (8 * (U 86 13))) + x1)).toNat)), some (.inl r1), none, none, none], [], (am_sh, am_mm U2))) 1 (fun _ => rfl) (fun hc => ?_) (fun hc => ?_)
      · have haa12a1 := haa12a.1 hc
        subst haa12a1
        exact ev_end 2 (fun _ => rfl)
      · have haa12a2 := haa12a.2 hc
        subst haa12a2
        exact ev_end 3 (fun _ => rfl)
  · have haa2 := haa.2 hc
    subst haa2
    exact ev_end 2 (fun _ => rfl)
set_option maxRecDepth 8000 in
theorem st275_86_54 (kz : am_Z) (d : Nat) (x1 x2 x3 x4 x5 : Int) (U : Nat → Nat → Int) (R : Option am_V × am_M) (h : ((((U 122 1) ≤ x5 : Prop)) → R = (some (.inl 0), (am_sh, am_mm U))) ∧ (¬ ((U 122 1) ≤ x5) → ∃ (r1 : Int) (U1 : Nat → Nat → Int), Ev kz (d, 200, 0, [some (.inr (.inr 86)), some (.inl 1), some (.inl x5)], [], (am_sh, am_mm U)) (some (.inl r1), (am_sh, am_mm U1)) ∧ (((x5 = x2 : Prop)) → (((0 = 0 : Prop)) → Ev kz ((d + 1), 275, 54, [some (.inr (.inr 86)), some (.inl x1), some (.inl x2), some (.inl x3), some (.inl x4), some (.inl (w32 (x5 + 1))), some (.inl r1), some (.inl 0)], [], (am_sh, am_mm U1)) R) ∧ (¬ (0 = 0) → ∃ (r2 : Int) (U2 : Nat → Nat → Int), Ev kz (d, 311, 0, [some (.inr (.inr 86)), some (.inl x1), some (.inl x2), some (.inl x5), none, none], [], (am_sh, am_mm U1)) (some (.inl r2), (am_sh, am_mm U2)) ∧ (((¬ r2 = 0 : Prop)) → Ev kz ((d + 1), 275, 54, [some (.inr (.inr 86)), some (.inl x1), some (.inl x2), some (.inl x3), some (.inl x4), some (.inl (w32 (x5 + 1))), some (.inl r1), some (.inl 0)], [], (am_sh, am_mm U2)) R) ∧ (¬ (¬ r2 = 0) → R = (some (.inl 1), (am_sh, am_mm U2))))) ∧ (¬ (x5 = x2) → (((r1 = (-1) : Prop)) → (((0 = 0 : Prop)) → Ev kz ((d + 1), 275, 54, [some (.inr (.inr 86)), some (.inl x1), some (.inl x2), some (.inl x3), some (.inl x4), some (.inl (w32 (x5 + 1))), some (.inl r1), some (.inl 0)], [], (am_sh, am_mm U1)) R) ∧ (¬ (0 = 0) → ∃ (r3 : Int) (U3 : Nat → Nat → Int), Ev kz (d, 311, 0, [some (.inr (.inr 86)), some (.inl x1), some (.inl x2), some (.inl x5), none, none], [], (am_sh, am_mm U1)) (some (.inl r3), (am_sh, am_mm U3)) ∧ (((¬ r3 = 0 : Prop)) → Ev kz ((d + 1), 275, 54, [some (.inr (.inr 86)), some (.inl x1), some (.inl x2), some (.inl x3), some (.inl x4), some (.inl (w32 (x5 + 1))), some (.inl r1), some (.inl 0)], [], (am_sh, am_mm U3)) R) ∧ (¬ (¬ r3 = 0) → R = (some (.inl 1), (am_sh, am_mm U3))))) ∧ (¬ (r1 = (-1)) → (((¬ x3 = 2 : Prop)) → (0 ≤ (w32 ((w32 (12 * x4)) + r1)) ∧ (w32 ((w32 (12 * x4)) + r1)) < 144) ∧ ((((U1 129 (w32 ((w32 (12 * x4)) + r1)).toNat) = 0 : Prop)) → (((0 = 0 : Prop)) → Ev kz ((d + 1), 275, 54, [some (.inr (.inr 86)), some (.inl x1), some (.inl x2), some (.inl x3), some (.inl x4), some (.inl (w32 (x5 + 1))), some (.inl r1), some (.inl 0)], [], (am_sh, am_mm U1)) R) ∧ (¬ (0 = 0) → ∃ (r4 : Int) (U4 : Nat → Nat → Int), Ev kz (d, 311, 0, [some (.inr (.inr 86)), some (.inl x1), some (.inl x2), some (.inl x5), none, none], [], (am_sh, am_mm U1)) (some (.inl r4), (am_sh, am_mm U4)) ∧ (((¬ r4 = 0 : Prop)) → Ev kz ((d + 1), 275, 54, [some (.inr (.inr 86)), some (.inl x1), some (.inl x2), some (.inl x3), some (.inl x4), some (.inl (w32 (x5 + 1))), some (.inl r1), some (.inl 0)], [], (am_sh, am_mm U4)) R) ∧ (¬ (¬ r4 = 0) → R = (some (.inl 1), (am_sh, am_mm U4))))) ∧ (¬ ((U1 129 (w32 ((w32 (12 * x4)) + r1)).toNat) = 0) → (((1 = 0 : Prop)) → Ev kz ((d + 1), 275, 54, [some (.inr (.inr 86)), some (.inl x1), some (.inl x2), some (.inl x3), some (.inl x4), some (.inl (w32 (x5 + 1))), some (.inl r1), some (.inl 1)], [], (am_sh, am_mm U1)) R) ∧ (¬ (1 = 0) → ∃ (r5 : Int) (U5 : Nat → Nat → Int), Ev kz (d, 311, 0, [some (.inr (.inr 86)), some (.inl x1), some (.inl x2), some (.inl x5), none, none], [], (am_sh, am_mm U1)) (some (.inl r5), (am_sh, am_mm U5)) ∧ (((¬ r5 = 0 : Prop)) → Ev kz ((d + 1), 275, 54, [some (.inr (.inr 86)), some (.inl x1), some (.inl x2), some (.inl x3), some (.inl x4), some (.inl (w32 (x5 + 1))), some (.inl r1), some (.inl 1)], [], (am_sh, am_mm U5)) R) ∧ (¬ (¬ r5 = 0) → R = (some (.inl 1), (am_sh, am_mm U5)))))) ∧ (¬ (¬ x3 = 2) → (((¬ r1 = x4 : Prop)) → (((0 = 0 : Prop)) → Ev kz ((d + 1), 275, 54, [some (.inr (.inr 86)), some (.inl x1), some (.inl x2), some (.inl x3), some (.inl x4), some (.inl (w32 (x5 + 1))), some (.inl r1), some (.inl 0)], [], (am_sh, am_mm U1)) R) ∧ (¬ (0 = 0) → ∃ (r6 : Int) (U6 : Nat → Nat → Int), Ev kz (d, 311, 0, [some (.inr (.inr 86)), some (.inl x1), some (.inl x2), some (.inl x5), none, none], [], (am_sh, am_mm U1)) (some (.inl r6), (am_sh, am_mm U6)) ∧ (((¬ r6 = 0 : Prop)) → Ev kz ((d + 1), 275, 54, [some (.inr (.inr 86)), some (.inl x1), some (.inl x2), some (.inl x3), some (.inl x4), some (.inl (w32 (x5 + 1))), some (.inl r1), some (.inl 0)], [], (am_sh, am_mm U6)) R) ∧ (¬ (¬ r6 = 0) → R = (some (.inl 1), (am_sh, am_mm U6))))) ∧ (¬ (¬ r1 = x4) → (((1 = 0 : Prop)) → Ev kz ((d + 1), 275, 54, [some (.inr (.inr 86)), some (.inl x1), some (.inl x2), some (.inl x3), some (.inl x4), some (.inl (w32 (x5 + 1))), some (.inl r1), some (.inl 1)], [], (am_sh, am_mm U1)) R) ∧ (¬ (1 = 0) → ∃ (r7 : Int) (U7 : Nat → Nat → Int), Ev kz (d, 311, 0, [some (.inr (.inr 86)), some (.inl x1), some (.inl x2), some (.inl x5), none, none], [], (am_sh, am_mm U1)) (some (.inl r7), (am_sh, am_mm U7)) ∧ (((¬ r7 = 0 : Prop)) → Ev kz ((d + 1), 275, 54, [some (.inr (.inr 86)), some (.inl x1), some (.inl x2), some (.inl x3), some (.inl x4), some (.inl (w32 (x5 + 1))), some (.inl r1), some (.inl 1)], [], (am_sh, am_mm U7)) R) ∧ (¬ (¬ r7 = 0) → R = (some (.inl 1), (am_sh, am_mm U7)))))))))) : Ev kz ((d + 1), 275, 54, [some (.inr (.inr 86)), some (.inl x1), some (.inl x2), some (.inl x3), some (.inl x4), some (.inl x5), none, none], [], (am_sh, am_mm U)) R := by
  refine ev_seg (σ1 := ((d + 1), 275, 61, [some (.inr (.inr 86)), some (.inl x1), some (.inl x2), some (.inl x3), some (.inl x4), some (.inl x5), none, none], [.inl 1, .inr (.inr 122), .inl x5], (am_sh, am_mm U))) 4 (fun _ => rfl) ?_
  refine eu_iald 122 (n := 22) rfl (by decide) rfl (fun _ => rfl) (by decide) ?_
  show Ev kz ((d + 1), 275, 62, [some (.inr (.inr 86)), some (.inl x1), some (.inl x2), some (.inl x3), some (.inl x4), some (.inl x5), none, none], [.inl (U 122 1), .inl x5], (am_sh, am_mm U)) R
  refine ev_br (P := (U 122 1) ≤ x5) (σ1 := ((d + 1), 275, 148, [some (.inr (.inr 86)), some (.inl x1), some (.inl x2), some (.inl x3), some (.inl x4), some (.inl x5), none, none], [], (am_sh, am_mm U))) (σ2 := ((d + 1), 275, 65, [some (.inr (.inr 86)), some (.inl x1), some (.inl x2), some (.inl x3), some (.inl x4), some (.inl x5), none, none], [], (am_sh, am_mm U))) 1 (fun _ => rfl) (fun hc => ?_) (fun hc => ?_)
  · have h1 := h.1 hc
    subst h1
    exact ev_end 2 (fun _ => rfl)
  · have h2 := h.2 hc
    refine ev_seg (σ1 := ((d + 1), 275, 69, [some (.inr (.inr 86)), some (.inl x1), some (.inl x2), some (.inl x3), some (.inl x4), some (.inl x5), none, none], [.inl x5, .inl 1, .inr (.inr 86)], (am_sh, am_mm U))) 3 (fun _ => rfl) ?_
    obtain ⟨r1, U1, h2c, h2a⟩ := h2
    refine ev_cal (σc := (d, 200, 0, [some (.inr (.inr 86)), some (.inl 1), some (.inl x5)], [], (am_sh, am_mm U))) (fun _ => rfl) h2c ?_
    show Ev kz ((d + 1), 275, 72, [some (.inr (.inr 86)), some (.inl x1), some (.inl x2), some (.inl x3), some (.inl x4), some (.inl x5), none, none], [.inl r1], (am_sh, am_mm U1)) R
    refine ev_br (P := x5 = x2) (σ1 := ((d + 1), 275, 121, [some (.inr (.inr 86)), some (.inl x1), some (.inl x2), some (.inl x3), some (.inl x4), some (.inl x5), some (.inl r1), none], [], (am_sh, am_mm U1))) (σ2 := ((d + 1), 275, 80, [some (.inr (.inr 86)), some (.inl x1), some (.inl x2), some (.inl x3), some (.inl x4), some (.inl x5), some (.inl r1), none], [], (am_sh, am_mm U1))) 4 (fun _ => rfl) (fun hc => ?_) (fun hc => ?_)
    · have h2a1 := h2a.1 hc
      refine ev_br (P := 0 = 0) (σ1 := ((d + 1), 275, 142, [some (.inr (.inr 86)), some (.inl x1), some (.inl x2), some (.inl x3), some (.inl x4), some (.inl x5), some (.inl r1), some (.inl 0)], [], (am_sh, am_mm U1))) (σ2 := ((d + 1), 275, 129, [some (.inr (.inr 86)), some (.inl x1), some (.inl x2), some (.inl x3), some (.inl x4), some (.inl x5), some (.inl r1), some (.inl 0)], [], (am_sh, am_mm U1))) 4 (fun _ => rfl) (fun hc => ?_) (fun hc => ?_)
      · have h2a11 := h2a1.1 hc
        refine ev_seg (σ1 := ((d + 1), 275, 54, [some (.inr (.inr 86)), some (.inl x1), some (.inl x2), some (.inl x3), some (.inl x4), some (.inl (w32 (x5 + 1))), some (.inl r1), some (.inl 0)], [], (am_sh, am_mm U1))) 2 (fun _ => rfl) ?_
        exact h2a11
      · have h2a12 := h2a1.2 hc
        refine ev_seg (σ1 := ((d + 1), 275, 134, [some (.inr (.inr 86)), some (.inl x1), some (.inl x2), some (.inl x3), some (.inl x4), some (.inl x5), some (.inl r1), some (.inl 0)], [.inl x5, .inl x2, .inl x1, .inr (.inr 86)], (am_sh, am_mm U1))) 4 (fun _ => rfl) ?_
        obtain ⟨r2, U2, h2a12c, h2a12a⟩ := h2a12
        refine ev_cal (σc := (d, 311, 0, [some (.inr (.inr 86)), some (.inl x1), some (.inl x2), some (.inl x5), none, none], [], (am_sh, am_mm U1))) (fun _ => rfl) h2a12c ?_
        show Ev kz ((d + 1), 275, 137, [some (.inr (.inr 86)), some (.inl x1), some (.inl x2), some (.inl x3), some (.inl x4), some (.inl x5), some (.inl r1), some (.inl 0)], [.inl r2], (am_sh, am_mm U2)) R
        refine ev_br (P := ¬ r2 = 0) (σ1 := ((d + 1), 275, 142, [some (.inr (.inr 86)), some (.inl x1), some (.inl x2), some (.inl x3), some (.inl x4), some (.inl x5), some (.inl r1), some (.inl 0)], [], (am_sh, am_mm U2))) (σ2 := ((d + 1), 275, 140, [some (.inr (.inr 86)), some (.inl x1), some (.inl x2), some (.inl x3), some (.inl x4), some (.inl x5), some (.inl r1), some (.inl 0)], [], (am_sh, am_mm U2))) 1 (fun _ => rfl) (fun hc => ?_) (fun hc => ?_)
        · have h2a12a1 := h2a12a.1 hc
          refine ev_seg (σ1 := ((d + 1), 275, 54, [some (.inr (.inr 86)), some (.inl x1), some (.inl x2), some (.inl x3), some (.inl x4), some (.inl (w32 (x5 + 1))), some (.inl r1), some (.inl 0)], [], (am_sh, am_mm U2))) 2 (fun _ => rfl) ?_
          exact h2a12a1
        · have h2a12a2 := h2a12a.2 hc
          subst h2a12a2
          exact ev_end 2 (fun _ => rfl)
    · have h2a2 := h2a.2 hc
      refine ev_br (P := r1 = (-1)) (σ1 := ((d + 1), 275, 121, [some (.inr (.inr 86)), some (.inl x1), some (.inl x2), some (.inl x3), some (.inl x4), some (.inl x5), some (.inl r1), none], [], (am_sh, am_mm U1))) (σ2 := ((d + 1), 275, 86, [some (.inr (.inr 86)), some (.inl x1), some (.inl x2), some (.inl x3), some (.inl x4), some (.inl x5), some (.inl r1), none], [], (am_sh, am_mm U1))) 3 (fun _ => rfl) (fun hc => ?_) (fun hc => ?_)
      · have h2a21 := h2a2.1 hc
        refine ev_br (P := 0 = 0) (σ1 := ((d + 1), 275, 142, [some (.inr (.inr 86)), some (.inl x1), some (.inl x2), some (.inl x3), some (.inl x4), some (.inl x5), some (.inl r1), some (.inl 0)], [], (am_sh, am_mm U1))) (σ2 := ((d + 1), 275, 129, [some (.inr (.inr 86)), some (.inl x1), some (.inl x2), some (.inl x3), some (.inl x4), some (.inl x5), some (.inl r1), some (.inl 0)], [], (am_sh, am_mm U1))) 4 (fun _ => rfl) (fun hc => ?_) (fun hc => ?_)
        · have h2a211 := h2a21.1 hc
          refine ev_seg (σ1 := ((d + 1), 275, 54, [some (.inr (.inr 86)), some (.inl x1), some (.inl x2), some (.inl x3), some (.inl x4), some (.inl (w32 (x5 + 1))), some (.inl r1), some (.inl 0)], [], (am_sh, am_mm U1))) 2 (fun _ => rfl) ?_
          exact h2a211
        · have h2a212 := h2a21.2 hc
          refine ev_seg (σ1 := ((d + 1), 275, 134, [some (.inr (.inr 86)), some (.inl x1), some (.inl x2), some (.inl x3), some (.inl x4), some (.inl x5), some (.inl r1), some (.inl 0)], [.inl x5, .inl x2, .inl x1, .inr (.inr 86)], (am_sh, am_mm U1))) 4 (fun _ => rfl) ?_
          obtain ⟨r3, U3, h2a212c, h2a212a⟩ := h2a212
          refine ev_cal (σc := (d, 311, 0, [some (.inr (.inr 86)), some (.inl x1), some (.inl x2), some (.inl x5), none, none], [], (am_sh, am_mm U1))) (fun _ => rfl) h2a212c ?_
          show Ev kz ((d + 1), 275, 137, [some (.inr (.inr 86)), some (.inl x1), some (.inl x2), some (.inl x3), some (.inl x4), some (.inl x5), some (.inl r1), some (.inl 0)], [.inl r3], (am_sh, am_mm U3)) R
          refine ev_br (P := ¬ r3 = 0) (σ1 := ((d + 1), 275, 142, [some (.inr (.inr 86)), some (.inl x1), some (.inl x2), some (.inl x3), some (.inl x4), some (.inl x5), some (.inl r1), some (.inl 0)], [], (am_sh, am_mm U3))) (σ2 := ((d + 1), 275, 140, [some (.inr (.inr 86)), some (.inl x1), some (.inl x2), some (.inl x3), some (.inl x4), some (.inl x5), some (.inl r1), some (.inl 0)], [], (am_sh, am_mm U3))) 1 (fun _ => rfl) (fun hc => ?_) (fun hc => ?_)
          · have h2a212a1 := h2a212a.1 hc
            refine ev_seg (σ1 := ((d + 1), 275, 54, [some (.inr (.inr 86)), some (.inl x1), some (.inl x2), some (.inl x3), some (.inl x4), some (.inl (w32 (x5 + 1))), some (.inl r1), some (.inl 0)], [], (am_sh, am_mm U3))) 2 (fun _ => rfl) ?_
            exact h2a212a1
          · have h2a212a2 := h2a212a.2 hc
            subst h2a212a2
            exact ev_end 2 (fun _ => rfl)
      · have h2a22 := h2a2.2 hc
        refine ev_br (P := ¬ x3 = 2) (σ1 := ((d + 1), 275, 101, [some (.inr (.inr 86)), some (.inl x1), some (.inl x2), some (.inl x3), some (.inl x4), some (.inl x5), some (.inl r1), none], [], (am_sh, am_mm U1))) (σ2 := ((d + 1), 275, 91, [some (.inr (.inr 86)), some (.inl x1), some (.inl x2), some (.inl x3), some (.inl x4), some (.inl x5), some (.inl r1), none], [], (am_sh, am_mm U1))) 3 (fun _ => rfl) (fun hc => ?_) (fun hc => ?_)
        · have h2a221 := h2a22.1 hc
          refine ev_seg (σ1 := ((d + 1), 275, 113, [some (.inr (.inr 86)), some (.inl x1), some (.inl x2), some (.inl x3), some (.inl x4), some (.inl x5), some (.inl r1), none], [.inl (w32 ((w32 (12 * x4)) + r1)), .inr (.inr 129)], (am_sh, am_mm U1))) 7 (fun _ => rfl) ?_
          refine eu_zald 129 (n := 144) rfl (by decide) rfl (fun _ => rfl) h2a221.1 ?_
          have h2a221a := h2a221.2
          refine ev_br (P := (U1 129 (w32 ((w32 (12 * x4)) + r1)).toNat) = 0) (σ1 := ((d + 1), 275, 121, [some (.inr (.inr 86)), some (.inl x1), some (.inl x2), some (.inl x3), some (.inl x4), some (.inl x5), some (.inl r1), none], [], (am_sh, am_mm U1))) (σ2 := ((d + 1), 275, 117, [some (.inr (.inr 86)), some (.inl x1), some (.inl x2), some (.inl x3), some (.inl x4), some (.inl x5), some (.inl r1), none], [], (am_sh, am_mm U1))) 1 (fun _ => rfl) (fun hc => ?_) (fun hc => ?_)
          · have h2a221a1 := h2a221a.1 hc
            refine ev_br (P := 0 = 0) (σ1 := ((d + 1), 275, 142, [some (.inr (.inr 86)), some (.inl x1), some (.inl x2), some (.inl x3), some (.inl x4), some (.inl x5), some (.inl r1), some (.inl 0)], [], (am_sh, am_mm U1))) (σ2 := ((d + 1), 275, 129, [some (.inr (.inr 86)), some (.inl x1), some (.inl x2), some (.inl x3), some (.inl x4), some (.inl x5), some (.inl r1), some (.inl 0)], [], (am_sh, am_mm U1))) 4 (fun _ => rfl) (fun hc => ?_) (fun hc => ?_)
            · have h2a221a11 := h2a221a1.1 hc
              refine ev_seg (σ1 := ((d + 1), 275, 54, [some (.inr (.inr 86)), some (.inl x1), some (.inl x2), some (.inl x3), some (.inl x4), some (.inl (w32 (x5 + 1))), some (.inl r1), some (.inl 0)], [], (am_sh, am_mm U1))) 2 (fun _ => rfl) ?_
              exact h2a221a11
            · have h2a221a12 := h2a221a1.2 hc
              refine ev_seg (σ1 := ((d + 1), 275, 134, [some (.inr (.inr 86)), some (.inl x1), some (.inl x2), some (.inl x3), some (.inl x4), some (.inl x5), some (.inl r1), some (.inl 0)], [.inl x5, .inl x2, .inl x1, .inr (.inr 86)], (am_sh, am_mm U1))) 4 (fun _ => rfl) ?_
              obtain ⟨r4, U4, h2a221a12c, h2a221a12a⟩ := h2a221a12
              refine ev_cal (σc := (d, 311, 0, [some (.inr (.inr 86)), some (.inl x1), some (.inl x2), some (.inl x5), none, none], [], (am_sh, am_mm U1))) (fun _ => rfl) h2a221a12c ?_
              show Ev kz ((d + 1), 275, 137, [some (.inr (.inr 86)), some (.inl x1), some (.inl x2), some (.inl x3), some (.inl x4), some (.inl x5), some (.inl r1), some (.inl 0)], [.inl r4], (am_sh, am_mm U4)) R
              refine ev_br (P := ¬ r4 = 0) (σ1 := ((d + 1), 275, 142, [some (.inr (.inr 86)), some (.inl x1), some (.inl x2), some (.inl x3), some (.inl x4), some (.inl x5), some (.inl r1), some (.inl 0)], [], (am_sh, am_mm U4))) (σ2 := ((d + 1), 275, 140, [some (.inr (.inr 86)), some (.inl x1), some (.inl x2), some (.inl x3), some (.inl x4), some (.inl x5), some (.inl r1), some (.inl 0)], [], (am_sh, am_mm U4))) 1 (fun _ => rfl) (fun hc => ?_) (fun hc => ?_)
              · have h2a221a12a1 := h2a221a12a.1 hc
                refine ev_seg (σ1 := ((d + 1), 275, 54, [some (.inr (.inr 86)), some (.inl x1), some (.inl x2), some (.inl x3), some (.inl x4), some (.inl (w32 (x5 + 1))), some (.inl r1), some (.inl 0)], [], (am_sh, am_mm U4))) 2 (fun _ => rfl) ?_
                exact h2a221a12a1
              · have h2a221a12a2 := h2a221a12a.2 hc
                subst h2a221a12a2
                exact ev_end 2 (fun _ => rfl)
          · have h2a221a2 := h2a221a.2 hc
            refine ev_br (P := 1 = 0) (σ1 := ((d + 1), 275, 142, [some (.inr (.inr 86)), some (.inl x1), some (.inl x2), some (.inl x3), some (.inl x4), some (.inl x5), some (.inl r1), some (.inl 1)], [], (am_sh, am_mm U1))) (σ2 := ((d + 1), 275, 129, [some (.inr (.inr 86)), some (.inl x1), some (.inl x2), some (.inl x3), some (.inl x4), some (.inl x5), some (.inl r1), some (.inl 1)], [], (am_sh, am_mm U1))) 5 (fun _ => rfl) (fun hc => ?_) (fun hc => ?_)
            · have h2a221a21 := h2a221a2.1 hc
              refine ev_seg (σ1 := ((d + 1), 275, 54, [some (.inr (.inr 86)), some (.inl x1), some (.inl x2), some (.inl x3), some (.inl x4), some (.inl (w32 (x5 + 1))), some (.inl r1), some (.inl 1)], [], (am_sh, am_mm U1))) 2 (fun _ => rfl) ?_
              exact h2a221a21
            · have h2a221a22 := h2a221a2.2 hc
              refine ev_seg (σ1 := ((d + 1), 275, 134, [some (.inr (.inr 86)), some (.inl x1), some (.inl x2), some (.inl x3), some (.inl x4), some (.inl x5), some (.inl r1), some (.inl 1)], [.inl x5, .inl x2, .inl x1, .inr (.inr 86)], (am_sh, am_mm U1))) 4 (fun _ => rfl) ?_
              obtain ⟨r5, U5, h2a221a22c, h2a221a22a⟩ := h2a221a22
              refine ev_cal (σc := (d, 311, 0, [some (.inr (.inr 86)), some (.inl x1), some (.inl x2), some (.inl x5), none, none], [], (am_sh, am_mm U1))) (fun _ => rfl) h2a221a22c ?_
              show Ev kz ((d + 1), 275, 137, [some (.inr (.inr 86)), some (.inl x1), some (.inl x2), some (.inl x3), some (.inl x4), some (.inl x5), some (.inl r1), some (.inl 1)], [.inl r5], (am_sh, am_mm U5)) R
              refine ev_br (P := ¬ r5 = 0) (σ1 := ((d + 1), 275, 142, [some (.inr (.inr 86)), some (.inl x1), some (.inl x2), some (.inl x3), some (.inl x4), some (.inl x5), some (.inl r1), some (.inl 1)], [], (am_sh, am_mm U5))) (σ2 := ((d + 1), 275, 140, [some (.inr (.inr 86)), some (.inl x1), some (.inl x2), some (.inl x3), some (.inl x4), some (.inl x5), some (.inl r1), some (.inl 1)], [], (am_sh, am_mm U5))) 1 (fun _ => rfl) (fun hc => ?_) (fun hc => ?_)
              · have h2a221a22a1 := h2a221a22a.1 hc
                refine ev_seg (σ1 := ((d + 1), 275, 54, [some (.inr (.inr 86)), some (.inl x1), some (.inl x2), some (.inl x3), some (.inl x4), some (.inl (w32 (x5 + 1))), some (.inl r1), some (.inl 1)], [], (am_sh, am_mm U5))) 2 (fun _ => rfl) ?_
                exact h2a221a22a1
              · have h2a221a22a2 := h2a221a22a.2 hc
                subst h2a221a22a2
                exact ev_end 2 (fun _ => rfl)
        · have h2a222 := h2a22.2 hc
          refine ev_br (P := ¬ r1 = x4) (σ1 := ((d + 1), 275, 121, [some (.inr (.inr 86)), some (.inl x1), some (.inl x2), some (.inl x3), some (.inl x4), some (.inl x5), some (.inl r1), none], [], (am_sh, am_mm U1))) (σ2 := ((d + 1), 275, 98, [some (.inr (.inr 86)), some (.inl x1), some (.inl x2), some (.inl x3), some (.inl x4), some (.inl x5), some (.inl r1), none], [], (am_sh, am_mm U1))) 3 (fun _ => rfl) (fun hc => ?_) (fun hc => ?_)
          · have h2a2221 := h2a222.1 hc
            refine ev_br (P := 0 = 0) (σ1 := ((d + 1), 275, 142, [some (.inr (.inr 86)), some (.inl x1), some (.inl x2), some (.inl x3), some (.inl x4), some (.inl x5), some (.inl r1), some (.inl 0)], [], (am_sh, am_mm U1))) (σ2 := ((d + 1), 275, 129, [some (.inr (.inr 86)), some (.inl x1), some (.inl x2), some (.inl x3), some (.inl x4), some (.inl x5), some (.inl r1), some (.inl 0)], [], (am_sh, am_mm U1))) 4 (fun _ => rfl) (fun hc => ?_) (fun hc => ?_)
            · have h2a22211 := h2a2221.1 hc
              refine ev_seg (σ1 := ((d + 1), 275, 54, [some (.inr (.inr 86)), some (.inl x1), some (.inl x2), some (.inl x3), some (.inl x4), some (.inl (w32 (x5 + 1))), some (.inl r1), some (.inl 0)], [], (am_sh, am_mm U1))) 2 (fun _ => rfl) ?_
              exact h2a22211
            · have h2a22212 := h2a2221.2 hc
              refine ev_seg (σ1 := ((d + 1), 275, 134, [some (.inr (.inr 86)), some (.inl x1), some (.inl x2), some (.inl x3), some (.inl x4), some (.inl x5), some (.inl r1), some (.inl 0)], [.inl x5, .inl x2, .inl x1, .inr (.inr 86)], (am_sh, am_mm U1))) 4 (fun _ => rfl) ?_
              obtain ⟨r6, U6, h2a22212c, h2a22212a⟩ := h2a22212
              refine ev_cal (σc := (d, 311, 0, [some (.inr (.inr 86)), some (.inl x1), some (.inl x2), some (.inl x5), none, none], [], (am_sh, am_mm U1))) (fun _ => rfl) h2a22212c ?_
              show Ev kz ((d + 1), 275, 137, [some (.inr (.inr 86)), some (.inl x1), some (.inl x2), some (.inl x3), some (.inl x4), some (.inl x5), some (.inl r1), some (.inl 0)], [.inl r6], (am_sh, am_mm U6)) R
              refine ev_br (P := ¬ r6 = 0) (σ1 := ((d + 1), 275, 142, [some (.inr (.inr 86)), some (.inl x1), some (.inl x2), some (.inl x3), some (.inl x4), some (.inl x5), some (.inl r1), some (.inl 0)], [], (am_sh, am_mm U6))) (σ2 := ((d + 1), 275, 140, [some (.inr (.inr 86)), some (.inl x1), some (.inl x2), some (.inl x3), some (.inl x4), some (.inl x5), some (.inl r1), some (.inl 0)], [], (am_sh, am_mm U6))) 1 (fun _ => rfl) (fun hc => ?_) (fun hc => ?_)
              · have h2a22212a1 := h2a22212a.1 hc
                refine ev_seg (σ1 := ((d + 1), 275, 54, [some (.inr (.inr 86)), some (.inl x1), some (.inl x2), some (.inl x3), some (.inl x4), some (.inl (w32 (x5 + 1))), some (.inl r1), some (.inl 0)], [], (am_sh, am_mm U6))) 2 (fun _ => rfl) ?_
                exact h2a22212a1
              · have h2a22212a2 := h2a22212a.2 hc
                subst h2a22212a2
                exact ev_end 2 (fun _ => rfl)
          · have h2a2222 := h2a222.2 hc
            refine ev_br (P := 1 = 0) (σ1 := ((d + 1), 275, 142, [some (.inr (.inr 86)), some (.inl x1), some (.inl x2), some (.inl x3), some (.inl x4), some (.inl x5), some (.inl r1), some (.inl 1)], [], (am_sh, am_mm U1))) (σ2 := ((d + 1), 275, 129, [some (.inr (.inr 86)), some (.inl x1), some (.inl x2), some (.inl x3), some (.inl x4), some (.inl x5), some (.inl r1), some (.inl 1)], [], (am_sh, am_mm U1))) 6 (fun _ => rfl) (fun hc => ?_) (fun hc => ?_)
            · have h2a22221 := h2a2222.1 hc
              refine ev_seg (σ1 := ((d + 1), 275, 54, [some (.inr (.inr 86)), some (.inl x1), some (.inl x2), some (.inl x3), some (.inl x4), some (.inl (w32 (x5 + 1))), some (.inl r1), some (.inl 1)], [], (am_sh, am_mm U1))) 2 (fun _ => rfl) ?_
              exact h2a22221
            · have h2a22222 := h2a2222.2 hc
              refine ev_seg (σ1 := ((d + 1), 275, 134, [some (.inr (.inr 86)), some (.inl x1), some (.inl x2), some (.inl x3), some (.inl x4), some (.inl x5), some (.inl r1), some (.inl 1)], [.inl x5, .inl x2, .inl x1, .inr (.inr 86)], (am_sh, am_mm U1))) 4 (fun _ => rfl) ?_
              obtain ⟨r7, U7, h2a22222c, h2a22222a⟩ := h2a22222
              refine ev_cal (σc := (d, 311, 0, [some (.inr (.inr 86)), some (.inl x1), some (.inl x2), some (.inl x5), none, none], [], (am_sh, am_mm U1))) (fun _ => rfl) h2a22222c ?_
              show Ev kz ((d + 1), 275, 137, [some (.inr (.inr 86)), some (.inl x1), some (.inl x2), some (.inl x3), some (.inl x4), some (.inl x5), some (.inl r1), some (.inl 1)], [.inl r7], (am_sh, am_mm U7)) R
              refine ev_br (P := ¬ r7 = 0) (σ1 := ((d + 1), 275, 142, [some (.inr (.inr 86)), some (.inl x1), some (.inl x2), some (.inl x3), some (.inl x4), some (.inl x5), some (.inl r1), some (.inl 1)], [], (am_sh, am_mm U7))) (σ2 := ((d + 1), 275, 140, [some (.inr (.inr 86)), some (.inl x1), some (.inl x2), some (.inl x3), some (.inl x4), some (.inl x5), some (.inl r1), some (.inl 1)], [], (am_sh, am_mm U7))) 1 (fun _ => rfl) (fun hc => ?_) (fun hc => ?_)
              · have h2a22222a1 := h2a22222a.1 hc
                refine ev_seg (σ1 := ((d + 1), 275, 54, [some (.inr (.inr 86)), some (.inl x1), some (.inl x2), some (.inl x3), some (.inl x4), some (.inl (w32 (x5 + 1))), some (.inl r1), some (.inl 1)], [], (am_sh, am_mm U7))) 2 (fun _ => rfl) ?_
                exact h2a22222a1
              · have h2a22222a2 := h2a22222a.2 hc
                subst h2a22222a2
                exact ev_end 2 (fun _ => rfl)
set_option maxRecDepth 8000 in
theorem st278_0 (kz : am_Z) (d : Nat) (x0 : Int) (U : Nat → Nat → Int) (R : Option am_V × am_M) (h : (((0 ≤ (am_lcmp x0 0) : Prop)) → Ev kz (d, 278, 15, [some (.inr (.inl x0)), none, some (.inr (.inl 0)), none, some (.inr (.inl 40000)), none, none, none], [], (am_sh, am_mm U)) R) ∧ (¬ (0 ≤ (am_lcmp x0 0)) → R = (some (.inl 0), (am_sh, am_mm U)))) : Ev kz (d, 278, 0, [some (.inr (.inl x0)), none, none, none, none, none, none, none], [], (am_sh, am_mm U)) R := by
  refine ev_br (P := 0 ≤ (am_lcmp x0 0)) (σ1 := (d, 278, 8, [some (.inr (.inl x0)), none, none, none, none, none, none, none], [], (am_sh, am_mm U))) (σ2 := (d, 278, 6, [some (.inr (.inl x0)), none, none, none, none, none, none, none], [], (am_sh, am_mm U))) 4 (fun _ => rfl) (fun hc => ?_) (fun hc => ?_)
  · have h1 := h.1 hc
    refine ev_seg (σ1 := (d, 278, 15, [some (.inr (.inl x0)), none, some (.inr (.inl 0)), none, some (.inr (.inl 40000)), none, none, none], [], (am_sh, am_mm U))) 4 (fun _ => rfl) ?_
    exact h1
  · have h2 := h.2 hc
    subst h2
    exact ev_end 2 (fun _ => rfl)
set_option maxRecDepth 8000 in
theorem st278_15 (kz : am_Z) (d : Nat) (x0 x2 x4 : Int) (U : Nat → Nat → Int) (R : Option am_V × am_M) (h : (((0 ≤ (am_lcmp x2 x4) : Prop)) → (((¬ (am_lcmp (w64 (x2 * x2)) x0) = 0 : Prop)) → R = (some (.inl 0), (am_sh, am_mm U))) ∧ (¬ (¬ (am_lcmp (w64 (x2 * x2)) x0) = 0) → R = (some (.inl 1), (am_sh, am_mm U)))) ∧ (¬ (0 ≤ (am_lcmp x2 x4)) → (((0 ≤ (am_lcmp (w64 ((w64 (Int.tdiv (w64 (x2 + x4)) 2)) * (w64 (Int.tdiv (w64 (x2 + x4)) 2)))) x0) : Prop)) → Ev kz (d, 278, 15, [some (.inr (.inl x0)), none, some (.inr (.inl x2)), none, some (.inr (.inl (w64 (Int.tdiv (w64 (x2 + x4)) 2)))), none, some (.inr (.inl (w64 (Int.tdiv (w64 (x2 + x4)) 2)))), none], [], (am_sh, am_mm U)) R) ∧ (¬ (0 ≤ (am_lcmp (w64 ((w64 (Int.tdiv (w64 (x2 + x4)) 2)) * (w64 (Int.tdiv (w64 (x2 + x4)) 2)))) x0)) → Ev kz (d, 278, 15, [some (.inr (.inl x0)), none, some (.inr (.inl (w64 ((w64 (Int.tdiv (w64 (x2 + x4)) 2)) + 1)))), none, some (.inr (.inl x4)), none, some (.inr (.inl (w64 (Int.tdiv (w64 (x2 + x4)) 2)))), none], [], (am_sh, am_mm U)) R))) : Ev kz (d, 278, 15, [some (.inr (.inl x0)), none, some (.inr (.inl x2)), none, some (.inr (.inl x4)), none, none, none], [], (am_sh, am_mm U)) R := by
  refine ev_br (P := 0 ≤ (am_lcmp x2 x4)) (σ1 := (d, 278, 57, [some (.inr (.inl x0)), none, some (.inr (.inl x2)), none, some (.inr (.inl x4)), none, none, none], [], (am_sh, am_mm U))) (σ2 := (d, 278, 22, [some (.inr (.inl x0)), none, some (.inr (.inl x2)), none, some (.inr (.inl x4)), none, none, none], [], (am_sh, am_mm U))) 4 (fun _ => rfl) (fun hc => ?_) (fun hc => ?_)
  · have h1 := h.1 hc
    refine ev_br (P := ¬ (am_lcmp (w64 (x2 * x2)) x0) = 0) (σ1 := (d, 278, 69, [some (.inr (.inl x0)), none, some (.inr (.inl x2)), none, some (.inr (.inl x4)), none, none, none], [], (am_sh, am_mm U))) (σ2 := (d, 278, 65, [some (.inr (.inl x0)), none, some (.inr (.inl x2)), none, some (.inr (.inl x4)), none, none, none], [], (am_sh, am_mm U))) 6 (fun _ => rfl) (fun hc => ?_) (fun hc => ?_)
    · have h11 := h1.1 hc
      subst h11
      exact ev_end 2 (fun _ => rfl)
    · have h12 := h1.2 hc
      subst h12
      exact ev_end 3 (fun _ => rfl)
  · have h2 := h.2 hc
    refine ev_seg (σ1 := (d, 278, 29, [some (.inr (.inl x0)), none, some (.inr (.inl x2)), none, some (.inr (.inl x4)), none, none, none], [.inr (.inl 2), .inr (.inl (w64 (x2 + x4)))], (am_sh, am_mm U))) 4 (fun _ => rfl) ?_
    refine ev_ldiv rfl (by decide) ?_
    refine ev_br (P := 0 ≤ (am_lcmp (w64 ((w64 (Int.tdiv (w64 (x2 + x4)) 2)) * (w64 (Int.tdiv (w64 (x2 + x4)) 2)))) x0)) (σ1 := (d, 278, 50, [some (.inr (.inl x0)), none, some (.inr (.inl x2)), none, some (.inr (.inl x4)), none, some (.inr (.inl (w64 (Int.tdiv (w64 (x2 + x4)) 2)))), none], [], (am_sh, am_mm U))) (σ2 := (d, 278, 42, [some (.inr (.inl x0)), none, some (.inr (.inl x2)), none, some (.inr (.inl x4)), none, some (.inr (.inl (w64 (Int.tdiv (w64 (x2 + x4)) 2)))), none], [], (am_sh, am_mm U))) 7 (fun _ => rfl) (fun hc => ?_) (fun hc => ?_)
    · have h21 := h2.1 hc
      refine ev_seg (σ1 := (d, 278, 15, [some (.inr (.inl x0)), none, some (.inr (.inl x2)), none, some (.inr (.inl (w64 (Int.tdiv (w64 (x2 + x4)) 2)))), none, some (.inr (.inl (w64 (Int.tdiv (w64 (x2 + x4)) 2)))), none], [], (am_sh, am_mm U))) 3 (fun _ => rfl) ?_
      exact h21
    · have h22 := h2.2 hc
      refine ev_seg (σ1 := (d, 278, 15, [some (.inr (.inl x0)), none, some (.inr (.inl (w64 ((w64 (Int.tdiv (w64 (x2 + x4)) 2)) + 1)))), none, some (.inr (.inl x4)), none, some (.inr (.inl (w64 (Int.tdiv (w64 (x2 + x4)) 2)))), none], [], (am_sh, am_mm U))) 6 (fun _ => rfl) ?_
      exact h22
set_option maxRecDepth 8000 in
theorem st122_0 (kz : am_Z) (d : Nat) (x0 : Int) (U : Nat → Nat → Int) (R : Option am_V × am_M) (h : ((((am_lcmp x0 1) ≤ 0 : Prop)) → R = (some (.inl 0), (am_sh, am_mm U))) ∧ (¬ ((am_lcmp x0 1) ≤ 0) → ∃ (r1 : Int) (U1 : Nat → Nat → Int), Ev kz (d, 209, 0, [some (.inr (.inl x0)), none, some (.inr (.inl 2)), none, none, none, none, none, none, none], [], (am_sh, am_mm U)) (some (.inl r1), (am_sh, am_mm U1)) ∧ (((r1 = 0 : Prop)) → R = (some (.inl 0), (am_sh, am_mm U1))) ∧ (¬ (r1 = 0) → ∃ (r2 : Int) (U2 : Nat → Nat → Int), Ev kz (d, 209, 0, [some (.inr (.inl x0)), none, some (.inr (.inl 3)), none, none, none, none, none, none, none], [], (am_sh, am_mm U1)) (some (.inl r2), (am_sh, am_mm U2)) ∧ (((r2 = 0 : Prop)) → R = (some (.inl 0), (am_sh, am_mm U2))) ∧ (¬ (r2 = 0) → ∃ (r3 : Int) (U3 : Nat → Nat → Int), Ev kz (d, 209, 0, [some (.inr (.inl x0)), none, some (.inr (.inl 5)), none, none, none, none, none, none, none], [], (am_sh, am_mm U2)) (some (.inl r3), (am_sh, am_mm U3)) ∧ (((r3 = 0 : Prop)) → R = (some (.inl 0), (am_sh, am_mm U3))) ∧ (¬ (r3 = 0) → ∃ (r4 : Int) (U4 : Nat → Nat → Int), Ev kz (d, 209, 0, [some (.inr (.inl x0)), none, some (.inr (.inl 7)), none, none, none, none, none, none, none], [], (am_sh, am_mm U3)) (some (.inl r4), (am_sh, am_mm U4)) ∧ (((r4 = 0 : Prop)) → R = (some (.inl 0), (am_sh, am_mm U4))) ∧ (¬ (r4 = 0) → R = (some (.inl 1), (am_sh, am_mm U4)))))))) : Ev kz ((d + 1), 122, 0, [some (.inr (.inl x0)), none], [], (am_sh, am_mm U)) R := by
  refine ev_br (P := (am_lcmp x0 1) ≤ 0) (σ1 := ((d + 1), 122, 50, [some (.inr (.inl x0)), none], [], (am_sh, am_mm U))) (σ2 := ((d + 1), 122, 6, [some (.inr (.inl x0)), none], [], (am_sh, am_mm U))) 4 (fun _ => rfl) (fun hc => ?_) (fun hc => ?_)
  · have h1 := h.1 hc
    subst h1
    exact ev_end 2 (fun _ => rfl)
  · have h2 := h.2 hc
    refine ev_seg (σ1 := ((d + 1), 122, 10, [some (.inr (.inl x0)), none], [.inr (.inl 2), .inr (.inl x0)], (am_sh, am_mm U))) 2 (fun _ => rfl) ?_
    obtain ⟨r1, U1, h2c, h2a⟩ := h2
    refine ev_cal (σc := (d, 209, 0, [some (.inr (.inl x0)), none, some (.inr (.inl 2)), none, none, none, none, none, none, none], [], (am_sh, am_mm U))) (fun _ => rfl) h2c ?_
    show Ev kz ((d + 1), 122, 13, [some (.inr (.inl x0)), none], [.inl r1], (am_sh, am_mm U1)) R
    refine ev_br (P := r1 = 0) (σ1 := ((d + 1), 122, 50, [some (.inr (.inl x0)), none], [], (am_sh, am_mm U1))) (σ2 := ((d + 1), 122, 16, [some (.inr (.inl x0)), none], [], (am_sh, am_mm U1))) 1 (fun _ => rfl) (fun hc => ?_) (fun hc => ?_)
    · have h2a1 := h2a.1 hc
      subst h2a1
      exact ev_end 2 (fun _ => rfl)
    · have h2a2 := h2a.2 hc
      refine ev_seg (σ1 := ((d + 1), 122, 20, [some (.inr (.inl x0)), none], [.inr (.inl 3), .inr (.inl x0)], (am_sh, am_mm U1))) 2 (fun _ => rfl) ?_
      obtain ⟨r2, U2, h2a2c, h2a2a⟩ := h2a2
      refine ev_cal (σc := (d, 209, 0, [some (.inr (.inl x0)), none, some (.inr (.inl 3)), none, none, none, none, none, none, none], [], (am_sh, am_mm U1))) (fun _ => rfl) h2a2c ?_
      show Ev kz ((d + 1), 122, 23, [some (.inr (.inl x0)), none], [.inl r2], (am_sh, am_mm U2)) R
      refine ev_br (P := r2 = 0) (σ1 := ((d + 1), 122, 50, [some (.inr (.inl x0)), none], [], (am_sh, am_mm U2))) (σ2 := ((d + 1), 122, 26, [some (.inr (.inl x0)), none], [], (am_sh, am_mm U2))) 1 (fun _ => rfl) (fun hc => ?_) (fun hc => ?_)
      · have h2a2a1 := h2a2a.1 hc
        subst h2a2a1
        exact ev_end 2 (fun _ => rfl)
      · have h2a2a2 := h2a2a.2 hc
        refine ev_seg (σ1 := ((d + 1), 122, 30, [some (.inr (.inl x0)), none], [.inr (.inl 5), .inr (.inl x0)], (am_sh, am_mm U2))) 2 (fun _ => rfl) ?_
        obtain ⟨r3, U3, h2a2a2c, h2a2a2a⟩ := h2a2a2
        refine ev_cal (σc := (d, 209, 0, [some (.inr (.inl x0)), none, some (.inr (.inl 5)), none, none, none, none, none, none, none], [], (am_sh, am_mm U2))) (fun _ => rfl) h2a2a2c ?_
        show Ev kz ((d + 1), 122, 33, [some (.inr (.inl x0)), none], [.inl r3], (am_sh, am_mm U3)) R
        refine ev_br (P := r3 = 0) (σ1 := ((d + 1), 122, 50, [some (.inr (.inl x0)), none], [], (am_sh, am_mm U3))) (σ2 := ((d + 1), 122, 36, [some (.inr (.inl x0)), none], [], (am_sh, am_mm U3))) 1 (fun _ => rfl) (fun hc => ?_) (fun hc => ?_)
        · have h2a2a2a1 := h2a2a2a.1 hc
          subst h2a2a2a1
          exact ev_end 2 (fun _ => rfl)
        · have h2a2a2a2 := h2a2a2a.2 hc
          refine ev_seg (σ1 := ((d + 1), 122, 40, [some (.inr (.inl x0)), none], [.inr (.inl 7), .inr (.inl x0)], (am_sh, am_mm U3))) 2 (fun _ => rfl) ?_
          obtain ⟨r4, U4, h2a2a2a2c, h2a2a2a2a⟩ := h2a2a2a2
          refine ev_cal (σc := (d, 209, 0, [some (.inr (.inl x0)), none, some (.inr (.inl 7)), none, none, none, none, none, none, none], [], (am_sh, am_mm U3))) (fun _ => rfl) h2a2a2a2c ?_
          show Ev kz ((d + 1), 122, 43, [some (.inr (.inl x0)), none], [.inl r4], (am_sh, am_mm U4)) R
          refine ev_br (P := r4 = 0) (σ1 := ((d + 1), 122, 50, [some (.inr (.inl x0)), none], [], (am_sh, am_mm U4))) (σ2 := ((d + 1), 122, 46, [some (.inr (.inl x0)), none], [], (am_sh, am_mm U4))) 1 (fun _ => rfl) (fun hc => ?_) (fun hc => ?_)
          · have h2a2a2a2a1 := h2a2a2a2a.1 hc
            subst h2a2a2a2a1
            exact ev_end 2 (fun _ => rfl)
          · have h2a2a2a2a2 := h2a2a2a2a.2 hc
            subst h2a2a2a2a2
            exact ev_end 3 (fun _ => rfl)
set_option maxRecDepth 8000 in
theorem st280_16_0 (kz : am_Z) (d : Nat) (x1 : Int) (U : Nat → Nat → Int) (R : Option am_V × am_M) (h : Ev kz (d, 280, 2, [some (.inr (.inr 16)), some (.inl x1), some (.inl 0)], [], (am_sh, am_mm U)) R) : Ev kz (d, 280, 0, [some (.inr (.inr 16)), some (.inl x1), none], [], (am_sh, am_mm U)) R := by
  refine ev_seg (σ1 := (d, 280, 2, [some (.inr (.inr 16)), some (.inl x1), some (.inl 0)], [], (am_sh, am_mm U))) 2 (fun _ => rfl) ?_
  exact h
set_option maxRecDepth 8000 in
theorem st280_16_2 (kz : am_Z) (d : Nat) (x1 x2 : Int) (U : Nat → Nat → Int) (R : Option am_V × am_M) (h : ((((U 16 0) ≤ x2 : Prop)) → R = (some (.inl (-1)), (am_sh, am_mm U))) ∧ (¬ ((U 16 0) ≤ x2) → (0 ≤ x2 ∧ x2 < 16) ∧ (((¬ (U 17 x2.toNat) = x1 : Prop)) → Ev kz (d, 280, 2, [some (.inr (.inr 16)), some (.inl x1), some (.inl (w32 (x2 + 1)))], [], (am_sh, am_mm U)) R) ∧ (¬ (¬ (U 17 x2.toNat) = x1) → R = (some (.inl x2), (am_sh, am_mm U))))) : Ev kz (d, 280, 2, [some (.inr (.inr 16)), some (.inl x1), some (.inl x2)], [], (am_sh, am_mm U)) R := by
  refine ev_br (P := (U 16 0) ≤ x2) (σ1 := (d, 280, 28, [some (.inr (.inr 16)), some (.inl x1), some (.inl x2)], [], (am_sh, am_mm U))) (σ2 := (d, 280, 10, [some (.inr (.inr 16)), some (.inl x1), some (.inl x2)], [], (am_sh, am_mm U))) 4 (fun _ => rfl) (fun hc => ?_) (fun hc => ?_)
  · have h1 := h.1 hc
    subst h1
    exact ev_end 2 (fun _ => rfl)
  · have h2 := h.2 hc
    refine ev_seg (σ1 := (d, 280, 15, [some (.inr (.inr 16)), some (.inl x1), some (.inl x2)], [.inl x2, .inr (.inr 17)], (am_sh, am_mm U))) 3 (fun _ => rfl) ?_
    refine eu_iald 17 (n := 16) rfl (by decide) rfl (fun _ => rfl) h2.1 ?_
    have h2a := h2.2
    refine ev_br (P := ¬ (U 17 x2.toNat) = x1) (σ1 := (d, 280, 22, [some (.inr (.inr 16)), some (.inl x1), some (.inl x2)], [], (am_sh, am_mm U))) (σ2 := (d, 280, 20, [some (.inr (.inr 16)), some (.inl x1), some (.inl x2)], [], (am_sh, am_mm U))) 2 (fun _ => rfl) (fun hc => ?_) (fun hc => ?_)
    · have h2a1 := h2a.1 hc
      refine ev_seg (σ1 := (d, 280, 2, [some (.inr (.inr 16)), some (.inl x1), some (.inl (w32 (x2 + 1)))], [], (am_sh, am_mm U))) 2 (fun _ => rfl) ?_
      exact h2a1
    · have h2a2 := h2a.2 hc
      subst h2a2
      exact ev_end 2 (fun _ => rfl)
set_option maxRecDepth 8000 in
theorem st211_54_0 (kz : am_Z) (d : Nat) (x1 : Int) (U : Nat → Nat → Int) (R : Option am_V × am_M) (h : Ev kz (d, 211, 5, [some (.inr (.inr 54)), some (.inl x1), some (.inl 0), some (.inl 16)], [], (am_sh, am_mm U)) R) : Ev kz (d, 211, 0, [some (.inr (.inr 54)), some (.inl x1), none, none], [], (am_sh, am_mm U)) R := by
  refine ev_seg (σ1 := (d, 211, 5, [some (.inr (.inr 54)), some (.inl x1), some (.inl 0), some (.inl 16)], [], (am_sh, am_mm U))) 5 (fun _ => rfl) ?_
  exact h
set_option maxRecDepth 8000 in
theorem st211_54_5 (kz : am_Z) (d : Nat) (x1 x2 x3 : Int) (U : Nat → Nat → Int) (R : Option am_V × am_M) (h : (((x3 ≤ x2 : Prop)) → R = (none, (am_sh, am_mm U))) ∧ (¬ (x3 ≤ x2) → (0 ≤ x2 ∧ x2 < 16) ∧ Ev kz (d, 211, 5, [some (.inr (.inr 54)), some (.inl x1), some (.inl (w32 (x2 + 1))), some (.inl x3)], [], (am_sh, am_mm (am_upd U 54 x2.toNat x1))) R)) : Ev kz (d, 211, 5, [some (.inr (.inr 54)), some (.inl x1), some (.inl x2), some (.inl x3)], [], (am_sh, am_mm U)) R := by
  refine ev_br (P := x3 ≤ x2) (σ1 := (d, 211, 20, [some (.inr (.inr 54)), some (.inl x1), some (.inl x2), some (.inl x3)], [], (am_sh, am_mm U))) (σ2 := (d, 211, 10, [some (.inr (.inr 54)), some (.inl x1), some (.inl x2), some (.inl x3)], [], (am_sh, am_mm U))) 3 (fun _ => rfl) (fun hc => ?_) (fun hc => ?_)
  · have h1 := h.1 hc
    subst h1
    exact ev_end 1 (fun _ => rfl)
  · have h2 := h.2 hc
    refine ev_seg (σ1 := (d, 211, 13, [some (.inr (.inr 54)), some (.inl x1), some (.inl x2), some (.inl x3)], [.inl x1, .inl x2, .inr (.inr 54)], (am_sh, am_mm U))) 3 (fun _ => rfl) ?_
    refine eu_iast 54 (n := 16) rfl (by decide) rfl (fun _ => rfl) h2.1 ?_
    have h2a := h2.2
    refine ev_seg (σ1 := (d, 211, 5, [some (.inr (.inr 54)), some (.inl x1), some (.inl (w32 (x2 + 1))), some (.inl x3)], [], (am_sh, am_mm (am_upd U 54 x2.toNat x1)))) 2 (fun _ => rfl) ?_
    exact h2a
set_option maxRecDepth 8000 in
theorem st281_52_0 (kz : am_Z) (d : Nat) (U : Nat → Nat → Int) (R : Option am_V × am_M) (h : ∃ U1 : Nat → Nat → Int, Ev kz (d, 211, 0, [some (.inr (.inr 53)), some (.inl 0), none, none], [], (am_sh, am_mm U)) (none, (am_sh, am_mm U1)) ∧ Ev kz ((d + 1), 281, 10, [some (.inr (.inr 52)), some (.inl 0), none], [], (am_sh, am_mm U1)) R) : Ev kz ((d + 1), 281, 0, [some (.inr (.inr 52)), none, none], [], (am_sh, am_mm U)) R := by
  refine ev_seg (σ1 := ((d + 1), 281, 5, [some (.inr (.inr 52)), none, none], [.inl 0, .inr (.inr 53)], (am_sh, am_mm U))) 3 (fun _ => rfl) ?_
  obtain ⟨U1, hc, ha⟩ := h
  refine ev_cal (σc := (d, 211, 0, [some (.inr (.inr 53)), some (.inl 0), none, none], [], (am_sh, am_mm U))) (fun _ => rfl) hc ?_
  show Ev kz ((d + 1), 281, 8, [some (.inr (.inr 52)), none, none], [], (am_sh, am_mm U1)) R
  refine ev_seg (σ1 := ((d + 1), 281, 10, [some (.inr (.inr 52)), some (.inl 0), none], [], (am_sh, am_mm U1))) 2 (fun _ => rfl) ?_
  exact ha
set_option maxRecDepth 8000 in
theorem st281_52_10 (kz : am_Z) (d : Nat) (x1 : Int) (U : Nat → Nat → Int) (R : Option am_V × am_M) (h : ((((U 16 0) ≤ x1 : Prop)) → R = (none, (am_sh, am_mm U))) ∧ (¬ ((U 16 0) ≤ x1) → Ev kz ((d + 1), 281, 25, [some (.inr (.inr 52)), some (.inl x1), some (.inl (w32 (x1 + 1)))], [], (am_sh, am_mm U)) R)) : Ev kz ((d + 1), 281, 10, [some (.inr (.inr 52)), some (.inl x1), none], [], (am_sh, am_mm U)) R := by
  refine ev_br (P := (U 16 0) ≤ x1) (σ1 := ((d + 1), 281, 116, [some (.inr (.inr 52)), some (.inl x1), none], [], (am_sh, am_mm U))) (σ2 := ((d + 1), 281, 21, [some (.inr (.inr 52)), some (.inl x1), none], [], (am_sh, am_mm U))) 5 (fun _ => rfl) (fun hc => ?_) (fun hc => ?_)
  · have h1 := h.1 hc
    subst h1
    exact ev_end 1 (fun _ => rfl)
  · have h2 := h.2 hc
    refine ev_seg (σ1 := ((d + 1), 281, 25, [some (.inr (.inr 52)), some (.inl x1), some (.inl (w32 (x1 + 1)))], [], (am_sh, am_mm U))) 4 (fun _ => rfl) ?_
    exact h2
set_option maxRecDepth 8000 in
theorem st281_52_25 (kz : am_Z) (d : Nat) (x1 x2 : Int) (U : Nat → Nat → Int) (R : Option am_V × am_M) (h : ((((U 16 0) ≤ x2 : Prop)) → Ev kz ((d + 1), 281, 10, [some (.inr (.inr 52)), some (.inl (w32 (x1 + 1))), some (.inl x2)], [], (am_sh, am_mm U)) R) ∧ (¬ ((U 16 0) ≤ x2) → (0 ≤ x2 ∧ x2 < 16) ∧ ∃ (r1 : Int) (U1 : Nat → Nat → Int), Ev kz (d, 134, 0, [some (.inr (.inr 45)), some (.inl 8), some (.inl x1), some (.inl (U 17 x2.toNat)), none, none, none, none, none], [], (am_sh, am_mm U)) (some (.inl r1), (am_sh, am_mm U1)) ∧ (((r1 = 0 : Prop)) → Ev kz ((d + 1), 281, 25, [some (.inr (.inr 52)), some (.inl x1), some (.inl (w32 (x2 + 1)))], [], (am_sh, am_mm U1)) R) ∧ (¬ (r1 = 0) → (0 ≤ x1 ∧ x1 < 16) ∧ ∃ (r2 : Int) (U2 : Nat → Nat → Int), Ev kz (d, 134, 0, [some (.inr (.inr 45)), some (.inl 8), some (.inl x2), some (.inl (U1 17 x1.toNat)), none, none, none, none, none], [], (am_sh, am_mm U1)) (some (.inl r2), (am_sh, am_mm U2)) ∧ (((r2 = 0 : Prop)) → Ev kz ((d + 1), 281, 25, [some (.inr (.inr 52)), some (.inl x1), some (.inl (w32 (x2 + 1)))], [], (am_sh, am_mm U2)) R) ∧ (¬ (r2 = 0) → (0 ≤ x1 ∧ x1 < 16) ∧ (0 ≤ x1 ∧ x1 < 16) ∧ (0 ≤ x2 ∧ x2 < 16) ∧ (0 ≤ x2 ∧ x2 < 16) ∧ Ev kz ((d + 1), 281, 25, [some (.inr (.inr 52)), some (.inl x1), some (.inl (w32 (x2 + 1)))], [], (am_sh, am_mm (am_upd (am_upd U2 53 x1.toNat (am_or (U2 53 x1.toNat) (am_shl 1 x2))) 53 x2.toNat (am_or ((am_upd U2 53 x1.toNat (am_or (U2 53 x1.toNat) (am_shl 1 x2))) 53 x2.toNat) (am_shl 1 x1))))) R)))) : Ev kz ((d + 1), 281, 25, [some (.inr (.inr 52)), some (.inl x1), some (.inl x2)], [], (am_sh, am_mm U)) R := by
  refine ev_br (P := (U 16 0) ≤ x2) (σ1 := ((d + 1), 281, 110, [some (.inr (.inr 52)), some (.inl x1), some (.inl x2)], [], (am_sh, am_mm U))) (σ2 := ((d + 1), 281, 36, [some (.inr (.inr 52)), some (.inl x1), some (.inl x2)], [], (am_sh, am_mm U))) 5 (fun _ => rfl) (fun hc => ?_) (fun hc => ?_)
  · have h1 := h.1 hc
    refine ev_seg (σ1 := ((d + 1), 281, 10, [some (.inr (.inr 52)), some (.inl (w32 (x1 + 1))), some (.inl x2)], [], (am_sh, am_mm U))) 2 (fun _ => rfl) ?_
    exact h1
  · have h2 := h.2 hc
    refine ev_seg (σ1 := ((d + 1), 281, 51, [some (.inr (.inr 52)), some (.inl x1), some (.inl x2)], [.inl x2, .inr (.inr 17), .inl x1, .inl 8, .inr (.inr 45)], (am_sh, am_mm U))) 8 (fun _ => rfl) ?_
    refine eu_iald 17 (n := 16) rfl (by decide) rfl (fun _ => rfl) h2.1 ?_
    have h2a := h2.2
    obtain ⟨r1, U1, h2ac, h2aa⟩ := h2a
    refine ev_cal (σc := (d, 134, 0, [some (.inr (.inr 45)), some (.inl 8), some (.inl x1), some (.inl (U 17 x2.toNat)), none, none, none, none, none], [], (am_sh, am_mm U))) (fun _ => rfl) h2ac ?_
    show Ev kz ((d + 1), 281, 55, [some (.inr (.inr 52)), some (.inl x1), some (.inl x2)], [.inl r1], (am_sh, am_mm U1)) R
    refine ev_br (P := r1 = 0) (σ1 := ((d + 1), 281, 104, [some (.inr (.inr 52)), some (.inl x1), some (.inl x2)], [], (am_sh, am_mm U1))) (σ2 := ((d + 1), 281, 58, [some (.inr (.inr 52)), some (.inl x1), some (.inl x2)], [], (am_sh, am_mm U1))) 1 (fun _ => rfl) (fun hc => ?_) (fun hc => ?_)
    · have h2aa1 := h2aa.1 hc
      refine ev_seg (σ1 := ((d + 1), 281, 25, [some (.inr (.inr 52)), some (.inl x1), some (.inl (w32 (x2 + 1)))], [], (am_sh, am_mm U1))) 2 (fun _ => rfl) ?_
      exact h2aa1
    · have h2aa2 := h2aa.2 hc
      refine ev_seg (σ1 := ((d + 1), 281, 73, [some (.inr (.inr 52)), some (.inl x1), some (.inl x2)], [.inl x1, .inr (.inr 17), .inl x2, .inl 8, .inr (.inr 45)], (am_sh, am_mm U1))) 8 (fun _ => rfl) ?_
      refine eu_iald 17 (n := 16) rfl (by decide) rfl (fun _ => rfl) h2aa2.1 ?_
      have h2aa2a := h2aa2.2
      obtain ⟨r2, U2, h2aa2ac, h2aa2aa⟩ := h2aa2a
      refine ev_cal (σc := (d, 134, 0, [some (.inr (.inr 45)), some (.inl 8), some (.inl x2), some (.inl (U1 17 x1.toNat)), none, none, none, none, none], [], (am_sh, am_mm U1))) (fun _ => rfl) h2aa2ac ?_
      show Ev kz ((d + 1), 281, 77, [some (.inr (.inr 52)), some (.inl x1), some (.inl x2)], [.inl r2], (am_sh, am_mm U2)) R
      refine ev_br (P := r2 = 0) (σ1 := ((d + 1), 281, 104, [some (.inr (.inr 52)), some (.inl x1), some (.inl x2)], [], (am_sh, am_mm U2))) (σ2 := ((d + 1), 281, 80, [some (.inr (.inr 52)), some (.inl x1), some (.inl x2)], [], (am_sh, am_mm U2))) 1 (fun _ => rfl) (fun hc => ?_) (fun hc => ?_)
      · have h2aa2aa1 := h2aa2aa.1 hc
        refine ev_seg (σ1 := ((d + 1), 281, 25, [some (.inr (.inr 52)), some (.inl x1), some (.inl (w32 (x2 + 1)))], [], (am_sh, am_mm U2))) 2 (fun _ => rfl) ?_
        exact h2aa2aa1
      · have h2aa2aa2 := h2aa2aa.2 hc
        refine ev_seg (σ1 := ((d + 1), 281, 86, [some (.inr (.inr 52)), some (.inl x1), some (.inl x2)], [.inl x1, .inr (.inr 53), .inl x1, .inr (.inr 53)], (am_sh, am_mm U2))) 4 (fun _ => rfl) ?_
        refine eu_iald 53 (n := 16) rfl (by decide) rfl (fun _ => rfl) h2aa2aa2.1 ?_
        have h2aa2aa2a := h2aa2aa2.2
        refine ev_seg (σ1 := ((d + 1), 281, 91, [some (.inr (.inr 52)), some (.inl x1), some (.inl x2)], [.inl (am_or (U2 53 x1.toNat) (am_shl 1 x2)), .inl x1, .inr (.inr 53)], (am_sh, am_mm U2))) 4 (fun _ => rfl) ?_
        refine eu_iast 53 (n := 16) rfl (by decide) rfl (fun _ => rfl) h2aa2aa2a.1 ?_
        have h2aa2aa2aa := h2aa2aa2a.2
        refine ev_seg (σ1 := ((d + 1), 281, 98, [some (.inr (.inr 52)), some (.inl x1), some (.inl x2)], [.inl x2, .inr (.inr 53), .inl x2, .inr (.inr 53)], (am_sh, am_mm (am_upd U2 53 x1.toNat (am_or (U2 53 x1.toNat) (am_shl 1 x2)))))) 4 (fun _ => rfl) ?_
        refine eu_iald 53 (n := 16) rfl (by decide) rfl (fun _ => rfl) h2aa2aa2aa.1 ?_
        have h2aa2aa2aaa := h2aa2aa2aa.2
        refine ev_seg (σ1 := ((d + 1), 281, 103, [some (.inr (.inr 52)), some (.inl x1), some (.inl x2)], [.inl (am_or ((am_upd U2 53 x1.toNat (am_or (U2 53 x1.toNat) (am_shl 1 x2))) 53 x2.toNat) (am_shl 1 x1)), .inl x2, .inr (.inr 53)], (am_sh, am_mm (am_upd U2 53 x1.toNat (am_or (U2 53 x1.toNat) (am_shl 1 x2)))))) 4 (fun _ => rfl) ?_
        refine eu_iast 53 (n := 16) rfl (by decide) rfl (fun _ => rfl) h2aa2aa2aaa.1 ?_
        have h2aa2aa2aaaa := h2aa2aa2aaa.2
        refine ev_seg (σ1 := ((d + 1), 281, 25, [some (.inr (.inr 52)), some (.inl x1), some (.inl (w32 (x2 + 1)))], [], (am_sh, am_mm (am_upd (am_upd U2 53 x1.toNat (am_or (U2 53 x1.toNat) (am_shl 1 x2))) 53 x2.toNat (am_or ((am_upd U2 53 x1.toNat (am_or (U2 53 x1.toNat) (am_shl 1 x2))) 53 x2.toNat) (am_shl 1 x1)))))) 2 (fun _ => rfl) ?_
        exact h2aa2aa2aaaa
set_option maxRecDepth 8000 in
theorem st284_52_0 (kz : am_Z) (d : Nat) (U : Nat → Nat → Int) (R : Option am_V × am_M) (h : Ev kz ((d + 1), 284, 7, [some (.inr (.inr 52)), some (.inl 0), some (.inl (U 52 6)), none], [], (am_sh, am_mm U)) R) : Ev kz ((d + 1), 284, 0, [some (.inr (.inr 52)), none, none, none], [], (am_sh, am_mm U)) R := by
  refine ev_seg (σ1 := ((d + 1), 284, 7, [some (.inr (.inr 52)), some (.inl 0), some (.inl (U 52 6)), none], [], (am_sh, am_mm U))) 5 (fun _ => rfl) ?_
  exact h
set_option maxRecDepth 8000 in
theorem st284_52_7 (kz : am_Z) (d : Nat) (x1 x2 : Int) (U : Nat → Nat → Int) (R : Option am_V × am_M) (h : ((((U 16 0) ≤ x2 : Prop)) → Ev kz ((d + 1), 284, 55, [some (.inr (.inr 52)), some (.inl x1), some (.inl (U 52 6)), none], [], (am_sh, am_mm U)) R) ∧ (¬ ((U 16 0) ≤ x2) → (0 ≤ x2 ∧ x2 < 16) ∧ (((¬ (U 55 x2.toNat) = 20 : Prop)) → Ev kz ((d + 1), 284, 7, [some (.inr (.inr 52)), some (.inl (am_or x1 0)), some (.inl (w32 (x2 + 1))), none], [], (am_sh, am_mm U)) R) ∧ (¬ (¬ (U 55 x2.toNat) = 20) → Ev kz ((d + 1), 284, 7, [some (.inr (.inr 52)), some (.inl (am_or x1 (am_shl 1 (w32 (x2 - (U 52 6)))))), some (.inl (w32 (x2 + 1))), none], [], (am_sh, am_mm U)) R))) : Ev kz ((d + 1), 284, 7, [some (.inr (.inr 52)), some (.inl x1), some (.inl x2), none], [], (am_sh, am_mm U)) R := by
  refine ev_br (P := (U 16 0) ≤ x2) (σ1 := ((d + 1), 284, 50, [some (.inr (.inr 52)), some (.inl x1), some (.inl x2), none], [], (am_sh, am_mm U))) (σ2 := ((d + 1), 284, 18, [some (.inr (.inr 52)), some (.inl x1), some (.inl x2), none], [], (am_sh, am_mm U))) 5 (fun _ => rfl) (fun hc => ?_) (fun hc => ?_)
  · have h1 := h.1 hc
    refine ev_seg (σ1 := ((d + 1), 284, 55, [some (.inr (.inr 52)), some (.inl x1), some (.inl (U 52 6)), none], [], (am_sh, am_mm U))) 3 (fun _ => rfl) ?_
    exact h1
  · have h2 := h.2 hc
    refine ev_seg (σ1 := ((d + 1), 284, 24, [some (.inr (.inr 52)), some (.inl x1), some (.inl x2), none], [.inl x2, .inr (.inr 55), .inl x1], (am_sh, am_mm U))) 4 (fun _ => rfl) ?_
    refine eu_iald 55 (n := 16) rfl (by decide) rfl (fun _ => rfl) h2.1 ?_
    have h2a := h2.2
    refine ev_br (P := ¬ (U 55 x2.toNat) = 20) (σ1 := ((d + 1), 284, 41, [some (.inr (.inr 52)), some (.inl x1), some (.inl x2), none], [.inl x1], (am_sh, am_mm U))) (σ2 := ((d + 1), 284, 30, [some (.inr (.inr 52)), some (.inl x1), some (.inl x2), none], [.inl x1], (am_sh, am_mm U))) 2 (fun _ => rfl) (fun hc => ?_) (fun hc => ?_)
    · have h2a1 := h2a.1 hc
      refine ev_seg (σ1 := ((d + 1), 284, 7, [some (.inr (.inr 52)), some (.inl (am_or x1 0)), some (.inl (w32 (x2 + 1))), none], [], (am_sh, am_mm U))) 5 (fun _ => rfl) ?_
      exact h2a1
    · have h2a2 := h2a.2 hc
      refine ev_seg (σ1 := ((d + 1), 284, 7, [some (.inr (.inr 52)), some (.inl (am_or x1 (am_shl 1 (w32 (x2 - (U 52 6)))))), some (.inl (w32 (x2 + 1))), none], [], (am_sh, am_mm U))) 11 (fun _ => rfl) ?_
      exact h2a2
set_option maxRecDepth 8000 in
theorem st284_52_55 (kz : am_Z) (d : Nat) (x1 x2 : Int) (U : Nat → Nat → Int) (R : Option am_V × am_M) (h : ((((U 16 0) ≤ x2 : Prop)) → R = (none, (am_sh, am_mm U))) ∧ (¬ ((U 16 0) ≤ x2) → ((((am_and x1 (am_xor (am_shl 1 (w32 (x2 - (U 52 6)))) (-1))) = x1 : Prop)) → Ev kz ((d + 1), 284, 55, [some (.inr (.inr 52)), some (.inl x1), some (.inl (w32 (x2 + 1))), some (.inl (am_and x1 (am_xor (am_shl 1 (w32 (x2 - (U 52 6)))) (-1))))], [], (am_sh, am_mm U)) R) ∧ (¬ ((am_and x1 (am_xor (am_shl 1 (w32 (x2 - (U 52 6)))) (-1))) = x1) → ∃ (r1 : Int) (U1 : Nat → Nat → Int), Ev kz (d, 316, 0, [some (.inr (.inr 52)), some (.inl x2), some (.inl x1), some (.inl (am_and x1 (am_xor (am_shl 1 (w32 (x2 - (U 52 6)))) (-1)))), none, none, none], [], (am_sh, am_mm U)) (some (.inl r1), (am_sh, am_mm U1)) ∧ Ev kz ((d + 1), 284, 55, [some (.inr (.inr 52)), some (.inl r1), some (.inl (w32 (x2 + 1))), some (.inl (am_and x1 (am_xor (am_shl 1 (w32 (x2 - (U 52 6)))) (-1))))], [], (am_sh, am_mm U1)) R))) : Ev kz ((d + 1), 284, 55, [some (.inr (.inr 52)), some (.inl x1), some (.inl x2), none], [], (am_sh, am_mm U)) R := by
  refine ev_br (P := (U 16 0) ≤ x2) (σ1 := ((d + 1), 284, 98, [some (.inr (.inr 52)), some (.inl x1), some (.inl x2), none], [], (am_sh, am_mm U))) (σ2 := ((d + 1), 284, 66, [some (.inr (.inr 52)), some (.inl x1), some (.inl x2), none], [], (am_sh, am_mm U))) 5 (fun _ => rfl) (fun hc => ?_) (fun hc => ?_)
  · have h1 := h.1 hc
    subst h1
    exact ev_end 1 (fun _ => rfl)
  · have h2 := h.2 hc
    refine ev_br (P := (am_and x1 (am_xor (am_shl 1 (w32 (x2 - (U 52 6)))) (-1))) = x1) (σ1 := ((d + 1), 284, 92, [some (.inr (.inr 52)), some (.inl x1), some (.inl x2), some (.inl (am_and x1 (am_xor (am_shl 1 (w32 (x2 - (U 52 6)))) (-1))))], [], (am_sh, am_mm U))) (σ2 := ((d + 1), 284, 84, [some (.inr (.inr 52)), some (.inl x1), some (.inl x2), some (.inl (am_and x1 (am_xor (am_shl 1 (w32 (x2 - (U 52 6)))) (-1))))], [], (am_sh, am_mm U))) 14 (fun _ => rfl) (fun hc => ?_) (fun hc => ?_)
    · have h21 := h2.1 hc
      refine ev_seg (σ1 := ((d + 1), 284, 55, [some (.inr (.inr 52)), some (.inl x1), some (.inl (w32 (x2 + 1))), some (.inl (am_and x1 (am_xor (am_shl 1 (w32 (x2 - (U 52 6)))) (-1))))], [], (am_sh, am_mm U))) 2 (fun _ => rfl) ?_
      exact h21
    · have h22 := h2.2 hc
      refine ev_seg (σ1 := ((d + 1), 284, 88, [some (.inr (.inr 52)), some (.inl x1), some (.inl x2), some (.inl (am_and x1 (am_xor (am_shl 1 (w32 (x2 - (U 52 6)))) (-1))))], [.inl (am_and x1 (am_xor (am_shl 1 (w32 (x2 - (U 52 6)))) (-1))), .inl x1, .inl x2, .inr (.inr 52)], (am_sh, am_mm U))) 4 (fun _ => rfl) ?_
      obtain ⟨r1, U1, h22c, h22a⟩ := h22
      refine ev_cal (σc := (d, 316, 0, [some (.inr (.inr 52)), some (.inl x2), some (.inl x1), some (.inl (am_and x1 (am_xor (am_shl 1 (w32 (x2 - (U 52 6)))) (-1)))), none, none, none], [], (am_sh, am_mm U))) (fun _ => rfl) h22c ?_
      show Ev kz ((d + 1), 284, 91, [some (.inr (.inr 52)), some (.inl x1), some (.inl x2), some (.inl (am_and x1 (am_xor (am_shl 1 (w32 (x2 - (U 52 6)))) (-1))))], [.inl r1], (am_sh, am_mm U1)) R
      refine ev_seg (σ1 := ((d + 1), 284, 55, [some (.inr (.inr 52)), some (.inl r1), some (.inl (w32 (x2 + 1))), some (.inl (am_and x1 (am_xor (am_shl 1 (w32 (x2 - (U 52 6)))) (-1))))], [], (am_sh, am_mm U1))) 3 (fun _ => rfl) ?_
      exact h22a
set_option maxRecDepth 8000 in
theorem st282_52_0 (kz : am_Z) (d : Nat) (U : Nat → Nat → Int) (R : Option am_V × am_M) (h : Ev kz ((d + 1), 282, 22, [some (.inr (.inr 52)), some (.inl (w32 ((U 16 0) - (U 52 6)))), some (.inl 1), none, none, none, none, none], [], (am_sh, am_mm (am_upd U 44 0 0))) R) : Ev kz ((d + 1), 282, 0, [some (.inr (.inr 52)), none, none, none, none, none, none, none], [], (am_sh, am_mm U)) R := by
  refine ev_seg (σ1 := ((d + 1), 282, 19, [some (.inr (.inr 52)), some (.inl (w32 ((U 16 0) - (U 52 6)))), none, none, none, none, none, none], [.inl 0, .inl 0, .inr (.inr 44)], (am_sh, am_mm U))) 11 (fun _ => rfl) ?_
  refine eu_iast 44 (n := 4096) rfl (by decide) rfl (fun _ => rfl) (by decide) ?_
  show Ev kz ((d + 1), 282, 20, [some (.inr (.inr 52)), some (.inl (w32 ((U 16 0) - (U 52 6)))), none, none, none, none, none, none], [], (am_sh, am_mm (am_upd U 44 0 0))) R
  refine ev_seg (σ1 := ((d + 1), 282, 22, [some (.inr (.inr 52)), some (.inl (w32 ((U 16 0) - (U 52 6)))), some (.inl 1), none, none, none, none, none], [], (am_sh, am_mm (am_upd U 44 0 0)))) 2 (fun _ => rfl) ?_
  exact h
set_option maxRecDepth 8000 in
theorem st282_52_22 (kz : am_Z) (d : Nat) (x1 x2 : Int) (U : Nat → Nat → Int) (R : Option am_V × am_M) (h : ((((am_shl 1 x1) ≤ x2 : Prop)) → R = (none, (am_sh, am_mm U))) ∧ (¬ ((am_shl 1 x1) ≤ x2) → (((4096 ≤ x2 : Prop)) → R = (none, (am_sh, am_mm U))) ∧ (¬ (4096 ≤ x2) → ∃ (r1 : Int) (U1 : Nat → Nat → Int), Ev kz (d, 314, 0, [some (.inl x2), none], [], (am_sh, am_mm U)) (some (.inl r1), (am_sh, am_mm U1)) ∧ (0 ≤ (w32 ((U1 52 6) + r1)) ∧ (w32 ((U1 52 6) + r1)) < 16) ∧ (0 ≤ (am_and x2 (w32 (x2 - 1))) ∧ (am_and x2 (w32 (x2 - 1))) < 4096) ∧ Ev kz ((d + 1), 282, 85, [some (.inr (.inr 52)), some (.inl x1), some (.inl x2), some (.inl r1), some (.inl (am_and x2 (w32 (x2 - 1)))), some (.inl (am_and (am_and x2 (w32 (x2 - 1))) (am_shr (U1 53 (w32 ((U1 52 6) + r1)).toNat) (U1 52 6)))), some (.inl (U1 44 (am_and x2 (w32 (x2 - 1))).toNat)), some (.inl (w32 (r1 + 1)))], [], (am_sh, am_mm U1)) R))) : Ev kz ((d + 1), 282, 22, [some (.inr (.inr 52)), some (.inl x1), some (.inl x2), none, none, none, none, none], [], (am_sh, am_mm U)) R := by
  refine ev_br (P := (am_shl 1 x1) ≤ x2) (σ1 := ((d + 1), 282, 145, [some (.inr (.inr 52)), some (.inl x1), some (.inl x2), none, none, none, none, none], [], (am_sh, am_mm U))) (σ2 := ((d + 1), 282, 29, [some (.inr (.inr 52)), some (.inl x1), some (.inl x2), none, none, none, none, none], [], (am_sh, am_mm U))) 5 (fun _ => rfl) (fun hc => ?_) (fun hc => ?_)
  · have h1 := h.1 hc
    subst h1
    exact ev_end 1 (fun _ => rfl)
  · have h2 := h.2 hc
    refine ev_br (P := 4096 ≤ x2) (σ1 := ((d + 1), 282, 145, [some (.inr (.inr 52)), some (.inl x1), some (.inl x2), none, none, none, none, none], [], (am_sh, am_mm U))) (σ2 := ((d + 1), 282, 38, [some (.inr (.inr 52)), some (.inl x1), some (.inl x2), none, none, none, none, none], [], (am_sh, am_mm U))) 5 (fun _ => rfl) (fun hc => ?_) (fun hc => ?_)
    · have h21 := h2.1 hc
      subst h21
      exact ev_end 1 (fun _ => rfl)
    · have h22 := h2.2 hc
      refine ev_seg (σ1 := ((d + 1), 282, 39, [some (.inr (.inr 52)), some (.inl x1), some (.inl x2), none, none, none, none, none], [.inl x2], (am_sh, am_mm U))) 1 (fun _ => rfl) ?_
      obtain ⟨r1, U1, h22c, h22a⟩ := h22
      refine ev_cal (σc := (d, 314, 0, [some (.inl x2), none], [], (am_sh, am_mm U))) (fun _ => rfl) h22c ?_
      show Ev kz ((d + 1), 282, 42, [some (.inr (.inr 52)), some (.inl x1), some (.inl x2), none, none, none, none, none], [.inl r1], (am_sh, am_mm U1)) R
      refine ev_seg (σ1 := ((d + 1), 282, 62, [some (.inr (.inr 52)), some (.inl x1), some (.inl x2), some (.inl r1), some (.inl (am_and x2 (w32 (x2 - 1)))), none, none, none], [.inl (w32 ((U1 52 6) + r1)), .inr (.inr 53), .inl (am_and x2 (w32 (x2 - 1)))], (am_sh, am_mm U1))) 14 (fun _ => rfl) ?_
      refine eu_iald 53 (n := 16) rfl (by decide) rfl (fun _ => rfl) h22a.1 ?_
      have h22aa := h22a.2
      refine ev_seg (σ1 := ((d + 1), 282, 77, [some (.inr (.inr 52)), some (.inl x1), some (.inl x2), some (.inl r1), some (.inl (am_and x2 (w32 (x2 - 1)))), some (.inl (am_and (am_and x2 (w32 (x2 - 1))) (am_shr (U1 53 (w32 ((U1 52 6) + r1)).toNat) (U1 52 6)))), none, none], [.inl (am_and x2 (w32 (x2 - 1))), .inr (.inr 44)], (am_sh, am_mm U1))) 8 (fun _ => rfl) ?_
      refine eu_iald 44 (n := 4096) rfl (by decide) rfl (fun _ => rfl) h22aa.1 ?_
      have h22aaa := h22aa.2
      refine ev_seg (σ1 := ((d + 1), 282, 85, [some (.inr (.inr 52)), some (.inl x1), some (.inl x2), some (.inl r1), some (.inl (am_and x2 (w32 (x2 - 1)))), some (.inl (am_and (am_and x2 (w32 (x2 - 1))) (am_shr (U1 53 (w32 ((U1 52 6) + r1)).toNat) (U1 52 6)))), some (.inl (U1 44 (am_and x2 (w32 (x2 - 1))).toNat)), some (.inl (w32 (r1 + 1)))], [], (am_sh, am_mm U1))) 5 (fun _ => rfl) ?_
      exact h22aaa
set_option maxRecDepth 8000 in
theorem st282_52_85 (kz : am_Z) (d : Nat) (x1 x2 x3 x4 x5 x6 x7 : Int) (U : Nat → Nat → Int) (R : Option am_V × am_M) (h : (((x1 ≤ x7 : Prop)) → (0 ≤ x2 ∧ x2 < 4096) ∧ Ev kz ((d + 1), 282, 22, [some (.inr (.inr 52)), some (.inl x1), some (.inl (w32 (x2 + 1))), some (.inl x3), some (.inl x4), some (.inl x5), some (.inl x6), some (.inl x7)], [], (am_sh, am_mm (am_upd U 44 x2.toNat x6))) R) ∧ (¬ (x1 ≤ x7) → (((¬ (am_and (am_shr x5 x7) 1) = 1 : Prop)) → Ev kz ((d + 1), 282, 85, [some (.inr (.inr 52)), some (.inl x1), some (.inl x2), some (.inl x3), some (.inl x4), some (.inl x5), some (.inl x6), some (.inl (w32 (x7 + 1)))], [], (am_sh, am_mm U)) R) ∧ (¬ (¬ (am_and (am_shr x5 x7) 1) = 1) → (0 ≤ (am_and x4 (am_xor (am_shl 1 x7) (-1))) ∧ (am_and x4 (am_xor (am_shl 1 x7) (-1))) < 4096) ∧ Ev kz ((d + 1), 282, 85, [some (.inr (.inr 52)), some (.inl x1), some (.inl x2), some (.inl x3), some (.inl x4), some (.inl x5), some (.inl (if x6 < (w32 (1 + (U 44 (am_and x4 (am_xor (am_shl 1 x7) (-1))).toNat))) then (w32 (1 + (U 44 (am_and x4 (am_xor (am_shl 1 x7) (-1))).toNat))) else x6)), some (.inl (w32 (x7 + 1)))], [], (am_sh, am_mm U)) R))) : Ev kz ((d + 1), 282, 85, [some (.inr (.inr 52)), some (.inl x1), some (.inl x2), some (.inl x3), some (.inl x4), some (.inl x5), some (.inl x6), some (.inl x7)], [], (am_sh, am_mm U)) R := by
  refine ev_br (P := x1 ≤ x7) (σ1 := ((d + 1), 282, 131, [some (.inr (.inr 52)), some (.inl x1), some (.inl x2), some (.inl x3), some (.inl x4), some (.inl x5), some (.inl x6), some (.inl x7)], [], (am_sh, am_mm U))) (σ2 := ((d + 1), 282, 91, [some (.inr (.inr 52)), some (.inl x1), some (.inl x2), some (.inl x3), some (.inl x4), some (.inl x5), some (.inl x6), some (.inl x7)], [], (am_sh, am_mm U))) 3 (fun _ => rfl) (fun hc => ?_) (fun hc => ?_)
  · have h1 := h.1 hc
    refine ev_seg (σ1 := ((d + 1), 282, 138, [some (.inr (.inr 52)), some (.inl x1), some (.inl x2), some (.inl x3), some (.inl x4), some (.inl x5), some (.inl x6), some (.inl x7)], [.inl x6, .inl x2, .inr (.inr 44)], (am_sh, am_mm U))) 4 (fun _ => rfl) ?_
    refine eu_iast 44 (n := 4096) rfl (by decide) rfl (fun _ => rfl) h1.1 ?_
    have h1a := h1.2
    refine ev_seg (σ1 := ((d + 1), 282, 22, [some (.inr (.inr 52)), some (.inl x1), some (.inl (w32 (x2 + 1))), some (.inl x3), some (.inl x4), some (.inl x5), some (.inl x6), some (.inl x7)], [], (am_sh, am_mm (am_upd U 44 x2.toNat x6)))) 2 (fun _ => rfl) ?_
    exact h1a
  · have h2 := h.2 hc
    refine ev_br (P := ¬ (am_and (am_shr x5 x7) 1) = 1) (σ1 := ((d + 1), 282, 125, [some (.inr (.inr 52)), some (.inl x1), some (.inl x2), some (.inl x3), some (.inl x4), some (.inl x5), some (.inl x6), some (.inl x7)], [], (am_sh, am_mm U))) (σ2 := ((d + 1), 282, 102, [some (.inr (.inr 52)), some (.inl x1), some (.inl x2), some (.inl x3), some (.inl x4), some (.inl x5), some (.inl x6), some (.inl x7)], [], (am_sh, am_mm U))) 7 (fun _ => rfl) (fun hc => ?_) (fun hc => ?_)
    · have h21 := h2.1 hc
      refine ev_seg (σ1 := ((d + 1), 282, 85, [some (.inr (.inr 52)), some (.inl x1), some (.inl x2), some (.inl x3), some (.inl x4), some (.inl x5), some (.inl x6), some (.inl (w32 (x7 + 1)))], [], (am_sh, am_mm U))) 2 (fun _ => rfl) ?_
      exact h21
    · have h22 := h2.2 hc
      refine ev_seg (σ1 := ((d + 1), 282, 118, [some (.inr (.inr 52)), some (.inl x1), some (.inl x2), some (.inl x3), some (.inl x4), some (.inl x5), some (.inl x6), some (.inl x7)], [.inl (am_and x4 (am_xor (am_shl 1 x7) (-1))), .inr (.inr 44), .inl 1, .inl x6], (am_sh, am_mm U))) 11 (fun _ => rfl) ?_
      refine eu_iald 44 (n := 4096) rfl (by decide) rfl (fun _ => rfl) h22.1 ?_
      have h22a := h22.2
      refine ev_seg (σ1 := ((d + 1), 282, 85, [some (.inr (.inr 52)), some (.inl x1), some (.inl x2), some (.inl x3), some (.inl x4), some (.inl x5), some (.inl (if x6 < (w32 (1 + (U 44 (am_and x4 (am_xor (am_shl 1 x7) (-1))).toNat))) then (w32 (1 + (U 44 (am_and x4 (am_xor (am_shl 1 x7) (-1))).toNat))) else x6)), some (.inl (w32 (x7 + 1)))], [], (am_sh, am_mm U))) 5 (fun _ => rfl) ?_
      exact h22a
set_option maxRecDepth 8000 in
theorem st283_52_0 (kz : am_Z) (d : Nat) (x1 x2 x3 : Int) (U : Nat → Nat → Int) (R : Option am_V × am_M) (h : ∃ (r1 : Int) (U1 : Nat → Nat → Int), Ev kz (d, 98, 0, [some (.inl x2)], [], (am_sh, am_mm U)) (some (.inl r1), (am_sh, am_mm U1)) ∧ ((((U1 52 7) < (w32 (x3 + (w32 (Int.tdiv r1 2)))) : Prop)) → (((x1 < (U1 52 6) : Prop)) → (((¬ (am_and x2 (am_xor (am_shl 1 x1) (-1))) = x2 : Prop)) → Ev kz ((d + 1), 283, 61, [some (.inr (.inr 52)), some (.inl x1), some (.inl x2), some (.inl x3), some (.inl (am_and x2 (am_xor (am_shl 1 x1) (-1)))), some (.inl (w32 (x1 + 1)))], [], (am_sh, am_mm U1)) R) ∧ (¬ (¬ (am_and x2 (am_xor (am_shl 1 x1) (-1))) = x2) → ∃ U2 : Nat → Nat → Int, Ev kz (d, 283, 0, [some (.inr (.inr 52)), some (.inl (w32 (x1 + 1))), some (.inl x2), some (.inl x3), none, none], [], (am_sh, am_mm U1)) (none, (am_sh, am_mm U2)) ∧ R = (none, (am_sh, am_mm U2)))) ∧ (¬ (x1 < (U1 52 6)) → ∃ U3 : Nat → Nat → Int, Ev kz (d, 315, 0, [some (.inr (.inr 52)), some (.inl x2), some (.inl x3), none], [], (am_sh, am_mm U1)) (none, (am_sh, am_mm U3)) ∧ R = (none, (am_sh, am_mm U3)))) ∧ (¬ ((U1 52 7) < (w32 (x3 + (w32 (Int.tdiv r1 2))))) → R = (none, (am_sh, am_mm U1)))) : Ev kz ((d + 1), 283, 0, [some (.inr (.inr 52)), some (.inl x1), some (.inl x2), some (.inl x3), none, none], [], (am_sh, am_mm U)) R := by
  refine ev_seg (σ1 := ((d + 1), 283, 2, [some (.inr (.inr 52)), some (.inl x1), some (.inl x2), some (.inl x3), none, none], [.inl x2, .inl x3], (am_sh, am_mm U))) 2 (fun _ => rfl) ?_
  obtain ⟨r1, U1, hc, ha⟩ := h
  refine ev_cal (σc := (d, 98, 0, [some (.inl x2)], [], (am_sh, am_mm U))) (fun _ => rfl) hc ?_
  show Ev kz ((d + 1), 283, 5, [some (.inr (.inr 52)), some (.inl x1), some (.inl x2), some (.inl x3), none, none], [.inl r1, .inl x3], (am_sh, am_mm U1)) R
  refine ev_seg (σ1 := ((d + 1), 283, 6, [some (.inr (.inr 52)), some (.inl x1), some (.inl x2), some (.inl x3), none, none], [.inl 2, .inl r1, .inl x3], (am_sh, am_mm U1))) 1 (fun _ => rfl) ?_
  refine ev_idiv rfl (by decide) ?_
  refine ev_br (P := (U1 52 7) < (w32 (x3 + (w32 (Int.tdiv r1 2))))) (σ1 := ((d + 1), 283, 16, [some (.inr (.inr 52)), some (.inl x1), some (.inl x2), some (.inl x3), none, none], [], (am_sh, am_mm U1))) (σ2 := ((d + 1), 283, 15, [some (.inr (.inr 52)), some (.inl x1), some (.inl x2), some (.inl x3), none, none], [], (am_sh, am_mm U1))) 4 (fun _ => rfl) (fun hc => ?_) (fun hc => ?_)
  · have ha1 := ha.1 hc
    refine ev_br (P := x1 < (U1 52 6)) (σ1 := ((d + 1), 283, 31, [some (.inr (.inr 52)), some (.inl x1), some (.inl x2), some (.inl x3), none, none], [], (am_sh, am_mm U1))) (σ2 := ((d + 1), 283, 24, [some (.inr (.inr 52)), some (.inl x1), some (.inl x2), some (.inl x3), none, none], [], (am_sh, am_mm U1))) 4 (fun _ => rfl) (fun hc => ?_) (fun hc => ?_)
    · have ha11 := ha1.1 hc
      refine ev_br (P := ¬ (am_and x2 (am_xor (am_shl 1 x1) (-1))) = x2) (σ1 := ((d + 1), 283, 56, [some (.inr (.inr 52)), some (.inl x1), some (.inl x2), some (.inl x3), some (.inl (am_and x2 (am_xor (am_shl 1 x1) (-1)))), none], [], (am_sh, am_mm U1))) (σ2 := ((d + 1), 283, 46, [some (.inr (.inr 52)), some (.inl x1), some (.inl x2), some (.inl x3), some (.inl (am_and x2 (am_xor (am_shl 1 x1) (-1)))), none], [], (am_sh, am_mm U1))) 11 (fun _ => rfl) (fun hc => ?_) (fun hc => ?_)
      · have ha111 := ha11.1 hc
        refine ev_seg (σ1 := ((d + 1), 283, 61, [some (.inr (.inr 52)), some (.inl x1), some (.inl x2), some (.inl x3), some (.inl (am_and x2 (am_xor (am_shl 1 x1) (-1)))), some (.inl (w32 (x1 + 1)))], [], (am_sh, am_mm U1))) 4 (fun _ => rfl) ?_
        exact ha111
      · have ha112 := ha11.2 hc
        refine ev_seg (σ1 := ((d + 1), 283, 52, [some (.inr (.inr 52)), some (.inl x1), some (.inl x2), some (.inl x3), some (.inl (am_and x2 (am_xor (am_shl 1 x1) (-1)))), none], [.inl x3, .inl x2, .inl (w32 (x1 + 1)), .inr (.inr 52)], (am_sh, am_mm U1))) 6 (fun _ => rfl) ?_
        obtain ⟨U2, ha112c, ha112a⟩ := ha112
        refine ev_cal (σc := (d, 283, 0, [some (.inr (.inr 52)), some (.inl (w32 (x1 + 1))), some (.inl x2), some (.inl x3), none, none], [], (am_sh, am_mm U1))) (fun _ => rfl) ha112c ?_
        show Ev kz ((d + 1), 283, 55, [some (.inr (.inr 52)), some (.inl x1), some (.inl x2), some (.inl x3), some (.inl (am_and x2 (am_xor (am_shl 1 x1) (-1)))), none], [], (am_sh, am_mm U2)) R
        subst ha112a
        exact ev_end 1 (fun _ => rfl)
    · have ha12 := ha1.2 hc
      refine ev_seg (σ1 := ((d + 1), 283, 27, [some (.inr (.inr 52)), some (.inl x1), some (.inl x2), some (.inl x3), none, none], [.inl x3, .inl x2, .inr (.inr 52)], (am_sh, am_mm U1))) 3 (fun _ => rfl) ?_
      obtain ⟨U3, ha12c, ha12a⟩ := ha12
      refine ev_cal (σc := (d, 315, 0, [some (.inr (.inr 52)), some (.inl x2), some (.inl x3), none], [], (am_sh, am_mm U1))) (fun _ => rfl) ha12c ?_
      show Ev kz ((d + 1), 283, 30, [some (.inr (.inr 52)), some (.inl x1), some (.inl x2), some (.inl x3), none, none], [], (am_sh, am_mm U3)) R
      subst ha12a
      exact ev_end 1 (fun _ => rfl)
  · have ha2 := ha.2 hc
    subst ha2
    exact ev_end 1 (fun _ => rfl)
set_option maxRecDepth 8000 in
theorem st283_52_61 (kz : am_Z) (d : Nat) (x1 x2 x3 x4 x5 : Int) (U : Nat → Nat → Int) (R : Option am_V × am_M) (h : ((((U 16 0) ≤ x5 : Prop)) → ∃ U1 : Nat → Nat → Int, Ev kz (d, 283, 0, [some (.inr (.inr 52)), some (.inl (w32 (x1 + 1))), some (.inl x4), some (.inl x3), none, none], [], (am_sh, am_mm U)) (none, (am_sh, am_mm U1)) ∧ R = (none, (am_sh, am_mm U1))) ∧ (¬ ((U 16 0) ≤ x5) → (0 ≤ x1 ∧ x1 < 16) ∧ (((¬ (am_and (am_shr (am_and x4 (U 53 x1.toNat)) x5) 1) = 1 : Prop)) → Ev kz ((d + 1), 283, 61, [some (.inr (.inr 52)), some (.inl x1), some (.inl x2), some (.inl x3), some (.inl x4), some (.inl (w32 (x5 + 1)))], [], (am_sh, am_mm U)) R) ∧ (¬ (¬ (am_and (am_shr (am_and x4 (U 53 x1.toNat)) x5) 1) = 1) → (0 ≤ x1 ∧ x1 < 16) ∧ (0 ≤ x5 ∧ x5 < 16) ∧ ∃ U2 : Nat → Nat → Int, Ev kz (d, 283, 0, [some (.inr (.inr 52)), some (.inl (w32 (x1 + 1))), some (.inl (am_and x4 (am_xor (am_shl 1 x5) (-1)))), some (.inl (w32 (x3 + 1))), none, none], [], (am_sh, am_mm (am_upd (am_upd U 54 x1.toNat x5) 54 x5.toNat x1))) (none, (am_sh, am_mm U2)) ∧ (0 ≤ x1 ∧ x1 < 16) ∧ (0 ≤ x5 ∧ x5 < 16) ∧ Ev kz ((d + 1), 283, 61, [some (.inr (.inr 52)), some (.inl x1), some (.inl x2), some (.inl x3), some (.inl x4), some (.inl (w32 (x5 + 1)))], [], (am_sh, am_mm (am_upd (am_upd U2 54 x1.toNat 20) 54 x5.toNat 20))) R))) : Ev kz ((d + 1), 283, 61, [some (.inr (.inr 52)), some (.inl x1), some (.inl x2), some (.inl x3), some (.inl x4), some (.inl x5)], [], (am_sh, am_mm U)) R := by
  refine ev_br (P := (U 16 0) ≤ x5) (σ1 := ((d + 1), 283, 149, [some (.inr (.inr 52)), some (.inl x1), some (.inl x2), some (.inl x3), some (.inl x4), some (.inl x5)], [], (am_sh, am_mm U))) (σ2 := ((d + 1), 283, 73, [some (.inr (.inr 52)), some (.inl x1), some (.inl x2), some (.inl x3), some (.inl x4), some (.inl x5)], [], (am_sh, am_mm U))) 5 (fun _ => rfl) (fun hc => ?_) (fun hc => ?_)
  · have h1 := h.1 hc
    refine ev_seg (σ1 := ((d + 1), 283, 156, [some (.inr (.inr 52)), some (.inl x1), some (.inl x2), some (.inl x3), some (.inl x4), some (.inl x5)], [.inl x3, .inl x4, .inl (w32 (x1 + 1)), .inr (.inr 52)], (am_sh, am_mm U))) 6 (fun _ => rfl) ?_
    obtain ⟨U1, h1c, h1a⟩ := h1
    refine ev_cal (σc := (d, 283, 0, [some (.inr (.inr 52)), some (.inl (w32 (x1 + 1))), some (.inl x4), some (.inl x3), none, none], [], (am_sh, am_mm U))) (fun _ => rfl) h1c ?_
    show Ev kz ((d + 1), 283, 159, [some (.inr (.inr 52)), some (.inl x1), some (.inl x2), some (.inl x3), some (.inl x4), some (.inl x5)], [], (am_sh, am_mm U1)) R
    subst h1a
    exact ev_end 1 (fun _ => rfl)
  · have h2 := h.2 hc
    refine ev_seg (σ1 := ((d + 1), 283, 80, [some (.inr (.inr 52)), some (.inl x1), some (.inl x2), some (.inl x3), some (.inl x4), some (.inl x5)], [.inl x1, .inr (.inr 53), .inl x4], (am_sh, am_mm U))) 4 (fun _ => rfl) ?_
    refine eu_iald 53 (n := 16) rfl (by decide) rfl (fun _ => rfl) h2.1 ?_
    have h2a := h2.2
    refine ev_br (P := ¬ (am_and (am_shr (am_and x4 (U 53 x1.toNat)) x5) 1) = 1) (σ1 := ((d + 1), 283, 143, [some (.inr (.inr 52)), some (.inl x1), some (.inl x2), some (.inl x3), some (.inl x4), some (.inl x5)], [], (am_sh, am_mm U))) (σ2 := ((d + 1), 283, 91, [some (.inr (.inr 52)), some (.inl x1), some (.inl x2), some (.inl x3), some (.inl x4), some (.inl x5)], [], (am_sh, am_mm U))) 7 (fun _ => rfl) (fun hc => ?_) (fun hc => ?_)
    · have h2a1 := h2a.1 hc
      refine ev_seg (σ1 := ((d + 1), 283, 61, [some (.inr (.inr 52)), some (.inl x1), some (.inl x2), some (.inl x3), some (.inl x4), some (.inl (w32 (x5 + 1)))], [], (am_sh, am_mm U))) 2 (fun _ => rfl) ?_
      exact h2a1
    · have h2a2 := h2a.2 hc
      refine ev_seg (σ1 := ((d + 1), 283, 98, [some (.inr (.inr 52)), some (.inl x1), some (.inl x2), some (.inl x3), some (.inl x4), some (.inl x5)], [.inl x5, .inl x1, .inr (.inr 54)], (am_sh, am_mm U))) 4 (fun _ => rfl) ?_
      refine eu_iast 54 (n := 16) rfl (by decide) rfl (fun _ => rfl) h2a2.1 ?_
      have h2a2a := h2a2.2
      refine ev_seg (σ1 := ((d + 1), 283, 106, [some (.inr (.inr 52)), some (.inl x1), some (.inl x2), some (.inl x3), some (.inl x4), some (.inl x5)], [.inl x1, .inl x5, .inr (.inr 54)], (am_sh, am_mm (am_upd U 54 x1.toNat x5)))) 4 (fun _ => rfl) ?_
      refine eu_iast 54 (n := 16) rfl (by decide) rfl (fun _ => rfl) h2a2a.1 ?_
      have h2a2aa := h2a2a.2
      refine ev_seg (σ1 := ((d + 1), 283, 123, [some (.inr (.inr 52)), some (.inl x1), some (.inl x2), some (.inl x3), some (.inl x4), some (.inl x5)], [.inl (w32 (x3 + 1)), .inl (am_and x4 (am_xor (am_shl 1 x5) (-1))), .inl (w32 (x1 + 1)), .inr (.inr 52)], (am_sh, am_mm (am_upd (am_upd U 54 x1.toNat x5) 54 x5.toNat x1)))) 14 (fun _ => rfl) ?_
      obtain ⟨U2, h2a2aac, h2a2aaa⟩ := h2a2aa
      refine ev_cal (σc := (d, 283, 0, [some (.inr (.inr 52)), some (.inl (w32 (x1 + 1))), some (.inl (am_and x4 (am_xor (am_shl 1 x5) (-1)))), some (.inl (w32 (x3 + 1))), none, none], [], (am_sh, am_mm (am_upd (am_upd U 54 x1.toNat x5) 54 x5.toNat x1)))) (fun _ => rfl) h2a2aac ?_
      show Ev kz ((d + 1), 283, 126, [some (.inr (.inr 52)), some (.inl x1), some (.inl x2), some (.inl x3), some (.inl x4), some (.inl x5)], [], (am_sh, am_mm U2)) R
      refine ev_seg (σ1 := ((d + 1), 283, 133, [some (.inr (.inr 52)), some (.inl x1), some (.inl x2), some (.inl x3), some (.inl x4), some (.inl x5)], [.inl 20, .inl x1, .inr (.inr 54)], (am_sh, am_mm U2))) 4 (fun _ => rfl) ?_
      refine eu_iast 54 (n := 16) rfl (by decide) rfl (fun _ => rfl) h2a2aaa.1 ?_
      have h2a2aaaa := h2a2aaa.2
      refine ev_seg (σ1 := ((d + 1), 283, 142, [some (.inr (.inr 52)), some (.inl x1), some (.inl x2), some (.inl x3), some (.inl x4), some (.inl x5)], [.inl 20, .inl x5, .inr (.inr 54)], (am_sh, am_mm (am_upd U2 54 x1.toNat 20)))) 4 (fun _ => rfl) ?_
      refine eu_iast 54 (n := 16) rfl (by decide) rfl (fun _ => rfl) h2a2aaaa.1 ?_
      have h2a2aaaaa := h2a2aaaa.2
      refine ev_seg (σ1 := ((d + 1), 283, 61, [some (.inr (.inr 52)), some (.inl x1), some (.inl x2), some (.inl x3), some (.inl x4), some (.inl (w32 (x5 + 1)))], [], (am_sh, am_mm (am_upd (am_upd U2 54 x1.toNat 20) 54 x5.toNat 20)))) 2 (fun _ => rfl) ?_
      exact h2a2aaaaa
set_option maxRecDepth 8000 in
theorem st207_86_0 (kz : am_Z) (d : Nat) (x1 x2 : Int) (U : Nat → Nat → Int) (R : Option am_V × am_M) (h : ∃ (r1 : Int) (U1 : Nat → Nat → Int), Ev kz (d, 202, 0, [some (.inr (.inr 86)), some (.inl 0), some (.inl 2), some (.inl x1), some (.inl x2), none, none], [], (am_sh, am_mm U)) (some (.inl r1), (am_sh, am_mm U1)) ∧ (((¬ r1 = 0 : Prop)) → R = (some (.inl 1), (am_sh, am_mm U1))) ∧ (¬ (¬ r1 = 0) → ∃ (r2 : Int) (U2 : Nat → Nat → Int), Ev kz (d, 202, 0, [some (.inr (.inr 86)), some (.inl 0), some (.inl 1), some (.inl x1), some (.inl x2), none, none], [], (am_sh, am_mm U1)) (some (.inl r2), (am_sh, am_mm U2)) ∧ (((r2 = 0 : Prop)) → R = (some (.inl 0), (am_sh, am_mm U2))) ∧ (¬ (r2 = 0) → R = (some (.inl 1), (am_sh, am_mm U2))))) : Ev kz ((d + 1), 207, 0, [some (.inr (.inr 86)), some (.inl x1), some (.inl x2)], [], (am_sh, am_mm U)) R := by
  refine ev_seg (σ1 := ((d + 1), 207, 5, [some (.inr (.inr 86)), some (.inl x1), some (.inl x2)], [.inl x2, .inl x1, .inl 2, .inl 0, .inr (.inr 86)], (am_sh, am_mm U))) 5 (fun _ => rfl) ?_
  obtain ⟨r1, U1, hc, ha⟩ := h
  refine ev_cal (σc := (d, 202, 0, [some (.inr (.inr 86)), some (.inl 0), some (.inl 2), some (.inl x1), some (.inl x2), none, none], [], (am_sh, am_mm U))) (fun _ => rfl) hc ?_
  show Ev kz ((d + 1), 207, 8, [some (.inr (.inr 86)), some (.inl x1), some (.inl x2)], [.inl r1], (am_sh, am_mm U1)) R
  refine ev_br (P := ¬ r1 = 0) (σ1 := ((d + 1), 207, 22, [some (.inr (.inr 86)), some (.inl x1), some (.inl x2)], [], (am_sh, am_mm U1))) (σ2 := ((d + 1), 207, 11, [some (.inr (.inr 86)), some (.inl x1), some (.inl x2)], [], (am_sh, am_mm U1))) 1 (fun _ => rfl) (fun hc => ?_) (fun hc => ?_)
  · have ha1 := ha.1 hc
    subst ha1
    exact ev_end 3 (fun _ => rfl)
  · have ha2 := ha.2 hc
    refine ev_seg (σ1 := ((d + 1), 207, 16, [some (.inr (.inr 86)), some (.inl x1), some (.inl x2)], [.inl x2, .inl x1, .inl 1, .inl 0, .inr (.inr 86)], (am_sh, am_mm U1))) 5 (fun _ => rfl) ?_
    obtain ⟨r2, U2, ha2c, ha2a⟩ := ha2
    refine ev_cal (σc := (d, 202, 0, [some (.inr (.inr 86)), some (.inl 0), some (.inl 1), some (.inl x1), some (.inl x2), none, none], [], (am_sh, am_mm U1))) (fun _ => rfl) ha2c ?_
    show Ev kz ((d + 1), 207, 19, [some (.inr (.inr 86)), some (.inl x1), some (.inl x2)], [.inl r2], (am_sh, am_mm U2)) R
    refine ev_br (P := r2 = 0) (σ1 := ((d + 1), 207, 26, [some (.inr (.inr 86)), some (.inl x1), some (.inl x2)], [], (am_sh, am_mm U2))) (σ2 := ((d + 1), 207, 22, [some (.inr (.inr 86)), some (.inl x1), some (.inl x2)], [], (am_sh, am_mm U2))) 1 (fun _ => rfl) (fun hc => ?_) (fun hc => ?_)
    · have ha2a1 := ha2a.1 hc
      subst ha2a1
      exact ev_end 2 (fun _ => rfl)
    · have ha2a2 := ha2a.2 hc
      subst ha2a2
      exact ev_end 3 (fun _ => rfl)
set_option maxRecDepth 8000 in
theorem st285_78_0 (kz : am_Z) (d : Nat) (x1 x2 : Int) (U : Nat → Nat → Int) (R : Option am_V × am_M) (h : R = (some (.inl (w32 ((w32 ((w32 ((w32 (Int.tdiv (w32 (x1 * (w32 ((w32 ((w32 (2 * (U 78 3))) - x1)) - 1)))) 2)) + x2)) - x1)) - 1))), (am_sh, am_mm U))) : Ev kz (d, 285, 0, [some (.inr (.inr 78)), some (.inl x1), some (.inl x2)], [], (am_sh, am_mm U)) R := by
  refine ev_seg (σ1 := (d, 285, 13, [some (.inr (.inr 78)), some (.inl x1), some (.inl x2)], [.inl 2, .inl (w32 (x1 * (w32 ((w32 ((w32 (2 * (U 78 3))) - x1)) - 1))))], (am_sh, am_mm U))) 11 (fun _ => rfl) ?_
  refine ev_idiv rfl (by decide) ?_
  subst h
  exact ev_end 7 (fun _ => rfl)
set_option maxRecDepth 8000 in
theorem st180_21_0 (kz : am_Z) (d : Nat) (x1 x2 : Int) (U : Nat → Nat → Int) (R : Option am_V × am_M) (h : ((((U 21 0) < 16 : Prop)) → (0 ≤ (U 21 0) ∧ (U 21 0) < 16) ∧ ((((U 22 (U 21 0).toNat) = x1 : Prop)) → (0 ≤ (U 21 0) ∧ (U 21 0) < 16) ∧ ∃ U1 : Nat → Nat → Int, Ev kz (d, 138, 0, [some (.inr (.inr 21)), some (.inl (w32 (((am_upd (am_upd U 23 (U 21 0).toNat (-1)) 21 0 (w32 (((am_upd U 23 (U 21 0).toNat (-1)) 21 0) + 1))) 21 0) - 1))), some (.inl x2), none], [], (am_sh, am_mm (am_upd (am_upd U 23 (U 21 0).toNat (-1)) 21 0 (w32 (((am_upd U 23 (U 21 0).toNat (-1)) 21 0) + 1))))) (none, (am_sh, am_mm U1)) ∧ R = (none, (am_sh, am_mm U1))) ∧ (¬ ((U 22 (U 21 0).toNat) = x1) → (0 ≤ (U 21 0) ∧ (U 21 0) < 16) ∧ (0 ≤ ((am_upd U 22 (U 21 0).toNat x1) 21 0) ∧ ((am_upd U 22 (U 21 0).toNat x1) 21 0) < 16) ∧ (0 ≤ ((am_upd (am_upd U 22 (U 21 0).toNat x1) 25 ((am_upd U 22 (U 21 0).toNat x1) 21 0).toNat (-1)) 21 0) ∧ ((am_upd (am_upd U 22 (U 21 0).toNat x1) 25 ((am_upd U 22 (U 21 0).toNat x1) 21 0).toNat (-1)) 21 0) < 16) ∧ ∃ U2 : Nat → Nat → Int, Ev kz (d, 138, 0, [some (.inr (.inr 21)), some (.inl (w32 (((am_upd (am_upd (am_upd (am_upd U 22 (U 21 0).toNat x1) 25 ((am_upd U 22 (U 21 0).toNat x1) 21 0).toNat (-1)) 23 ((am_upd (am_upd U 22 (U 21 0).toNat x1) 25 ((am_upd U 22 (U 21 0).toNat x1) 21 0).toNat (-1)) 21 0).toNat (-1)) 21 0 (w32 (((am_upd (am_upd (am_upd U 22 (U 21 0).toNat x1) 25 ((am_upd U 22 (U 21 0).toNat x1) 21 0).toNat (-1)) 23 ((am_upd (am_upd U 22 (U 21 0).toNat x1) 25 ((am_upd U 22 (U 21 0).toNat x1) 21 0).toNat (-1)) 21 0).toNat (-1)) 21 0) + 1))) 21 0) - 1))), some (.inl x2), none], [], (am_sh, am_mm (am_upd (am_upd (am_upd (am_upd U 22 (U 21 0).toNat x1) 25 ((am_upd U 22 (U 21 0).toNat x1) 21 0).toNat (-1)) 23 ((am_upd (am_upd U 22 (U 21 0).toNat x1) 25 ((am_upd U 22 (U 21 0).toNat x1) 21 0).toNat (-1)) 21 0).toNat (-1)) 21 0 (w32 (((am_upd (am_upd (am_upd U 22 (U 21 0).toNat x1) 25 ((am_upd U 22 (U 21 0).toNat x1) 21 0).toNat (-1)) 23 ((am_upd (am_upd U 22 (U 21 0).toNat x1) 25 ((am_upd U 22 (U 21 0).toNat x1) 21 0).toNat (-1)) 21 0).toNat (-1)) 21 0) + 1))))) (none, (am_sh, am_mm U2)) ∧ R = (none, (am_sh, am_mm U2)))) ∧ (¬ ((U 21 0) < 16) → R = (none, (am_sh, am_mm U)))) : Ev kz ((d + 1), 180, 0, [some (.inr (.inr 21)), some (.inl x1), some (.inl x2)], [], (am_sh, am_mm U)) R := by
  refine ev_br (P := (U 21 0) < 16) (σ1 := ((d + 1), 180, 10, [some (.inr (.inr 21)), some (.inl x1), some (.inl x2)], [], (am_sh, am_mm U))) (σ2 := ((d + 1), 180, 9, [some (.inr (.inr 21)), some (.inl x1), some (.inl x2)], [], (am_sh, am_mm U))) 4 (fun _ => rfl) (fun hc => ?_) (fun hc => ?_)
  · have h1 := h.1 hc
    refine ev_seg (σ1 := ((d + 1), 180, 18, [some (.inr (.inr 21)), some (.inl x1), some (.inl x2)], [.inl (U 21 0), .inr (.inr 22)], (am_sh, am_mm U))) 4 (fun _ => rfl) ?_
    refine eu_iald 22 (n := 16) rfl (by decide) rfl (fun _ => rfl) h1.1 ?_
    have h1a := h1.2
    refine ev_br (P := (U 22 (U 21 0).toNat) = x1) (σ1 := ((d + 1), 180, 45, [some (.inr (.inr 21)), some (.inl x1), some (.inl x2)], [], (am_sh, am_mm U))) (σ2 := ((d + 1), 180, 23, [some (.inr (.inr 21)), some (.inl x1), some (.inl x2)], [], (am_sh, am_mm U))) 2 (fun _ => rfl) (fun hc => ?_) (fun hc => ?_)
    · have h1a1 := h1a.1 hc
      refine ev_seg (σ1 := ((d + 1), 180, 54, [some (.inr (.inr 21)), some (.inl x1), some (.inl x2)], [.inl (-1), .inl (U 21 0), .inr (.inr 23)], (am_sh, am_mm U))) 5 (fun _ => rfl) ?_
      refine eu_iast 23 (n := 16) rfl (by decide) rfl (fun _ => rfl) h1a1.1 ?_
      have h1a1a := h1a1.2
      refine ev_seg (σ1 := ((d + 1), 180, 62, [some (.inr (.inr 21)), some (.inl x1), some (.inl x2)], [.inl (w32 (((am_upd U 23 (U 21 0).toNat (-1)) 21 0) + 1)), .inr (.inr 21)], (am_sh, am_mm (am_upd U 23 (U 21 0).toNat (-1))))) 5 (fun _ => rfl) ?_
      refine eu_puti 21 (n := 7) rfl (by decide) rfl rfl ?_
      refine ev_seg (σ1 := ((d + 1), 180, 73, [some (.inr (.inr 21)), some (.inl x1), some (.inl x2)], [.inl x2, .inl (w32 (((am_upd (am_upd U 23 (U 21 0).toNat (-1)) 21 0 (w32 (((am_upd U 23 (U 21 0).toNat (-1)) 21 0) + 1))) 21 0) - 1)), .inr (.inr 21)], (am_sh, am_mm (am_upd (am_upd U 23 (U 21 0).toNat (-1)) 21 0 (w32 (((am_upd U 23 (U 21 0).toNat (-1)) 21 0) + 1)))))) 6 (fun _ => rfl) ?_
      obtain ⟨U1, h1a1ac, h1a1aa⟩ := h1a1a
      refine ev_cal (σc := (d, 138, 0, [some (.inr (.inr 21)), some (.inl (w32 (((am_upd (am_upd U 23 (U 21 0).toNat (-1)) 21 0 (w32 (((am_upd U 23 (U 21 0).toNat (-1)) 21 0) + 1))) 21 0) - 1))), some (.inl x2), none], [], (am_sh, am_mm (am_upd (am_upd U 23 (U 21 0).toNat (-1)) 21 0 (w32 (((am_upd U 23 (U 21 0).toNat (-1)) 21 0) + 1)))))) (fun _ => rfl) h1a1ac ?_
      show Ev kz ((d + 1), 180, 76, [some (.inr (.inr 21)), some (.inl x1), some (.inl x2)], [], (am_sh, am_mm U1)) R
      subst h1a1aa
      exact ev_end 1 (fun _ => rfl)
    · have h1a2 := h1a.2 hc
      refine ev_seg (σ1 := ((d + 1), 180, 32, [some (.inr (.inr 21)), some (.inl x1), some (.inl x2)], [.inl x1, .inl (U 21 0), .inr (.inr 22)], (am_sh, am_mm U))) 5 (fun _ => rfl) ?_
      refine eu_iast 22 (n := 16) rfl (by decide) rfl (fun _ => rfl) h1a2.1 ?_
      have h1a2a := h1a2.2
      refine ev_seg (σ1 := ((d + 1), 180, 44, [some (.inr (.inr 21)), some (.inl x1), some (.inl x2)], [.inr (.inl (-1)), .inl ((am_upd U 22 (U 21 0).toNat x1) 21 0), .inr (.inr 25)], (am_sh, am_mm (am_upd U 22 (U 21 0).toNat x1)))) 5 (fun _ => rfl) ?_
      refine eu_last 25 (n := 16) rfl (by decide) rfl (fun _ => rfl) h1a2a.1 ?_
      have h1a2aa := h1a2a.2
      refine ev_seg (σ1 := ((d + 1), 180, 54, [some (.inr (.inr 21)), some (.inl x1), some (.inl x2)], [.inl (-1), .inl ((am_upd (am_upd U 22 (U 21 0).toNat x1) 25 ((am_upd U 22 (U 21 0).toNat x1) 21 0).toNat (-1)) 21 0), .inr (.inr 23)], (am_sh, am_mm (am_upd (am_upd U 22 (U 21 0).toNat x1) 25 ((am_upd U 22 (U 21 0).toNat x1) 21 0).toNat (-1))))) 5 (fun _ => rfl) ?_
      refine eu_iast 23 (n := 16) rfl (by decide) rfl (fun _ => rfl) h1a2aa.1 ?_
      have h1a2aaa := h1a2aa.2
      refine ev_seg (σ1 := ((d + 1), 180, 62, [some (.inr (.inr 21)), some (.inl x1), some (.inl x2)], [.inl (w32 (((am_upd (am_upd (am_upd U 22 (U 21 0).toNat x1) 25 ((am_upd U 22 (U 21 0).toNat x1) 21 0).toNat (-1)) 23 ((am_upd (am_upd U 22 (U 21 0).toNat x1) 25 ((am_upd U 22 (U 21 0).toNat x1) 21 0).toNat (-1)) 21 0).toNat (-1)) 21 0) + 1)), .inr (.inr 21)], (am_sh, am_mm (am_upd (am_upd (am_upd U 22 (U 21 0).toNat x1) 25 ((am_upd U 22 (U 21 0).toNat x1) 21 0).toNat (-1)) 23 ((am_upd (am_upd U 22 (U 21 0).toNat x1) 25 ((am_upd U 22 (U 21 0).toNat x1) 21 0).toNat (-1)) 21 0).toNat (-1))))) 5 (fun _ => rfl) ?_
      refine eu_puti 21 (n := 7) rfl (by decide) rfl rfl ?_
      refine ev_seg (σ1 := ((d + 1), 180, 73, [some (.inr (.inr 21)), some (.inl x1), some (.inl x2)], [.inl x2, .inl (w32 (((am_upd (am_upd (am_upd (am_upd U 22 (U 21 0).toNat x1) 25 ((am_upd U 22 (U 21 0).toNat x1) 21 0).toNat (-1)) 23 ((am_upd (am_upd U 22 (U 21 0).toNat x1) 25 ((am_upd U 22 (U 21 0).toNat x1) 21 0).toNat (-1)) 21 0).toNat (-1)) 21 0 (w32 (((am_upd (am_upd (am_upd U 22 (U 21 0).toNat x1) 25 ((am_upd U 22 (U 21 0).toNat x1) 21 0).toNat (-1)) 23 ((am_upd (am_upd U 22 (U 21 0).toNat x1) 25 ((am_upd U 22 (U 21 0).toNat x1) 21 0).toNat (-1)) 21 0).toNat (-1)) 21 0) + 1))) 21 0) - 1)), .inr (.inr 21)], (am_sh, am_mm (am_upd (am_upd (am_upd (am_upd U 22 (U 21 0).toNat x1) 25 ((am_upd U 22 (U 21 0).toNat x1) 21 0).toNat (-1)) 23 ((am_upd (am_upd U 22 (U 21 0).toNat x1) 25 ((am_upd U 22 (U 21 0).toNat x1) 21 0).toNat (-1)) 21 0).toNat (-1)) 21 0 (w32 (((am_upd (am_upd (am_upd U 22 (U 21 0).toNat x1) 25 ((am_upd U 22 (U 21 0).toNat x1) 21 0).toNat (-1)) 23 ((am_upd (am_upd U 22 (U 21 0).toNat x1) 25 ((am_upd U 22 (U 21 0).toNat x1) 21 0).toNat (-1)) 21 0).toNat (-1)) 21 0) + 1)))))) 6 (fun _ => rfl) ?_
      obtain ⟨U2, h1a2aaac, h1a2aaaa⟩ := h1a2aaa
      refine ev_cal (σc := (d, 138, 0, [some (.inr (.inr 21)), some (.inl (w32 (((am_upd (am_upd (am_upd (am_upd U 22 (U 21 0).toNat x1) 25 ((am_upd U 22 (U 21 0).toNat x1) 21 0).toNat (-1)) 23 ((am_upd (am_upd U 22 (U 21 0).toNat x1) 25 ((am_upd U 22 (U 21 0).toNat x1) 21 0).toNat (-1)) 21 0).toNat (-1)) 21 0 (w32 (((am_upd (am_upd (am_upd U 22 (U 21 0).toNat x1) 25 ((am_upd U 22 (U 21 0).toNat x1) 21 0).toNat (-1)) 23 ((am_upd (am_upd U 22 (U 21 0).toNat x1) 25 ((am_upd U 22 (U 21 0).toNat x1) 21 0).toNat (-1)) 21 0).toNat (-1)) 21 0) + 1))) 21 0) - 1))), some (.inl x2), none], [], (am_sh, am_mm (am_upd (am_upd (am_upd (am_upd U 22 (U 21 0).toNat x1) 25 ((am_upd U 22 (U 21 0).toNat x1) 21 0).toNat (-1)) 23 ((am_upd (am_upd U 22 (U 21 0).toNat x1) 25 ((am_upd U 22 (U 21 0).toNat x1) 21 0).toNat (-1)) 21 0).toNat (-1)) 21 0 (w32 (((am_upd (am_upd (am_upd U 22 (U 21 0).toNat x1) 25 ((am_upd U 22 (U 21 0).toNat x1) 21 0).toNat (-1)) 23 ((am_upd (am_upd U 22 (U 21 0).toNat x1) 25 ((am_upd U 22 (U 21 0).toNat x1) 21 0).toNat (-1)) 21 0).toNat (-1)) 21 0) + 1)))))) (fun _ => rfl) h1a2aaac ?_
      show Ev kz ((d + 1), 180, 76, [some (.inr (.inr 21)), some (.inl x1), some (.inl x2)], [], (am_sh, am_mm U2)) R
      subst h1a2aaaa
      exact ev_end 1 (fun _ => rfl)
  · have h2 := h.2 hc
    subst h2
    exact ev_end 1 (fun _ => rfl)
set_option maxRecDepth 8000 in
theorem st106_21_0 (kz : am_Z) (d : Nat) (x1 : Int) (U : Nat → Nat → Int) (R : Option am_V × am_M) (h : (0 ≤ x1 ∧ x1 < 12) ∧ ∃ (r1 : Int) (U1 : Nat → Nat → Int), Ev kz (d, 98, 0, [some (.inl (U 24 x1.toNat))], [], (am_sh, am_mm U)) (some (.inl r1), (am_sh, am_mm U1)) ∧ R = (some (.inl r1), (am_sh, am_mm U1))) : Ev kz ((d + 1), 106, 0, [some (.inr (.inr 21)), some (.inl x1)], [], (am_sh, am_mm U)) R := by
  refine ev_seg (σ1 := ((d + 1), 106, 5, [some (.inr (.inr 21)), some (.inl x1)], [.inl x1, .inr (.inr 24)], (am_sh, am_mm U))) 3 (fun _ => rfl) ?_
  refine eu_iald 24 (n := 12) rfl (by decide) rfl (fun _ => rfl) h.1 ?_
  have ha := h.2
  obtain ⟨r1, U1, hac, haa⟩ := ha
  refine ev_cal (σc := (d, 98, 0, [some (.inl (U 24 x1.toNat))], [], (am_sh, am_mm U))) (fun _ => rfl) hac ?_
  show Ev kz ((d + 1), 106, 9, [some (.inr (.inr 21)), some (.inl x1)], [.inl r1], (am_sh, am_mm U1)) R
  subst haa
  exact ev_end 1 (fun _ => rfl)
set_option maxRecDepth 8000 in
theorem st280_21_0 (kz : am_Z) (d : Nat) (x1 : Int) (U : Nat → Nat → Int) (R : Option am_V × am_M) (h : Ev kz (d, 280, 2, [some (.inr (.inr 21)), some (.inl x1), some (.inl 0)], [], (am_sh, am_mm U)) R) : Ev kz (d, 280, 0, [some (.inr (.inr 21)), some (.inl x1), none], [], (am_sh, am_mm U)) R := by
  refine ev_seg (σ1 := (d, 280, 2, [some (.inr (.inr 21)), some (.inl x1), some (.inl 0)], [], (am_sh, am_mm U))) 2 (fun _ => rfl) ?_
  exact h
set_option maxRecDepth 8000 in
theorem st280_21_2 (kz : am_Z) (d : Nat) (x1 x2 : Int) (U : Nat → Nat → Int) (R : Option am_V × am_M) (h : ((((U 21 0) ≤ x2 : Prop)) → R = (some (.inl (-1)), (am_sh, am_mm U))) ∧ (¬ ((U 21 0) ≤ x2) → (0 ≤ x2 ∧ x2 < 16) ∧ (((¬ (U 22 x2.toNat) = x1 : Prop)) → Ev kz (d, 280, 2, [some (.inr (.inr 21)), some (.inl x1), some (.inl (w32 (x2 + 1)))], [], (am_sh, am_mm U)) R) ∧ (¬ (¬ (U 22 x2.toNat) = x1) → R = (some (.inl x2), (am_sh, am_mm U))))) : Ev kz (d, 280, 2, [some (.inr (.inr 21)), some (.inl x1), some (.inl x2)], [], (am_sh, am_mm U)) R := by
  refine ev_br (P := (U 21 0) ≤ x2) (σ1 := (d, 280, 28, [some (.inr (.inr 21)), some (.inl x1), some (.inl x2)], [], (am_sh, am_mm U))) (σ2 := (d, 280, 10, [some (.inr (.inr 21)), some (.inl x1), some (.inl x2)], [], (am_sh, am_mm U))) 4 (fun _ => rfl) (fun hc => ?_) (fun hc => ?_)
  · have h1 := h.1 hc
    subst h1
    exact ev_end 2 (fun _ => rfl)
  · have h2 := h.2 hc
    refine ev_seg (σ1 := (d, 280, 15, [some (.inr (.inr 21)), some (.inl x1), some (.inl x2)], [.inl x2, .inr (.inr 22)], (am_sh, am_mm U))) 3 (fun _ => rfl) ?_
    refine eu_iald 22 (n := 16) rfl (by decide) rfl (fun _ => rfl) h2.1 ?_
    have h2a := h2.2
    refine ev_br (P := ¬ (U 22 x2.toNat) = x1) (σ1 := (d, 280, 22, [some (.inr (.inr 21)), some (.inl x1), some (.inl x2)], [], (am_sh, am_mm U))) (σ2 := (d, 280, 20, [some (.inr (.inr 21)), some (.inl x1), some (.inl x2)], [], (am_sh, am_mm U))) 2 (fun _ => rfl) (fun hc => ?_) (fun hc => ?_)
    · have h2a1 := h2a.1 hc
      refine ev_seg (σ1 := (d, 280, 2, [some (.inr (.inr 21)), some (.inl x1), some (.inl (w32 (x2 + 1)))], [], (am_sh, am_mm U))) 2 (fun _ => rfl) ?_
      exact h2a1
    · have h2a2 := h2a.2 hc
      subst h2a2
      exact ev_end 2 (fun _ => rfl)
