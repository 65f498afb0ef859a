set_option maxRecDepth 8000 in
theorem st9_1_0 (N : Nat) (X : Nat → Int) (d : Nat) (x1 : Int) (U : Nat → Nat → Int) (R : Option am_V × am_M) (h : (((¬ x1 = 0 : Prop)) → (((¬ x1 = 1 : Prop)) → R = (some (.inl (-1)), (am_sh, am_mm U))) ∧ (¬ (¬ x1 = 1) → R = (some (.inl (U 1 4)), (am_sh, am_mm U)))) ∧ (¬ (¬ x1 = 0) → R = (some (.inl (U 1 3)), (am_sh, am_mm U)))) : Ev (am_kz N X) (d, 9, 0, [some (.inr (.inr 1)), some (.inl x1)], [], (am_sh, am_mm U)) R := by
  refine ev_br (P := ¬ x1 = 0) (σ1 := (d, 9, 9, [some (.inr (.inr 1)), some (.inl x1)], [], (am_sh, am_mm U))) (σ2 := (d, 9, 4, [some (.inr (.inr 1)), some (.inl x1)], [], (am_sh, am_mm U))) 2 (fun _ => rfl) (fun hc => ?_) (fun hc => ?_)
  · have h1 := h.1 hc
    refine ev_br (P := ¬ x1 = 1) (σ1 := (d, 9, 21, [some (.inr (.inr 1)), some (.inl x1)], [], (am_sh, am_mm U))) (σ2 := (d, 9, 14, [some (.inr (.inr 1)), some (.inl x1)], [], (am_sh, am_mm U))) 3 (fun _ => rfl) (fun hc => ?_) (fun hc => ?_)
    · have h11 := h1.1 hc
      subst h11
      exact ev_end 2 (fun _ => rfl)
    · have h12 := h1.2 hc
      subst h12
      exact ev_end 4 (fun _ => rfl)
  · have h2 := h.2 hc
    subst h2
    exact ev_end 3 (fun _ => rfl)
set_option maxRecDepth 8000 in
theorem st10_86_0 (N : Nat) (X : Nat → Int) (d : Nat) (x1 : Int) (U : Nat → Nat → Int) (R : Option am_V × am_M) (h : (((¬ x1 = 0 : Prop)) → (((¬ x1 = 1 : Prop)) → R = (some (.inl (-1)), (am_sh, am_mm U))) ∧ (¬ (¬ x1 = 1) → R = (some (.inl (U 86 11)), (am_sh, am_mm U)))) ∧ (¬ (¬ x1 = 0) → R = (some (.inl (U 86 10)), (am_sh, am_mm U)))) : Ev (am_kz N X) (d, 10, 0, [some (.inr (.inr 86)), some (.inl x1)], [], (am_sh, am_mm U)) R := by
  refine ev_br (P := ¬ x1 = 0) (σ1 := (d, 10, 11, [some (.inr (.inr 86)), some (.inl x1)], [], (am_sh, am_mm U))) (σ2 := (d, 10, 4, [some (.inr (.inr 86)), some (.inl x1)], [], (am_sh, am_mm U))) 2 (fun _ => rfl) (fun hc => ?_) (fun hc => ?_)
  · have h1 := h.1 hc
    refine ev_br (P := ¬ x1 = 1) (σ1 := (d, 10, 23, [some (.inr (.inr 86)), some (.inl x1)], [], (am_sh, am_mm U))) (σ2 := (d, 10, 16, [some (.inr (.inr 86)), some (.inl x1)], [], (am_sh, am_mm U))) 3 (fun _ => rfl) (fun hc => ?_) (fun hc => ?_)
    · have h11 := h1.1 hc
      subst h11
      exact ev_end 2 (fun _ => rfl)
    · have h12 := h1.2 hc
      subst h12
      exact ev_end 4 (fun _ => rfl)
  · have h2 := h.2 hc
    subst h2
    exact ev_end 4 (fun _ => rfl)
set_option maxRecDepth 8000 in
theorem st11_1_0 (N : Nat) (X : Nat → Int) (d : Nat) (x1 : Int) (U : Nat → Nat → Int) (R : Option am_V × am_M) (h : (x1 = 0 → R = (some (.inl (U 3 0)), (am_sh, am_mm U))) ∧ (x1 = 1 → R = (some (.inl (U 3 1)), (am_sh, am_mm U))) ∧ (x1 = 2 → R = (some (.inl (U 3 2)), (am_sh, am_mm U))) ∧ (x1 = 3 → R = (some (.inl (U 16 0)), (am_sh, am_mm U))) ∧ (x1 = 4 → ∃ (r1 : Int) (U1 : Nat → Nat → Int), Ev (am_kz N X) (d, 97, 0, [some (.inr (.inr 16)), none, none], [], (am_sh, am_mm U)) (some (.inl r1), (am_sh, am_mm U1)) ∧ ∃ (r2 : Int) (U2 : Nat → Nat → Int), Ev (am_kz N X) (d, 98, 0, [some (.inl r1)], [], (am_sh, am_mm U1)) (some (.inl r2), (am_sh, am_mm U2)) ∧ R = (some (.inl r2), (am_sh, am_mm U2))) ∧ (x1 = 5 → R = (some (.inl (U 3 4)), (am_sh, am_mm U))) ∧ (x1 = 6 → R = (some (.inl (U 3 3)), (am_sh, am_mm U))) ∧ (x1 = 7 → ∃ (r3 : Int) (U3 : Nat → Nat → Int), Ev (am_kz N X) (d, 99, 0, [some (.inr (.inr 45)), none, none], [], (am_sh, am_mm U)) (some (.inl r3), (am_sh, am_mm U3)) ∧ R = (some (.inl r3), (am_sh, am_mm U3))) ∧ (x1 = 8 → R = (some (.inl (U 16 1)), (am_sh, am_mm U))) ∧ (x1 = 9 → ((((U 16 2) = 0 : Prop)) → R = (some (.inl 0), (am_sh, am_mm U))) ∧ (¬ ((U 16 2) = 0) → R = (some (.inl 1), (am_sh, am_mm U)))) ∧ (x1 = 10 → R = (some (.inl (U 56 2)), (am_sh, am_mm U))) ∧ (x1 = 11 → R = (some (.inl (U 1 18)), (am_sh, am_mm U))) ∧ (¬ x1 = 0 ∧ ¬ x1 = 1 ∧ ¬ x1 = 2 ∧ ¬ x1 = 3 ∧ ¬ x1 = 4 ∧ ¬ x1 = 5 ∧ ¬ x1 = 6 ∧ ¬ x1 = 7 ∧ ¬ x1 = 8 ∧ ¬ x1 = 9 ∧ ¬ x1 = 10 ∧ ¬ x1 = 11 → R = (some (.inl (-1)), (am_sh, am_mm U)))) : Ev (am_kz N X) ((d + 1), 11, 0, [some (.inr (.inr 1)), some (.inl x1)], [], (am_sh, am_mm U)) R := by
  refine ev_seg (σ1 := ((d + 1), 11, 1, [some (.inr (.inr 1)), some (.inl x1)], [.inl x1], (am_sh, am_mm U))) 1 (fun _ => rfl) ?_
  by_cases hc : x1 = 0
  · have hk0 := h.1 hc
    refine ev_sw (off := 63) rfl (by rw [hc]; rfl) (pt := 64) rfl ?_
    subst hk0
    exact ev_end 4 (fun _ => rfl)
  have nh0 := hc
  clear hc
  by_cases hc : x1 = 1
  · have hk1 := h.2.1 hc
    refine ev_sw (off := 71) rfl (by rw [hc]; rfl) (pt := 72) rfl ?_
    subst hk1
    exact ev_end 4 (fun _ => rfl)
  have nh1 := hc
  clear hc
  by_cases hc : x1 = 2
  · have hk2 := h.2.2.1 hc
    refine ev_sw (off := 79) rfl (by rw [hc]; rfl) (pt := 80) rfl ?_
    subst hk2
    exact ev_end 4 (fun _ => rfl)
  have nh2 := hc
  clear hc
  by_cases hc : x1 = 3
  · have hk3 := h.2.2.2.1 hc
    refine ev_sw (off := 87) rfl (by rw [hc]; rfl) (pt := 88) rfl ?_
    subst hk3
    exact ev_end 4 (fun _ => rfl)
  have nh3 := hc
  clear hc
  by_cases hc : x1 = 4
  · have hk4 := h.2.2.2.2.1 hc
    refine ev_sw (off := 95) rfl (by rw [hc]; rfl) (pt := 96) rfl ?_
    refine ev_seg (σ1 := ((d + 1), 11, 100, [some (.inr (.inr 1)), some (.inl x1)], [.inr (.inr 16)], (am_sh, am_mm U))) 2 (fun _ => rfl) ?_
    obtain ⟨r1, U1, hk4c, hk4a⟩ := hk4
    refine ev_cal (σc := (d, 97, 0, [some (.inr (.inr 16)), none, none], [], (am_sh, am_mm U))) (fun _ => rfl) hk4c ?_
    show Ev (am_kz N X) ((d + 1), 11, 103, [some (.inr (.inr 1)), some (.inl x1)], [.inl r1], (am_sh, am_mm U1)) R
    obtain ⟨r2, U2, hk4ac, hk4aa⟩ := hk4a
    refine ev_cal (σc := (d, 98, 0, [some (.inl r1)], [], (am_sh, am_mm U1))) (fun _ => rfl) hk4ac ?_
    show Ev (am_kz N X) ((d + 1), 11, 106, [some (.inr (.inr 1)), some (.inl x1)], [.inl r2], (am_sh, am_mm U2)) R
    subst hk4aa
    exact ev_end 1 (fun _ => rfl)
  have nh4 := hc
  clear hc
  by_cases hc : x1 = 5
  · have hk5 := h.2.2.2.2.2.1 hc
    refine ev_sw (off := 106) rfl (by rw [hc]; rfl) (pt := 107) rfl ?_
    subst hk5
    exact ev_end 4 (fun _ => rfl)
  have nh5 := hc
  clear hc
  by_cases hc : x1 = 6
  · have hk6 := h.2.2.2.2.2.2.1 hc
    refine ev_sw (off := 114) rfl (by rw [hc]; rfl) (pt := 115) rfl ?_
    subst hk6
    exact ev_end 4 (fun _ => rfl)
  have nh6 := hc
  clear hc
  by_cases hc : x1 = 7
  · have hk7 := h.2.2.2.2.2.2.2.1 hc
    refine ev_sw (off := 122) rfl (by rw [hc]; rfl) (pt := 123) rfl ?_
    refine ev_seg (σ1 := ((d + 1), 11, 127, [some (.inr (.inr 1)), some (.inl x1)], [.inr (.inr 45)], (am_sh, am_mm U))) 2 (fun _ => rfl) ?_
    obtain ⟨r3, U3, hk7c, hk7a⟩ := hk7
    refine ev_cal (σc := (d, 99, 0, [some (.inr (.inr 45)), none, none], [], (am_sh, am_mm U))) (fun _ => rfl) hk7c ?_
    show Ev (am_kz N X) ((d + 1), 11, 130, [some (.inr (.inr 1)), some (.inl x1)], [.inl r3], (am_sh, am_mm U3)) R
    subst hk7a
    exact ev_end 1 (fun _ => rfl)
  have nh7 := hc
  clear hc
  by_cases hc : x1 = 8
  · have hk8 := h.2.2.2.2.2.2.2.2.1 hc
    refine ev_sw (off := 130) rfl (by rw [hc]; rfl) (pt := 131) rfl ?_
    subst hk8
    exact ev_end 4 (fun _ => rfl)
  have nh8 := hc
  clear hc
  by_cases hc : x1 = 9
  · have hk9 := h.2.2.2.2.2.2.2.2.2.1 hc
    refine ev_sw (off := 138) rfl (by rw [hc]; rfl) (pt := 139) rfl ?_
    refine ev_br (P := (U 16 2) = 0) (σ1 := ((d + 1), 11, 153, [some (.inr (.inr 1)), some (.inl x1)], [], (am_sh, am_mm U))) (σ2 := ((d + 1), 11, 149, [some (.inr (.inr 1)), some (.inl x1)], [], (am_sh, am_mm U))) 4 (fun _ => rfl) (fun hc => ?_) (fun hc => ?_)
    · have hk91 := hk9.1 hc
      subst hk91
      exact ev_end 2 (fun _ => rfl)
    · have hk92 := hk9.2 hc
      subst hk92
      exact ev_end 3 (fun _ => rfl)
  have nh9 := hc
  clear hc
  by_cases hc : x1 = 10
  · have hk10 := h.2.2.2.2.2.2.2.2.2.2.1 hc
    refine ev_sw (off := 154) rfl (by rw [hc]; rfl) (pt := 155) rfl ?_
    subst hk10
    exact ev_end 4 (fun _ => rfl)
  have nh10 := hc
  clear hc
  by_cases hc : x1 = 11
  · have hk11 := h.2.2.2.2.2.2.2.2.2.2.2.1 hc
    refine ev_sw (off := 162) rfl (by rw [hc]; rfl) (pt := 163) rfl ?_
    subst hk11
    exact ev_end 3 (fun _ => rfl)
  have nh11 := hc
  clear hc
  have hkd := h.2.2.2.2.2.2.2.2.2.2.2.2 ⟨nh0, nh1, nh2, nh3, nh4, nh5, nh6, nh7, nh8, nh9, nh10, nh11⟩
  refine ev_sw (off := 167) rfl (if_pos (by omega)) (pt := 168) rfl ?_
  subst hkd
  exact ev_end 2 (fun _ => rfl)
set_option maxRecDepth 8000 in
theorem st12_86_0 (N : Nat) (X : Nat → Int) (d : Nat) (x1 : Int) (U : Nat → Nat → Int) (R : Option am_V × am_M) (h : (x1 = 0 → (0 ≤ (U 86 13) ∧ (U 86 13) < 2) ∧ R = (some (.inl (U 88 (U 86 13).toNat)), (am_sh, am_mm U))) ∧ (x1 = 1 → (0 ≤ (U 86 13) ∧ (U 86 13) < 2) ∧ R = (some (.inl (U 90 (U 86 13).toNat)), (am_sh, am_mm U))) ∧ (x1 = 2 → (0 ≤ (U 86 13) ∧ (U 86 13) < 2) ∧ R = (some (.inl (U 94 (U 86 13).toNat)), (am_sh, am_mm U))) ∧ (x1 = 3 → R = (some (.inl (U 122 0)), (am_sh, am_mm U))) ∧ (x1 = 4 → Ev (am_kz N X) ((d + 1), 12, 103, [some (.inr (.inr 86)), some (.inl x1), some (.inl 0), some (.inl 0)], [], (am_sh, am_mm U)) R) ∧ (x1 = 5 → (0 ≤ (U 86 13) ∧ (U 86 13) < 2) ∧ R = (some (.inl (U 100 (U 86 13).toNat)), (am_sh, am_mm U))) ∧ (x1 = 6 → (0 ≤ (U 86 13) ∧ (U 86 13) < 2) ∧ R = (some (.inl (U 106 (U 86 13).toNat)), (am_sh, am_mm U))) ∧ (x1 = 7 → ∃ (r1 : Int) (U1 : Nat → Nat → Int), Ev (am_kz N X) (d, 100, 0, [some (.inr (.inr 86)), some (.inl 0), some (.inl (-1)), some (.inl (-1)), none, none, none, none], [], (am_sh, am_mm U)) (some (.inl r1), (am_sh, am_mm U1)) ∧ R = (some (.inl r1), (am_sh, am_mm U1))) ∧ (x1 = 8 → R = (some (.inl (U 120 0)), (am_sh, am_mm U))) ∧ (x1 = 9 → R = (some (.inl (U 121 0)), (am_sh, am_mm U))) ∧ (x1 = 10 → R = (some (.inl (U 86 58)), (am_sh, am_mm U))) ∧ (x1 = 11 → R = (some (.inl (w32 (U 86 59))), (am_sh, am_mm U))) ∧ (¬ x1 = 0 ∧ ¬ x1 = 1 ∧ ¬ x1 = 2 ∧ ¬ x1 = 3 ∧ ¬ x1 = 4 ∧ ¬ x1 = 5 ∧ ¬ x1 = 6 ∧ ¬ x1 = 7 ∧ ¬ x1 = 8 ∧ ¬ x1 = 9 ∧ ¬ x1 = 10 ∧ ¬ x1 = 11 → R = (some (.inl (-1)), (am_sh, am_mm U)))) : Ev (am_kz N X) ((d + 1), 12, 0, [some (.inr (.inr 86)), some (.inl x1), none, none], [], (am_sh, am_mm U)) R := by
  refine ev_seg (σ1 := ((d + 1), 12, 3, [some (.inr (.inr 86)), some (.inl x1), some (.inl 0), none], [.inl x1], (am_sh, am_mm U))) 3 (fun _ => rfl) ?_
  by_cases hc : x1 = 0
  · have hk0 := h.1 hc
    refine ev_sw (off := 61) rfl (by rw [hc]; rfl) (pt := 64) rfl ?_
    refine ev_seg (σ1 := ((d + 1), 12, 72, [some (.inr (.inr 86)), some (.inl x1), some (.inl 0), none], [.inl (U 86 13), .inr (.inr 88)], (am_sh, am_mm U))) 4 (fun _ => rfl) ?_
    refine eu_iald 88 (n := 2) rfl (by decide) rfl (fun _ => rfl) hk0.1 ?_
    have hk0a := hk0.2
    subst hk0a
    exact ev_end 1 (fun _ => rfl)
  have nh0 := hc
  clear hc
  by_cases hc : x1 = 1
  · have hk1 := h.2.1 hc
    refine ev_sw (off := 71) rfl (by rw [hc]; rfl) (pt := 74) rfl ?_
    refine ev_seg (σ1 := ((d + 1), 12, 82, [some (.inr (.inr 86)), some (.inl x1), some (.inl 0), none], [.inl (U 86 13), .inr (.inr 90)], (am_sh, am_mm U))) 4 (fun _ => rfl) ?_
    refine eu_iald 90 (n := 2) rfl (by decide) rfl (fun _ => rfl) hk1.1 ?_
    have hk1a := hk1.2
    subst hk1a
    exact ev_end 1 (fun _ => rfl)
  have nh1 := hc
  clear hc
  by_cases hc : x1 = 2
  · have hk2 := h.2.2.1 hc
    refine ev_sw (off := 81) rfl (by rw [hc]; rfl) (pt := 84) rfl ?_
    refine ev_seg (σ1 := ((d + 1), 12, 92, [some (.inr (.inr 86)), some (.inl x1), some (.inl 0), none], [.inl (U 86 13), .inr (.inr 94)], (am_sh, am_mm U))) 4 (fun _ => rfl) ?_
    refine eu_iald 94 (n := 2) rfl (by decide) rfl (fun _ => rfl) hk2.1 ?_
    have hk2a := hk2.2
    subst hk2a
    exact ev_end 1 (fun _ => rfl)
  have nh2 := hc
  clear hc
  by_cases hc : x1 = 3
  · have hk3 := h.2.2.2.1 hc
    refine ev_sw (off := 91) rfl (by rw [hc]; rfl) (pt := 94) rfl ?_
    refine ev_seg (σ1 := ((d + 1), 12, 99, [some (.inr (.inr 86)), some (.inl x1), some (.inl 0), none], [.inl 0, .inr (.inr 122)], (am_sh, am_mm U))) 3 (fun _ => rfl) ?_
    refine eu_iald 122 (n := 22) rfl (by decide) rfl (fun _ => rfl) (by decide) ?_
    show Ev (am_kz N X) ((d + 1), 12, 100, [some (.inr (.inr 86)), some (.inl x1), some (.inl 0), none], [.inl (U 122 0)], (am_sh, am_mm U)) R
    subst hk3
    exact ev_end 1 (fun _ => rfl)
  have nh3 := hc
  clear hc
  by_cases hc : x1 = 4
  · have hk4 := h.2.2.2.2.1 hc
    refine ev_sw (off := 98) rfl (by rw [hc]; rfl) (pt := 101) rfl ?_
    refine ev_seg (σ1 := ((d + 1), 12, 103, [some (.inr (.inr 86)), some (.inl x1), some (.inl 0), some (.inl 0)], [], (am_sh, am_mm U))) 2 (fun _ => rfl) ?_
    exact hk4
  have nh4 := hc
  clear hc
  by_cases hc : x1 = 5
  · have hk5 := h.2.2.2.2.2.1 hc
    refine ev_sw (off := 136) rfl (by rw [hc]; rfl) (pt := 139) rfl ?_
    refine ev_seg (σ1 := ((d + 1), 12, 147, [some (.inr (.inr 86)), some (.inl x1), some (.inl 0), none], [.inl (U 86 13), .inr (.inr 100)], (am_sh, am_mm U))) 4 (fun _ => rfl) ?_
    refine eu_iald 100 (n := 2) rfl (by decide) rfl (fun _ => rfl) hk5.1 ?_
    have hk5a := hk5.2
    subst hk5a
    exact ev_end 1 (fun _ => rfl)
  have nh5 := hc
  clear hc
  by_cases hc : x1 = 6
  · have hk6 := h.2.2.2.2.2.2.1 hc
    refine ev_sw (off := 146) rfl (by rw [hc]; rfl) (pt := 149) rfl ?_
    refine ev_seg (σ1 := ((d + 1), 12, 157, [some (.inr (.inr 86)), some (.inl x1), some (.inl 0), none], [.inl (U 86 13), .inr (.inr 106)], (am_sh, am_mm U))) 4 (fun _ => rfl) ?_
    refine eu_iald 106 (n := 2) rfl (by decide) rfl (fun _ => rfl) hk6.1 ?_
    have hk6a := hk6.2
    subst hk6a
    exact ev_end 1 (fun _ => rfl)
  have nh6 := hc
  clear hc
  by_cases hc : x1 = 7
  · have hk7 := h.2.2.2.2.2.2.2.1 hc
    refine ev_sw (off := 156) rfl (by rw [hc]; rfl) (pt := 159) rfl ?_
    refine ev_seg (σ1 := ((d + 1), 12, 163, [some (.inr (.inr 86)), some (.inl x1), some (.inl 0), none], [.inl (-1), .inl (-1), .inl 0, .inr (.inr 86)], (am_sh, am_mm U))) 4 (fun _ => rfl) ?_
    obtain ⟨r1, U1, hk7c, hk7a⟩ := hk7
    refine ev_cal (σc := (d, 100, 0, [some (.inr (.inr 86)), some (.inl 0), some (.inl (-1)), some (.inl (-1)), none, none, none, none], [], (am_sh, am_mm U))) (fun _ => rfl) hk7c ?_
    show Ev (am_kz N X) ((d + 1), 12, 166, [some (.inr (.inr 86)), some (.inl x1), some (.inl 0), none], [.inl r1], (am_sh, am_mm U1)) R
    subst hk7a
    exact ev_end 1 (fun _ => rfl)
  have nh7 := hc
  clear hc
  by_cases hc : x1 = 8
  · have hk8 := h.2.2.2.2.2.2.2.2.1 hc
    refine ev_sw (off := 164) rfl (by rw [hc]; rfl) (pt := 167) rfl ?_
    refine ev_seg (σ1 := ((d + 1), 12, 172, [some (.inr (.inr 86)), some (.inl x1), some (.inl 0), none], [.inl 0, .inr (.inr 120)], (am_sh, am_mm U))) 3 (fun _ => rfl) ?_
    refine eu_iald 120 (n := 22) rfl (by decide) rfl (fun _ => rfl) (by decide) ?_
    show Ev (am_kz N X) ((d + 1), 12, 173, [some (.inr (.inr 86)), some (.inl x1), some (.inl 0), none], [.inl (U 120 0)], (am_sh, am_mm U)) R
    subst hk8
    exact ev_end 1 (fun _ => rfl)
  have nh8 := hc
  clear hc
  by_cases hc : x1 = 9
  · have hk9 := h.2.2.2.2.2.2.2.2.2.1 hc
    refine ev_sw (off := 171) rfl (by rw [hc]; rfl) (pt := 174) rfl ?_
    refine ev_seg (σ1 := ((d + 1), 12, 179, [some (.inr (.inr 86)), some (.inl x1), some (.inl 0), none], [.inl 0, .inr (.inr 121)], (am_sh, am_mm U))) 3 (fun _ => rfl) ?_
    refine eu_iald 121 (n := 22) rfl (by decide) rfl (fun _ => rfl) (by decide) ?_
    show Ev (am_kz N X) ((d + 1), 12, 180, [some (.inr (.inr 86)), some (.inl x1), some (.inl 0), none], [.inl (U 121 0)], (am_sh, am_mm U)) R
    subst hk9
    exact ev_end 1 (fun _ => rfl)
  have nh9 := hc
  clear hc
  by_cases hc : x1 = 10
  · have hk10 := h.2.2.2.2.2.2.2.2.2.2.1 hc
    refine ev_sw (off := 178) rfl (by rw [hc]; rfl) (pt := 181) rfl ?_
    subst hk10
    exact ev_end 3 (fun _ => rfl)
  have nh10 := hc
  clear hc
  by_cases hc : x1 = 11
  · have hk11 := h.2.2.2.2.2.2.2.2.2.2.2.1 hc
    refine ev_sw (off := 183) rfl (by rw [hc]; rfl) (pt := 186) rfl ?_
    subst hk11
    exact ev_end 4 (fun _ => rfl)
  have nh11 := hc
  clear hc
  have hkd := h.2.2.2.2.2.2.2.2.2.2.2.2 ⟨nh0, nh1, nh2, nh3, nh4, nh5, nh6, nh7, nh8, nh9, nh10, nh11⟩
  refine ev_sw (off := 189) rfl (if_pos (by omega)) (pt := 192) rfl ?_
  subst hkd
  exact ev_end 2 (fun _ => rfl)
set_option maxRecDepth 8000 in
theorem st12_86_103 (N : Nat) (X : Nat → Int) (d : Nat) (x1 x2 x3 : Int) (U : Nat → Nat → Int) (R : Option am_V × am_M) (h : ((((U 122 0) ≤ x3 : Prop)) → R = (some (.inl x2), (am_sh, am_mm U))) ∧ (¬ ((U 122 0) ≤ x3) → (0 ≤ x3 ∧ x3 < 352) ∧ (((¬ (U 124 x3.toNat) = (-1) : Prop)) → Ev (am_kz N X) ((d + 1), 12, 103, [some (.inr (.inr 86)), some (.inl x1), some (.inl (w32 (x2 + 0))), some (.inl (w32 (x3 + 1)))], [], (am_sh, am_mm U)) R) ∧ (¬ (¬ (U 124 x3.toNat) = (-1)) → Ev (am_kz N X) ((d + 1), 12, 103, [some (.inr (.inr 86)), some (.inl x1), some (.inl (w32 (x2 + 1))), some (.inl (w32 (x3 + 1)))], [], (am_sh, am_mm U)) R))) : Ev (am_kz N X) ((d + 1), 12, 103, [some (.inr (.inr 86)), some (.inl x1), some (.inl x2), some (.inl x3)], [], (am_sh, am_mm U)) R := by
  refine ev_seg (σ1 := ((d + 1), 12, 109, [some (.inr (.inr 86)), some (.inl x1), some (.inl x2), some (.inl x3)], [.inl 0, .inr (.inr 122), .inl x3], (am_sh, am_mm U))) 4 (fun _ => rfl) ?_
  refine eu_iald 122 (n := 22) rfl (by decide) rfl (fun _ => rfl) (by decide) ?_
  show Ev (am_kz N X) ((d + 1), 12, 110, [some (.inr (.inr 86)), some (.inl x1), some (.inl x2), some (.inl x3)], [.inl (U 122 0), .inl x3], (am_sh, am_mm U)) R
  refine ev_br (P := (U 122 0) ≤ x3) (σ1 := ((d + 1), 12, 137, [some (.inr (.inr 86)), some (.inl x1), some (.inl x2), some (.inl x3)], [], (am_sh, am_mm U))) (σ2 := ((d + 1), 12, 113, [some (.inr (.inr 86)), some (.inl x1), some (.inl x2), some (.inl x3)], [], (am_sh, am_mm U))) 1 (fun _ => rfl) (fun hc => ?_) (fun hc => ?_)
  · have h1 := h.1 hc
    subst h1
    exact ev_end 2 (fun _ => rfl)
  · have h2 := h.2 hc
    refine ev_seg (σ1 := ((d + 1), 12, 119, [some (.inr (.inr 86)), some (.inl x1), some (.inl x2), some (.inl x3)], [.inl x3, .inr (.inr 124), .inl x2], (am_sh, am_mm U))) 4 (fun _ => rfl) ?_
    refine eu_iald 124 (n := 352) rfl (by decide) rfl (fun _ => rfl) h2.1 ?_
    have h2a := h2.2
    refine ev_br (P := ¬ (U 124 x3.toNat) = (-1)) (σ1 := ((d + 1), 12, 128, [some (.inr (.inr 86)), some (.inl x1), some (.inl x2), some (.inl x3)], [.inl x2], (am_sh, am_mm U))) (σ2 := ((d + 1), 12, 124, [some (.inr (.inr 86)), some (.inl x1), some (.inl x2), some (.inl x3)], [.inl x2], (am_sh, am_mm U))) 2 (fun _ => rfl) (fun hc => ?_) (fun hc => ?_)
    · have h2a1 := h2a.1 hc
      refine ev_seg (σ1 := ((d + 1), 12, 103, [some (.inr (.inr 86)), some (.inl x1), some (.inl (w32 (x2 + 0))), some (.inl (w32 (x3 + 1)))], [], (am_sh, am_mm U))) 5 (fun _ => rfl) ?_
      exact h2a1
    · have h2a2 := h2a.2 hc
      refine ev_seg (σ1 := ((d + 1), 12, 103, [some (.inr (.inr 86)), some (.inl x1), some (.inl (w32 (x2 + 1))), some (.inl (w32 (x3 + 1)))], [], (am_sh, am_mm U))) 6 (fun _ => rfl) ?_
      exact h2a2
set_option maxRecDepth 8000 in
theorem st13_1_0 (N : Nat) (X : Nat → Int) (d : Nat) (x1 x2 x3 : Int) (U : Nat → Nat → Int) (R : Option am_V × am_M) (h : (((x3 < 0 : Prop)) → R = (some (.inl (-1)), (am_sh, am_mm U))) ∧ (¬ (x3 < 0) → (((x3 ≤ 5 : Prop)) → (((¬ x1 = 0 : Prop)) → (((¬ x1 = 1 : Prop)) → R = (some (.inl (-1)), (am_sh, am_mm U))) ∧ (¬ (¬ x1 = 1) → ∃ (r1 : Int) (U1 : Nat → Nat → Int), Ev (am_kz N X) (d, 102, 0, [some (.inr (.inr 1)), some (.inl x2)], [], (am_sh, am_mm U)) (some (.inl r1), (am_sh, am_mm U1)) ∧ (((r1 = 0 : Prop)) → R = (some (.inl (-1)), (am_sh, am_mm U1))) ∧ (¬ (r1 = 0) → (0 ≤ x2 ∧ x2 < 12) ∧ ∃ (r2 : Int) (U2 : Nat → Nat → Int), Ev (am_kz N X) (d, 101, 0, [some (.inl (U1 5 x2.toNat)), some (.inl x3)], [], (am_sh, am_mm U1)) (some (.inl r2), (am_sh, am_mm U2)) ∧ R = (some (.inl r2), (am_sh, am_mm U2))))) ∧ (¬ (¬ x1 = 0) → (((x2 < 0 : Prop)) → (((¬ x1 = 1 : Prop)) → R = (some (.inl (-1)), (am_sh, am_mm U))) ∧ (¬ (¬ x1 = 1) → ∃ (r3 : Int) (U3 : Nat → Nat → Int), Ev (am_kz N X) (d, 102, 0, [some (.inr (.inr 1)), some (.inl x2)], [], (am_sh, am_mm U)) (some (.inl r3), (am_sh, am_mm U3)) ∧ (((r3 = 0 : Prop)) → R = (some (.inl (-1)), (am_sh, am_mm U3))) ∧ (¬ (r3 = 0) → (0 ≤ x2 ∧ x2 < 12) ∧ ∃ (r4 : Int) (U4 : Nat → Nat → Int), Ev (am_kz N X) (d, 101, 0, [some (.inl (U3 5 x2.toNat)), some (.inl x3)], [], (am_sh, am_mm U3)) (some (.inl r4), (am_sh, am_mm U4)) ∧ R = (some (.inl r4), (am_sh, am_mm U4))))) ∧ (¬ (x2 < 0) → ((((U 3 0) ≤ x2 : Prop)) → (((¬ x1 = 1 : Prop)) → R = (some (.inl (-1)), (am_sh, am_mm U))) ∧ (¬ (¬ x1 = 1) → ∃ (r5 : Int) (U5 : Nat → Nat → Int), Ev (am_kz N X) (d, 102, 0, [some (.inr (.inr 1)), some (.inl x2)], [], (am_sh, am_mm U)) (some (.inl r5), (am_sh, am_mm U5)) ∧ (((r5 = 0 : Prop)) → R = (some (.inl (-1)), (am_sh, am_mm U5))) ∧ (¬ (r5 = 0) → (0 ≤ x2 ∧ x2 < 12) ∧ ∃ (r6 : Int) (U6 : Nat → Nat → Int), Ev (am_kz N X) (d, 101, 0, [some (.inl (U5 5 x2.toNat)), some (.inl x3)], [], (am_sh, am_mm U5)) (some (.inl r6), (am_sh, am_mm U6)) ∧ R = (some (.inl r6), (am_sh, am_mm U6))))) ∧ (¬ ((U 3 0) ≤ x2) → (0 ≤ x2 ∧ x2 < 4) ∧ ∃ (r7 : Int) (U7 : Nat → Nat → Int), Ev (am_kz N X) (d, 101, 0, [some (.inl (U 4 x2.toNat)), some (.inl x3)], [], (am_sh, am_mm U)) (some (.inl r7), (am_sh, am_mm U7)) ∧ R = (some (.inl r7), (am_sh, am_mm U7)))))) ∧ (¬ (x3 ≤ 5) → R = (some (.inl (-1)), (am_sh, am_mm U))))) : Ev (am_kz N X) ((d + 1), 13, 0, [some (.inr (.inr 1)), some (.inl x1), some (.inl x2), some (.inl x3)], [], (am_sh, am_mm U)) R := by
  refine ev_br (P := x3 < 0) (σ1 := ((d + 1), 13, 9, [some (.inr (.inr 1)), some (.inl x1), some (.inl x2), some (.inl x3)], [], (am_sh, am_mm U))) (σ2 := ((d + 1), 13, 4, [some (.inr (.inr 1)), some (.inl x1), some (.inl x2), some (.inl x3)], [], (am_sh, am_mm U))) 2 (fun _ => rfl) (fun hc => ?_) (fun hc => ?_)
  · have h1 := h.1 hc
    subst h1
    exact ev_end 2 (fun _ => rfl)
  · have h2 := h.2 hc
    refine ev_br (P := x3 ≤ 5) (σ1 := ((d + 1), 13, 11, [some (.inr (.inr 1)), some (.inl x1), some (.inl x2), some (.inl x3)], [], (am_sh, am_mm U))) (σ2 := ((d + 1), 13, 9, [some (.inr (.inr 1)), some (.inl x1), some (.inl x2), some (.inl x3)], [], (am_sh, am_mm U))) 3 (fun _ => rfl) (fun hc => ?_) (fun hc => ?_)
    · have h21 := h2.1 hc
      refine ev_br (P := ¬ x1 = 0) (σ1 := ((d + 1), 13, 44, [some (.inr (.inr 1)), some (.inl x1), some (.inl x2), some (.inl x3)], [], (am_sh, am_mm U))) (σ2 := ((d + 1), 13, 15, [some (.inr (.inr 1)), some (.inl x1), some (.inl x2), some (.inl x3)], [], (am_sh, am_mm U))) 2 (fun _ => rfl) (fun hc => ?_) (fun hc => ?_)
      · have h211 := h21.1 hc
        refine ev_br (P := ¬ x1 = 1) (σ1 := ((d + 1), 13, 71, [some (.inr (.inr 1)), some (.inl x1), some (.inl x2), some (.inl x3)], [], (am_sh, am_mm U))) (σ2 := ((d + 1), 13, 49, [some (.inr (.inr 1)), some (.inl x1), some (.inl x2), some (.inl x3)], [], (am_sh, am_mm U))) 3 (fun _ => rfl) (fun hc => ?_) (fun hc => ?_)
        · have h2111 := h211.1 hc
          subst h2111
          exact ev_end 2 (fun _ => rfl)
        · have h2112 := h211.2 hc
          refine ev_seg (σ1 := ((d + 1), 13, 51, [some (.inr (.inr 1)), some (.inl x1), some (.inl x2), some (.inl x3)], [.inl x2, .inr (.inr 1)], (am_sh, am_mm U))) 2 (fun _ => rfl) ?_
          obtain ⟨r1, U1, h2112c, h2112a⟩ := h2112
          refine ev_cal (σc := (d, 102, 0, [some (.inr (.inr 1)), some (.inl x2)], [], (am_sh, am_mm U))) (fun _ => rfl) h2112c ?_
          show Ev (am_kz N X) ((d + 1), 13, 54, [some (.inr (.inr 1)), some (.inl x1), some (.inl x2), some (.inl x3)], [.inl r1], (am_sh, am_mm U1)) R
          refine ev_br (P := r1 = 0) (σ1 := ((d + 1), 13, 71, [some (.inr (.inr 1)), some (.inl x1), some (.inl x2), some (.inl x3)], [], (am_sh, am_mm U1))) (σ2 := ((d + 1), 13, 57, [some (.inr (.inr 1)), some (.inl x1), some (.inl x2), some (.inl x3)], [], (am_sh, am_mm U1))) 1 (fun _ => rfl) (fun hc => ?_) (fun hc => ?_)
          · have h2112a1 := h2112a.1 hc
            subst h2112a1
            exact ev_end 2 (fun _ => rfl)
          · have h2112a2 := h2112a.2 hc
            refine ev_seg (σ1 := ((d + 1), 13, 65, [some (.inr (.inr 1)), some (.inl x1), some (.inl x2), some (.inl x3)], [.inl x2, .inr (.inr 5)], (am_sh, am_mm U1))) 4 (fun _ => rfl) ?_
            refine eu_iald 5 (n := 12) rfl (by decide) rfl (fun _ => rfl) h2112a2.1 ?_
            have h2112a2a := h2112a2.2
            refine ev_seg (σ1 := ((d + 1), 13, 67, [some (.inr (.inr 1)), some (.inl x1), some (.inl x2), some (.inl x3)], [.inl x3, .inl (U1 5 x2.toNat)], (am_sh, am_mm U1))) 1 (fun _ => rfl) ?_
            obtain ⟨r2, U2, h2112a2ac, h2112a2aa⟩ := h2112a2a
            refine ev_cal (σc := (d, 101, 0, [some (.inl (U1 5 x2.toNat)), some (.inl x3)], [], (am_sh, am_mm U1))) (fun _ => rfl) h2112a2ac ?_
            show Ev (am_kz N X) ((d + 1), 13, 70, [some (.inr (.inr 1)), some (.inl x1), some (.inl x2), some (.inl x3)], [.inl r2], (am_sh, am_mm U2)) R
            subst h2112a2aa
            exact ev_end 1 (fun _ => rfl)
      · have h212 := h21.2 hc
        refine ev_br (P := x2 < 0) (σ1 := ((d + 1), 13, 44, [some (.inr (.inr 1)), some (.inl x1), some (.inl x2), some (.inl x3)], [], (am_sh, am_mm U))) (σ2 := ((d + 1), 13, 19, [some (.inr (.inr 1)), some (.inl x1), some (.inl x2), some (.inl x3)], [], (am_sh, am_mm U))) 2 (fun _ => rfl) (fun hc => ?_) (fun hc => ?_)
        · have h2121 := h212.1 hc
          refine ev_br (P := ¬ x1 = 1) (σ1 := ((d + 1), 13, 71, [some (.inr (.inr 1)), some (.inl x1), some (.inl x2), some (.inl x3)], [], (am_sh, am_mm U))) (σ2 := ((d + 1), 13, 49, [some (.inr (.inr 1)), some (.inl x1), some (.inl x2), some (.inl x3)], [], (am_sh, am_mm U))) 3 (fun _ => rfl) (fun hc => ?_) (fun hc => ?_)
          · have h21211 := h2121.1 hc
            subst h21211
            exact ev_end 2 (fun _ => rfl)
          · have h21212 := h2121.2 hc
            refine ev_seg (σ1 := ((d + 1), 13, 51, [some (.inr (.inr 1)), some (.inl x1), some (.inl x2), some (.inl x3)], [.inl x2, .inr (.inr 1)], (am_sh, am_mm U))) 2 (fun _ => rfl) ?_
            obtain ⟨r3, U3, h21212c, h21212a⟩ := h21212
            refine ev_cal (σc := (d, 102, 0, [some (.inr (.inr 1)), some (.inl x2)], [], (am_sh, am_mm U))) (fun _ => rfl) h21212c ?_
            show Ev (am_kz N X) ((d + 1), 13, 54, [some (.inr (.inr 1)), some (.inl x1), some (.inl x2), some (.inl x3)], [.inl r3], (am_sh, am_mm U3)) R
            refine ev_br (P := r3 = 0) (σ1 := ((d + 1), 13, 71, [some (.inr (.inr 1)), some (.inl x1), some (.inl x2), some (.inl x3)], [], (am_sh, am_mm U3))) (σ2 := ((d + 1), 13, 57, [some (.inr (.inr 1)), some (.inl x1), some (.inl x2), some (.inl x3)], [], (am_sh, am_mm U3))) 1 (fun _ => rfl) (fun hc => ?_) (fun hc => ?_)
            · have h21212a1 := h21212a.1 hc
              subst h21212a1
              exact ev_end 2 (fun _ => rfl)
            · have h21212a2 := h21212a.2 hc
              refine ev_seg (σ1 := ((d + 1), 13, 65, [some (.inr (.inr 1)), some (.inl x1), some (.inl x2), some (.inl x3)], [.inl x2, .inr (.inr 5)], (am_sh, am_mm U3))) 4 (fun _ => rfl) ?_
              refine eu_iald 5 (n := 12) rfl (by decide) rfl (fun _ => rfl) h21212a2.1 ?_
              have h21212a2a := h21212a2.2
              refine ev_seg (σ1 := ((d + 1), 13, 67, [some (.inr (.inr 1)), some (.inl x1), some (.inl x2), some (.inl x3)], [.inl x3, .inl (U3 5 x2.toNat)], (am_sh, am_mm U3))) 1 (fun _ => rfl) ?_
              obtain ⟨r4, U4, h21212a2ac, h21212a2aa⟩ := h21212a2a
              refine ev_cal (σc := (d, 101, 0, [some (.inl (U3 5 x2.toNat)), some (.inl x3)], [], (am_sh, am_mm U3))) (fun _ => rfl) h21212a2ac ?_
              show Ev (am_kz N X) ((d + 1), 13, 70, [some (.inr (.inr 1)), some (.inl x1), some (.inl x2), some (.inl x3)], [.inl r4], (am_sh, am_mm U4)) R
              subst h21212a2aa
              exact ev_end 1 (fun _ => rfl)
        · have h2122 := h212.2 hc
          refine ev_br (P := (U 3 0) ≤ x2) (σ1 := ((d + 1), 13, 44, [some (.inr (.inr 1)), some (.inl x1), some (.inl x2), some (.inl x3)], [], (am_sh, am_mm U))) (σ2 := ((d + 1), 13, 30, [some (.inr (.inr 1)), some (.inl x1), some (.inl x2), some (.inl x3)], [], (am_sh, am_mm U))) 5 (fun _ => rfl) (fun hc => ?_) (fun hc => ?_)
          · have h21221 := h2122.1 hc
            refine ev_br (P := ¬ x1 = 1) (σ1 := ((d + 1), 13, 71, [some (.inr (.inr 1)), some (.inl x1), some (.inl x2), some (.inl x3)], [], (am_sh, am_mm U))) (σ2 := ((d + 1), 13, 49, [some (.inr (.inr 1)), some (.inl x1), some (.inl x2), some (.inl x3)], [], (am_sh, am_mm U))) 3 (fun _ => rfl) (fun hc => ?_) (fun hc => ?_)
            · have h212211 := h21221.1 hc
              subst h212211
              exact ev_end 2 (fun _ => rfl)
            · have h212212 := h21221.2 hc
              refine ev_seg (σ1 := ((d + 1), 13, 51, [some (.inr (.inr 1)), some (.inl x1), some (.inl x2), some (.inl x3)], [.inl x2, .inr (.inr 1)], (am_sh, am_mm U))) 2 (fun _ => rfl) ?_
              obtain ⟨r5, U5, h212212c, h212212a⟩ := h212212
              refine ev_cal (σc := (d, 102, 0, [some (.inr (.inr 1)), some (.inl x2)], [], (am_sh, am_mm U))) (fun _ => rfl) h212212c ?_
              show Ev (am_kz N X) ((d + 1), 13, 54, [some (.inr (.inr 1)), some (.inl x1), some (.inl x2), some (.inl x3)], [.inl r5], (am_sh, am_mm U5)) R
              refine ev_br (P := r5 = 0) (σ1 := ((d + 1), 13, 71, [some (.inr (.inr 1)), some (.inl x1), some (.inl x2), some (.inl x3)], [], (am_sh, am_mm U5))) (σ2 := ((d + 1), 13, 57, [some (.inr (.inr 1)), some (.inl x1), some (.inl x2), some (.inl x3)], [], (am_sh, am_mm U5))) 1 (fun _ => rfl) (fun hc => ?_) (fun hc => ?_)
              · have h212212a1 := h212212a.1 hc
                subst h212212a1
                exact ev_end 2 (fun _ => rfl)
              · have h212212a2 := h212212a.2 hc
                refine ev_seg (σ1 := ((d + 1), 13, 65, [some (.inr (.inr 1)), some (.inl x1), some (.inl x2), some (.inl x3)], [.inl x2, .inr (.inr 5)], (am_sh, am_mm U5))) 4 (fun _ => rfl) ?_
                refine eu_iald 5 (n := 12) rfl (by decide) rfl (fun _ => rfl) h212212a2.1 ?_
                have h212212a2a := h212212a2.2
                refine ev_seg (σ1 := ((d + 1), 13, 67, [some (.inr (.inr 1)), some (.inl x1), some (.inl x2), some (.inl x3)], [.inl x3, .inl (U5 5 x2.toNat)], (am_sh, am_mm U5))) 1 (fun _ => rfl) ?_
                obtain ⟨r6, U6, h212212a2ac, h212212a2aa⟩ := h212212a2a
                refine ev_cal (σc := (d, 101, 0, [some (.inl (U5 5 x2.toNat)), some (.inl x3)], [], (am_sh, am_mm U5))) (fun _ => rfl) h212212a2ac ?_
                show Ev (am_kz N X) ((d + 1), 13, 70, [some (.inr (.inr 1)), some (.inl x1), some (.inl x2), some (.inl x3)], [.inl r6], (am_sh, am_mm U6)) R
                subst h212212a2aa
                exact ev_end 1 (fun _ => rfl)
          · have h21222 := h2122.2 hc
            refine ev_seg (σ1 := ((d + 1), 13, 38, [some (.inr (.inr 1)), some (.inl x1), some (.inl x2), some (.inl x3)], [.inl x2, .inr (.inr 4)], (am_sh, am_mm U))) 4 (fun _ => rfl) ?_
            refine eu_iald 4 (n := 4) rfl (by decide) rfl (fun _ => rfl) h21222.1 ?_
            have h21222a := h21222.2
            refine ev_seg (σ1 := ((d + 1), 13, 40, [some (.inr (.inr 1)), some (.inl x1), some (.inl x2), some (.inl x3)], [.inl x3, .inl (U 4 x2.toNat)], (am_sh, am_mm U))) 1 (fun _ => rfl) ?_
            obtain ⟨r7, U7, h21222ac, h21222aa⟩ := h21222a
            refine ev_cal (σc := (d, 101, 0, [some (.inl (U 4 x2.toNat)), some (.inl x3)], [], (am_sh, am_mm U))) (fun _ => rfl) h21222ac ?_
            show Ev (am_kz N X) ((d + 1), 13, 43, [some (.inr (.inr 1)), some (.inl x1), some (.inl x2), some (.inl x3)], [.inl r7], (am_sh, am_mm U7)) R
            subst h21222aa
            exact ev_end 1 (fun _ => rfl)
    · have h22 := h2.2 hc
      subst h22
      exact ev_end 2 (fun _ => rfl)
set_option maxRecDepth 8000 in
theorem st14_86_0 (N : Nat) (X : Nat → Int) (d : Nat) (x1 x2 x3 : Int) (U : Nat → Nat → Int) (R : Option am_V × am_M) (h : ∃ (r1 : Int) (U1 : Nat → Nat → Int), Ev (am_kz N X) (d, 103, 0, [some (.inl x1), some (.inl 0), some (.inl 1)], [], (am_sh, am_mm U)) (some (.inl r1), (am_sh, am_mm U1)) ∧ (((r1 = 0 : Prop)) → R = (some (.inl (-1)), (am_sh, am_mm U1))) ∧ (¬ (r1 = 0) → ∃ (r2 : Int) (U2 : Nat → Nat → Int), Ev (am_kz N X) (d, 104, 0, [some (.inr (.inr 86)), some (.inl (U1 86 13)), some (.inl x1)], [], (am_sh, am_mm U1)) (some (.inl r2), (am_sh, am_mm U2)) ∧ ∃ (r3 : Int) (U3 : Nat → Nat → Int), Ev (am_kz N X) (d, 103, 0, [some (.inl x2), some (.inl 0), some (.inl (w32 (r2 - 1)))], [], (am_sh, am_mm U2)) (some (.inl r3), (am_sh, am_mm U3)) ∧ (((r3 = 0 : Prop)) → R = (some (.inl (-1)), (am_sh, am_mm U3))) ∧ (¬ (r3 = 0) → ∃ (r4 : Int) (U4 : Nat → Nat → Int), Ev (am_kz N X) (d, 103, 0, [some (.inl x3), some (.inl 0), some (.inl 5)], [], (am_sh, am_mm U3)) (some (.inl r4), (am_sh, am_mm U4)) ∧ (((¬ r4 = 0 : Prop)) → ∃ (r5 : Int) (U5 : Nat → Nat → Int), Ev (am_kz N X) (d, 105, 0, [some (.inr (.inr 86)), some (.inl (U4 86 13)), some (.inl x1), some (.inl x2)], [], (am_sh, am_mm U4)) (some (.inr (.inl r5)), (am_sh, am_mm U5)) ∧ Ev (am_kz N X) ((d + 1), 14, 58, [some (.inr (.inr 86)), some (.inl x1), some (.inl x2), some (.inl x3), some (.inr (.inl r5)), none, some (.inl 0), some (.inr (.inl r5)), none], [], (am_sh, am_mm U5)) R) ∧ (¬ (¬ r4 = 0) → R = (some (.inl (-1)), (am_sh, am_mm U4)))))) : Ev (am_kz N X) ((d + 1), 14, 0, [some (.inr (.inr 86)), some (.inl x1), some (.inl x2), some (.inl x3), none, none, none, none, none], [], (am_sh, am_mm U)) R := by
  refine ev_seg (σ1 := ((d + 1), 14, 3, [some (.inr (.inr 86)), some (.inl x1), some (.inl x2), some (.inl x3), none, none, none, none, none], [.inl 1, .inl 0, .inl x1], (am_sh, am_mm U))) 3 (fun _ => rfl) ?_
  obtain ⟨r1, U1, hc, ha⟩ := h
  refine ev_cal (σc := (d, 103, 0, [some (.inl x1), some (.inl 0), some (.inl 1)], [], (am_sh, am_mm U))) (fun _ => rfl) hc ?_
  show Ev (am_kz N X) ((d + 1), 14, 6, [some (.inr (.inr 86)), some (.inl x1), some (.inl x2), some (.inl x3), none, none, none, none, none], [.inl r1], (am_sh, am_mm U1)) R
  refine ev_br (P := r1 = 0) (σ1 := ((d + 1), 14, 37, [some (.inr (.inr 86)), some (.inl x1), some (.inl x2), some (.inl x3), none, none, none, none, none], [], (am_sh, am_mm U1))) (σ2 := ((d + 1), 14, 9, [some (.inr (.inr 86)), some (.inl x1), some (.inl x2), some (.inl x3), none, none, none, none, none], [], (am_sh, am_mm U1))) 1 (fun _ => rfl) (fun hc => ?_) (fun hc => ?_)
  · have ha1 := ha.1 hc
    subst ha1
    exact ev_end 2 (fun _ => rfl)
  · have ha2 := ha.2 hc
    refine ev_seg (σ1 := ((d + 1), 14, 17, [some (.inr (.inr 86)), some (.inl x1), some (.inl x2), some (.inl x3), none, none, none, none, none], [.inl x1, .inl (U1 86 13), .inr (.inr 86), .inl 0, .inl x2], (am_sh, am_mm U1))) 6 (fun _ => rfl) ?_
    obtain ⟨r2, U2, ha2c, ha2a⟩ := ha2
    refine ev_cal (σc := (d, 104, 0, [some (.inr (.inr 86)), some (.inl (U1 86 13)), some (.inl x1)], [], (am_sh, am_mm U1))) (fun _ => rfl) ha2c ?_
    show Ev (am_kz N X) ((d + 1), 14, 20, [some (.inr (.inr 86)), some (.inl x1), some (.inl x2), some (.inl x3), none, none, none, none, none], [.inl r2, .inl 0, .inl x2], (am_sh, am_mm U2)) R
    refine ev_seg (σ1 := ((d + 1), 14, 22, [some (.inr (.inr 86)), some (.inl x1), some (.inl x2), some (.inl x3), none, none, none, none, none], [.inl (w32 (r2 - 1)), .inl 0, .inl x2], (am_sh, am_mm U2))) 2 (fun _ => rfl) ?_
    obtain ⟨r3, U3, ha2ac, ha2aa⟩ := ha2a
    refine ev_cal (σc := (d, 103, 0, [some (.inl x2), some (.inl 0), some (.inl (w32 (r2 - 1)))], [], (am_sh, am_mm U2))) (fun _ => rfl) ha2ac ?_
    show Ev (am_kz N X) ((d + 1), 14, 25, [some (.inr (.inr 86)), some (.inl x1), some (.inl x2), some (.inl x3), none, none, none, none, none], [.inl r3], (am_sh, am_mm U3)) R
    refine ev_br (P := r3 = 0) (σ1 := ((d + 1), 14, 37, [some (.inr (.inr 86)), some (.inl x1), some (.inl x2), some (.inl x3), none, none, none, none, none], [], (am_sh, am_mm U3))) (σ2 := ((d + 1), 14, 28, [some (.inr (.inr 86)), some (.inl x1), some (.inl x2), some (.inl x3), none, none, none, none, none], [], (am_sh, am_mm U3))) 1 (fun _ => rfl) (fun hc => ?_) (fun hc => ?_)
    · have ha2aa1 := ha2aa.1 hc
      subst ha2aa1
      exact ev_end 2 (fun _ => rfl)
    · have ha2aa2 := ha2aa.2 hc
      refine ev_seg (σ1 := ((d + 1), 14, 31, [some (.inr (.inr 86)), some (.inl x1), some (.inl x2), some (.inl x3), none, none, none, none, none], [.inl 5, .inl 0, .inl x3], (am_sh, am_mm U3))) 3 (fun _ => rfl) ?_
      obtain ⟨r4, U4, ha2aa2c, ha2aa2a⟩ := ha2aa2
      refine ev_cal (σc := (d, 103, 0, [some (.inl x3), some (.inl 0), some (.inl 5)], [], (am_sh, am_mm U3))) (fun _ => rfl) ha2aa2c ?_
      show Ev (am_kz N X) ((d + 1), 14, 34, [some (.inr (.inr 86)), some (.inl x1), some (.inl x2), some (.inl x3), none, none, none, none, none], [.inl r4], (am_sh, am_mm U4)) R
      refine ev_br (P := ¬ r4 = 0) (σ1 := ((d + 1), 14, 39, [some (.inr (.inr 86)), some (.inl x1), some (.inl x2), some (.inl x3), none, none, none, none, none], [], (am_sh, am_mm U4))) (σ2 := ((d + 1), 14, 37, [some (.inr (.inr 86)), some (.inl x1), some (.inl x2), some (.inl x3), none, none, none, none, none], [], (am_sh, am_mm U4))) 1 (fun _ => rfl) (fun hc => ?_) (fun hc => ?_)
      · have ha2aa2a1 := ha2aa2a.1 hc
        refine ev_seg (σ1 := ((d + 1), 14, 46, [some (.inr (.inr 86)), some (.inl x1), some (.inl x2), some (.inl x3), none, none, none, none, none], [.inl x2, .inl x1, .inl (U4 86 13), .inr (.inr 86)], (am_sh, am_mm U4))) 5 (fun _ => rfl) ?_
        obtain ⟨r5, U5, ha2aa2a1c, ha2aa2a1a⟩ := ha2aa2a1
        refine ev_cal (σc := (d, 105, 0, [some (.inr (.inr 86)), some (.inl (U4 86 13)), some (.inl x1), some (.inl x2)], [], (am_sh, am_mm U4))) (fun _ => rfl) ha2aa2a1c ?_
        show Ev (am_kz N X) ((d + 1), 14, 49, [some (.inr (.inr 86)), some (.inl x1), some (.inl x2), some (.inl x3), none, none, none, none, none], [.inr (.inl r5)], (am_sh, am_mm U5)) R
        refine ev_seg (σ1 := ((d + 1), 14, 58, [some (.inr (.inr 86)), some (.inl x1), some (.inl x2), some (.inl x3), some (.inr (.inl r5)), none, some (.inl 0), some (.inr (.inl r5)), none], [], (am_sh, am_mm U5))) 5 (fun _ => rfl) ?_
        exact ha2aa2a1a
      · have ha2aa2a2 := ha2aa2a.2 hc
        subst ha2aa2a2
        exact ev_end 2 (fun _ => rfl)
set_option maxRecDepth 8000 in
theorem st14_86_58 (N : Nat) (X : Nat → Int) (d : Nat) (x1 x2 x3 x4 x6 x7 : Int) (U : Nat → Nat → Int) (R : Option am_V × am_M) (h : ((((am_lcmp x7 0) ≤ 0 : Prop)) → (((x3 < x6 : Prop)) → R = (some (.inl (w32 ((w32 ((w32 (am_land (am_lshr x4 (w32 (8 * (w32 ((w32 (x6 - 1)) - x3))))) 255)) - 97)) + 1))), (am_sh, am_mm U))) ∧ (¬ (x3 < x6) → R = (some (.inl 0), (am_sh, am_mm U)))) ∧ (¬ ((am_lcmp x7 0) ≤ 0) → Ev (am_kz N X) ((d + 1), 14, 58, [some (.inr (.inr 86)), some (.inl x1), some (.inl x2), some (.inl x3), some (.inr (.inl x4)), none, some (.inl (w32 (x6 + 1))), some (.inr (.inl (am_lshr x7 8))), none], [], (am_sh, am_mm U)) R)) : Ev (am_kz N X) ((d + 1), 14, 58, [some (.inr (.inr 86)), some (.inl x1), some (.inl x2), some (.inl x3), some (.inr (.inl x4)), none, some (.inl x6), some (.inr (.inl x7)), none], [], (am_sh, am_mm U)) R := by
  refine ev_br (P := (am_lcmp x7 0) ≤ 0) (σ1 := ((d + 1), 14, 78, [some (.inr (.inr 86)), some (.inl x1), some (.inl x2), some (.inl x3), some (.inr (.inl x4)), none, some (.inl x6), some (.inr (.inl x7)), none], [], (am_sh, am_mm U))) (σ2 := ((d + 1), 14, 65, [some (.inr (.inr 86)), some (.inl x1), some (.inl x2), some (.inl x3), some (.inr (.inl x4)), none, some (.inl x6), some (.inr (.inl x7)), none], [], (am_sh, am_mm U))) 4 (fun _ => rfl) (fun hc => ?_) (fun hc => ?_)
  · have h1 := h.1 hc
    refine ev_br (P := x3 < x6) (σ1 := ((d + 1), 14, 88, [some (.inr (.inr 86)), some (.inl x1), some (.inl x2), some (.inl x3), some (.inr (.inl x4)), none, some (.inl x6), some (.inr (.inl x7)), none], [], (am_sh, am_mm U))) (σ2 := ((d + 1), 14, 84, [some (.inr (.inr 86)), some (.inl x1), some (.inl x2), some (.inl x3), some (.inr (.inl x4)), none, some (.inl x6), some (.inr (.inl x7)), none], [], (am_sh, am_mm U))) 3 (fun _ => rfl) (fun hc => ?_) (fun hc => ?_)
    · have h11 := h1.1 hc
      subst h11
      exact ev_end 17 (fun _ => rfl)
    · have h12 := h1.2 hc
      subst h12
      exact ev_end 3 (fun _ => rfl)
  · have h2 := h.2 hc
    refine ev_seg (σ1 := ((d + 1), 14, 58, [some (.inr (.inr 86)), some (.inl x1), some (.inl x2), some (.inl x3), some (.inr (.inl x4)), none, some (.inl (w32 (x6 + 1))), some (.inr (.inl (am_lshr x7 8))), none], [], (am_sh, am_mm U))) 6 (fun _ => rfl) ?_
    exact h2
set_option maxRecDepth 8000 in
theorem st15_1_0 (N : Nat) (X : Nat → Int) (d : Nat) (x1 x2 : Int) (U : Nat → Nat → Int) (R : Option am_V × am_M) (h : ∃ (r1 : Int) (U1 : Nat → Nat → Int), Ev (am_kz N X) (d, 102, 0, [some (.inr (.inr 1)), some (.inl x1)], [], (am_sh, am_mm U)) (some (.inl r1), (am_sh, am_mm U1)) ∧ (((¬ r1 = 0 : Prop)) → (x2 = 0 → (0 ≤ x1 ∧ x1 < 12) ∧ R = (some (.inl (U1 6 x1.toNat)), (am_sh, am_mm U1))) ∧ (x2 = 1 → (0 ≤ x1 ∧ x1 < 12) ∧ R = (some (.inl (U1 8 x1.toNat)), (am_sh, am_mm U1))) ∧ (x2 = 2 → ∃ (r2 : Int) (U2 : Nat → Nat → Int), Ev (am_kz N X) (d, 106, 0, [some (.inr (.inr 16)), some (.inl x1)], [], (am_sh, am_mm U1)) (some (.inl r2), (am_sh, am_mm U2)) ∧ R = (some (.inl r2), (am_sh, am_mm U2))) ∧ (x2 = 3 → (0 ≤ x1 ∧ x1 < 12) ∧ R = (some (.inl (U1 7 x1.toNat)), (am_sh, am_mm U1))) ∧ (x2 = 4 → (0 ≤ x1 ∧ x1 < 12) ∧ R = (some (.inl (U1 9 x1.toNat)), (am_sh, am_mm U1))) ∧ (¬ x2 = 0 ∧ ¬ x2 = 1 ∧ ¬ x2 = 2 ∧ ¬ x2 = 3 ∧ ¬ x2 = 4 → (((x2 < 10 : Prop)) → R = (some (.inl (-1)), (am_sh, am_mm U1))) ∧ (¬ (x2 < 10) → (0 ≤ x1 ∧ x1 < 12) ∧ ∃ (r3 : Int) (U3 : Nat → Nat → Int), Ev (am_kz N X) (d, 107, 0, [some (.inl (U1 19 x1.toNat)), some (.inl (w32 (x2 - 10))), none, none], [], (am_sh, am_mm U1)) (some (.inl r3), (am_sh, am_mm U3)) ∧ R = (some (.inl r3), (am_sh, am_mm U3))))) ∧ (¬ (¬ r1 = 0) → R = (some (.inl (-1)), (am_sh, am_mm U1)))) : Ev (am_kz N X) ((d + 1), 15, 0, [some (.inr (.inr 1)), some (.inl x1), some (.inl x2)], [], (am_sh, am_mm U)) R := by
  refine ev_seg (σ1 := ((d + 1), 15, 2, [some (.inr (.inr 1)), some (.inl x1), some (.inl x2)], [.inl x1, .inr (.inr 1)], (am_sh, am_mm U))) 2 (fun _ => rfl) ?_
  obtain ⟨r1, U1, hc, ha⟩ := h
  refine ev_cal (σc := (d, 102, 0, [some (.inr (.inr 1)), some (.inl x1)], [], (am_sh, am_mm U))) (fun _ => rfl) hc ?_
  show Ev (am_kz N X) ((d + 1), 15, 5, [some (.inr (.inr 1)), some (.inl x1), some (.inl x2)], [.inl r1], (am_sh, am_mm U1)) R
  refine ev_br (P := ¬ r1 = 0) (σ1 := ((d + 1), 15, 10, [some (.inr (.inr 1)), some (.inl x1), some (.inl x2)], [], (am_sh, am_mm U1))) (σ2 := ((d + 1), 15, 8, [some (.inr (.inr 1)), some (.inl x1), some (.inl x2)], [], (am_sh, am_mm U1))) 1 (fun _ => rfl) (fun hc => ?_) (fun hc => ?_)
  · have ha1 := ha.1 hc
    refine ev_seg (σ1 := ((d + 1), 15, 11, [some (.inr (.inr 1)), some (.inl x1), some (.inl x2)], [.inl x2], (am_sh, am_mm U1))) 1 (fun _ => rfl) ?_
    by_cases hc : x2 = 0
    · have ha1k0 := ha1.1 hc
      refine ev_sw (off := 33) rfl (by rw [hc]; rfl) (pt := 44) rfl ?_
      refine ev_seg (σ1 := ((d + 1), 15, 52, [some (.inr (.inr 1)), some (.inl x1), some (.inl x2)], [.inl x1, .inr (.inr 6)], (am_sh, am_mm U1))) 4 (fun _ => rfl) ?_
      refine eu_iald 6 (n := 12) rfl (by decide) rfl (fun _ => rfl) ha1k0.1 ?_
      have ha1k0a := ha1k0.2
      subst ha1k0a
      exact ev_end 1 (fun _ => rfl)
    have nha10 := hc
    clear hc
    by_cases hc : x2 = 1
    · have ha1k1 := ha1.2.1 hc
      refine ev_sw (off := 43) rfl (by rw [hc]; rfl) (pt := 54) rfl ?_
      refine ev_seg (σ1 := ((d + 1), 15, 62, [some (.inr (.inr 1)), some (.inl x1), some (.inl x2)], [.inl x1, .inr (.inr 8)], (am_sh, am_mm U1))) 4 (fun _ => rfl) ?_
      refine eu_iald 8 (n := 12) rfl (by decide) rfl (fun _ => rfl) ha1k1.1 ?_
      have ha1k1a := ha1k1.2
      subst ha1k1a
      exact ev_end 1 (fun _ => rfl)
    have nha11 := hc
    clear hc
    by_cases hc : x2 = 2
    · have ha1k2 := ha1.2.2.1 hc
      refine ev_sw (off := 53) rfl (by rw [hc]; rfl) (pt := 64) rfl ?_
      refine ev_seg (σ1 := ((d + 1), 15, 69, [some (.inr (.inr 1)), some (.inl x1), some (.inl x2)], [.inl x1, .inr (.inr 16)], (am_sh, am_mm U1))) 3 (fun _ => rfl) ?_
      obtain ⟨r2, U2, ha1k2c, ha1k2a⟩ := ha1k2
      refine ev_cal (σc := (d, 106, 0, [some (.inr (.inr 16)), some (.inl x1)], [], (am_sh, am_mm U1))) (fun _ => rfl) ha1k2c ?_
      show Ev (am_kz N X) ((d + 1), 15, 72, [some (.inr (.inr 1)), some (.inl x1), some (.inl x2)], [.inl r2], (am_sh, am_mm U2)) R
      subst ha1k2a
      exact ev_end 1 (fun _ => rfl)
    have nha12 := hc
    clear hc
    by_cases hc : x2 = 3
    · have ha1k3 := ha1.2.2.2.1 hc
      refine ev_sw (off := 62) rfl (by rw [hc]; rfl) (pt := 73) rfl ?_
      refine ev_seg (σ1 := ((d + 1), 15, 81, [some (.inr (.inr 1)), some (.inl x1), some (.inl x2)], [.inl x1, .inr (.inr 7)], (am_sh, am_mm U1))) 4 (fun _ => rfl) ?_
      refine eu_iald 7 (n := 12) rfl (by decide) rfl (fun _ => rfl) ha1k3.1 ?_
      have ha1k3a := ha1k3.2
      subst ha1k3a
      exact ev_end 1 (fun _ => rfl)
    have nha13 := hc
    clear hc
    by_cases hc : x2 = 4
    · have ha1k4 := ha1.2.2.2.2.1 hc
      refine ev_sw (off := 72) rfl (by rw [hc]; rfl) (pt := 83) rfl ?_
      refine ev_seg (σ1 := ((d + 1), 15, 91, [some (.inr (.inr 1)), some (.inl x1), some (.inl x2)], [.inl x1, .inr (.inr 9)], (am_sh, am_mm U1))) 4 (fun _ => rfl) ?_
      refine eu_iald 9 (n := 12) rfl (by decide) rfl (fun _ => rfl) ha1k4.1 ?_
      have ha1k4a := ha1k4.2
      subst ha1k4a
      exact ev_end 1 (fun _ => rfl)
    have nha14 := hc
    clear hc
    have ha1kd := ha1.2.2.2.2.2 ⟨nha10, nha11, nha12, nha13, nha14⟩
    refine ev_sw (off := 82) rfl (if_pos (by omega)) (pt := 93) rfl ?_
    refine ev_br (P := x2 < 10) (σ1 := ((d + 1), 15, 118, [some (.inr (.inr 1)), some (.inl x1), some (.inl x2)], [], (am_sh, am_mm U1))) (σ2 := ((d + 1), 15, 99, [some (.inr (.inr 1)), some (.inl x1), some (.inl x2)], [], (am_sh, am_mm U1))) 3 (fun _ => rfl) (fun hc => ?_) (fun hc => ?_)
    · have ha1kd1 := ha1kd.1 hc
      subst ha1kd1
      exact ev_end 2 (fun _ => rfl)
    · have ha1kd2 := ha1kd.2 hc
      refine ev_seg (σ1 := ((d + 1), 15, 107, [some (.inr (.inr 1)), some (.inl x1), some (.inl x2)], [.inl x1, .inr (.inr 19)], (am_sh, am_mm U1))) 4 (fun _ => rfl) ?_
      refine eu_iald 19 (n := 12) rfl (by decide) rfl (fun _ => rfl) ha1kd2.1 ?_
      have ha1kd2a := ha1kd2.2
      refine ev_seg (σ1 := ((d + 1), 15, 112, [some (.inr (.inr 1)), some (.inl x1), some (.inl x2)], [.inl (w32 (x2 - 10)), .inl (U1 19 x1.toNat)], (am_sh, am_mm U1))) 3 (fun _ => rfl) ?_
      obtain ⟨r3, U3, ha1kd2ac, ha1kd2aa⟩ := ha1kd2a
      refine ev_cal (σc := (d, 107, 0, [some (.inl (U1 19 x1.toNat)), some (.inl (w32 (x2 - 10))), none, none], [], (am_sh, am_mm U1))) (fun _ => rfl) ha1kd2ac ?_
      show Ev (am_kz N X) ((d + 1), 15, 115, [some (.inr (.inr 1)), some (.inl x1), some (.inl x2)], [.inl r3], (am_sh, am_mm U3)) R
      subst ha1kd2aa
      exact ev_end 2 (fun _ => rfl)
  · have ha2 := ha.2 hc
    subst ha2
    exact ev_end 2 (fun _ => rfl)
set_option maxRecDepth 8000 in
theorem st16_86_0 (N : Nat) (X : Nat → Int) (d : Nat) (x1 x2 : Int) (U : Nat → Nat → Int) (R : Option am_V × am_M) (h : ∃ (r1 : Int) (U1 : Nat → Nat → Int), Ev (am_kz N X) (d, 108, 0, [some (.inr (.inr 86)), some (.inl x1)], [], (am_sh, am_mm U)) (some (.inl r1), (am_sh, am_mm U1)) ∧ (((¬ r1 = 0 : Prop)) → (((x2 < 10 : Prop)) → (x2 = 0 → ∃ (r2 : Int) (U2 : Nat → Nat → Int), Ev (am_kz N X) (d, 109, 0, [some (.inr (.inr 86)), some (.inl x1)], [], (am_sh, am_mm U1)) (some (.inl r2), (am_sh, am_mm U2)) ∧ R = (some (.inl r2), (am_sh, am_mm U2))) ∧ (x2 = 1 → ∃ (r3 : Int) (U3 : Nat → Nat → Int), Ev (am_kz N X) (d, 110, 0, [some (.inr (.inr 86)), some (.inl x1)], [], (am_sh, am_mm U1)) (some (.inl r3), (am_sh, am_mm U3)) ∧ R = (some (.inl r3), (am_sh, am_mm U3))) ∧ (x2 = 2 → ∃ (r4 : Int) (U4 : Nat → Nat → Int), Ev (am_kz N X) (d, 111, 0, [some (.inr (.inr 86)), some (.inl 0), some (.inl x1), none, none], [], (am_sh, am_mm U1)) (some (.inl r4), (am_sh, am_mm U4)) ∧ R = (some (.inl r4), (am_sh, am_mm U4))) ∧ (x2 = 3 → ∃ (r5 : Int) (U5 : Nat → Nat → Int), Ev (am_kz N X) (d, 112, 0, [some (.inr (.inr 86)), some (.inl (U1 86 13)), some (.inl x1), none, none], [], (am_sh, am_mm U1)) (some (.inl r5), (am_sh, am_mm U5)) ∧ R = (some (.inl r5), (am_sh, am_mm U5))) ∧ (x2 = 4 → Ev (am_kz N X) ((d + 1), 16, 136, [some (.inr (.inr 86)), some (.inl x1), some (.inl x2), some (.inl 0), some (.inl 0)], [], (am_sh, am_mm U1)) R) ∧ (¬ x2 = 0 ∧ ¬ x2 = 1 ∧ ¬ x2 = 2 ∧ ¬ x2 = 3 ∧ ¬ x2 = 4 → R = (some (.inl (-1)), (am_sh, am_mm U1)))) ∧ (¬ (x2 < 10) → Ev (am_kz N X) ((d + 1), 16, 21, [some (.inr (.inr 86)), some (.inl x1), some (.inl x2), some (.inl 0), some (.inl 0)], [], (am_sh, am_mm U1)) R)) ∧ (¬ (¬ r1 = 0) → R = (some (.inl (-1)), (am_sh, am_mm U1)))) : Ev (am_kz N X) ((d + 1), 16, 0, [some (.inr (.inr 86)), some (.inl x1), some (.inl x2), none, none], [], (am_sh, am_mm U)) R := by
  refine ev_seg (σ1 := ((d + 1), 16, 2, [some (.inr (.inr 86)), some (.inl x1), some (.inl x2), none, none], [.inl x1, .inr (.inr 86)], (am_sh, am_mm U))) 2 (fun _ => rfl) ?_
  obtain ⟨r1, U1, hc, ha⟩ := h
  refine ev_cal (σc := (d, 108, 0, [some (.inr (.inr 86)), some (.inl x1)], [], (am_sh, am_mm U))) (fun _ => rfl) hc ?_
  show Ev (am_kz N X) ((d + 1), 16, 5, [some (.inr (.inr 86)), some (.inl x1), some (.inl x2), none, none], [.inl r1], (am_sh, am_mm U1)) R
  refine ev_br (P := ¬ r1 = 0) (σ1 := ((d + 1), 16, 10, [some (.inr (.inr 86)), some (.inl x1), some (.inl x2), none, none], [], (am_sh, am_mm U1))) (σ2 := ((d + 1), 16, 8, [some (.inr (.inr 86)), some (.inl x1), some (.inl x2), none, none], [], (am_sh, am_mm U1))) 1 (fun _ => rfl) (fun hc => ?_) (fun hc => ?_)
  · have ha1 := ha.1 hc
    refine ev_br (P := x2 < 10) (σ1 := ((d + 1), 16, 68, [some (.inr (.inr 86)), some (.inl x1), some (.inl x2), some (.inl 0), none], [], (am_sh, am_mm U1))) (σ2 := ((d + 1), 16, 18, [some (.inr (.inr 86)), some (.inl x1), some (.inl x2), some (.inl 0), none], [], (am_sh, am_mm U1))) 5 (fun _ => rfl) (fun hc => ?_) (fun hc => ?_)
    · have ha11 := ha1.1 hc
      refine ev_seg (σ1 := ((d + 1), 16, 69, [some (.inr (.inr 86)), some (.inl x1), some (.inl x2), some (.inl 0), none], [.inl x2], (am_sh, am_mm U1))) 1 (fun _ => rfl) ?_
      by_cases hc : x2 = 0
      · have ha11k0 := ha11.1 hc
        refine ev_sw (off := 35) rfl (by rw [hc]; rfl) (pt := 104) rfl ?_
        refine ev_seg (σ1 := ((d + 1), 16, 106, [some (.inr (.inr 86)), some (.inl x1), some (.inl x2), some (.inl 0), none], [.inl x1, .inr (.inr 86)], (am_sh, am_mm U1))) 2 (fun _ => rfl) ?_
        obtain ⟨r2, U2, ha11k0c, ha11k0a⟩ := ha11k0
        refine ev_cal (σc := (d, 109, 0, [some (.inr (.inr 86)), some (.inl x1)], [], (am_sh, am_mm U1))) (fun _ => rfl) ha11k0c ?_
        show Ev (am_kz N X) ((d + 1), 16, 109, [some (.inr (.inr 86)), some (.inl x1), some (.inl x2), some (.inl 0), none], [.inl r2], (am_sh, am_mm U2)) R
        subst ha11k0a
        exact ev_end 1 (fun _ => rfl)
      have nha110 := hc
      clear hc
      by_cases hc : x2 = 1
      · have ha11k1 := ha11.2.1 hc
        refine ev_sw (off := 41) rfl (by rw [hc]; rfl) (pt := 110) rfl ?_
        refine ev_seg (σ1 := ((d + 1), 16, 112, [some (.inr (.inr 86)), some (.inl x1), some (.inl x2), some (.inl 0), none], [.inl x1, .inr (.inr 86)], (am_sh, am_mm U1))) 2 (fun _ => rfl) ?_
        obtain ⟨r3, U3, ha11k1c, ha11k1a⟩ := ha11k1
        refine ev_cal (σc := (d, 110, 0, [some (.inr (.inr 86)), some (.inl x1)], [], (am_sh, am_mm U1))) (fun _ => rfl) ha11k1c ?_
        show Ev (am_kz N X) ((d + 1), 16, 115, [some (.inr (.inr 86)), some (.inl x1), some (.inl x2), some (.inl 0), none], [.inl r3], (am_sh, am_mm U3)) R
        subst ha11k1a
        exact ev_end 1 (fun _ => rfl)
      have nha111 := hc
      clear hc
      by_cases hc : x2 = 2
      · have ha11k2 := ha11.2.2.1 hc
        refine ev_sw (off := 47) rfl (by rw [hc]; rfl) (pt := 116) rfl ?_
        refine ev_seg (σ1 := ((d + 1), 16, 119, [some (.inr (.inr 86)), some (.inl x1), some (.inl x2), some (.inl 0), none], [.inl x1, .inl 0, .inr (.inr 86)], (am_sh, am_mm U1))) 3 (fun _ => rfl) ?_
        obtain ⟨r4, U4, ha11k2c, ha11k2a⟩ := ha11k2
        refine ev_cal (σc := (d, 111, 0, [some (.inr (.inr 86)), some (.inl 0), some (.inl x1), none, none], [], (am_sh, am_mm U1))) (fun _ => rfl) ha11k2c ?_
        show Ev (am_kz N X) ((d + 1), 16, 122, [some (.inr (.inr 86)), some (.inl x1), some (.inl x2), some (.inl 0), none], [.inl r4], (am_sh, am_mm U4)) R
        subst ha11k2a
        exact ev_end 1 (fun _ => rfl)
      have nha112 := hc
      clear hc
      by_cases hc : x2 = 3
      · have ha11k3 := ha11.2.2.2.1 hc
        refine ev_sw (off := 54) rfl (by rw [hc]; rfl) (pt := 123) rfl ?_
        refine ev_seg (σ1 := ((d + 1), 16, 129, [some (.inr (.inr 86)), some (.inl x1), some (.inl x2), some (.inl 0), none], [.inl x1, .inl (U1 86 13), .inr (.inr 86)], (am_sh, am_mm U1))) 4 (fun _ => rfl) ?_
        obtain ⟨r5, U5, ha11k3c, ha11k3a⟩ := ha11k3
        refine ev_cal (σc := (d, 112, 0, [some (.inr (.inr 86)), some (.inl (U1 86 13)), some (.inl x1), none, none], [], (am_sh, am_mm U1))) (fun _ => rfl) ha11k3c ?_
        show Ev (am_kz N X) ((d + 1), 16, 132, [some (.inr (.inr 86)), some (.inl x1), some (.inl x2), some (.inl 0), none], [.inl r5], (am_sh, am_mm U5)) R
        subst ha11k3a
        exact ev_end 1 (fun _ => rfl)
      have nha113 := hc
      clear hc
      by_cases hc : x2 = 4
      · have ha11k4 := ha11.2.2.2.2.1 hc
        refine ev_sw (off := 64) rfl (by rw [hc]; rfl) (pt := 133) rfl ?_
        refine ev_seg (σ1 := ((d + 1), 16, 136, [some (.inr (.inr 86)), some (.inl x1), some (.inl x2), some (.inl 0), some (.inl 0)], [], (am_sh, am_mm U1))) 2 (fun _ => rfl) ?_
        exact ha11k4
      have nha114 := hc
      clear hc
      have ha11kd := ha11.2.2.2.2.2 ⟨nha110, nha111, nha112, nha113, nha114⟩
      refine ev_sw (off := 114) rfl (if_pos (by omega)) (pt := 183) rfl ?_
      subst ha11kd
      exact ev_end 2 (fun _ => rfl)
    · have ha12 := ha1.2 hc
      refine ev_seg (σ1 := ((d + 1), 16, 21, [some (.inr (.inr 86)), some (.inl x1), some (.inl x2), some (.inl 0), some (.inl 0)], [], (am_sh, am_mm U1))) 2 (fun _ => rfl) ?_
      exact ha12
  · have ha2 := ha.2 hc
    subst ha2
    exact ev_end 2 (fun _ => rfl)
set_option maxRecDepth 8000 in
theorem st16_86_136 (N : Nat) (X : Nat → Int) (d : Nat) (x1 x2 x3 x4 : Int) (U : Nat → Nat → Int) (R : Option am_V × am_M) (h : (0 ≤ (U 86 13) ∧ (U 86 13) < 2) ∧ ((((U 90 (U 86 13).toNat) ≤ x4 : Prop)) → R = (some (.inl x3), (am_sh, am_mm U))) ∧ (¬ ((U 90 (U 86 13).toNat) ≤ x4) → ∃ (r1 : Int) (U1 : Nat → Nat → Int), Ev (am_kz N X) (d, 113, 0, [some (.inr (.inr 86)), some (.inl (U 86 13)), some (.inl x1), some (.inl x4), none, none], [], (am_sh, am_mm U)) (some (.inl r1), (am_sh, am_mm U1)) ∧ (((r1 = 0 : Prop)) → Ev (am_kz N X) ((d + 1), 16, 136, [some (.inr (.inr 86)), some (.inl x1), some (.inl x2), some (.inl (am_or x3 0)), some (.inl (w32 (x4 + 1)))], [], (am_sh, am_mm U1)) R) ∧ (¬ (r1 = 0) → Ev (am_kz N X) ((d + 1), 16, 136, [some (.inr (.inr 86)), some (.inl x1), some (.inl x2), some (.inl (am_or x3 (am_shl 1 x4))), some (.inl (w32 (x4 + 1)))], [], (am_sh, am_mm U1)) R))) : Ev (am_kz N X) ((d + 1), 16, 136, [some (.inr (.inr 86)), some (.inl x1), some (.inl x2), some (.inl x3), some (.inl x4)], [], (am_sh, am_mm U)) R := by
  refine ev_seg (σ1 := ((d + 1), 16, 146, [some (.inr (.inr 86)), some (.inl x1), some (.inl x2), some (.inl x3), some (.inl x4)], [.inl (U 86 13), .inr (.inr 90), .inl x4], (am_sh, am_mm U))) 5 (fun _ => rfl) ?_
  refine eu_iald 90 (n := 2) rfl (by decide) rfl (fun _ => rfl) h.1 ?_
  have ha := h.2
  refine ev_br (P := (U 90 (U 86 13).toNat) ≤ x4) (σ1 := ((d + 1), 16, 181, [some (.inr (.inr 86)), some (.inl x1), some (.inl x2), some (.inl x3), some (.inl x4)], [], (am_sh, am_mm U))) (σ2 := ((d + 1), 16, 150, [some (.inr (.inr 86)), some (.inl x1), some (.inl x2), some (.inl x3), some (.inl x4)], [], (am_sh, am_mm U))) 1 (fun _ => rfl) (fun hc => ?_) (fun hc => ?_)
  · have ha1 := ha.1 hc
    subst ha1
    exact ev_end 2 (fun _ => rfl)
  · have ha2 := ha.2 hc
    refine ev_seg (σ1 := ((d + 1), 16, 159, [some (.inr (.inr 86)), some (.inl x1), some (.inl x2), some (.inl x3), some (.inl x4)], [.inl x4, .inl x1, .inl (U 86 13), .inr (.inr 86), .inl x3], (am_sh, am_mm U))) 6 (fun _ => rfl) ?_
    obtain ⟨r1, U1, ha2c, ha2a⟩ := ha2
    refine ev_cal (σc := (d, 113, 0, [some (.inr (.inr 86)), some (.inl (U 86 13)), some (.inl x1), some (.inl x4), none, none], [], (am_sh, am_mm U))) (fun _ => rfl) ha2c ?_
    show Ev (am_kz N X) ((d + 1), 16, 162, [some (.inr (.inr 86)), some (.inl x1), some (.inl x2), some (.inl x3), some (.inl x4)], [.inl r1, .inl x3], (am_sh, am_mm U1)) R
    refine ev_br (P := r1 = 0) (σ1 := ((d + 1), 16, 172, [some (.inr (.inr 86)), some (.inl x1), some (.inl x2), some (.inl x3), some (.inl x4)], [.inl x3], (am_sh, am_mm U1))) (σ2 := ((d + 1), 16, 165, [some (.inr (.inr 86)), some (.inl x1), some (.inl x2), some (.inl x3), some (.inl x4)], [.inl x3], (am_sh, am_mm U1))) 1 (fun _ => rfl) (fun hc => ?_) (fun hc => ?_)
    · have ha2a1 := ha2a.1 hc
      refine ev_seg (σ1 := ((d + 1), 16, 136, [some (.inr (.inr 86)), some (.inl x1), some (.inl x2), some (.inl (am_or x3 0)), some (.inl (w32 (x4 + 1)))], [], (am_sh, am_mm U1))) 5 (fun _ => rfl) ?_
      exact ha2a1
    · have ha2a2 := ha2a.2 hc
      refine ev_seg (σ1 := ((d + 1), 16, 136, [some (.inr (.inr 86)), some (.inl x1), some (.inl x2), some (.inl (am_or x3 (am_shl 1 x4))), some (.inl (w32 (x4 + 1)))], [], (am_sh, am_mm U1))) 8 (fun _ => rfl) ?_
      exact ha2a2
set_option maxRecDepth 8000 in
theorem st16_86_21 (N : Nat) (X : Nat → Int) (d : Nat) (x1 x2 x3 x4 : Int) (U : Nat → Nat → Int) (R : Option am_V × am_M) (h : ((((U 122 0) ≤ x4 : Prop)) → R = (some (.inl (-1)), (am_sh, am_mm U))) ∧ (¬ ((U 122 0) ≤ x4) → (0 ≤ x4 ∧ x4 < 352) ∧ ((((U 124 x4.toNat) = x1 : Prop)) → (((¬ x3 = (w32 (x2 - 10)) : Prop)) → Ev (am_kz N X) ((d + 1), 16, 21, [some (.inr (.inr 86)), some (.inl x1), some (.inl x2), some (.inl (w32 (x3 + 1))), some (.inl (w32 (x4 + 1)))], [], (am_sh, am_mm U)) R) ∧ (¬ (¬ x3 = (w32 (x2 - 10))) → R = (some (.inl x4), (am_sh, am_mm U)))) ∧ (¬ ((U 124 x4.toNat) = x1) → Ev (am_kz N X) ((d + 1), 16, 21, [some (.inr (.inr 86)), some (.inl x1), some (.inl x2), some (.inl x3), some (.inl (w32 (x4 + 1)))], [], (am_sh, am_mm U)) R))) : Ev (am_kz N X) ((d + 1), 16, 21, [some (.inr (.inr 86)), some (.inl x1), some (.inl x2), some (.inl x3), some (.inl x4)], [], (am_sh, am_mm U)) R := by
  refine ev_seg (σ1 := ((d + 1), 16, 28, [some (.inr (.inr 86)), some (.inl x1), some (.inl x2), some (.inl x3), some (.inl x4)], [.inl 0, .inr (.inr 122), .inl x4], (am_sh, am_mm U))) 4 (fun _ => rfl) ?_
  refine eu_iald 122 (n := 22) rfl (by decide) rfl (fun _ => rfl) (by decide) ?_
  show Ev (am_kz N X) ((d + 1), 16, 29, [some (.inr (.inr 86)), some (.inl x1), some (.inl x2), some (.inl x3), some (.inl x4)], [.inl (U 122 0), .inl x4], (am_sh, am_mm U)) R
  refine ev_br (P := (U 122 0) ≤ x4) (σ1 := ((d + 1), 16, 66, [some (.inr (.inr 86)), some (.inl x1), some (.inl x2), some (.inl x3), some (.inl x4)], [], (am_sh, am_mm U))) (σ2 := ((d + 1), 16, 32, [some (.inr (.inr 86)), some (.inl x1), some (.inl x2), some (.inl x3), some (.inl x4)], [], (am_sh, am_mm U))) 1 (fun _ => rfl) (fun hc => ?_) (fun hc => ?_)
  · have h1 := h.1 hc
    subst h1
    exact ev_end 2 (fun _ => rfl)
  · have h2 := h.2 hc
    refine ev_seg (σ1 := ((d + 1), 16, 38, [some (.inr (.inr 86)), some (.inl x1), some (.inl x2), some (.inl x3), some (.inl x4)], [.inl x4, .inr (.inr 124)], (am_sh, am_mm U))) 3 (fun _ => rfl) ?_
    refine eu_iald 124 (n := 352) rfl (by decide) rfl (fun _ => rfl) h2.1 ?_
    have h2a := h2.2
    refine ev_br (P := (U 124 x4.toNat) = x1) (σ1 := ((d + 1), 16, 46, [some (.inr (.inr 86)), some (.inl x1), some (.inl x2), some (.inl x3), some (.inl x4)], [], (am_sh, am_mm U))) (σ2 := ((d + 1), 16, 43, [some (.inr (.inr 86)), some (.inl x1), some (.inl x2), some (.inl x3), some (.inl x4)], [], (am_sh, am_mm U))) 2 (fun _ => rfl) (fun hc => ?_) (fun hc => ?_)
    · have h2a1 := h2a.1 hc
      refine ev_br (P := ¬ x3 = (w32 (x2 - 10))) (σ1 := ((d + 1), 16, 57, [some (.inr (.inr 86)), some (.inl x1), some (.inl x2), some (.inl x3), some (.inl x4)], [], (am_sh, am_mm U))) (σ2 := ((d + 1), 16, 54, [some (.inr (.inr 86)), some (.inl x1), some (.inl x2), some (.inl x3), some (.inl x4)], [], (am_sh, am_mm U))) 5 (fun _ => rfl) (fun hc => ?_) (fun hc => ?_)
      · have h2a11 := h2a1.1 hc
        refine ev_seg (σ1 := ((d + 1), 16, 21, [some (.inr (.inr 86)), some (.inl x1), some (.inl x2), some (.inl (w32 (x3 + 1))), some (.inl (w32 (x4 + 1)))], [], (am_sh, am_mm U))) 3 (fun _ => rfl) ?_
        exact h2a11
      · have h2a12 := h2a1.2 hc
        subst h2a12
        exact ev_end 2 (fun _ => rfl)
    · have h2a2 := h2a.2 hc
      refine ev_seg (σ1 := ((d + 1), 16, 21, [some (.inr (.inr 86)), some (.inl x1), some (.inl x2), some (.inl x3), some (.inl (w32 (x4 + 1)))], [], (am_sh, am_mm U))) 3 (fun _ => rfl) ?_
      exact h2a2
set_option maxRecDepth 8000 in
theorem st17_1_0 (N : Nat) (X : Nat → Int) (d : Nat) (x1 : Int) (U : Nat → Nat → Int) (R : Option am_V × am_M) (h : ∃ (r1 : Int) (U1 : Nat → Nat → Int), Ev (am_kz N X) (d, 114, 0, [some (.inr (.inr 1)), some (.inl x1)], [], (am_sh, am_mm U)) (some (.inl r1), (am_sh, am_mm U1)) ∧ (((r1 = 0 : Prop)) → R = (some (.inl (-1000000000)), (am_sh, am_mm U1))) ∧ (¬ (r1 = 0) → (0 ≤ x1 ∧ x1 < 16) ∧ R = (some (.inl (U1 17 x1.toNat)), (am_sh, am_mm U1)))) : Ev (am_kz N X) ((d + 1), 17, 0, [some (.inr (.inr 1)), some (.inl x1)], [], (am_sh, am_mm U)) R := by
  refine ev_seg (σ1 := ((d + 1), 17, 2, [some (.inr (.inr 1)), some (.inl x1)], [.inl x1, .inr (.inr 1)], (am_sh, am_mm U))) 2 (fun _ => rfl) ?_
  obtain ⟨r1, U1, hc, ha⟩ := h
  refine ev_cal (σc := (d, 114, 0, [some (.inr (.inr 1)), some (.inl x1)], [], (am_sh, am_mm U))) (fun _ => rfl) hc ?_
  show Ev (am_kz N X) ((d + 1), 17, 5, [some (.inr (.inr 1)), some (.inl x1)], [.inl r1], (am_sh, am_mm U1)) R
  refine ev_br (P := r1 = 0) (σ1 := ((d + 1), 17, 20, [some (.inr (.inr 1)), some (.inl x1)], [], (am_sh, am_mm U1))) (σ2 := ((d + 1), 17, 8, [some (.inr (.inr 1)), some (.inl x1)], [], (am_sh, am_mm U1))) 1 (fun _ => rfl) (fun hc => ?_) (fun hc => ?_)
  · have ha1 := ha.1 hc
    subst ha1
    exact ev_end 2 (fun _ => rfl)
  · have ha2 := ha.2 hc
    refine ev_seg (σ1 := ((d + 1), 17, 16, [some (.inr (.inr 1)), some (.inl x1)], [.inl x1, .inr (.inr 17)], (am_sh, am_mm U1))) 4 (fun _ => rfl) ?_
    refine eu_iald 17 (n := 16) rfl (by decide) rfl (fun _ => rfl) ha2.1 ?_
    have ha2a := ha2.2
    subst ha2a
    exact ev_end 2 (fun _ => rfl)
set_option maxRecDepth 8000 in
theorem st18_86_0 (N : Nat) (X : Nat → Int) (d : Nat) (x1 : Int) (U : Nat → Nat → Int) (R : Option am_V × am_M) (h : ∃ (r1 : Int) (U1 : Nat → Nat → Int), Ev (am_kz N X) (d, 115, 0, [some (.inr (.inr 86)), some (.inl x1)], [], (am_sh, am_mm U)) (some (.inl r1), (am_sh, am_mm U1)) ∧ (((r1 = 0 : Prop)) → R = (some (.inl (-1000000000)), (am_sh, am_mm U1))) ∧ (¬ (r1 = 0) → (0 ≤ x1 ∧ x1 < 352) ∧ R = (some (.inl (U1 123 x1.toNat)), (am_sh, am_mm U1)))) : Ev (am_kz N X) ((d + 1), 18, 0, [some (.inr (.inr 86)), some (.inl x1)], [], (am_sh, am_mm U)) R := by
  refine ev_seg (σ1 := ((d + 1), 18, 2, [some (.inr (.inr 86)), some (.inl x1)], [.inl x1, .inr (.inr 86)], (am_sh, am_mm U))) 2 (fun _ => rfl) ?_
  obtain ⟨r1, U1, hc, ha⟩ := h
  refine ev_cal (σc := (d, 115, 0, [some (.inr (.inr 86)), some (.inl x1)], [], (am_sh, am_mm U))) (fun _ => rfl) hc ?_
  show Ev (am_kz N X) ((d + 1), 18, 5, [some (.inr (.inr 86)), some (.inl x1)], [.inl r1], (am_sh, am_mm U1)) R
  refine ev_br (P := r1 = 0) (σ1 := ((d + 1), 18, 17, [some (.inr (.inr 86)), some (.inl x1)], [], (am_sh, am_mm U1))) (σ2 := ((d + 1), 18, 8, [some (.inr (.inr 86)), some (.inl x1)], [], (am_sh, am_mm U1))) 1 (fun _ => rfl) (fun hc => ?_) (fun hc => ?_)
  · have ha1 := ha.1 hc
    subst ha1
    exact ev_end 2 (fun _ => rfl)
  · have ha2 := ha.2 hc
    refine ev_seg (σ1 := ((d + 1), 18, 13, [some (.inr (.inr 86)), some (.inl x1)], [.inl x1, .inr (.inr 123)], (am_sh, am_mm U1))) 3 (fun _ => rfl) ?_
    refine eu_iald 123 (n := 352) rfl (by decide) rfl (fun _ => rfl) ha2.1 ?_
    have ha2a := ha2.2
    subst ha2a
    exact ev_end 2 (fun _ => rfl)
set_option maxRecDepth 8000 in
theorem st19_1_0 (N : Nat) (X : Nat → Int) (d : Nat) (x1 x2 : Int) (U : Nat → Nat → Int) (R : Option am_V × am_M) (h : ∃ (r1 : Int) (U1 : Nat → Nat → Int), Ev (am_kz N X) (d, 114, 0, [some (.inr (.inr 1)), some (.inl x1)], [], (am_sh, am_mm U)) (some (.inl r1), (am_sh, am_mm U1)) ∧ (((¬ r1 = 0 : Prop)) → (0 ≤ x1 ∧ x1 < 16) ∧ (x2 = 0 → (0 ≤ x1 ∧ x1 < 16) ∧ R = (some (.inl (U1 18 x1.toNat)), (am_sh, am_mm U1))) ∧ (x2 = 1 → ∃ (r2 : Int) (U2 : Nat → Nat → Int), Ev (am_kz N X) (d, 116, 0, [some (.inr (.inr 45)), some (.inl x1), none, none, none], [], (am_sh, am_mm U1)) (some (.inl r2), (am_sh, am_mm U2)) ∧ R = (some (.inl r2), (am_sh, am_mm U2))) ∧ (x2 = 2 → ∃ (r3 : Int) (U3 : Nat → Nat → Int), Ev (am_kz N X) (d, 117, 0, [some (.inr (.inr 1)), some (.inl x1), none, none, none], [], (am_sh, am_mm U1)) (some (.inl r3), (am_sh, am_mm U3)) ∧ ∃ (r4 : Int) (U4 : Nat → Nat → Int), Ev (am_kz N X) (d, 98, 0, [some (.inl r3)], [], (am_sh, am_mm U3)) (some (.inl r4), (am_sh, am_mm U4)) ∧ R = (some (.inl r4), (am_sh, am_mm U4))) ∧ (x2 = 3 → ∃ (r5 : Int) (U5 : Nat → Nat → Int), Ev (am_kz N X) (d, 118, 0, [some (.inl (if 0 ≤ (U1 17 x1.toNat) then (U1 17 x1.toNat) else w32 (-(U1 17 x1.toNat)))), none, none, none, none, none, none, none], [], (am_sh, am_mm U1)) (some (.inl r5), (am_sh, am_mm U5)) ∧ (((r5 = 0 : Prop)) → R = (some (.inl 0), (am_sh, am_mm U5))) ∧ (¬ (r5 = 0) → R = (some (.inl 1), (am_sh, am_mm U5)))) ∧ (x2 = 4 → ∃ (r6 : Int) (U6 : Nat → Nat → Int), Ev (am_kz N X) (d, 119, 0, [some (.inr (.inr 16)), some (.inl x1)], [], (am_sh, am_mm U1)) (some (.inr (.inl r6)), (am_sh, am_mm U6)) ∧ (((¬ (am_lcmp r6 (if 0 ≤ (U1 17 x1.toNat) then (U1 17 x1.toNat) else w32 (-(U1 17 x1.toNat)))) = 0 : Prop)) → R = (some (.inl 0), (am_sh, am_mm U6))) ∧ (¬ (¬ (am_lcmp r6 (if 0 ≤ (U1 17 x1.toNat) then (U1 17 x1.toNat) else w32 (-(U1 17 x1.toNat)))) = 0) → R = (some (.inl 1), (am_sh, am_mm U6)))) ∧ (¬ x2 = 0 ∧ ¬ x2 = 1 ∧ ¬ x2 = 2 ∧ ¬ x2 = 3 ∧ ¬ x2 = 4 → R = (some (.inl (-1)), (am_sh, am_mm U1)))) ∧ (¬ (¬ r1 = 0) → R = (some (.inl (-1)), (am_sh, am_mm U1)))) : Ev (am_kz N X) ((d + 1), 19, 0, [some (.inr (.inr 1)), some (.inl x1), some (.inl x2), none], [], (am_sh, am_mm U)) R := by
  refine ev_seg (σ1 := ((d + 1), 19, 2, [some (.inr (.inr 1)), some (.inl x1), some (.inl x2), none], [.inl x1, .inr (.inr 1)], (am_sh, am_mm U))) 2 (fun _ => rfl) ?_
  obtain ⟨r1, U1, hc, ha⟩ := h
  refine ev_cal (σc := (d, 114, 0, [some (.inr (.inr 1)), some (.inl x1)], [], (am_sh, am_mm U))) (fun _ => rfl) hc ?_
  show Ev (am_kz N X) ((d + 1), 19, 5, [some (.inr (.inr 1)), some (.inl x1), some (.inl x2), none], [.inl r1], (am_sh, am_mm U1)) R
  refine ev_br (P := ¬ r1 = 0) (σ1 := ((d + 1), 19, 10, [some (.inr (.inr 1)), some (.inl x1), some (.inl x2), none], [], (am_sh, am_mm U1))) (σ2 := ((d + 1), 19, 8, [some (.inr (.inr 1)), some (.inl x1), some (.inl x2), none], [], (am_sh, am_mm U1))) 1 (fun _ => rfl) (fun hc => ?_) (fun hc => ?_)
  · have ha1 := ha.1 hc
    refine ev_seg (σ1 := ((d + 1), 19, 18, [some (.inr (.inr 1)), some (.inl x1), some (.inl x2), none], [.inl x1, .inr (.inr 17)], (am_sh, am_mm U1))) 4 (fun _ => rfl) ?_
    refine eu_iald 17 (n := 16) rfl (by decide) rfl (fun _ => rfl) ha1.1 ?_
    have ha1a := ha1.2
    refine ev_seg (σ1 := ((d + 1), 19, 24, [some (.inr (.inr 1)), some (.inl x1), some (.inl x2), some (.inl (if 0 ≤ (U1 17 x1.toNat) then (U1 17 x1.toNat) else w32 (-(U1 17 x1.toNat))))], [.inl x2], (am_sh, am_mm U1))) 3 (fun _ => rfl) ?_
    by_cases hc : x2 = 0
    · have ha1ak0 := ha1a.1 hc
      refine ev_sw (off := 36) rfl (by rw [hc]; rfl) (pt := 60) rfl ?_
      refine ev_seg (σ1 := ((d + 1), 19, 68, [some (.inr (.inr 1)), some (.inl x1), some (.inl x2), some (.inl (if 0 ≤ (U1 17 x1.toNat) then (U1 17 x1.toNat) else w32 (-(U1 17 x1.toNat))))], [.inl x1, .inr (.inr 18)], (am_sh, am_mm U1))) 4 (fun _ => rfl) ?_
      refine eu_iald 18 (n := 16) rfl (by decide) rfl (fun _ => rfl) ha1ak0.1 ?_
      have ha1ak0a := ha1ak0.2
      subst ha1ak0a
      exact ev_end 1 (fun _ => rfl)
    have nha1a0 := hc
    clear hc
    by_cases hc : x2 = 1
    · have ha1ak1 := ha1a.2.1 hc
      refine ev_sw (off := 46) rfl (by rw [hc]; rfl) (pt := 70) rfl ?_
      refine ev_seg (σ1 := ((d + 1), 19, 75, [some (.inr (.inr 1)), some (.inl x1), some (.inl x2), some (.inl (if 0 ≤ (U1 17 x1.toNat) then (U1 17 x1.toNat) else w32 (-(U1 17 x1.toNat))))], [.inl x1, .inr (.inr 45)], (am_sh, am_mm U1))) 3 (fun _ => rfl) ?_
      obtain ⟨r2, U2, ha1ak1c, ha1ak1a⟩ := ha1ak1
      refine ev_cal (σc := (d, 116, 0, [some (.inr (.inr 45)), some (.inl x1), none, none, none], [], (am_sh, am_mm U1))) (fun _ => rfl) ha1ak1c ?_
      show Ev (am_kz N X) ((d + 1), 19, 78, [some (.inr (.inr 1)), some (.inl x1), some (.inl x2), some (.inl (if 0 ≤ (U1 17 x1.toNat) then (U1 17 x1.toNat) else w32 (-(U1 17 x1.toNat))))], [.inl r2], (am_sh, am_mm U2)) R
      subst ha1ak1a
      exact ev_end 1 (fun _ => rfl)
    have nha1a1 := hc
    clear hc
    by_cases hc : x2 = 2
    · have ha1ak2 := ha1a.2.2.1 hc
      refine ev_sw (off := 55) rfl (by rw [hc]; rfl) (pt := 79) rfl ?_
      refine ev_seg (σ1 := ((d + 1), 19, 81, [some (.inr (.inr 1)), some (.inl x1), some (.inl x2), some (.inl (if 0 ≤ (U1 17 x1.toNat) then (U1 17 x1.toNat) else w32 (-(U1 17 x1.toNat))))], [.inl x1, .inr (.inr 1)], (am_sh, am_mm U1))) 2 (fun _ => rfl) ?_
      obtain ⟨r3, U3, ha1ak2c, ha1ak2a⟩ := ha1ak2
      refine ev_cal (σc := (d, 117, 0, [some (.inr (.inr 1)), some (.inl x1), none, none, none], [], (am_sh, am_mm U1))) (fun _ => rfl) ha1ak2c ?_
      show Ev (am_kz N X) ((d + 1), 19, 84, [some (.inr (.inr 1)), some (.inl x1), some (.inl x2), some (.inl (if 0 ≤ (U1 17 x1.toNat) then (U1 17 x1.toNat) else w32 (-(U1 17 x1.toNat))))], [.inl r3], (am_sh, am_mm U3)) R
      obtain ⟨r4, U4, ha1ak2ac, ha1ak2aa⟩ := ha1ak2a
      refine ev_cal (σc := (d, 98, 0, [some (.inl r3)], [], (am_sh, am_mm U3))) (fun _ => rfl) ha1ak2ac ?_
      show Ev (am_kz N X) ((d + 1), 19, 87, [some (.inr (.inr 1)), some (.inl x1), some (.inl x2), some (.inl (if 0 ≤ (U1 17 x1.toNat) then (U1 17 x1.toNat) else w32 (-(U1 17 x1.toNat))))], [.inl r4], (am_sh, am_mm U4)) R
      subst ha1ak2aa
      exact ev_end 1 (fun _ => rfl)
    have nha1a2 := hc
    clear hc
    by_cases hc : x2 = 3
    · have ha1ak3 := ha1a.2.2.2.1 hc
      refine ev_sw (off := 64) rfl (by rw [hc]; rfl) (pt := 88) rfl ?_
      refine ev_seg (σ1 := ((d + 1), 19, 89, [some (.inr (.inr 1)), some (.inl x1), some (.inl x2), some (.inl (if 0 ≤ (U1 17 x1.toNat) then (U1 17 x1.toNat) else w32 (-(U1 17 x1.toNat))))], [.inl (if 0 ≤ (U1 17 x1.toNat) then (U1 17 x1.toNat) else w32 (-(U1 17 x1.toNat)))], (am_sh, am_mm U1))) 1 (fun _ => rfl) ?_
      obtain ⟨r5, U5, ha1ak3c, ha1ak3a⟩ := ha1ak3
      refine ev_cal (σc := (d, 118, 0, [some (.inl (if 0 ≤ (U1 17 x1.toNat) then (U1 17 x1.toNat) else w32 (-(U1 17 x1.toNat)))), none, none, none, none, none, none, none], [], (am_sh, am_mm U1))) (fun _ => rfl) ha1ak3c ?_
      show Ev (am_kz N X) ((d + 1), 19, 92, [some (.inr (.inr 1)), some (.inl x1), some (.inl x2), some (.inl (if 0 ≤ (U1 17 x1.toNat) then (U1 17 x1.toNat) else w32 (-(U1 17 x1.toNat))))], [.inl r5], (am_sh, am_mm U5)) R
      refine ev_br (P := r5 = 0) (σ1 := ((d + 1), 19, 99, [some (.inr (.inr 1)), some (.inl x1), some (.inl x2), some (.inl (if 0 ≤ (U1 17 x1.toNat) then (U1 17 x1.toNat) else w32 (-(U1 17 x1.toNat))))], [], (am_sh, am_mm U5))) (σ2 := ((d + 1), 19, 95, [some (.inr (.inr 1)), some (.inl x1), some (.inl x2), some (.inl (if 0 ≤ (U1 17 x1.toNat) then (U1 17 x1.toNat) else w32 (-(U1 17 x1.toNat))))], [], (am_sh, am_mm U5))) 1 (fun _ => rfl) (fun hc => ?_) (fun hc => ?_)
      · have ha1ak3a1 := ha1ak3a.1 hc
        subst ha1ak3a1
        exact ev_end 2 (fun _ => rfl)
      · have ha1ak3a2 := ha1ak3a.2 hc
        subst ha1ak3a2
        exact ev_end 3 (fun _ => rfl)
    have nha1a3 := hc
    clear hc
    by_cases hc : x2 = 4
    · have ha1ak4 := ha1a.2.2.2.2.1 hc
      refine ev_sw (off := 77) rfl (by rw [hc]; rfl) (pt := 101) rfl ?_
      refine ev_seg (σ1 := ((d + 1), 19, 106, [some (.inr (.inr 1)), some (.inl x1), some (.inl x2), some (.inl (if 0 ≤ (U1 17 x1.toNat) then (U1 17 x1.toNat) else w32 (-(U1 17 x1.toNat))))], [.inl x1, .inr (.inr 16)], (am_sh, am_mm U1))) 3 (fun _ => rfl) ?_
      obtain ⟨r6, U6, ha1ak4c, ha1ak4a⟩ := ha1ak4
      refine ev_cal (σc := (d, 119, 0, [some (.inr (.inr 16)), some (.inl x1)], [], (am_sh, am_mm U1))) (fun _ => rfl) ha1ak4c ?_
      show Ev (am_kz N X) ((d + 1), 19, 109, [some (.inr (.inr 1)), some (.inl x1), some (.inl x2), some (.inl (if 0 ≤ (U1 17 x1.toNat) then (U1 17 x1.toNat) else w32 (-(U1 17 x1.toNat))))], [.inr (.inl r6)], (am_sh, am_mm U6)) R
      refine ev_br (P := ¬ (am_lcmp r6 (if 0 ≤ (U1 17 x1.toNat) then (U1 17 x1.toNat) else w32 (-(U1 17 x1.toNat)))) = 0) (σ1 := ((d + 1), 19, 119, [some (.inr (.inr 1)), some (.inl x1), some (.inl x2), some (.inl (if 0 ≤ (U1 17 x1.toNat) then (U1 17 x1.toNat) else w32 (-(U1 17 x1.toNat))))], [], (am_sh, am_mm U6))) (σ2 := ((d + 1), 19, 115, [some (.inr (.inr 1)), some (.inl x1), some (.inl x2), some (.inl (if 0 ≤ (U1 17 x1.toNat) then (U1 17 x1.toNat) else w32 (-(U1 17 x1.toNat))))], [], (am_sh, am_mm U6))) 4 (fun _ => rfl) (fun hc => ?_) (fun hc => ?_)
      · have ha1ak4a1 := ha1ak4a.1 hc
        subst ha1ak4a1
        exact ev_end 2 (fun _ => rfl)
      · have ha1ak4a2 := ha1ak4a.2 hc
        subst ha1ak4a2
        exact ev_end 3 (fun _ => rfl)
    have nha1a4 := hc
    clear hc
    have ha1akd := ha1a.2.2.2.2.2 ⟨nha1a0, nha1a1, nha1a2, nha1a3, nha1a4⟩
    refine ev_sw (off := 97) rfl (if_pos (by omega)) (pt := 121) rfl ?_
    subst ha1akd
    exact ev_end 2 (fun _ => rfl)
  · have ha2 := ha.2 hc
    subst ha2
    exact ev_end 2 (fun _ => rfl)
set_option maxRecDepth 8000 in
theorem st20_86_0 (N : Nat) (X : Nat → Int) (d : Nat) (x1 x2 : Int) (U : Nat → Nat → Int) (R : Option am_V × am_M) (h : ∃ (r1 : Int) (U1 : Nat → Nat → Int), Ev (am_kz N X) (d, 115, 0, [some (.inr (.inr 86)), some (.inl x1)], [], (am_sh, am_mm U)) (some (.inl r1), (am_sh, am_mm U1)) ∧ (((¬ r1 = 0 : Prop)) → (x2 = 0 → (0 ≤ x1 ∧ x1 < 352) ∧ R = (some (.inl (U1 124 x1.toNat)), (am_sh, am_mm U1))) ∧ (x2 = 1 → ∃ (r2 : Int) (U2 : Nat → Nat → Int), Ev (am_kz N X) (d, 100, 0, [some (.inr (.inr 86)), some (.inl 0), some (.inl x1), some (.inl (-1)), none, none, none, none], [], (am_sh, am_mm U1)) (some (.inl r2), (am_sh, am_mm U2)) ∧ R = (some (.inl r2), (am_sh, am_mm U2))) ∧ (x2 = 2 → Ev (am_kz N X) ((d + 1), 20, 66, [some (.inr (.inr 86)), some (.inl x1), some (.inl x2), some (.inl 0), some (.inl 0)], [], (am_sh, am_mm U1)) R) ∧ (x2 = 3 → ∃ (r3 : Int) (U3 : Nat → Nat → Int), Ev (am_kz N X) (d, 121, 0, [some (.inr (.inr 86)), some (.inl x1)], [], (am_sh, am_mm U1)) (some (.inr (.inl r3)), (am_sh, am_mm U3)) ∧ ∃ (r4 : Int) (U4 : Nat → Nat → Int), Ev (am_kz N X) (d, 122, 0, [some (.inr (.inl r3)), none], [], (am_sh, am_mm U3)) (some (.inl r4), (am_sh, am_mm U4)) ∧ (((r4 = 0 : Prop)) → R = (some (.inl 0), (am_sh, am_mm U4))) ∧ (¬ (r4 = 0) → R = (some (.inl 1), (am_sh, am_mm U4)))) ∧ (x2 = 4 → ∃ (r5 : Int) (U5 : Nat → Nat → Int), Ev (am_kz N X) (d, 121, 0, [some (.inr (.inr 86)), some (.inl x1)], [], (am_sh, am_mm U1)) (some (.inr (.inl r5)), (am_sh, am_mm U5)) ∧ ∃ (r6 : Int) (U6 : Nat → Nat → Int), Ev (am_kz N X) (d, 123, 0, [some (.inr (.inl r5)), none, none, none, none, none], [], (am_sh, am_mm U5)) (some (.inr (.inl r6)), (am_sh, am_mm U6)) ∧ ∃ (r7 : Int) (U7 : Nat → Nat → Int), Ev (am_kz N X) (d, 121, 0, [some (.inr (.inr 86)), some (.inl x1)], [], (am_sh, am_mm U6)) (some (.inr (.inl r7)), (am_sh, am_mm U7)) ∧ (((¬ (am_lcmp r6 r7) = 0 : Prop)) → R = (some (.inl 0), (am_sh, am_mm U7))) ∧ (¬ (¬ (am_lcmp r6 r7) = 0) → R = (some (.inl 1), (am_sh, am_mm U7)))) ∧ (¬ x2 = 0 ∧ ¬ x2 = 1 ∧ ¬ x2 = 2 ∧ ¬ x2 = 3 ∧ ¬ x2 = 4 → R = (some (.inl (-1)), (am_sh, am_mm U1)))) ∧ (¬ (¬ r1 = 0) → R = (some (.inl (-1)), (am_sh, am_mm U1)))) : Ev (am_kz N X) ((d + 1), 20, 0, [some (.inr (.inr 86)), some (.inl x1), some (.inl x2), none, none], [], (am_sh, am_mm U)) R := by
  refine ev_seg (σ1 := ((d + 1), 20, 2, [some (.inr (.inr 86)), some (.inl x1), some (.inl x2), none, none], [.inl x1, .inr (.inr 86)], (am_sh, am_mm U))) 2 (fun _ => rfl) ?_
  obtain ⟨r1, U1, hc, ha⟩ := h
  refine ev_cal (σc := (d, 115, 0, [some (.inr (.inr 86)), some (.inl x1)], [], (am_sh, am_mm U))) (fun _ => rfl) hc ?_
  show Ev (am_kz N X) ((d + 1), 20, 5, [some (.inr (.inr 86)), some (.inl x1), some (.inl x2), none, none], [.inl r1], (am_sh, am_mm U1)) R
  refine ev_br (P := ¬ r1 = 0) (σ1 := ((d + 1), 20, 10, [some (.inr (.inr 86)), some (.inl x1), some (.inl x2), none, none], [], (am_sh, am_mm U1))) (σ2 := ((d + 1), 20, 8, [some (.inr (.inr 86)), some (.inl x1), some (.inl x2), none, none], [], (am_sh, am_mm U1))) 1 (fun _ => rfl) (fun hc => ?_) (fun hc => ?_)
  · have ha1 := ha.1 hc
    refine ev_seg (σ1 := ((d + 1), 20, 13, [some (.inr (.inr 86)), some (.inl x1), some (.inl x2), some (.inl 0), none], [.inl x2], (am_sh, am_mm U1))) 3 (fun _ => rfl) ?_
    by_cases hc : x2 = 0
    · have ha1k0 := ha1.1 hc
      refine ev_sw (off := 35) rfl (by rw [hc]; rfl) (pt := 48) rfl ?_
      refine ev_seg (σ1 := ((d + 1), 20, 53, [some (.inr (.inr 86)), some (.inl x1), some (.inl x2), some (.inl 0), none], [.inl x1, .inr (.inr 124)], (am_sh, am_mm U1))) 3 (fun _ => rfl) ?_
      refine eu_iald 124 (n := 352) rfl (by decide) rfl (fun _ => rfl) ha1k0.1 ?_
      have ha1k0a := ha1k0.2
      subst ha1k0a
      exact ev_end 1 (fun _ => rfl)
    have nha10 := hc
    clear hc
    by_cases hc : x2 = 1
    · have ha1k1 := ha1.2.1 hc
      refine ev_sw (off := 42) rfl (by rw [hc]; rfl) (pt := 55) rfl ?_
      refine ev_seg (σ1 := ((d + 1), 20, 59, [some (.inr (.inr 86)), some (.inl x1), some (.inl x2), some (.inl 0), none], [.inl (-1), .inl x1, .inl 0, .inr (.inr 86)], (am_sh, am_mm U1))) 4 (fun _ => rfl) ?_
      obtain ⟨r2, U2, ha1k1c, ha1k1a⟩ := ha1k1
      refine ev_cal (σc := (d, 100, 0, [some (.inr (.inr 86)), some (.inl 0), some (.inl x1), some (.inl (-1)), none, none, none, none], [], (am_sh, am_mm U1))) (fun _ => rfl) ha1k1c ?_
      show Ev (am_kz N X) ((d + 1), 20, 62, [some (.inr (.inr 86)), some (.inl x1), some (.inl x2), some (.inl 0), none], [.inl r2], (am_sh, am_mm U2)) R
      subst ha1k1a
      exact ev_end 1 (fun _ => rfl)
    have nha11 := hc
    clear hc
    by_cases hc : x2 = 2
    · have ha1k2 := ha1.2.2.1 hc
      refine ev_sw (off := 50) rfl (by rw [hc]; rfl) (pt := 63) rfl ?_
      refine ev_seg (σ1 := ((d + 1), 20, 66, [some (.inr (.inr 86)), some (.inl x1), some (.inl x2), some (.inl 0), some (.inl 0)], [], (am_sh, am_mm U1))) 2 (fun _ => rfl) ?_
      exact ha1k2
    have nha12 := hc
    clear hc
    by_cases hc : x2 = 3
    · have ha1k3 := ha1.2.2.2.1 hc
      refine ev_sw (off := 90) rfl (by rw [hc]; rfl) (pt := 103) rfl ?_
      refine ev_seg (σ1 := ((d + 1), 20, 105, [some (.inr (.inr 86)), some (.inl x1), some (.inl x2), some (.inl 0), none], [.inl x1, .inr (.inr 86)], (am_sh, am_mm U1))) 2 (fun _ => rfl) ?_
      obtain ⟨r3, U3, ha1k3c, ha1k3a⟩ := ha1k3
      refine ev_cal (σc := (d, 121, 0, [some (.inr (.inr 86)), some (.inl x1)], [], (am_sh, am_mm U1))) (fun _ => rfl) ha1k3c ?_
      show Ev (am_kz N X) ((d + 1), 20, 108, [some (.inr (.inr 86)), some (.inl x1), some (.inl x2), some (.inl 0), none], [.inr (.inl r3)], (am_sh, am_mm U3)) R
      obtain ⟨r4, U4, ha1k3ac, ha1k3aa⟩ := ha1k3a
      refine ev_cal (σc := (d, 122, 0, [some (.inr (.inl r3)), none], [], (am_sh, am_mm U3))) (fun _ => rfl) ha1k3ac ?_
      show Ev (am_kz N X) ((d + 1), 20, 111, [some (.inr (.inr 86)), some (.inl x1), some (.inl x2), some (.inl 0), none], [.inl r4], (am_sh, am_mm U4)) R
      refine ev_br (P := r4 = 0) (σ1 := ((d + 1), 20, 118, [some (.inr (.inr 86)), some (.inl x1), some (.inl x2), some (.inl 0), none], [], (am_sh, am_mm U4))) (σ2 := ((d + 1), 20, 114, [some (.inr (.inr 86)), some (.inl x1), some (.inl x2), some (.inl 0), none], [], (am_sh, am_mm U4))) 1 (fun _ => rfl) (fun hc => ?_) (fun hc => ?_)
      · have ha1k3aa1 := ha1k3aa.1 hc
        subst ha1k3aa1
        exact ev_end 2 (fun _ => rfl)
      · have ha1k3aa2 := ha1k3aa.2 hc
        subst ha1k3aa2
        exact ev_end 3 (fun _ => rfl)
    have nha13 := hc
    clear hc
    by_cases hc : x2 = 4
    · have ha1k4 := ha1.2.2.2.2.1 hc
      refine ev_sw (off := 107) rfl (by rw [hc]; rfl) (pt := 120) rfl ?_
      refine ev_seg (σ1 := ((d + 1), 20, 122, [some (.inr (.inr 86)), some (.inl x1), some (.inl x2), some (.inl 0), none], [.inl x1, .inr (.inr 86)], (am_sh, am_mm U1))) 2 (fun _ => rfl) ?_
      obtain ⟨r5, U5, ha1k4c, ha1k4a⟩ := ha1k4
      refine ev_cal (σc := (d, 121, 0, [some (.inr (.inr 86)), some (.inl x1)], [], (am_sh, am_mm U1))) (fun _ => rfl) ha1k4c ?_
      show Ev (am_kz N X) ((d + 1), 20, 125, [some (.inr (.inr 86)), some (.inl x1), some (.inl x2), some (.inl 0), none], [.inr (.inl r5)], (am_sh, am_mm U5)) R
      obtain ⟨r6, U6, ha1k4ac, ha1k4aa⟩ := ha1k4a
      refine ev_cal (σc := (d, 123, 0, [some (.inr (.inl r5)), none, none, none, none, none], [], (am_sh, am_mm U5))) (fun _ => rfl) ha1k4ac ?_
      show Ev (am_kz N X) ((d + 1), 20, 128, [some (.inr (.inr 86)), some (.inl x1), some (.inl x2), some (.inl 0), none], [.inr (.inl r6)], (am_sh, am_mm U6)) R
      refine ev_seg (σ1 := ((d + 1), 20, 130, [some (.inr (.inr 86)), some (.inl x1), some (.inl x2), some (.inl 0), none], [.inl x1, .inr (.inr 86), .inr (.inl r6)], (am_sh, am_mm U6))) 2 (fun _ => rfl) ?_
      obtain ⟨r7, U7, ha1k4aac, ha1k4aaa⟩ := ha1k4aa
      refine ev_cal (σc := (d, 121, 0, [some (.inr (.inr 86)), some (.inl x1)], [], (am_sh, am_mm U6))) (fun _ => rfl) ha1k4aac ?_
      show Ev (am_kz N X) ((d + 1), 20, 133, [some (.inr (.inr 86)), some (.inl x1), some (.inl x2), some (.inl 0), none], [.inr (.inl r7), .inr (.inl r6)], (am_sh, am_mm U7)) R
      refine ev_br (P := ¬ (am_lcmp r6 r7) = 0) (σ1 := ((d + 1), 20, 141, [some (.inr (.inr 86)), some (.inl x1), some (.inl x2), some (.inl 0), none], [], (am_sh, am_mm U7))) (σ2 := ((d + 1), 20, 137, [some (.inr (.inr 86)), some (.inl x1), some (.inl x2), some (.inl 0), none], [], (am_sh, am_mm U7))) 2 (fun _ => rfl) (fun hc => ?_) (fun hc => ?_)
      · have ha1k4aaa1 := ha1k4aaa.1 hc
        subst ha1k4aaa1
        exact ev_end 2 (fun _ => rfl)
      · have ha1k4aaa2 := ha1k4aaa.2 hc
        subst ha1k4aaa2
        exact ev_end 3 (fun _ => rfl)
    have nha14 := hc
    clear hc
    have ha1kd := ha1.2.2.2.2.2 ⟨nha10, nha11, nha12, nha13, nha14⟩
    refine ev_sw (off := 130) rfl (if_pos (by omega)) (pt := 143) rfl ?_
    subst ha1kd
    exact ev_end 2 (fun _ => rfl)
  · have ha2 := ha.2 hc
    subst ha2
    exact ev_end 2 (fun _ => rfl)
set_option maxRecDepth 8000 in
theorem st20_86_66 (N : Nat) (X : Nat → Int) (d : Nat) (x1 x2 x3 x4 : Int) (U : Nat → Nat → Int) (R : Option am_V × am_M) (h : ((((U 122 0) ≤ x4 : Prop)) → R = (some (.inl x3), (am_sh, am_mm U))) ∧ (¬ ((U 122 0) ≤ x4) → ∃ (r1 : Int) (U1 : Nat → Nat → Int), Ev (am_kz N X) (d, 120, 0, [some (.inr (.inr 86)), some (.inl x1), some (.inl x4)], [], (am_sh, am_mm U)) (some (.inl r1), (am_sh, am_mm U1)) ∧ (((r1 = 0 : Prop)) → Ev (am_kz N X) ((d + 1), 20, 66, [some (.inr (.inr 86)), some (.inl x1), some (.inl x2), some (.inl (w32 (x3 + 0))), some (.inl (w32 (x4 + 1)))], [], (am_sh, am_mm U1)) R) ∧ (¬ (r1 = 0) → Ev (am_kz N X) ((d + 1), 20, 66, [some (.inr (.inr 86)), some (.inl x1), some (.inl x2), some (.inl (w32 (x3 + 1))), some (.inl (w32 (x4 + 1)))], [], (am_sh, am_mm U1)) R))) : Ev (am_kz N X) ((d + 1), 20, 66, [some (.inr (.inr 86)), some (.inl x1), some (.inl x2), some (.inl x3), some (.inl x4)], [], (am_sh, am_mm U)) R := by
  refine ev_seg (σ1 := ((d + 1), 20, 73, [some (.inr (.inr 86)), some (.inl x1), some (.inl x2), some (.inl x3), some (.inl x4)], [.inl 0, .inr (.inr 122), .inl x4], (am_sh, am_mm U))) 4 (fun _ => rfl) ?_
  refine eu_iald 122 (n := 22) rfl (by decide) rfl (fun _ => rfl) (by decide) ?_
  show Ev (am_kz N X) ((d + 1), 20, 74, [some (.inr (.inr 86)), some (.inl x1), some (.inl x2), some (.inl x3), some (.inl x4)], [.inl (U 122 0), .inl x4], (am_sh, am_mm U)) R
  refine ev_br (P := (U 122 0) ≤ x4) (σ1 := ((d + 1), 20, 101, [some (.inr (.inr 86)), some (.inl x1), some (.inl x2), some (.inl x3), some (.inl x4)], [], (am_sh, am_mm U))) (σ2 := ((d + 1), 20, 77, [some (.inr (.inr 86)), some (.inl x1), some (.inl x2), some (.inl x3), some (.inl x4)], [], (am_sh, am_mm U))) 1 (fun _ => rfl) (fun hc => ?_) (fun hc => ?_)
  · have h1 := h.1 hc
    subst h1
    exact ev_end 2 (fun _ => rfl)
  · have h2 := h.2 hc
    refine ev_seg (σ1 := ((d + 1), 20, 82, [some (.inr (.inr 86)), some (.inl x1), some (.inl x2), some (.inl x3), some (.inl x4)], [.inl x4, .inl x1, .inr (.inr 86), .inl x3], (am_sh, am_mm U))) 4 (fun _ => rfl) ?_
    obtain ⟨r1, U1, h2c, h2a⟩ := h2
    refine ev_cal (σc := (d, 120, 0, [some (.inr (.inr 86)), some (.inl x1), some (.inl x4)], [], (am_sh, am_mm U))) (fun _ => rfl) h2c ?_
    show Ev (am_kz N X) ((d + 1), 20, 85, [some (.inr (.inr 86)), some (.inl x1), some (.inl x2), some (.inl x3), some (.inl x4)], [.inl r1, .inl x3], (am_sh, am_mm U1)) R
    refine ev_br (P := r1 = 0) (σ1 := ((d + 1), 20, 92, [some (.inr (.inr 86)), some (.inl x1), some (.inl x2), some (.inl x3), some (.inl x4)], [.inl x3], (am_sh, am_mm U1))) (σ2 := ((d + 1), 20, 88, [some (.inr (.inr 86)), some (.inl x1), some (.inl x2), some (.inl x3), some (.inl x4)], [.inl x3], (am_sh, am_mm U1))) 1 (fun _ => rfl) (fun hc => ?_) (fun hc => ?_)
    · have h2a1 := h2a.1 hc
      refine ev_seg (σ1 := ((d + 1), 20, 66, [some (.inr (.inr 86)), some (.inl x1), some (.inl x2), some (.inl (w32 (x3 + 0))), some (.inl (w32 (x4 + 1)))], [], (am_sh, am_mm U1))) 5 (fun _ => rfl) ?_
      exact h2a1
    · have h2a2 := h2a.2 hc
      refine ev_seg (σ1 := ((d + 1), 20, 66, [some (.inr (.inr 86)), some (.inl x1), some (.inl x2), some (.inl (w32 (x3 + 1))), some (.inl (w32 (x4 + 1)))], [], (am_sh, am_mm U1))) 6 (fun _ => rfl) ?_
      exact h2a2
set_option maxRecDepth 8000 in
theorem st21_1_0 (N : Nat) (X : Nat → Int) (d : Nat) (x1 x2 : Int) (U : Nat → Nat → Int) (R : Option am_V × am_M) (h : ∃ (r1 : Int) (U1 : Nat → Nat → Int), Ev (am_kz N X) (d, 124, 0, [some (.inr (.inr 45)), some (.inl x1), none, none, none], [], (am_sh, am_mm U)) (some (.inl r1), (am_sh, am_mm U1)) ∧ (((0 ≤ r1 : Prop)) → (x2 = 0 → ∃ (r2 : Int) (U2 : Nat → Nat → Int), Ev (am_kz N X) (d, 125, 0, [some (.inl r1)], [], (am_sh, am_mm U1)) (some (.inl r2), (am_sh, am_mm U2)) ∧ R = (some (.inl r2), (am_sh, am_mm U2))) ∧ (x2 = 1 → ∃ (r3 : Int) (U3 : Nat → Nat → Int), Ev (am_kz N X) (d, 126, 0, [some (.inl r1)], [], (am_sh, am_mm U1)) (some (.inl r3), (am_sh, am_mm U3)) ∧ R = (some (.inl r3), (am_sh, am_mm U3))) ∧ (x2 = 2 → ∃ (r4 : Int) (U4 : Nat → Nat → Int), Ev (am_kz N X) (d, 127, 0, [some (.inl r1)], [], (am_sh, am_mm U1)) (some (.inl r4), (am_sh, am_mm U4)) ∧ R = (some (.inl r4), (am_sh, am_mm U4))) ∧ (¬ x2 = 0 ∧ ¬ x2 = 1 ∧ ¬ x2 = 2 → R = (some (.inl (-1)), (am_sh, am_mm U1)))) ∧ (¬ (0 ≤ r1) → R = (some (.inl (-1)), (am_sh, am_mm U1)))) : Ev (am_kz N X) ((d + 1), 21, 0, [some (.inr (.inr 1)), some (.inl x1), some (.inl x2), none], [], (am_sh, am_mm U)) R := by
  refine ev_seg (σ1 := ((d + 1), 21, 5, [some (.inr (.inr 1)), some (.inl x1), some (.inl x2), none], [.inl x1, .inr (.inr 45)], (am_sh, am_mm U))) 3 (fun _ => rfl) ?_
  obtain ⟨r1, U1, hc, ha⟩ := h
  refine ev_cal (σc := (d, 124, 0, [some (.inr (.inr 45)), some (.inl x1), none, none, none], [], (am_sh, am_mm U))) (fun _ => rfl) hc ?_
  show Ev (am_kz N X) ((d + 1), 21, 8, [some (.inr (.inr 1)), some (.inl x1), some (.inl x2), none], [.inl r1], (am_sh, am_mm U1)) R
  refine ev_br (P := 0 ≤ r1) (σ1 := ((d + 1), 21, 15, [some (.inr (.inr 1)), some (.inl x1), some (.inl x2), some (.inl r1)], [], (am_sh, am_mm U1))) (σ2 := ((d + 1), 21, 13, [some (.inr (.inr 1)), some (.inl x1), some (.inl x2), some (.inl r1)], [], (am_sh, am_mm U1))) 3 (fun _ => rfl) (fun hc => ?_) (fun hc => ?_)
  · have ha1 := ha.1 hc
    refine ev_seg (σ1 := ((d + 1), 21, 16, [some (.inr (.inr 1)), some (.inl x1), some (.inl x2), some (.inl r1)], [.inl x2], (am_sh, am_mm U1))) 1 (fun _ => rfl) ?_
    by_cases hc : x2 = 0
    · have ha1k0 := ha1.1 hc
      refine ev_sw (off := 28) rfl (by rw [hc]; rfl) (pt := 44) rfl ?_
      refine ev_seg (σ1 := ((d + 1), 21, 45, [some (.inr (.inr 1)), some (.inl x1), some (.inl x2), some (.inl r1)], [.inl r1], (am_sh, am_mm U1))) 1 (fun _ => rfl) ?_
      obtain ⟨r2, U2, ha1k0c, ha1k0a⟩ := ha1k0
      refine ev_cal (σc := (d, 125, 0, [some (.inl r1)], [], (am_sh, am_mm U1))) (fun _ => rfl) ha1k0c ?_
      show Ev (am_kz N X) ((d + 1), 21, 48, [some (.inr (.inr 1)), some (.inl x1), some (.inl x2), some (.inl r1)], [.inl r2], (am_sh, am_mm U2)) R
      subst ha1k0a
      exact ev_end 1 (fun _ => rfl)
    have nha10 := hc
    clear hc
    by_cases hc : x2 = 1
    · have ha1k1 := ha1.2.1 hc
      refine ev_sw (off := 33) rfl (by rw [hc]; rfl) (pt := 49) rfl ?_
      refine ev_seg (σ1 := ((d + 1), 21, 50, [some (.inr (.inr 1)), some (.inl x1), some (.inl x2), some (.inl r1)], [.inl r1], (am_sh, am_mm U1))) 1 (fun _ => rfl) ?_
      obtain ⟨r3, U3, ha1k1c, ha1k1a⟩ := ha1k1
      refine ev_cal (σc := (d, 126, 0, [some (.inl r1)], [], (am_sh, am_mm U1))) (fun _ => rfl) ha1k1c ?_
      show Ev (am_kz N X) ((d + 1), 21, 53, [some (.inr (.inr 1)), some (.inl x1), some (.inl x2), some (.inl r1)], [.inl r3], (am_sh, am_mm U3)) R
      subst ha1k1a
      exact ev_end 1 (fun _ => rfl)
    have nha11 := hc
    clear hc
    by_cases hc : x2 = 2
    · have ha1k2 := ha1.2.2.1 hc
      refine ev_sw (off := 38) rfl (by rw [hc]; rfl) (pt := 54) rfl ?_
      refine ev_seg (σ1 := ((d + 1), 21, 55, [some (.inr (.inr 1)), some (.inl x1), some (.inl x2), some (.inl r1)], [.inl r1], (am_sh, am_mm U1))) 1 (fun _ => rfl) ?_
      obtain ⟨r4, U4, ha1k2c, ha1k2a⟩ := ha1k2
      refine ev_cal (σc := (d, 127, 0, [some (.inl r1)], [], (am_sh, am_mm U1))) (fun _ => rfl) ha1k2c ?_
      show Ev (am_kz N X) ((d + 1), 21, 58, [some (.inr (.inr 1)), some (.inl x1), some (.inl x2), some (.inl r1)], [.inl r4], (am_sh, am_mm U4)) R
      subst ha1k2a
      exact ev_end 1 (fun _ => rfl)
    have nha12 := hc
    clear hc
    have ha1kd := ha1.2.2.2 ⟨nha10, nha11, nha12⟩
    refine ev_sw (off := 43) rfl (if_pos (by omega)) (pt := 59) rfl ?_
    subst ha1kd
    exact ev_end 2 (fun _ => rfl)
  · have ha2 := ha.2 hc
    subst ha2
    exact ev_end 2 (fun _ => rfl)
set_option maxRecDepth 8000 in
theorem st22_86_0 (N : Nat) (X : Nat → Int) (d : Nat) (x1 x2 : Int) (U : Nat → Nat → Int) (R : Option am_V × am_M) (h : (((x1 < 0 : Prop)) → R = (some (.inl (-1)), (am_sh, am_mm U))) ∧ (¬ (x1 < 0) → ∃ (r1 : Int) (U1 : Nat → Nat → Int), Ev (am_kz N X) (d, 103, 0, [some (.inl x2), some (.inl 0), some (.inl 2)], [], (am_sh, am_mm U)) (some (.inl r1), (am_sh, am_mm U1)) ∧ (((r1 = 0 : Prop)) → R = (some (.inl (-1)), (am_sh, am_mm U1))) ∧ (¬ (r1 = 0) → ∃ (r2 : Int) (U2 : Nat → Nat → Int), Ev (am_kz N X) (d, 100, 0, [some (.inr (.inr 86)), some (.inl 0), some (.inl (-1)), some (.inl x1), none, none, none, none], [], (am_sh, am_mm U1)) (some (.inl r2), (am_sh, am_mm U2)) ∧ (((x1 < r2 : Prop)) → (((¬ x2 = 0 : Prop)) → (((¬ x2 = 1 : Prop)) → R = (some (.inl (U2 86 66)), (am_sh, am_mm U2))) ∧ (¬ (¬ x2 = 1) → R = (some (.inl (U2 86 65)), (am_sh, am_mm U2)))) ∧ (¬ (¬ x2 = 0) → R = (some (.inl (U2 86 64)), (am_sh, am_mm U2)))) ∧ (¬ (x1 < r2) → R = (some (.inl (-1)), (am_sh, am_mm U2)))))) : Ev (am_kz N X) ((d + 1), 22, 0, [some (.inr (.inr 86)), some (.inl x1), some (.inl x2)], [], (am_sh, am_mm U)) R := by
  refine ev_br (P := x1 < 0) (σ1 := ((d + 1), 22, 24, [some (.inr (.inr 86)), some (.inl x1), some (.inl x2)], [], (am_sh, am_mm U))) (σ2 := ((d + 1), 22, 4, [some (.inr (.inr 86)), some (.inl x1), some (.inl x2)], [], (am_sh, am_mm U))) 2 (fun _ => rfl) (fun hc => ?_) (fun hc => ?_)
  · have h1 := h.1 hc
    subst h1
    exact ev_end 2 (fun _ => rfl)
  · have h2 := h.2 hc
    refine ev_seg (σ1 := ((d + 1), 22, 7, [some (.inr (.inr 86)), some (.inl x1), some (.inl x2)], [.inl 2, .inl 0, .inl x2], (am_sh, am_mm U))) 3 (fun _ => rfl) ?_
    obtain ⟨r1, U1, h2c, h2a⟩ := h2
    refine ev_cal (σc := (d, 103, 0, [some (.inl x2), some (.inl 0), some (.inl 2)], [], (am_sh, am_mm U))) (fun _ => rfl) h2c ?_
    show Ev (am_kz N X) ((d + 1), 22, 10, [some (.inr (.inr 86)), some (.inl x1), some (.inl x2)], [.inl r1], (am_sh, am_mm U1)) R
    refine ev_br (P := r1 = 0) (σ1 := ((d + 1), 22, 24, [some (.inr (.inr 86)), some (.inl x1), some (.inl x2)], [], (am_sh, am_mm U1))) (σ2 := ((d + 1), 22, 13, [some (.inr (.inr 86)), some (.inl x1), some (.inl x2)], [], (am_sh, am_mm U1))) 1 (fun _ => rfl) (fun hc => ?_) (fun hc => ?_)
    · have h2a1 := h2a.1 hc
      subst h2a1
      exact ev_end 2 (fun _ => rfl)
    · have h2a2 := h2a.2 hc
      refine ev_seg (σ1 := ((d + 1), 22, 17, [some (.inr (.inr 86)), some (.inl x1), some (.inl x2)], [.inl x1, .inl (-1), .inl 0, .inr (.inr 86)], (am_sh, am_mm U1))) 4 (fun _ => rfl) ?_
      obtain ⟨r2, U2, h2a2c, h2a2a⟩ := h2a2
      refine ev_cal (σc := (d, 100, 0, [some (.inr (.inr 86)), some (.inl 0), some (.inl (-1)), some (.inl x1), none, none, none, none], [], (am_sh, am_mm U1))) (fun _ => rfl) h2a2c ?_
      show Ev (am_kz N X) ((d + 1), 22, 20, [some (.inr (.inr 86)), some (.inl x1), some (.inl x2)], [.inl r2], (am_sh, am_mm U2)) R
      refine ev_br (P := x1 < r2) (σ1 := ((d + 1), 22, 26, [some (.inr (.inr 86)), some (.inl x1), some (.inl x2)], [], (am_sh, am_mm U2))) (σ2 := ((d + 1), 22, 24, [some (.inr (.inr 86)), some (.inl x1), some (.inl x2)], [], (am_sh, am_mm U2))) 2 (fun _ => rfl) (fun hc => ?_) (fun hc => ?_)
      · have h2a2a1 := h2a2a.1 hc
        refine ev_br (P := ¬ x2 = 0) (σ1 := ((d + 1), 22, 37, [some (.inr (.inr 86)), some (.inl x1), some (.inl x2)], [], (am_sh, am_mm U2))) (σ2 := ((d + 1), 22, 30, [some (.inr (.inr 86)), some (.inl x1), some (.inl x2)], [], (am_sh, am_mm U2))) 2 (fun _ => rfl) (fun hc => ?_) (fun hc => ?_)
        · have h2a2a11 := h2a2a1.1 hc
          refine ev_br (P := ¬ x2 = 1) (σ1 := ((d + 1), 22, 49, [some (.inr (.inr 86)), some (.inl x1), some (.inl x2)], [], (am_sh, am_mm U2))) (σ2 := ((d + 1), 22, 42, [some (.inr (.inr 86)), some (.inl x1), some (.inl x2)], [], (am_sh, am_mm U2))) 3 (fun _ => rfl) (fun hc => ?_) (fun hc => ?_)
          · have h2a2a111 := h2a2a11.1 hc
            subst h2a2a111
            exact ev_end 3 (fun _ => rfl)
          · have h2a2a112 := h2a2a11.2 hc
            subst h2a2a112
            exact ev_end 4 (fun _ => rfl)
        · have h2a2a12 := h2a2a1.2 hc
          subst h2a2a12
          exact ev_end 4 (fun _ => rfl)
      · have h2a2a2 := h2a2a.2 hc
        subst h2a2a2
        exact ev_end 2 (fun _ => rfl)
set_option maxRecDepth 8000 in
theorem st23_1_0 (N : Nat) (X : Nat → Int) (d : Nat) (x1 x2 : Int) (U : Nat → Nat → Int) (R : Option am_V × am_M) (h : ∃ (r1 : Int) (U1 : Nat → Nat → Int), Ev (am_kz N X) (d, 114, 0, [some (.inr (.inr 1)), some (.inl x1)], [], (am_sh, am_mm U)) (some (.inl r1), (am_sh, am_mm U1)) ∧ (((r1 = 0 : Prop)) → R = (some (.inl (-1)), (am_sh, am_mm U1))) ∧ (¬ (r1 = 0) → ∃ (r2 : Int) (U2 : Nat → Nat → Int), Ev (am_kz N X) (d, 102, 0, [some (.inr (.inr 1)), some (.inl x2)], [], (am_sh, am_mm U1)) (some (.inl r2), (am_sh, am_mm U2)) ∧ (((¬ r2 = 0 : Prop)) → ∃ (r3 : Int) (U3 : Nat → Nat → Int), Ev (am_kz N X) (d, 128, 0, [some (.inr (.inr 45)), some (.inl x1), some (.inl x2), none, none], [], (am_sh, am_mm U2)) (some (.inl r3), (am_sh, am_mm U3)) ∧ (((r3 = 0 : Prop)) → R = (some (.inl 0), (am_sh, am_mm U3))) ∧ (¬ (r3 = 0) → R = (some (.inl 1), (am_sh, am_mm U3)))) ∧ (¬ (¬ r2 = 0) → R = (some (.inl (-1)), (am_sh, am_mm U2))))) : Ev (am_kz N X) ((d + 1), 23, 0, [some (.inr (.inr 1)), some (.inl x1), some (.inl x2)], [], (am_sh, am_mm U)) R := by
  refine ev_seg (σ1 := ((d + 1), 23, 2, [some (.inr (.inr 1)), some (.inl x1), some (.inl x2)], [.inl x1, .inr (.inr 1)], (am_sh, am_mm U))) 2 (fun _ => rfl) ?_
  obtain ⟨r1, U1, hc, ha⟩ := h
  refine ev_cal (σc := (d, 114, 0, [some (.inr (.inr 1)), some (.inl x1)], [], (am_sh, am_mm U))) (fun _ => rfl) hc ?_
  show Ev (am_kz N X) ((d + 1), 23, 5, [some (.inr (.inr 1)), some (.inl x1), some (.inl x2)], [.inl r1], (am_sh, am_mm U1)) R
  refine ev_br (P := r1 = 0) (σ1 := ((d + 1), 23, 16, [some (.inr (.inr 1)), some (.inl x1), some (.inl x2)], [], (am_sh, am_mm U1))) (σ2 := ((d + 1), 23, 8, [some (.inr (.inr 1)), some (.inl x1), some (.inl x2)], [], (am_sh, am_mm U1))) 1 (fun _ => rfl) (fun hc => ?_) (fun hc => ?_)
  · have ha1 := ha.1 hc
    subst ha1
    exact ev_end 2 (fun _ => rfl)
  · have ha2 := ha.2 hc
    refine ev_seg (σ1 := ((d + 1), 23, 10, [some (.inr (.inr 1)), some (.inl x1), some (.inl x2)], [.inl x2, .inr (.inr 1)], (am_sh, am_mm U1))) 2 (fun _ => rfl) ?_
    obtain ⟨r2, U2, ha2c, ha2a⟩ := ha2
    refine ev_cal (σc := (d, 102, 0, [some (.inr (.inr 1)), some (.inl x2)], [], (am_sh, am_mm U1))) (fun _ => rfl) ha2c ?_
    show Ev (am_kz N X) ((d + 1), 23, 13, [some (.inr (.inr 1)), some (.inl x1), some (.inl x2)], [.inl r2], (am_sh, am_mm U2)) R
    refine ev_br (P := ¬ r2 = 0) (σ1 := ((d + 1), 23, 18, [some (.inr (.inr 1)), some (.inl x1), some (.inl x2)], [], (am_sh, am_mm U2))) (σ2 := ((d + 1), 23, 16, [some (.inr (.inr 1)), some (.inl x1), some (.inl x2)], [], (am_sh, am_mm U2))) 1 (fun _ => rfl) (fun hc => ?_) (fun hc => ?_)
    · have ha2a1 := ha2a.1 hc
      refine ev_seg (σ1 := ((d + 1), 23, 24, [some (.inr (.inr 1)), some (.inl x1), some (.inl x2)], [.inl x2, .inl x1, .inr (.inr 45)], (am_sh, am_mm U2))) 4 (fun _ => rfl) ?_
      obtain ⟨r3, U3, ha2a1c, ha2a1a⟩ := ha2a1
      refine ev_cal (σc := (d, 128, 0, [some (.inr (.inr 45)), some (.inl x1), some (.inl x2), none, none], [], (am_sh, am_mm U2))) (fun _ => rfl) ha2a1c ?_
      show Ev (am_kz N X) ((d + 1), 23, 27, [some (.inr (.inr 1)), some (.inl x1), some (.inl x2)], [.inl r3], (am_sh, am_mm U3)) R
      refine ev_br (P := r3 = 0) (σ1 := ((d + 1), 23, 34, [some (.inr (.inr 1)), some (.inl x1), some (.inl x2)], [], (am_sh, am_mm U3))) (σ2 := ((d + 1), 23, 30, [some (.inr (.inr 1)), some (.inl x1), some (.inl x2)], [], (am_sh, am_mm U3))) 1 (fun _ => rfl) (fun hc => ?_) (fun hc => ?_)
      · have ha2a1a1 := ha2a1a.1 hc
        subst ha2a1a1
        exact ev_end 2 (fun _ => rfl)
      · have ha2a1a2 := ha2a1a.2 hc
        subst ha2a1a2
        exact ev_end 3 (fun _ => rfl)
    · have ha2a2 := ha2a.2 hc
      subst ha2a2
      exact ev_end 2 (fun _ => rfl)
set_option maxRecDepth 8000 in
theorem st24_86_0 (N : Nat) (X : Nat → Int) (d : Nat) (x1 x2 : Int) (U : Nat → Nat → Int) (R : Option am_V × am_M) (h : ∃ (r1 : Int) (U1 : Nat → Nat → Int), Ev (am_kz N X) (d, 115, 0, [some (.inr (.inr 86)), some (.inl x1)], [], (am_sh, am_mm U)) (some (.inl r1), (am_sh, am_mm U1)) ∧ (((r1 = 0 : Prop)) → R = (some (.inl (-1)), (am_sh, am_mm U1))) ∧ (¬ (r1 = 0) → ∃ (r2 : Int) (U2 : Nat → Nat → Int), Ev (am_kz N X) (d, 108, 0, [some (.inr (.inr 86)), some (.inl x2)], [], (am_sh, am_mm U1)) (some (.inl r2), (am_sh, am_mm U2)) ∧ (((¬ r2 = 0 : Prop)) → ∃ (r3 : Int) (U3 : Nat → Nat → Int), Ev (am_kz N X) (d, 129, 0, [some (.inr (.inr 86)), some (.inl 0), some (.inl x1), some (.inl x2), none, none], [], (am_sh, am_mm U2)) (some (.inl r3), (am_sh, am_mm U3)) ∧ (((r3 = 0 : Prop)) → R = (some (.inl 0), (am_sh, am_mm U3))) ∧ (¬ (r3 = 0) → R = (some (.inl 1), (am_sh, am_mm U3)))) ∧ (¬ (¬ r2 = 0) → R = (some (.inl (-1)), (am_sh, am_mm U2))))) : Ev (am_kz N X) ((d + 1), 24, 0, [some (.inr (.inr 86)), some (.inl x1), some (.inl x2)], [], (am_sh, am_mm U)) R := by
  refine ev_seg (σ1 := ((d + 1), 24, 2, [some (.inr (.inr 86)), some (.inl x1), some (.inl x2)], [.inl x1, .inr (.inr 86)], (am_sh, am_mm U))) 2 (fun _ => rfl) ?_
  obtain ⟨r1, U1, hc, ha⟩ := h
  refine ev_cal (σc := (d, 115, 0, [some (.inr (.inr 86)), some (.inl x1)], [], (am_sh, am_mm U))) (fun _ => rfl) hc ?_
  show Ev (am_kz N X) ((d + 1), 24, 5, [some (.inr (.inr 86)), some (.inl x1), some (.inl x2)], [.inl r1], (am_sh, am_mm U1)) R
  refine ev_br (P := r1 = 0) (σ1 := ((d + 1), 24, 16, [some (.inr (.inr 86)), some (.inl x1), some (.inl x2)], [], (am_sh, am_mm U1))) (σ2 := ((d + 1), 24, 8, [some (.inr (.inr 86)), some (.inl x1), some (.inl x2)], [], (am_sh, am_mm U1))) 1 (fun _ => rfl) (fun hc => ?_) (fun hc => ?_)
  · have ha1 := ha.1 hc
    subst ha1
    exact ev_end 3 (fun _ => rfl)
  · have ha2 := ha.2 hc
    refine ev_seg (σ1 := ((d + 1), 24, 10, [some (.inr (.inr 86)), some (.inl x1), some (.inl x2)], [.inl x2, .inr (.inr 86)], (am_sh, am_mm U1))) 2 (fun _ => rfl) ?_
    obtain ⟨r2, U2, ha2c, ha2a⟩ := ha2
    refine ev_cal (σc := (d, 108, 0, [some (.inr (.inr 86)), some (.inl x2)], [], (am_sh, am_mm U1))) (fun _ => rfl) ha2c ?_
    show Ev (am_kz N X) ((d + 1), 24, 13, [some (.inr (.inr 86)), some (.inl x1), some (.inl x2)], [.inl r2], (am_sh, am_mm U2)) R
    refine ev_br (P := ¬ r2 = 0) (σ1 := ((d + 1), 24, 20, [some (.inr (.inr 86)), some (.inl x1), some (.inl x2)], [], (am_sh, am_mm U2))) (σ2 := ((d + 1), 24, 16, [some (.inr (.inr 86)), some (.inl x1), some (.inl x2)], [], (am_sh, am_mm U2))) 1 (fun _ => rfl) (fun hc => ?_) (fun hc => ?_)
    · have ha2a1 := ha2a.1 hc
      refine ev_seg (σ1 := ((d + 1), 24, 24, [some (.inr (.inr 86)), some (.inl x1), some (.inl x2)], [.inl x2, .inl x1, .inl 0, .inr (.inr 86)], (am_sh, am_mm U2))) 4 (fun _ => rfl) ?_
      obtain ⟨r3, U3, ha2a1c, ha2a1a⟩ := ha2a1
      refine ev_cal (σc := (d, 129, 0, [some (.inr (.inr 86)), some (.inl 0), some (.inl x1), some (.inl x2), none, none], [], (am_sh, am_mm U2))) (fun _ => rfl) ha2a1c ?_
      show Ev (am_kz N X) ((d + 1), 24, 27, [some (.inr (.inr 86)), some (.inl x1), some (.inl x2)], [.inl r3], (am_sh, am_mm U3)) R
      refine ev_br (P := r3 = 0) (σ1 := ((d + 1), 24, 34, [some (.inr (.inr 86)), some (.inl x1), some (.inl x2)], [], (am_sh, am_mm U3))) (σ2 := ((d + 1), 24, 30, [some (.inr (.inr 86)), some (.inl x1), some (.inl x2)], [], (am_sh, am_mm U3))) 1 (fun _ => rfl) (fun hc => ?_) (fun hc => ?_)
      · have ha2a1a1 := ha2a1a.1 hc
        subst ha2a1a1
        exact ev_end 2 (fun _ => rfl)
      · have ha2a1a2 := ha2a1a.2 hc
        subst ha2a1a2
        exact ev_end 3 (fun _ => rfl)
    · have ha2a2 := ha2a.2 hc
      subst ha2a2
      exact ev_end 3 (fun _ => rfl)
set_option maxRecDepth 8000 in
theorem st25_1_0 (N : Nat) (X : Nat → Int) (d : Nat) (x1 : Int) (U : Nat → Nat → Int) (R : Option am_V × am_M) (h : ∃ U1 : Nat → Nat → Int, Ev (am_kz N X) (d, 130, 0, [some (.inr (.inr 48)), none, none, none], [], (am_sh, am_mm U)) (none, (am_sh, am_mm U1)) ∧ ∃ (r2 : Int) (U2 : Nat → Nat → Int), Ev (am_kz N X) (d, 131, 0, [some (.inr (.inr 48)), some (.inl x1), none], [], (am_sh, am_mm U1)) (some (.inl r2), (am_sh, am_mm U2)) ∧ R = (some (.inl r2), (am_sh, am_mm U2))) : Ev (am_kz N X) ((d + 1), 25, 0, [some (.inr (.inr 1)), some (.inl x1)], [], (am_sh, am_mm U)) R := by
  refine ev_seg (σ1 := ((d + 1), 25, 4, [some (.inr (.inr 1)), some (.inl x1)], [.inr (.inr 48)], (am_sh, am_mm U))) 2 (fun _ => rfl) ?_
  obtain ⟨U1, hc, ha⟩ := h
  refine ev_cal (σc := (d, 130, 0, [some (.inr (.inr 48)), none, none, none], [], (am_sh, am_mm U))) (fun _ => rfl) hc ?_
  show Ev (am_kz N X) ((d + 1), 25, 7, [some (.inr (.inr 1)), some (.inl x1)], [], (am_sh, am_mm U1)) R
  refine ev_seg (σ1 := ((d + 1), 25, 12, [some (.inr (.inr 1)), some (.inl x1)], [.inl x1, .inr (.inr 48)], (am_sh, am_mm U1))) 3 (fun _ => rfl) ?_
  obtain ⟨r2, U2, hac, haa⟩ := ha
  refine ev_cal (σc := (d, 131, 0, [some (.inr (.inr 48)), some (.inl x1), none], [], (am_sh, am_mm U1))) (fun _ => rfl) hac ?_
  show Ev (am_kz N X) ((d + 1), 25, 15, [some (.inr (.inr 1)), some (.inl x1)], [.inl r2], (am_sh, am_mm U2)) R
  subst haa
  exact ev_end 1 (fun _ => rfl)
set_option maxRecDepth 8000 in
theorem st26_86_0 (N : Nat) (X : Nat → Int) (d : Nat) (x1 : Int) (U : Nat → Nat → Int) (R : Option am_V × am_M) (h : Ev (am_kz N X) ((d + 1), 26, 7, [some (.inr (.inr 86)), some (.inl x1), some (.inl 0)], [], (am_sh, am_mm (am_upd U 86 70 0))) R) : Ev (am_kz N X) ((d + 1), 26, 0, [some (.inr (.inr 86)), some (.inl x1), none], [], (am_sh, am_mm U)) R := by
  refine ev_seg (σ1 := ((d + 1), 26, 2, [some (.inr (.inr 86)), some (.inl x1), none], [.inl 0, .inr (.inr 86)], (am_sh, am_mm U))) 2 (fun _ => rfl) ?_
  refine eu_puti 86 (n := 90) rfl (by decide) rfl rfl ?_
  refine ev_seg (σ1 := ((d + 1), 26, 7, [some (.inr (.inr 86)), some (.inl x1), some (.inl 0)], [], (am_sh, am_mm (am_upd U 86 70 0)))) 2 (fun _ => rfl) ?_
  exact h
set_option maxRecDepth 8000 in
theorem st26_86_7 (N : Nat) (X : Nat → Int) (d : Nat) (x1 x2 : Int) (U : Nat → Nat → Int) (R : Option am_V × am_M) (h : ((((U 122 0) ≤ x2 : Prop)) → (((x1 = (-1) : Prop)) → ((((U 86 70) ≤ 3 : Prop)) → ∃ (r1 : Int) (U1 : Nat → Nat → Int), Ev (am_kz N X) (d, 132, 0, [some (.inr (.inr 86)), none, none, none, none, none, none, none], [], (am_sh, am_mm U)) (some (.inl r1), (am_sh, am_mm U1)) ∧ (((r1 = (-1) : Prop)) → R = (some (.inl r1), (am_sh, am_mm U1))) ∧ (¬ (r1 = (-1)) → (((¬ x1 = (-1) : Prop)) → (0 ≤ x1 ∧ x1 < 16) ∧ (((¬ (U1 127 x1.toNat) = (-1) : Prop)) → (0 ≤ x1 ∧ x1 < 16) ∧ R = (some (.inl (U1 127 x1.toNat)), (am_sh, am_mm U1))) ∧ (¬ (¬ (U1 127 x1.toNat) = (-1)) → R = (some (.inl 20), (am_sh, am_mm U1)))) ∧ (¬ (¬ x1 = (-1)) → R = (some (.inl r1), (am_sh, am_mm U1))))) ∧ (¬ ((U 86 70) ≤ 3) → R = (some (.inl (-1)), (am_sh, am_mm U)))) ∧ (¬ (x1 = (-1)) → ∃ (r2 : Int) (U2 : Nat → Nat → Int), Ev (am_kz N X) (d, 115, 0, [some (.inr (.inr 86)), some (.inl x1)], [], (am_sh, am_mm U)) (some (.inl r2), (am_sh, am_mm U2)) ∧ (((r2 = 0 : Prop)) → R = (some (.inl (-1)), (am_sh, am_mm U2))) ∧ (¬ (r2 = 0) → (0 ≤ x1 ∧ x1 < 352) ∧ (((¬ (U2 124 x1.toNat) = (-1) : Prop)) → R = (some (.inl (-1)), (am_sh, am_mm U2))) ∧ (¬ (¬ (U2 124 x1.toNat) = (-1)) → ((((U2 86 70) ≤ 3 : Prop)) → ∃ (r3 : Int) (U3 : Nat → Nat → Int), Ev (am_kz N X) (d, 132, 0, [some (.inr (.inr 86)), none, none, none, none, none, none, none], [], (am_sh, am_mm U2)) (some (.inl r3), (am_sh, am_mm U3)) ∧ (((r3 = (-1) : Prop)) → R = (some (.inl r3), (am_sh, am_mm U3))) ∧ (¬ (r3 = (-1)) → (((¬ x1 = (-1) : Prop)) → (0 ≤ x1 ∧ x1 < 16) ∧ (((¬ (U3 127 x1.toNat) = (-1) : Prop)) → (0 ≤ x1 ∧ x1 < 16) ∧ R = (some (.inl (U3 127 x1.toNat)), (am_sh, am_mm U3))) ∧ (¬ (¬ (U3 127 x1.toNat) = (-1)) → R = (some (.inl 20), (am_sh, am_mm U3)))) ∧ (¬ (¬ x1 = (-1)) → R = (some (.inl r3), (am_sh, am_mm U3))))) ∧ (¬ ((U2 86 70) ≤ 3) → R = (some (.inl (-1)), (am_sh, am_mm U2))))))) ∧ (¬ ((U 122 0) ≤ x2) → (0 ≤ x2 ∧ x2 < 352) ∧ ((((U 124 x2.toNat) = (-1) : Prop)) → (0 ≤ (U 86 70) ∧ (U 86 70) < 16) ∧ Ev (am_kz N X) ((d + 1), 26, 7, [some (.inr (.inr 86)), some (.inl x1), some (.inl (w32 (x2 + 1)))], [], (am_sh, am_mm (am_upd (am_upd U 126 (U 86 70).toNat x2) 86 70 (w32 (((am_upd U 126 (U 86 70).toNat x2) 86 70) + 1))))) R) ∧ (¬ ((U 124 x2.toNat) = (-1)) → Ev (am_kz N X) ((d + 1), 26, 7, [some (.inr (.inr 86)), some (.inl x1), some (.inl (w32 (x2 + 1)))], [], (am_sh, am_mm U)) R))) : Ev (am_kz N X) ((d + 1), 26, 7, [some (.inr (.inr 86)), some (.inl x1), some (.inl x2)], [], (am_sh, am_mm U)) R := by
  refine ev_seg (σ1 := ((d + 1), 26, 13, [some (.inr (.inr 86)), some (.inl x1), some (.inl x2)], [.inl 0, .inr (.inr 122), .inl x2], (am_sh, am_mm U))) 4 (fun _ => rfl) ?_
  refine eu_iald 122 (n := 22) rfl (by decide) rfl (fun _ => rfl) (by decide) ?_
  show Ev (am_kz N X) ((d + 1), 26, 14, [some (.inr (.inr 86)), some (.inl x1), some (.inl x2)], [.inl (U 122 0), .inl x2], (am_sh, am_mm U)) R
  refine ev_br (P := (U 122 0) ≤ x2) (σ1 := ((d + 1), 26, 56, [some (.inr (.inr 86)), some (.inl x1), some (.inl x2)], [], (am_sh, am_mm U))) (σ2 := ((d + 1), 26, 17, [some (.inr (.inr 86)), some (.inl x1), some (.inl x2)], [], (am_sh, am_mm U))) 1 (fun _ => rfl) (fun hc => ?_) (fun hc => ?_)
  · have h1 := h.1 hc
    refine ev_br (P := x1 = (-1)) (σ1 := ((d + 1), 26, 79, [some (.inr (.inr 86)), some (.inl x1), some (.inl x2)], [], (am_sh, am_mm U))) (σ2 := ((d + 1), 26, 61, [some (.inr (.inr 86)), some (.inl x1), some (.inl x2)], [], (am_sh, am_mm U))) 3 (fun _ => rfl) (fun hc => ?_) (fun hc => ?_)
    · have h11 := h1.1 hc
      refine ev_br (P := (U 86 70) ≤ 3) (σ1 := ((d + 1), 26, 89, [some (.inr (.inr 86)), some (.inl x1), some (.inl x2)], [], (am_sh, am_mm U))) (σ2 := ((d + 1), 26, 87, [some (.inr (.inr 86)), some (.inl x1), some (.inl x2)], [], (am_sh, am_mm U))) 4 (fun _ => rfl) (fun hc => ?_) (fun hc => ?_)
      · have h111 := h11.1 hc
        refine ev_seg (σ1 := ((d + 1), 26, 90, [some (.inr (.inr 86)), some (.inl x1), some (.inl x2)], [.inr (.inr 86)], (am_sh, am_mm U))) 1 (fun _ => rfl) ?_
        obtain ⟨r1, U1, h111c, h111a⟩ := h111
        refine ev_cal (σc := (d, 132, 0, [some (.inr (.inr 86)), none, none, none, none, none, none, none], [], (am_sh, am_mm U))) (fun _ => rfl) h111c ?_
        show Ev (am_kz N X) ((d + 1), 26, 93, [some (.inr (.inr 86)), some (.inl x1), some (.inl x2)], [.inl r1], (am_sh, am_mm U1)) R
        refine ev_br (P := r1 = (-1)) (σ1 := ((d + 1), 26, 104, [some (.inr (.inr 86)), some (.inl x1), some (.inl r1)], [], (am_sh, am_mm U1))) (σ2 := ((d + 1), 26, 99, [some (.inr (.inr 86)), some (.inl x1), some (.inl r1)], [], (am_sh, am_mm U1))) 4 (fun _ => rfl) (fun hc => ?_) (fun hc => ?_)
        · have h111a1 := h111a.1 hc
          subst h111a1
          exact ev_end 2 (fun _ => rfl)
        · have h111a2 := h111a.2 hc
          refine ev_br (P := ¬ x1 = (-1)) (σ1 := ((d + 1), 26, 106, [some (.inr (.inr 86)), some (.inl x1), some (.inl r1)], [], (am_sh, am_mm U1))) (σ2 := ((d + 1), 26, 104, [some (.inr (.inr 86)), some (.inl x1), some (.inl r1)], [], (am_sh, am_mm U1))) 3 (fun _ => rfl) (fun hc => ?_) (fun hc => ?_)
          · have h111a21 := h111a2.1 hc
            refine ev_seg (σ1 := ((d + 1), 26, 111, [some (.inr (.inr 86)), some (.inl x1), some (.inl r1)], [.inl x1, .inr (.inr 127)], (am_sh, am_mm U1))) 3 (fun _ => rfl) ?_
            refine eu_iald 127 (n := 16) rfl (by decide) rfl (fun _ => rfl) h111a21.1 ?_
            have h111a21a := h111a21.2
            refine ev_br (P := ¬ (U1 127 x1.toNat) = (-1)) (σ1 := ((d + 1), 26, 121, [some (.inr (.inr 86)), some (.inl x1), some (.inl r1)], [], (am_sh, am_mm U1))) (σ2 := ((d + 1), 26, 116, [some (.inr (.inr 86)), some (.inl x1), some (.inl r1)], [], (am_sh, am_mm U1))) 2 (fun _ => rfl) (fun hc => ?_) (fun hc => ?_)
            · have h111a21a1 := h111a21a.1 hc
              refine ev_seg (σ1 := ((d + 1), 26, 126, [some (.inr (.inr 86)), some (.inl x1), some (.inl r1)], [.inl x1, .inr (.inr 127)], (am_sh, am_mm U1))) 3 (fun _ => rfl) ?_
              refine eu_iald 127 (n := 16) rfl (by decide) rfl (fun _ => rfl) h111a21a1.1 ?_
              have h111a21a1a := h111a21a1.2
              subst h111a21a1a
              exact ev_end 1 (fun _ => rfl)
            · have h111a21a2 := h111a21a.2 hc
              subst h111a21a2
              exact ev_end 3 (fun _ => rfl)
          · have h111a22 := h111a2.2 hc
            subst h111a22
            exact ev_end 2 (fun _ => rfl)
      · have h112 := h11.2 hc
        subst h112
        exact ev_end 2 (fun _ => rfl)
    · have h12 := h1.2 hc
      refine ev_seg (σ1 := ((d + 1), 26, 63, [some (.inr (.inr 86)), some (.inl x1), some (.inl x2)], [.inl x1, .inr (.inr 86)], (am_sh, am_mm U))) 2 (fun _ => rfl) ?_
      obtain ⟨r2, U2, h12c, h12a⟩ := h12
      refine ev_cal (σc := (d, 115, 0, [some (.inr (.inr 86)), some (.inl x1)], [], (am_sh, am_mm U))) (fun _ => rfl) h12c ?_
      show Ev (am_kz N X) ((d + 1), 26, 66, [some (.inr (.inr 86)), some (.inl x1), some (.inl x2)], [.inl r2], (am_sh, am_mm U2)) R
      refine ev_br (P := r2 = 0) (σ1 := ((d + 1), 26, 87, [some (.inr (.inr 86)), some (.inl x1), some (.inl x2)], [], (am_sh, am_mm U2))) (σ2 := ((d + 1), 26, 69, [some (.inr (.inr 86)), some (.inl x1), some (.inl x2)], [], (am_sh, am_mm U2))) 1 (fun _ => rfl) (fun hc => ?_) (fun hc => ?_)
      · have h12a1 := h12a.1 hc
        subst h12a1
        exact ev_end 2 (fun _ => rfl)
      · have h12a2 := h12a.2 hc
        refine ev_seg (σ1 := ((d + 1), 26, 74, [some (.inr (.inr 86)), some (.inl x1), some (.inl x2)], [.inl x1, .inr (.inr 124)], (am_sh, am_mm U2))) 3 (fun _ => rfl) ?_
        refine eu_iald 124 (n := 352) rfl (by decide) rfl (fun _ => rfl) h12a2.1 ?_
        have h12a2a := h12a2.2
        refine ev_br (P := ¬ (U2 124 x1.toNat) = (-1)) (σ1 := ((d + 1), 26, 87, [some (.inr (.inr 86)), some (.inl x1), some (.inl x2)], [], (am_sh, am_mm U2))) (σ2 := ((d + 1), 26, 79, [some (.inr (.inr 86)), some (.inl x1), some (.inl x2)], [], (am_sh, am_mm U2))) 2 (fun _ => rfl) (fun hc => ?_) (fun hc => ?_)
        · have h12a2a1 := h12a2a.1 hc
          subst h12a2a1
          exact ev_end 2 (fun _ => rfl)
        · have h12a2a2 := h12a2a.2 hc
          refine ev_br (P := (U2 86 70) ≤ 3) (σ1 := ((d + 1), 26, 89, [some (.inr (.inr 86)), some (.inl x1), some (.inl x2)], [], (am_sh, am_mm U2))) (σ2 := ((d + 1), 26, 87, [some (.inr (.inr 86)), some (.inl x1), some (.inl x2)], [], (am_sh, am_mm U2))) 4 (fun _ => rfl) (fun hc => ?_) (fun hc => ?_)
          · have h12a2a21 := h12a2a2.1 hc
            refine ev_seg (σ1 := ((d + 1), 26, 90, [some (.inr (.inr 86)), some (.inl x1), some (.inl x2)], [.inr (.inr 86)], (am_sh, am_mm U2))) 1 (fun _ => rfl) ?_
            obtain ⟨r3, U3, h12a2a21c, h12a2a21a⟩ := h12a2a21
            refine ev_cal (σc := (d, 132, 0, [some (.inr (.inr 86)), none, none, none, none, none, none, none], [], (am_sh, am_mm U2))) (fun _ => rfl) h12a2a21c ?_
            show Ev (am_kz N X) ((d + 1), 26, 93, [some (.inr (.inr 86)), some (.inl x1), some (.inl x2)], [.inl r3], (am_sh, am_mm U3)) R
            refine ev_br (P := r3 = (-1)) (σ1 := ((d + 1), 26, 104, [some (.inr (.inr 86)), some (.inl x1), some (.inl r3)], [], (am_sh, am_mm U3))) (σ2 := ((d + 1), 26, 99, [some (.inr (.inr 86)), some (.inl x1), some (.inl r3)], [], (am_sh, am_mm U3))) 4 (fun _ => rfl) (fun hc => ?_) (fun hc => ?_)
            · have h12a2a21a1 := h12a2a21a.1 hc
              subst h12a2a21a1
              exact ev_end 2 (fun _ => rfl)
            · have h12a2a21a2 := h12a2a21a.2 hc
              refine ev_br (P := ¬ x1 = (-1)) (σ1 := ((d + 1), 26, 106, [some (.inr (.inr 86)), some (.inl x1), some (.inl r3)], [], (am_sh, am_mm U3))) (σ2 := ((d + 1), 26, 104, [some (.inr (.inr 86)), some (.inl x1), some (.inl r3)], [], (am_sh, am_mm U3))) 3 (fun _ => rfl) (fun hc => ?_) (fun hc => ?_)
              · have h12a2a21a21 := h12a2a21a2.1 hc
                refine ev_seg (σ1 := ((d + 1), 26, 111, [some (.inr (.inr 86)), some (.inl x1), some (.inl r3)], [.inl x1, .inr (.inr 127)], (am_sh, am_mm U3))) 3 (fun _ => rfl) ?_
                refine eu_iald 127 (n := 16) rfl (by decide) rfl (fun _ => rfl) h12a2a21a21.1 ?_
                have h12a2a21a21a := h12a2a21a21.2
                refine ev_br (P := ¬ (U3 127 x1.toNat) = (-1)) (σ1 := ((d + 1), 26, 121, [some (.inr (.inr 86)), some (.inl x1), some (.inl r3)], [], (am_sh, am_mm U3))) (σ2 := ((d + 1), 26, 116, [some (.inr (.inr 86)), some (.inl x1), some (.inl r3)], [], (am_sh, am_mm U3))) 2 (fun _ => rfl) (fun hc => ?_) (fun hc => ?_)
                · have h12a2a21a21a1 := h12a2a21a21a.1 hc
                  refine ev_seg (σ1 := ((d + 1), 26, 126, [some (.inr (.inr 86)), some (.inl x1), some (.inl r3)], [.inl x1, .inr (.inr 127)], (am_sh, am_mm U3))) 3 (fun _ => rfl) ?_
                  refine eu_iald 127 (n := 16) rfl (by decide) rfl (fun _ => rfl) h12a2a21a21a1.1 ?_
                  have h12a2a21a21a1a := h12a2a21a21a1.2
                  subst h12a2a21a21a1a
                  exact ev_end 1 (fun _ => rfl)
                · have h12a2a21a21a2 := h12a2a21a21a.2 hc
                  subst h12a2a21a21a2
                  exact ev_end 3 (fun _ => rfl)
              · have h12a2a21a22 := h12a2a21a2.2 hc
                subst h12a2a21a22
                exact ev_end 2 (fun _ => rfl)
          · have h12a2a22 := h12a2a2.2 hc
            subst h12a2a22
            exact ev_end 2 (fun _ => rfl)
  · have h2 := h.2 hc
    refine ev_seg (σ1 := ((d + 1), 26, 22, [some (.inr (.inr 86)), some (.inl x1), some (.inl x2)], [.inl x2, .inr (.inr 124)], (am_sh, am_mm U))) 3 (fun _ => rfl) ?_
    refine eu_iald 124 (n := 352) rfl (by decide) rfl (fun _ => rfl) h2.1 ?_
    have h2a := h2.2
    refine ev_br (P := (U 124 x2.toNat) = (-1)) (σ1 := ((d + 1), 26, 30, [some (.inr (.inr 86)), some (.inl x1), some (.inl x2)], [], (am_sh, am_mm U))) (σ2 := ((d + 1), 26, 27, [some (.inr (.inr 86)), some (.inl x1), some (.inl x2)], [], (am_sh, am_mm U))) 2 (fun _ => rfl) (fun hc => ?_) (fun hc => ?_)
    · have h2a1 := h2a.1 hc
      refine ev_seg (σ1 := ((d + 1), 26, 39, [some (.inr (.inr 86)), some (.inl x1), some (.inl x2)], [.inl x2, .inl (U 86 70), .inr (.inr 126)], (am_sh, am_mm U))) 5 (fun _ => rfl) ?_
      refine eu_iast 126 (n := 16) rfl (by decide) rfl (fun _ => rfl) h2a1.1 ?_
      have h2a1a := h2a1.2
      refine ev_seg (σ1 := ((d + 1), 26, 47, [some (.inr (.inr 86)), some (.inl x1), some (.inl x2)], [.inl (w32 (((am_upd U 126 (U 86 70).toNat x2) 86 70) + 1)), .inr (.inr 86)], (am_sh, am_mm (am_upd U 126 (U 86 70).toNat x2)))) 5 (fun _ => rfl) ?_
      refine eu_puti 86 (n := 90) rfl (by decide) rfl rfl ?_
      refine ev_seg (σ1 := ((d + 1), 26, 7, [some (.inr (.inr 86)), some (.inl x1), some (.inl (w32 (x2 + 1)))], [], (am_sh, am_mm (am_upd (am_upd U 126 (U 86 70).toNat x2) 86 70 (w32 (((am_upd U 126 (U 86 70).toNat x2) 86 70) + 1)))))) 2 (fun _ => rfl) ?_
      exact h2a1a
    · have h2a2 := h2a.2 hc
      refine ev_seg (σ1 := ((d + 1), 26, 7, [some (.inr (.inr 86)), some (.inl x1), some (.inl (w32 (x2 + 1)))], [], (am_sh, am_mm U))) 3 (fun _ => rfl) ?_
      exact h2a2
set_option maxRecDepth 8000 in
theorem st27_1_0 (N : Nat) (X : Nat → Int) (d : Nat) (x1 x2 x3 : Int) (U : Nat → Nat → Int) (R : Option am_V × am_M) (h : ∃ (r1 : Int) (U1 : Nat → Nat → Int), Ev (am_kz N X) (d, 114, 0, [some (.inr (.inr 1)), some (.inl x2)], [], (am_sh, am_mm U)) (some (.inl r1), (am_sh, am_mm U1)) ∧ (((r1 = 0 : Prop)) → R = (some (.inl (-1)), (am_sh, am_mm U1))) ∧ (¬ (r1 = 0) → ∃ (r2 : Int) (U2 : Nat → Nat → Int), Ev (am_kz N X) (d, 114, 0, [some (.inr (.inr 1)), some (.inl x3)], [], (am_sh, am_mm U1)) (some (.inl r2), (am_sh, am_mm U2)) ∧ (((r2 = 0 : Prop)) → R = (some (.inl (-1)), (am_sh, am_mm U2))) ∧ (¬ (r2 = 0) → ∃ (r3 : Int) (U3 : Nat → Nat → Int), Ev (am_kz N X) (d, 133, 0, [some (.inr (.inr 3)), some (.inl x1)], [], (am_sh, am_mm U2)) (some (.inl r3), (am_sh, am_mm U3)) ∧ (((¬ r3 = 0 : Prop)) → (0 ≤ x3 ∧ x3 < 16) ∧ ∃ (r4 : Int) (U4 : Nat → Nat → Int), Ev (am_kz N X) (d, 134, 0, [some (.inr (.inr 45)), some (.inl x1), some (.inl x2), some (.inl (U3 17 x3.toNat)), none, none, none, none, none], [], (am_sh, am_mm U3)) (some (.inl r4), (am_sh, am_mm U4)) ∧ (((r4 = 0 : Prop)) → R = (some (.inl 0), (am_sh, am_mm U4))) ∧ (¬ (r4 = 0) → R = (some (.inl 1), (am_sh, am_mm U4)))) ∧ (¬ (¬ r3 = 0) → R = (some (.inl (-1)), (am_sh, am_mm U3)))))) : Ev (am_kz N X) ((d + 1), 27, 0, [some (.inr (.inr 1)), some (.inl x1), some (.inl x2), some (.inl x3)], [], (am_sh, am_mm U)) R := by
  refine ev_seg (σ1 := ((d + 1), 27, 2, [some (.inr (.inr 1)), some (.inl x1), some (.inl x2), some (.inl x3)], [.inl x2, .inr (.inr 1)], (am_sh, am_mm U))) 2 (fun _ => rfl) ?_
  obtain ⟨r1, U1, hc, ha⟩ := h
  refine ev_cal (σc := (d, 114, 0, [some (.inr (.inr 1)), some (.inl x2)], [], (am_sh, am_mm U))) (fun _ => rfl) hc ?_
  show Ev (am_kz N X) ((d + 1), 27, 5, [some (.inr (.inr 1)), some (.inl x1), some (.inl x2), some (.inl x3)], [.inl r1], (am_sh, am_mm U1)) R
  refine ev_br (P := r1 = 0) (σ1 := ((d + 1), 27, 27, [some (.inr (.inr 1)), some (.inl x1), some (.inl x2), some (.inl x3)], [], (am_sh, am_mm U1))) (σ2 := ((d + 1), 27, 8, [some (.inr (.inr 1)), some (.inl x1), some (.inl x2), some (.inl x3)], [], (am_sh, am_mm U1))) 1 (fun _ => rfl) (fun hc => ?_) (fun hc => ?_)
  · have ha1 := ha.1 hc
    subst ha1
    exact ev_end 2 (fun _ => rfl)
  · have ha2 := ha.2 hc
    refine ev_seg (σ1 := ((d + 1), 27, 10, [some (.inr (.inr 1)), some (.inl x1), some (.inl x2), some (.inl x3)], [.inl x3, .inr (.inr 1)], (am_sh, am_mm U1))) 2 (fun _ => rfl) ?_
    obtain ⟨r2, U2, ha2c, ha2a⟩ := ha2
    refine ev_cal (σc := (d, 114, 0, [some (.inr (.inr 1)), some (.inl x3)], [], (am_sh, am_mm U1))) (fun _ => rfl) ha2c ?_
    show Ev (am_kz N X) ((d + 1), 27, 13, [some (.inr (.inr 1)), some (.inl x1), some (.inl x2), some (.inl x3)], [.inl r2], (am_sh, am_mm U2)) R
    refine ev_br (P := r2 = 0) (σ1 := ((d + 1), 27, 27, [some (.inr (.inr 1)), some (.inl x1), some (.inl x2), some (.inl x3)], [], (am_sh, am_mm U2))) (σ2 := ((d + 1), 27, 16, [some (.inr (.inr 1)), some (.inl x1), some (.inl x2), some (.inl x3)], [], (am_sh, am_mm U2))) 1 (fun _ => rfl) (fun hc => ?_) (fun hc => ?_)
    · have ha2a1 := ha2a.1 hc
      subst ha2a1
      exact ev_end 2 (fun _ => rfl)
    · have ha2a2 := ha2a.2 hc
      refine ev_seg (σ1 := ((d + 1), 27, 21, [some (.inr (.inr 1)), some (.inl x1), some (.inl x2), some (.inl x3)], [.inl x1, .inr (.inr 3)], (am_sh, am_mm U2))) 3 (fun _ => rfl) ?_
      obtain ⟨r3, U3, ha2a2c, ha2a2a⟩ := ha2a2
      refine ev_cal (σc := (d, 133, 0, [some (.inr (.inr 3)), some (.inl x1)], [], (am_sh, am_mm U2))) (fun _ => rfl) ha2a2c ?_
      show Ev (am_kz N X) ((d + 1), 27, 24, [some (.inr (.inr 1)), some (.inl x1), some (.inl x2), some (.inl x3)], [.inl r3], (am_sh, am_mm U3)) R
      refine ev_br (P := ¬ r3 = 0) (σ1 := ((d + 1), 27, 29, [some (.inr (.inr 1)), some (.inl x1), some (.inl x2), some (.inl x3)], [], (am_sh, am_mm U3))) (σ2 := ((d + 1), 27, 27, [some (.inr (.inr 1)), some (.inl x1), some (.inl x2), some (.inl x3)], [], (am_sh, am_mm U3))) 1 (fun _ => rfl) (fun hc => ?_) (fun hc => ?_)
      · have ha2a2a1 := ha2a2a.1 hc
        refine ev_seg (σ1 := ((d + 1), 27, 43, [some (.inr (.inr 1)), some (.inl x1), some (.inl x2), some (.inl x3)], [.inl x3, .inr (.inr 17), .inl x2, .inl x1, .inr (.inr 45)], (am_sh, am_mm U3))) 8 (fun _ => rfl) ?_
        refine eu_iald 17 (n := 16) rfl (by decide) rfl (fun _ => rfl) ha2a2a1.1 ?_
        have ha2a2a1a := ha2a2a1.2
        obtain ⟨r4, U4, ha2a2a1ac, ha2a2a1aa⟩ := ha2a2a1a
        refine ev_cal (σc := (d, 134, 0, [some (.inr (.inr 45)), some (.inl x1), some (.inl x2), some (.inl (U3 17 x3.toNat)), none, none, none, none, none], [], (am_sh, am_mm U3))) (fun _ => rfl) ha2a2a1ac ?_
        show Ev (am_kz N X) ((d + 1), 27, 47, [some (.inr (.inr 1)), some (.inl x1), some (.inl x2), some (.inl x3)], [.inl r4], (am_sh, am_mm U4)) R
        refine ev_br (P := r4 = 0) (σ1 := ((d + 1), 27, 54, [some (.inr (.inr 1)), some (.inl x1), some (.inl x2), some (.inl x3)], [], (am_sh, am_mm U4))) (σ2 := ((d + 1), 27, 50, [some (.inr (.inr 1)), some (.inl x1), some (.inl x2), some (.inl x3)], [], (am_sh, am_mm U4))) 1 (fun _ => rfl) (fun hc => ?_) (fun hc => ?_)
        · have ha2a2a1aa1 := ha2a2a1aa.1 hc
          subst ha2a2a1aa1
          exact ev_end 2 (fun _ => rfl)
        · have ha2a2a1aa2 := ha2a2a1aa.2 hc
          subst ha2a2a1aa2
          exact ev_end 3 (fun _ => rfl)
      · have ha2a2a2 := ha2a2a.2 hc
        subst ha2a2a2
        exact ev_end 2 (fun _ => rfl)
set_option maxRecDepth 8000 in
theorem st28_86_0 (N : Nat) (X : Nat → Int) (d : Nat) (x1 x2 x3 : Int) (U : Nat → Nat → Int) (R : Option am_V × am_M) (h : ∃ (r1 : Int) (U1 : Nat → Nat → Int), Ev (am_kz N X) (d, 115, 0, [some (.inr (.inr 86)), some (.inl x2)], [], (am_sh, am_mm U)) (some (.inl r1), (am_sh, am_mm U1)) ∧ (((r1 = 0 : Prop)) → R = (some (.inl (-1)), (am_sh, am_mm U1))) ∧ (¬ (r1 = 0) → ∃ (r2 : Int) (U2 : Nat → Nat → Int), Ev (am_kz N X) (d, 115, 0, [some (.inr (.inr 86)), some (.inl x3)], [], (am_sh, am_mm U1)) (some (.inl r2), (am_sh, am_mm U2)) ∧ (((¬ r2 = 0 : Prop)) → (((¬ x1 = 8 : Prop)) → (0 ≤ (U2 86 13) ∧ (U2 86 13) < 2) ∧ ∃ (r3 : Int) (U3 : Nat → Nat → Int), Ev (am_kz N X) (d, 103, 0, [some (.inl x1), some (.inl 0), some (.inl (w32 ((U2 100 (U2 86 13).toNat) - 1)))], [], (am_sh, am_mm U2)) (some (.inl r3), (am_sh, am_mm U3)) ∧ (((¬ r3 = 0 : Prop)) → (0 ≤ x3 ∧ x3 < 352) ∧ ∃ (r4 : Int) (U4 : Nat → Nat → Int), Ev (am_kz N X) (d, 136, 0, [some (.inr (.inr 86)), some (.inl 0), some (.inl x1), some (.inl x2), some (.inr (.inl (U3 123 x3.toNat))), none], [], (am_sh, am_mm U3)) (some (.inl r4), (am_sh, am_mm U4)) ∧ (((r4 = 0 : Prop)) → R = (some (.inl 0), (am_sh, am_mm U4))) ∧ (¬ (r4 = 0) → R = (some (.inl 1), (am_sh, am_mm U4)))) ∧ (¬ (¬ r3 = 0) → R = (some (.inl (-1)), (am_sh, am_mm U3)))) ∧ (¬ (¬ x1 = 8) → (0 ≤ (U2 86 13) ∧ (U2 86 13) < 2) ∧ (((¬ (U2 104 (U2 86 13).toNat) = (-1) : Prop)) → (0 ≤ x3 ∧ x3 < 352) ∧ (0 ≤ (U2 86 13) ∧ (U2 86 13) < 2) ∧ (0 ≤ (U2 86 13) ∧ (U2 86 13) < 2) ∧ ∃ (r5 : Int) (U5 : Nat → Nat → Int), Ev (am_kz N X) (d, 135, 0, [some (.inr (.inr 86)), some (.inl 0), some (.inl x2), some (.inr (.inl (U2 123 x3.toNat))), none, some (.inl (U2 104 (U2 86 13).toNat)), some (.inl (U2 105 (U2 86 13).toNat))], [], (am_sh, am_mm U2)) (some (.inl r5), (am_sh, am_mm U5)) ∧ (((r5 = 0 : Prop)) → R = (some (.inl 0), (am_sh, am_mm U5))) ∧ (¬ (r5 = 0) → R = (some (.inl 1), (am_sh, am_mm U5)))) ∧ (¬ (¬ (U2 104 (U2 86 13).toNat) = (-1)) → R = (some (.inl (-1)), (am_sh, am_mm U2))))) ∧ (¬ (¬ r2 = 0) → R = (some (.inl (-1)), (am_sh, am_mm U2))))) : Ev (am_kz N X) ((d + 1), 28, 0, [some (.inr (.inr 86)), some (.inl x1), some (.inl x2), some (.inl x3)], [], (am_sh, am_mm U)) R := by
  refine ev_seg (σ1 := ((d + 1), 28, 2, [some (.inr (.inr 86)), some (.inl x1), some (.inl x2), some (.inl x3)], [.inl x2, .inr (.inr 86)], (am_sh, am_mm U))) 2 (fun _ => rfl) ?_
  obtain ⟨r1, U1, hc, ha⟩ := h
  refine ev_cal (σc := (d, 115, 0, [some (.inr (.inr 86)), some (.inl x2)], [], (am_sh, am_mm U))) (fun _ => rfl) hc ?_
  show Ev (am_kz N X) ((d + 1), 28, 5, [some (.inr (.inr 86)), some (.inl x1), some (.inl x2), some (.inl x3)], [.inl r1], (am_sh, am_mm U1)) R
  refine ev_br (P := r1 = 0) (σ1 := ((d + 1), 28, 16, [some (.inr (.inr 86)), some (.inl x1), some (.inl x2), some (.inl x3)], [], (am_sh, am_mm U1))) (σ2 := ((d + 1), 28, 8, [some (.inr (.inr 86)), some (.inl x1), some (.inl x2), some (.inl x3)], [], (am_sh, am_mm U1))) 1 (fun _ => rfl) (fun hc => ?_) (fun hc => ?_)
  · have ha1 := ha.1 hc
    subst ha1
    exact ev_end 2 (fun _ => rfl)
  · have ha2 := ha.2 hc
    refine ev_seg (σ1 := ((d + 1), 28, 10, [some (.inr (.inr 86)), some (.inl x1), some (.inl x2), some (.inl x3)], [.inl x3, .inr (.inr 86)], (am_sh, am_mm U1))) 2 (fun _ => rfl) ?_
    obtain ⟨r2, U2, ha2c, ha2a⟩ := ha2
    refine ev_cal (σc := (d, 115, 0, [some (.inr (.inr 86)), some (.inl x3)], [], (am_sh, am_mm U1))) (fun _ => rfl) ha2c ?_
    show Ev (am_kz N X) ((d + 1), 28, 13, [some (.inr (.inr 86)), some (.inl x1), some (.inl x2), some (.inl x3)], [.inl r2], (am_sh, am_mm U2)) R
    refine ev_br (P := ¬ r2 = 0) (σ1 := ((d + 1), 28, 18, [some (.inr (.inr 86)), some (.inl x1), some (.inl x2), some (.inl x3)], [], (am_sh, am_mm U2))) (σ2 := ((d + 1), 28, 16, [some (.inr (.inr 86)), some (.inl x1), some (.inl x2), some (.inl x3)], [], (am_sh, am_mm U2))) 1 (fun _ => rfl) (fun hc => ?_) (fun hc => ?_)
    · have ha2a1 := ha2a.1 hc
      refine ev_br (P := ¬ x1 = 8) (σ1 := ((d + 1), 28, 81, [some (.inr (.inr 86)), some (.inl x1), some (.inl x2), some (.inl x3)], [], (am_sh, am_mm U2))) (σ2 := ((d + 1), 28, 24, [some (.inr (.inr 86)), some (.inl x1), some (.inl x2), some (.inl x3)], [], (am_sh, am_mm U2))) 3 (fun _ => rfl) (fun hc => ?_) (fun hc => ?_)
      · have ha2a11 := ha2a1.1 hc
        refine ev_seg (σ1 := ((d + 1), 28, 91, [some (.inr (.inr 86)), some (.inl x1), some (.inl x2), some (.inl x3)], [.inl (U2 86 13), .inr (.inr 100), .inl 0, .inl x1], (am_sh, am_mm U2))) 6 (fun _ => rfl) ?_
        refine eu_iald 100 (n := 2) rfl (by decide) rfl (fun _ => rfl) ha2a11.1 ?_
        have ha2a11a := ha2a11.2
        refine ev_seg (σ1 := ((d + 1), 28, 94, [some (.inr (.inr 86)), some (.inl x1), some (.inl x2), some (.inl x3)], [.inl (w32 ((U2 100 (U2 86 13).toNat) - 1)), .inl 0, .inl x1], (am_sh, am_mm U2))) 2 (fun _ => rfl) ?_
        obtain ⟨r3, U3, ha2a11ac, ha2a11aa⟩ := ha2a11a
        refine ev_cal (σc := (d, 103, 0, [some (.inl x1), some (.inl 0), some (.inl (w32 ((U2 100 (U2 86 13).toNat) - 1)))], [], (am_sh, am_mm U2))) (fun _ => rfl) ha2a11ac ?_
        show Ev (am_kz N X) ((d + 1), 28, 97, [some (.inr (.inr 86)), some (.inl x1), some (.inl x2), some (.inl x3)], [.inl r3], (am_sh, am_mm U3)) R
        refine ev_br (P := ¬ r3 = 0) (σ1 := ((d + 1), 28, 104, [some (.inr (.inr 86)), some (.inl x1), some (.inl x2), some (.inl x3)], [], (am_sh, am_mm U3))) (σ2 := ((d + 1), 28, 100, [some (.inr (.inr 86)), some (.inl x1), some (.inl x2), some (.inl x3)], [], (am_sh, am_mm U3))) 1 (fun _ => rfl) (fun hc => ?_) (fun hc => ?_)
        · have ha2a11aa1 := ha2a11aa.1 hc
          refine ev_seg (σ1 := ((d + 1), 28, 113, [some (.inr (.inr 86)), some (.inl x1), some (.inl x2), some (.inl x3)], [.inl x3, .inr (.inr 123), .inl x2, .inl x1, .inl 0, .inr (.inr 86)], (am_sh, am_mm U3))) 7 (fun _ => rfl) ?_
          refine eu_iald 123 (n := 352) rfl (by decide) rfl (fun _ => rfl) ha2a11aa1.1 ?_
          have ha2a11aa1a := ha2a11aa1.2
          refine ev_seg (σ1 := ((d + 1), 28, 115, [some (.inr (.inr 86)), some (.inl x1), some (.inl x2), some (.inl x3)], [.inr (.inl (U3 123 x3.toNat)), .inl x2, .inl x1, .inl 0, .inr (.inr 86)], (am_sh, am_mm U3))) 1 (fun _ => rfl) ?_
          obtain ⟨r4, U4, ha2a11aa1ac, ha2a11aa1aa⟩ := ha2a11aa1a
          refine ev_cal (σc := (d, 136, 0, [some (.inr (.inr 86)), some (.inl 0), some (.inl x1), some (.inl x2), some (.inr (.inl (U3 123 x3.toNat))), none], [], (am_sh, am_mm U3))) (fun _ => rfl) ha2a11aa1ac ?_
          show Ev (am_kz N X) ((d + 1), 28, 118, [some (.inr (.inr 86)), some (.inl x1), some (.inl x2), some (.inl x3)], [.inl r4], (am_sh, am_mm U4)) R
          refine ev_br (P := r4 = 0) (σ1 := ((d + 1), 28, 125, [some (.inr (.inr 86)), some (.inl x1), some (.inl x2), some (.inl x3)], [], (am_sh, am_mm U4))) (σ2 := ((d + 1), 28, 121, [some (.inr (.inr 86)), some (.inl x1), some (.inl x2), some (.inl x3)], [], (am_sh, am_mm U4))) 1 (fun _ => rfl) (fun hc => ?_) (fun hc => ?_)
          · have ha2a11aa1aa1 := ha2a11aa1aa.1 hc
            subst ha2a11aa1aa1
            exact ev_end 2 (fun _ => rfl)
          · have ha2a11aa1aa2 := ha2a11aa1aa.2 hc
            subst ha2a11aa1aa2
            exact ev_end 3 (fun _ => rfl)
        · have ha2a11aa2 := ha2a11aa.2 hc
          subst ha2a11aa2
          exact ev_end 3 (fun _ => rfl)
      · have ha2a12 := ha2a1.2 hc
        refine ev_seg (σ1 := ((d + 1), 28, 32, [some (.inr (.inr 86)), some (.inl x1), some (.inl x2), some (.inl x3)], [.inl (U2 86 13), .inr (.inr 104)], (am_sh, am_mm U2))) 4 (fun _ => rfl) ?_
        refine eu_iald 104 (n := 2) rfl (by decide) rfl (fun _ => rfl) ha2a12.1 ?_
        have ha2a12a := ha2a12.2
        refine ev_br (P := ¬ (U2 104 (U2 86 13).toNat) = (-1)) (σ1 := ((d + 1), 28, 41, [some (.inr (.inr 86)), some (.inl x1), some (.inl x2), some (.inl x3)], [], (am_sh, am_mm U2))) (σ2 := ((d + 1), 28, 37, [some (.inr (.inr 86)), some (.inl x1), some (.inl x2), some (.inl x3)], [], (am_sh, am_mm U2))) 2 (fun _ => rfl) (fun hc => ?_) (fun hc => ?_)
        · have ha2a12a1 := ha2a12a.1 hc
          refine ev_seg (σ1 := ((d + 1), 28, 49, [some (.inr (.inr 86)), some (.inl x1), some (.inl x2), some (.inl x3)], [.inl x3, .inr (.inr 123), .inl x2, .inl 0, .inr (.inr 86)], (am_sh, am_mm U2))) 6 (fun _ => rfl) ?_
          refine eu_iald 123 (n := 352) rfl (by decide) rfl (fun _ => rfl) ha2a12a1.1 ?_
          have ha2a12a1a := ha2a12a1.2
          refine ev_seg (σ1 := ((d + 1), 28, 59, [some (.inr (.inr 86)), some (.inl x1), some (.inl x2), some (.inl x3)], [.inl (U2 86 13), .inr (.inr 104), .inr (.inl (U2 123 x3.toNat)), .inl x2, .inl 0, .inr (.inr 86)], (am_sh, am_mm U2))) 5 (fun _ => rfl) ?_
          refine eu_iald 104 (n := 2) rfl (by decide) rfl (fun _ => rfl) ha2a12a1a.1 ?_
          have ha2a12a1aa := ha2a12a1a.2
          refine ev_seg (σ1 := ((d + 1), 28, 68, [some (.inr (.inr 86)), some (.inl x1), some (.inl x2), some (.inl x3)], [.inl (U2 86 13), .inr (.inr 105), .inl (U2 104 (U2 86 13).toNat), .inr (.inl (U2 123 x3.toNat)), .inl x2, .inl 0, .inr (.inr 86)], (am_sh, am_mm U2))) 4 (fun _ => rfl) ?_
          refine eu_iald 105 (n := 2) rfl (by decide) rfl (fun _ => rfl) ha2a12a1aa.1 ?_
          have ha2a12a1aaa := ha2a12a1aa.2
          obtain ⟨r5, U5, ha2a12a1aaac, ha2a12a1aaaa⟩ := ha2a12a1aaa
          refine ev_cal (σc := (d, 135, 0, [some (.inr (.inr 86)), some (.inl 0), some (.inl x2), some (.inr (.inl (U2 123 x3.toNat))), none, some (.inl (U2 104 (U2 86 13).toNat)), some (.inl (U2 105 (U2 86 13).toNat))], [], (am_sh, am_mm U2))) (fun _ => rfl) ha2a12a1aaac ?_
          show Ev (am_kz N X) ((d + 1), 28, 72, [some (.inr (.inr 86)), some (.inl x1), some (.inl x2), some (.inl x3)], [.inl r5], (am_sh, am_mm U5)) R
          refine ev_br (P := r5 = 0) (σ1 := ((d + 1), 28, 79, [some (.inr (.inr 86)), some (.inl x1), some (.inl x2), some (.inl x3)], [], (am_sh, am_mm U5))) (σ2 := ((d + 1), 28, 75, [some (.inr (.inr 86)), some (.inl x1), some (.inl x2), some (.inl x3)], [], (am_sh, am_mm U5))) 1 (fun _ => rfl) (fun hc => ?_) (fun hc => ?_)
          · have ha2a12a1aaaa1 := ha2a12a1aaaa.1 hc
            subst ha2a12a1aaaa1
            exact ev_end 2 (fun _ => rfl)
          · have ha2a12a1aaaa2 := ha2a12a1aaaa.2 hc
            subst ha2a12a1aaaa2
            exact ev_end 3 (fun _ => rfl)
        · have ha2a12a2 := ha2a12a.2 hc
          subst ha2a12a2
          exact ev_end 3 (fun _ => rfl)
    · have ha2a2 := ha2a.2 hc
      subst ha2a2
      exact ev_end 2 (fun _ => rfl)
set_option maxRecDepth 8000 in
theorem st29_1_0 (N : Nat) (X : Nat → Int) (d : Nat) (x1 x2 : Int) (U : Nat → Nat → Int) (R : Option am_V × am_M) (h : ∃ (r1 : Int) (U1 : Nat → Nat → Int), Ev (am_kz N X) (d, 114, 0, [some (.inr (.inr 1)), some (.inl x1)], [], (am_sh, am_mm U)) (some (.inl r1), (am_sh, am_mm U1)) ∧ (((r1 = 0 : Prop)) → ∃ (r2 : Int) (U2 : Nat → Nat → Int), Ev (am_kz N X) (d, 83, 0, [some (.inr (.inr 1)), some (.inl 2)], [], (am_sh, am_mm U1)) (some (.inl r2), (am_sh, am_mm U2)) ∧ (r2 = 0 ∨ r2 = 1) ∧ R = (some (.inl r2), (am_sh, am_mm U2))) ∧ (¬ (r1 = 0) → (((x2 = (-1) : Prop)) → (0 ≤ x1 ∧ x1 < 16) ∧ ((((U1 18 x1.toNat) = x2 : Prop)) → ∃ (r3 : Int) (U3 : Nat → Nat → Int), Ev (am_kz N X) (d, 83, 0, [some (.inr (.inr 1)), some (.inl 2)], [], (am_sh, am_mm U1)) (some (.inl r3), (am_sh, am_mm U3)) ∧ (r3 = 0 ∨ r3 = 1) ∧ R = (some (.inl r3), (am_sh, am_mm U3))) ∧ (¬ ((U1 18 x1.toNat) = x2) → (0 ≤ x1 ∧ x1 < 16) ∧ (((0 ≤ (U1 17 x1.toNat) : Prop)) → (((x2 = (-1) : Prop)) → ∃ U4 : Nat → Nat → Int, Ev (am_kz N X) (d, 137, 0, [some (.inr (.inr 56)), some (.inr (.inr 16))], [], (am_sh, am_mm U1)) (none, (am_sh, am_mm U4)) ∧ ∃ U5 : Nat → Nat → Int, Ev (am_kz N X) (d, 138, 0, [some (.inr (.inr 16)), some (.inl x1), some (.inl x2), none], [], (am_sh, am_mm U4)) (none, (am_sh, am_mm U5)) ∧ ∃ U6 : Nat → Nat → Int, Ev (am_kz N X) (d, 92, 0, [some (.inr (.inr 1))], [], (am_sh, am_mm U5)) (none, (am_sh, am_mm U6)) ∧ R = (some (.inl 1), (am_sh, am_mm U6))) ∧ (¬ (x2 = (-1)) → ∃ (r7 : Int) (U7 : Nat → Nat → Int), Ev (am_kz N X) (d, 106, 0, [some (.inr (.inr 16)), some (.inl x2)], [], (am_sh, am_mm U1)) (some (.inl r7), (am_sh, am_mm U7)) ∧ (0 ≤ x2 ∧ x2 < 12) ∧ (((r7 < (U7 8 x2.toNat) : Prop)) → ∃ U8 : Nat → Nat → Int, Ev (am_kz N X) (d, 137, 0, [some (.inr (.inr 56)), some (.inr (.inr 16))], [], (am_sh, am_mm U7)) (none, (am_sh, am_mm U8)) ∧ ∃ U9 : Nat → Nat → Int, Ev (am_kz N X) (d, 138, 0, [some (.inr (.inr 16)), some (.inl x1), some (.inl x2), none], [], (am_sh, am_mm U8)) (none, (am_sh, am_mm U9)) ∧ ∃ U10 : Nat → Nat → Int, Ev (am_kz N X) (d, 92, 0, [some (.inr (.inr 1))], [], (am_sh, am_mm U9)) (none, (am_sh, am_mm U10)) ∧ R = (some (.inl 1), (am_sh, am_mm U10))) ∧ (¬ (r7 < (U7 8 x2.toNat)) → ∃ (r11 : Int) (U11 : Nat → Nat → Int), Ev (am_kz N X) (d, 83, 0, [some (.inr (.inr 1)), some (.inl 2)], [], (am_sh, am_mm U7)) (some (.inl r11), (am_sh, am_mm U11)) ∧ (r11 = 0 ∨ r11 = 1) ∧ R = (some (.inl r11), (am_sh, am_mm U11))))) ∧ (¬ (0 ≤ (U1 17 x1.toNat)) → (((¬ (U1 16 2) = 0 : Prop)) → (((x2 = (-1) : Prop)) → ∃ U12 : Nat → Nat → Int, Ev (am_kz N X) (d, 137, 0, [some (.inr (.inr 56)), some (.inr (.inr 16))], [], (am_sh, am_mm U1)) (none, (am_sh, am_mm U12)) ∧ ∃ U13 : Nat → Nat → Int, Ev (am_kz N X) (d, 138, 0, [some (.inr (.inr 16)), some (.inl x1), some (.inl x2), none], [], (am_sh, am_mm U12)) (none, (am_sh, am_mm U13)) ∧ ∃ U14 : Nat → Nat → Int, Ev (am_kz N X) (d, 92, 0, [some (.inr (.inr 1))], [], (am_sh, am_mm U13)) (none, (am_sh, am_mm U14)) ∧ R = (some (.inl 1), (am_sh, am_mm U14))) ∧ (¬ (x2 = (-1)) → ∃ (r15 : Int) (U15 : Nat → Nat → Int), Ev (am_kz N X) (d, 106, 0, [some (.inr (.inr 16)), some (.inl x2)], [], (am_sh, am_mm U1)) (some (.inl r15), (am_sh, am_mm U15)) ∧ (0 ≤ x2 ∧ x2 < 12) ∧ (((r15 < (U15 8 x2.toNat) : Prop)) → ∃ U16 : Nat → Nat → Int, Ev (am_kz N X) (d, 137, 0, [some (.inr (.inr 56)), some (.inr (.inr 16))], [], (am_sh, am_mm U15)) (none, (am_sh, am_mm U16)) ∧ ∃ U17 : Nat → Nat → Int, Ev (am_kz N X) (d, 138, 0, [some (.inr (.inr 16)), some (.inl x1), some (.inl x2), none], [], (am_sh, am_mm U16)) (none, (am_sh, am_mm U17)) ∧ ∃ U18 : Nat → Nat → Int, Ev (am_kz N X) (d, 92, 0, [some (.inr (.inr 1))], [], (am_sh, am_mm U17)) (none, (am_sh, am_mm U18)) ∧ R = (some (.inl 1), (am_sh, am_mm U18))) ∧ (¬ (r15 < (U15 8 x2.toNat)) → ∃ (r19 : Int) (U19 : Nat → Nat → Int), Ev (am_kz N X) (d, 83, 0, [some (.inr (.inr 1)), some (.inl 2)], [], (am_sh, am_mm U15)) (some (.inl r19), (am_sh, am_mm U19)) ∧ (r19 = 0 ∨ r19 = 1) ∧ R = (some (.inl r19), (am_sh, am_mm U19))))) ∧ (¬ (¬ (U1 16 2) = 0) → ∃ (r20 : Int) (U20 : Nat → Nat → Int), Ev (am_kz N X) (d, 83, 0, [some (.inr (.inr 1)), some (.inl 2)], [], (am_sh, am_mm U1)) (some (.inl r20), (am_sh, am_mm U20)) ∧ (r20 = 0 ∨ r20 = 1) ∧ R = (some (.inl r20), (am_sh, am_mm U20)))))) ∧ (¬ (x2 = (-1)) → ∃ (r21 : Int) (U21 : Nat → Nat → Int), Ev (am_kz N X) (d, 102, 0, [some (.inr (.inr 1)), some (.inl x2)], [], (am_sh, am_mm U1)) (some (.inl r21), (am_sh, am_mm U21)) ∧ (((¬ r21 = 0 : Prop)) → (0 ≤ x1 ∧ x1 < 16) ∧ ((((U21 18 x1.toNat) = x2 : Prop)) → ∃ (r22 : Int) (U22 : Nat → Nat → Int), Ev (am_kz N X) (d, 83, 0, [some (.inr (.inr 1)), some (.inl 2)], [], (am_sh, am_mm U21)) (some (.inl r22), (am_sh, am_mm U22)) ∧ (r22 = 0 ∨ r22 = 1) ∧ R = (some (.inl r22), (am_sh, am_mm U22))) ∧ (¬ ((U21 18 x1.toNat) = x2) → (0 ≤ x1 ∧ x1 < 16) ∧ (((0 ≤ (U21 17 x1.toNat) : Prop)) → (((x2 = (-1) : Prop)) → ∃ U23 : Nat → Nat → Int, Ev (am_kz N X) (d, 137, 0, [some (.inr (.inr 56)), some (.inr (.inr 16))], [], (am_sh, am_mm U21)) (none, (am_sh, am_mm U23)) ∧ ∃ U24 : Nat → Nat → Int, Ev (am_kz N X) (d, 138, 0, [some (.inr (.inr 16)), some (.inl x1), some (.inl x2), none], [], (am_sh, am_mm U23)) (none, (am_sh, am_mm U24)) ∧ ∃ U25 : Nat → Nat → Int, Ev (am_kz N X) (d, 92, 0, [some (.inr (.inr 1))], [], (am_sh, am_mm U24)) (none, (am_sh, am_mm U25)) ∧ R = (some (.inl 1), (am_sh, am_mm U25))) ∧ (¬ (x2 = (-1)) → ∃ (r26 : Int) (U26 : Nat → Nat → Int), Ev (am_kz N X) (d, 106, 0, [some (.inr (.inr 16)), some (.inl x2)], [], (am_sh, am_mm U21)) (some (.inl r26), (am_sh, am_mm U26)) ∧ (0 ≤ x2 ∧ x2 < 12) ∧ (((r26 < (U26 8 x2.toNat) : Prop)) → ∃ U27 : Nat → Nat → Int, Ev (am_kz N X) (d, 137, 0, [some (.inr (.inr 56)), some (.inr (.inr 16))], [], (am_sh, am_mm U26)) (none, (am_sh, am_mm U27)) ∧ ∃ U28 : Nat → Nat → Int, Ev (am_kz N X) (d, 138, 0, [some (.inr (.inr 16)), some (.inl x1), some (.inl x2), none], [], (am_sh, am_mm U27)) (none, (am_sh, am_mm U28)) ∧ ∃ U29 : Nat → Nat → Int, Ev (am_kz N X) (d, 92, 0, [some (.inr (.inr 1))], [], (am_sh, am_mm U28)) (none, (am_sh, am_mm U29)) ∧ R = (some (.inl 1), (am_sh, am_mm U29))) ∧ (¬ (r26 < (U26 8 x2.toNat)) → ∃ (r30 : Int) (U30 : Nat → Nat → Int), Ev (am_kz N X) (d, 83, 0, [some (.inr (.inr 1)), some (.inl 2)], [], (am_sh, am_mm U26)) (some (.inl r30), (am_sh, am_mm U30)) ∧ (r30 = 0 ∨ r30 = 1) ∧ R = (some (.inl r30), (am_sh, am_mm U30))))) ∧ (¬ (0 ≤ (U21 17 x1.toNat)) → (((¬ (U21 16 2) = 0 : Prop)) → (((x2 = (-1) : Prop)) → ∃ U31 : Nat → Nat → Int, Ev (am_kz N X) (d, 137, 0, [some (.inr (.inr 56)), some (.inr (.inr 16))], [], (am_sh, am_mm U21)) (none, (am_sh, am_mm U31)) ∧ ∃ U32 : Nat → Nat → Int, Ev (am_kz N X) (d, 138, 0, [some (.inr (.inr 16)), some (.inl x1), some (.inl x2), none], [], (am_sh, am_mm U31)) (none, (am_sh, am_mm U32)) ∧ ∃ U33 : Nat → Nat → Int, Ev (am_kz N X) (d, 92, 0, [some (.inr (.inr 1))], [], (am_sh, am_mm U32)) (none, (am_sh, am_mm U33)) ∧ R = (some (.inl 1), (am_sh, am_mm U33))) ∧ (¬ (x2 = (-1)) → ∃ (r34 : Int) (U34 : Nat → Nat → Int), Ev (am_kz N X) (d, 106, 0, [some (.inr (.inr 16)), some (.inl x2)], [], (am_sh, am_mm U21)) (some (.inl r34), (am_sh, am_mm U34)) ∧ (0 ≤ x2 ∧ x2 < 12) ∧ (((r34 < (U34 8 x2.toNat) : Prop)) → ∃ U35 : Nat → Nat → Int, Ev (am_kz N X) (d, 137, 0, [some (.inr (.inr 56)), some (.inr (.inr 16))], [], (am_sh, am_mm U34)) (none, (am_sh, am_mm U35)) ∧ ∃ U36 : Nat → Nat → Int, Ev (am_kz N X) (d, 138, 0, [some (.inr (.inr 16)), some (.inl x1), some (.inl x2), none], [], (am_sh, am_mm U35)) (none, (am_sh, am_mm U36)) ∧ ∃ U37 : Nat → Nat → Int, Ev (am_kz N X) (d, 92, 0, [some (.inr (.inr 1))], [], (am_sh, am_mm U36)) (none, (am_sh, am_mm U37)) ∧ R = (some (.inl 1), (am_sh, am_mm U37))) ∧ (¬ (r34 < (U34 8 x2.toNat)) → ∃ (r38 : Int) (U38 : Nat → Nat → Int), Ev (am_kz N X) (d, 83, 0, [some (.inr (.inr 1)), some (.inl 2)], [], (am_sh, am_mm U34)) (some (.inl r38), (am_sh, am_mm U38)) ∧ (r38 = 0 ∨ r38 = 1) ∧ R = (some (.inl r38), (am_sh, am_mm U38))))) ∧ (¬ (¬ (U21 16 2) = 0) → ∃ (r39 : Int) (U39 : Nat → Nat → Int), Ev (am_kz N X) (d, 83, 0, [some (.inr (.inr 1)), some (.inl 2)], [], (am_sh, am_mm U21)) (some (.inl r39), (am_sh, am_mm U39)) ∧ (r39 = 0 ∨ r39 = 1) ∧ R = (some (.inl r39), (am_sh, am_mm U39)))))) ∧ (¬ (¬ r21 = 0) → ∃ (r40 : Int) (U40 : Nat → Nat → Int), Ev (am_kz N X) (d, 83, 0, [some (.inr (.inr 1)), some (.inl 2)], [], (am_sh, am_mm U21)) (some (.inl r40), (am_sh, am_mm U40)) ∧ (r40 = 0 ∨ r40 = 1) ∧ R = (some (.inl r40), (am_sh, am_mm U40)))))) : Ev (am_kz N X) ((d + 1), 29, 0, [some (.inr (.inr 1)), some (.inl x1), some (.inl x2)], [], (am_sh, am_mm U)) R := by
  refine ev_seg (σ1 := ((d + 1), 29, 2, [some (.inr (.inr 1)), some (.inl x1), some (.inl x2)], [.inl x1, .inr (.inr 1)], (am_sh, am_mm U))) 2 (fun _ => rfl) ?_
  obtain ⟨r1, U1, hc, ha⟩ := h
  refine ev_cal (σc := (d, 114, 0, [some (.inr (.inr 1)), some (.inl x1)], [], (am_sh, am_mm U))) (fun _ => rfl) hc ?_
  show Ev (am_kz N X) ((d + 1), 29, 5, [some (.inr (.inr 1)), some (.inl x1), some (.inl x2)], [.inl r1], (am_sh, am_mm U1)) R
  refine ev_br (P := r1 = 0) (σ1 := ((d + 1), 29, 21, [some (.inr (.inr 1)), some (.inl x1), some (.inl x2)], [], (am_sh, am_mm U1))) (σ2 := ((d + 1), 29, 8, [some (.inr (.inr 1)), some (.inl x1), some (.inl x2)], [], (am_sh, am_mm U1))) 1 (fun _ => rfl) (fun hc => ?_) (fun hc => ?_)
  · have ha1 := ha.1 hc
    refine ev_seg (σ1 := ((d + 1), 29, 23, [some (.inr (.inr 1)), some (.inl x1), some (.inl x2)], [.inl 2, .inr (.inr 1)], (am_sh, am_mm U1))) 2 (fun _ => rfl) ?_
    obtain ⟨r2, U2, ha1c, ha1a⟩ := ha1
    refine ev_cal (σc := (d, 83, 0, [some (.inr (.inr 1)), some (.inl 2)], [], (am_sh, am_mm U1))) (fun _ => rfl) ha1c ?_
    show Ev (am_kz N X) ((d + 1), 29, 26, [some (.inr (.inr 1)), some (.inl x1), some (.inl x2)], [.inl r2], (am_sh, am_mm U2)) R
    rw [ha1a.2]
    exact ev_retz rfl rfl ha1a.1
  · have ha2 := ha.2 hc
    refine ev_br (P := x2 = (-1)) (σ1 := ((d + 1), 29, 27, [some (.inr (.inr 1)), some (.inl x1), some (.inl x2)], [], (am_sh, am_mm U1))) (σ2 := ((d + 1), 29, 13, [some (.inr (.inr 1)), some (.inl x1), some (.inl x2)], [], (am_sh, am_mm U1))) 3 (fun _ => rfl) (fun hc => ?_) (fun hc => ?_)
    · have ha21 := ha2.1 hc
      refine ev_seg (σ1 := ((d + 1), 29, 35, [some (.inr (.inr 1)), some (.inl x1), some (.inl x2)], [.inl x1, .inr (.inr 18)], (am_sh, am_mm U1))) 4 (fun _ => rfl) ?_
      refine eu_iald 18 (n := 16) rfl (by decide) rfl (fun _ => rfl) ha21.1 ?_
      have ha21a := ha21.2
      refine ev_br (P := (U1 18 x1.toNat) = x2) (σ1 := ((d + 1), 29, 62, [some (.inr (.inr 1)), some (.inl x1), some (.inl x2)], [], (am_sh, am_mm U1))) (σ2 := ((d + 1), 29, 40, [some (.inr (.inr 1)), some (.inl x1), some (.inl x2)], [], (am_sh, am_mm U1))) 2 (fun _ => rfl) (fun hc => ?_) (fun hc => ?_)
      · have ha21a1 := ha21a.1 hc
        refine ev_seg (σ1 := ((d + 1), 29, 64, [some (.inr (.inr 1)), some (.inl x1), some (.inl x2)], [.inl 2, .inr (.inr 1)], (am_sh, am_mm U1))) 2 (fun _ => rfl) ?_
        obtain ⟨r3, U3, ha21a1c, ha21a1a⟩ := ha21a1
        refine ev_cal (σc := (d, 83, 0, [some (.inr (.inr 1)), some (.inl 2)], [], (am_sh, am_mm U1))) (fun _ => rfl) ha21a1c ?_
        show Ev (am_kz N X) ((d + 1), 29, 67, [some (.inr (.inr 1)), some (.inl x1), some (.inl x2)], [.inl r3], (am_sh, am_mm U3)) R
        rw [ha21a1a.2]
        exact ev_retz rfl rfl ha21a1a.1
      · have ha21a2 := ha21a.2 hc
        refine ev_seg (σ1 := ((d + 1), 29, 48, [some (.inr (.inr 1)), some (.inl x1), some (.inl x2)], [.inl x1, .inr (.inr 17)], (am_sh, am_mm U1))) 4 (fun _ => rfl) ?_
        refine eu_iald 17 (n := 16) rfl (by decide) rfl (fun _ => rfl) ha21a2.1 ?_
        have ha21a2a := ha21a2.2
        refine ev_br (P := 0 ≤ (U1 17 x1.toNat)) (σ1 := ((d + 1), 29, 68, [some (.inr (.inr 1)), some (.inl x1), some (.inl x2)], [], (am_sh, am_mm U1))) (σ2 := ((d + 1), 29, 52, [some (.inr (.inr 1)), some (.inl x1), some (.inl x2)], [], (am_sh, am_mm U1))) 1 (fun _ => rfl) (fun hc => ?_) (fun hc => ?_)
        · have ha21a2a1 := ha21a2a.1 hc
          refine ev_br (P := x2 = (-1)) (σ1 := ((d + 1), 29, 99, [some (.inr (.inr 1)), some (.inl x1), some (.inl x2)], [], (am_sh, am_mm U1))) (σ2 := ((d + 1), 29, 73, [some (.inr (.inr 1)), some (.inl x1), some (.inl x2)], [], (am_sh, am_mm U1))) 3 (fun _ => rfl) (fun hc => ?_) (fun hc => ?_)
          · have ha21a2a11 := ha21a2a1.1 hc
            refine ev_seg (σ1 := ((d + 1), 29, 107, [some (.inr (.inr 1)), some (.inl x1), some (.inl x2)], [.inr (.inr 16), .inr (.inr 56)], (am_sh, am_mm U1))) 4 (fun _ => rfl) ?_
            obtain ⟨U4, ha21a2a11c, ha21a2a11a⟩ := ha21a2a11
            refine ev_cal (σc := (d, 137, 0, [some (.inr (.inr 56)), some (.inr (.inr 16))], [], (am_sh, am_mm U1))) (fun _ => rfl) ha21a2a11c ?_
            show Ev (am_kz N X) ((d + 1), 29, 110, [some (.inr (.inr 1)), some (.inl x1), some (.inl x2)], [], (am_sh, am_mm U4)) R
            refine ev_seg (σ1 := ((d + 1), 29, 116, [some (.inr (.inr 1)), some (.inl x1), some (.inl x2)], [.inl x2, .inl x1, .inr (.inr 16)], (am_sh, am_mm U4))) 4 (fun _ => rfl) ?_
            obtain ⟨U5, ha21a2a11ac, ha21a2a11aa⟩ := ha21a2a11a
            refine ev_cal (σc := (d, 138, 0, [some (.inr (.inr 16)), some (.inl x1), some (.inl x2), none], [], (am_sh, am_mm U4))) (fun _ => rfl) ha21a2a11ac ?_
            show Ev (am_kz N X) ((d + 1), 29, 119, [some (.inr (.inr 1)), some (.inl x1), some (.inl x2)], [], (am_sh, am_mm U5)) R
            refine ev_seg (σ1 := ((d + 1), 29, 120, [some (.inr (.inr 1)), some (.inl x1), some (.inl x2)], [.inr (.inr 1)], (am_sh, am_mm U5))) 1 (fun _ => rfl) ?_
            obtain ⟨U6, ha21a2a11aac, ha21a2a11aaa⟩ := ha21a2a11aa
            refine ev_cal (σc := (d, 92, 0, [some (.inr (.inr 1))], [], (am_sh, am_mm U5))) (fun _ => rfl) ha21a2a11aac ?_
            show Ev (am_kz N X) ((d + 1), 29, 123, [some (.inr (.inr 1)), some (.inl x1), some (.inl x2)], [], (am_sh, am_mm U6)) R
            subst ha21a2a11aaa
            exact ev_end 2 (fun _ => rfl)
          · have ha21a2a12 := ha21a2a1.2 hc
            refine ev_seg (σ1 := ((d + 1), 29, 78, [some (.inr (.inr 1)), some (.inl x1), some (.inl x2)], [.inl x2, .inr (.inr 16)], (am_sh, am_mm U1))) 3 (fun _ => rfl) ?_
            obtain ⟨r7, U7, ha21a2a12c, ha21a2a12a⟩ := ha21a2a12
            refine ev_cal (σc := (d, 106, 0, [some (.inr (.inr 16)), some (.inl x2)], [], (am_sh, am_mm U1))) (fun _ => rfl) ha21a2a12c ?_
            show Ev (am_kz N X) ((d + 1), 29, 81, [some (.inr (.inr 1)), some (.inl x1), some (.inl x2)], [.inl r7], (am_sh, am_mm U7)) R
            refine ev_seg (σ1 := ((d + 1), 29, 89, [some (.inr (.inr 1)), some (.inl x1), some (.inl x2)], [.inl x2, .inr (.inr 8), .inl r7], (am_sh, am_mm U7))) 4 (fun _ => rfl) ?_
            refine eu_iald 8 (n := 12) rfl (by decide) rfl (fun _ => rfl) ha21a2a12a.1 ?_
            have ha21a2a12aa := ha21a2a12a.2
            refine ev_br (P := r7 < (U7 8 x2.toNat)) (σ1 := ((d + 1), 29, 99, [some (.inr (.inr 1)), some (.inl x1), some (.inl x2)], [], (am_sh, am_mm U7))) (σ2 := ((d + 1), 29, 93, [some (.inr (.inr 1)), some (.inl x1), some (.inl x2)], [], (am_sh, am_mm U7))) 1 (fun _ => rfl) (fun hc => ?_) (fun hc => ?_)
            · have ha21a2a12aa1 := ha21a2a12aa.1 hc
              refine ev_seg (σ1 := ((d + 1), 29, 107, [some (.inr (.inr 1)), some (.inl x1), some (.inl x2)], [.inr (.inr 16), .inr (.inr 56)], (am_sh, am_mm U7))) 4 (fun _ => rfl) ?_
              obtain ⟨U8, ha21a2a12aa1c, ha21a2a12aa1a⟩ := ha21a2a12aa1
              refine ev_cal (σc := (d, 137, 0, [some (.inr (.inr 56)), some (.inr (.inr 16))], [], (am_sh, am_mm U7))) (fun _ => rfl) ha21a2a12aa1c ?_
              show Ev (am_kz N X) ((d + 1), 29, 110, [some (.inr (.inr 1)), some (.inl x1), some (.inl x2)], [], (am_sh, am_mm U8)) R
              refine ev_seg (σ1 := ((d + 1), 29, 116, [some (.inr (.inr 1)), some (.inl x1), some (.inl x2)], [.inl x2, .inl x1, .inr (.inr 16)], (am_sh, am_mm U8))) 4 (fun _ => rfl) ?_
              obtain ⟨U9, ha21a2a12aa1ac, ha21a2a12aa1aa⟩ := ha21a2a12aa1a
              refine ev_cal (σc := (d, 138, 0, [some (.inr (.inr 16)), some (.inl x1), some (.inl x2), none], [], (am_sh, am_mm U8))) (fun _ => rfl) ha21a2a12aa1ac ?_
              show Ev (am_kz N X) ((d + 1), 29, 119, [some (.inr (.inr 1)), some (.inl x1), some (.inl x2)], [], (am_sh, am_mm U9)) R
              refine ev_seg (σ1 := ((d + 1), 29, 120, [some (.inr (.inr 1)), some (.inl x1), some (.inl x2)], [.inr (.inr 1)], (am_sh, am_mm U9))) 1 (fun _ => rfl) ?_
              obtain ⟨U10, ha21a2a12aa1aac, ha21a2a12aa1aaa⟩ := ha21a2a12aa1aa
              refine ev_cal (σc := (d, 92, 0, [some (.inr (.inr 1))], [], (am_sh, am_mm U9))) (fun _ => rfl) ha21a2a12aa1aac ?_
              show Ev (am_kz N X) ((d + 1), 29, 123, [some (.inr (.inr 1)), some (.inl x1), some (.inl x2)], [], (am_sh, am_mm U10)) R
              subst ha21a2a12aa1aaa
              exact ev_end 2 (fun _ => rfl)
            · have ha21a2a12aa2 := ha21a2a12aa.2 hc
              refine ev_seg (σ1 := ((d + 1), 29, 95, [some (.inr (.inr 1)), some (.inl x1), some (.inl x2)], [.inl 2, .inr (.inr 1)], (am_sh, am_mm U7))) 2 (fun _ => rfl) ?_
              obtain ⟨r11, U11, ha21a2a12aa2c, ha21a2a12aa2a⟩ := ha21a2a12aa2
              refine ev_cal (σc := (d, 83, 0, [some (.inr (.inr 1)), some (.inl 2)], [], (am_sh, am_mm U7))) (fun _ => rfl) ha21a2a12aa2c ?_
              show Ev (am_kz N X) ((d + 1), 29, 98, [some (.inr (.inr 1)), some (.inl x1), some (.inl x2)], [.inl r11], (am_sh, am_mm U11)) R
              rw [ha21a2a12aa2a.2]
              exact ev_retz rfl rfl ha21a2a12aa2a.1
        · have ha21a2a2 := ha21a2a.2 hc
          refine ev_br (P := ¬ (U1 16 2) = 0) (σ1 := ((d + 1), 29, 68, [some (.inr (.inr 1)), some (.inl x1), some (.inl x2)], [], (am_sh, am_mm U1))) (σ2 := ((d + 1), 29, 62, [some (.inr (.inr 1)), some (.inl x1), some (.inl x2)], [], (am_sh, am_mm U1))) 4 (fun _ => rfl) (fun hc => ?_) (fun hc => ?_)
          · have ha21a2a21 := ha21a2a2.1 hc
            refine ev_br (P := x2 = (-1)) (σ1 := ((d + 1), 29, 99, [some (.inr (.inr 1)), some (.inl x1), some (.inl x2)], [], (am_sh, am_mm U1))) (σ2 := ((d + 1), 29, 73, [some (.inr (.inr 1)), some (.inl x1), some (.inl x2)], [], (am_sh, am_mm U1))) 3 (fun _ => rfl) (fun hc => ?_) (fun hc => ?_)
            · have ha21a2a211 := ha21a2a21.1 hc
              refine ev_seg (σ1 := ((d + 1), 29, 107, [some (.inr (.inr 1)), some (.inl x1), some (.inl x2)], [.inr (.inr 16), .inr (.inr 56)], (am_sh, am_mm U1))) 4 (fun _ => rfl) ?_
              obtain ⟨U12, ha21a2a211c, ha21a2a211a⟩ := ha21a2a211
              refine ev_cal (σc := (d, 137, 0, [some (.inr (.inr 56)), some (.inr (.inr 16))], [], (am_sh, am_mm U1))) (fun _ => rfl) ha21a2a211c ?_
              show Ev (am_kz N X) ((d + 1), 29, 110, [some (.inr (.inr 1)), some (.inl x1), some (.inl x2)], [], (am_sh, am_mm U12)) R
              refine ev_seg (σ1 := ((d + 1), 29, 116, [some (.inr (.inr 1)), some (.inl x1), some (.inl x2)], [.inl x2, .inl x1, .inr (.inr 16)], (am_sh, am_mm U12))) 4 (fun _ => rfl) ?_
              obtain ⟨U13, ha21a2a211ac, ha21a2a211aa⟩ := ha21a2a211a
              refine ev_cal (σc := (d, 138, 0, [some (.inr (.inr 16)), some (.inl x1), some (.inl x2), none], [], (am_sh, am_mm U12))) (fun _ => rfl) ha21a2a211ac ?_
              show Ev (am_kz N X) ((d + 1), 29, 119, [some (.inr (.inr 1)), some (.inl x1), some (.inl x2)], [], (am_sh, am_mm U13)) R
              refine ev_seg (σ1 := ((d + 1), 29, 120, [some (.inr (.inr 1)), some (.inl x1), some (.inl x2)], [.inr (.inr 1)], (am_sh, am_mm U13))) 1 (fun _ => rfl) ?_
              obtain ⟨U14, ha21a2a211aac, ha21a2a211aaa⟩ := ha21a2a211aa
              refine ev_cal (σc := (d, 92, 0, [some (.inr (.inr 1))], [], (am_sh, am_mm U13))) (fun _ => rfl) ha21a2a211aac ?_
              show Ev (am_kz N X) ((d + 1), 29, 123, [some (.inr (.inr 1)), some (.inl x1), some (.inl x2)], [], (am_sh, am_mm U14)) R
              subst ha21a2a211aaa
              exact ev_end 2 (fun _ => rfl)
            · have ha21a2a212 := ha21a2a21.2 hc
              refine ev_seg (σ1 := ((d + 1), 29, 78, [some (.inr (.inr 1)), some (.inl x1), some (.inl x2)], [.inl x2, .inr (.inr 16)], (am_sh, am_mm U1))) 3 (fun _ => rfl) ?_
              obtain ⟨r15, U15, ha21a2a212c, ha21a2a212a⟩ := ha21a2a212
              refine ev_cal (σc := (d, 106, 0, [some (.inr (.inr 16)), some (.inl x2)], [], (am_sh, am_mm U1))) (fun _ => rfl) ha21a2a212c ?_
              show Ev (am_kz N X) ((d + 1), 29, 81, [some (.inr (.inr 1)), some (.inl x1), some (.inl x2)], [.inl r15], (am_sh, am_mm U15)) R
              refine ev_seg (σ1 := ((d + 1), 29, 89, [some (.inr (.inr 1)), some (.inl x1), some (.inl x2)], [.inl x2, .inr (.inr 8), .inl r15], (am_sh, am_mm U15))) 4 (fun _ => rfl) ?_
              refine eu_iald 8 (n := 12) rfl (by decide) rfl (fun _ => rfl) ha21a2a212a.1 ?_
              have ha21a2a212aa := ha21a2a212a.2
              refine ev_br (P := r15 < (U15 8 x2.toNat)) (σ1 := ((d + 1), 29, 99, [some (.inr (.inr 1)), some (.inl x1), some (.inl x2)], [], (am_sh, am_mm U15))) (σ2 := ((d + 1), 29, 93, [some (.inr (.inr 1)), some (.inl x1), some (.inl x2)], [], (am_sh, am_mm U15))) 1 (fun _ => rfl) (fun hc => ?_) (fun hc => ?_)
              · have ha21a2a212aa1 := ha21a2a212aa.1 hc
                refine ev_seg (σ1 := ((d + 1), 29, 107, [some (.inr (.inr 1)), some (.inl x1), some (.inl x2)], [.inr (.inr 16), .inr (.inr 56)], (am_sh, am_mm U15))) 4 (fun _ => rfl) ?_
                obtain ⟨U16, ha21a2a212aa1c, ha21a2a212aa1a⟩ := ha21a2a212aa1
                refine ev_cal (σc := (d, 137, 0, [some (.inr (.inr 56)), some (.inr (.inr 16))], [], (am_sh, am_mm U15))) (fun _ => rfl) ha21a2a212aa1c ?_
                show Ev (am_kz N X) ((d + 1), 29, 110, [some (.inr (.inr 1)), some (.inl x1), some (.inl x2)], [], (am_sh, am_mm U16)) R
                refine ev_seg (σ1 := ((d + 1), 29, 116, [some (.inr (.inr 1)), some (.inl x1), some (.inl x2)], [.inl x2, .inl x1, .inr (.inr 16)], (am_sh, am_mm U16))) 4 (fun _ => rfl) ?_
                obtain ⟨U17, ha21a2a212aa1ac, ha21a2a212aa1aa⟩ := ha21a2a212aa1a
                refine ev_cal (σc := (d, 138, 0, [some (.inr (.inr 16)), some (.inl x1), some (.inl x2), none], [], (am_sh, am_mm U16))) (fun _ => rfl) ha21a2a212aa1ac ?_
                show Ev (am_kz N X) ((d + 1), 29, 119, [some (.inr (.inr 1)), some (.inl x1), some (.inl x2)], [], (am_sh, am_mm U17)) R
                refine ev_seg (σ1 := ((d + 1), 29, 120, [some (.inr (.inr 1)), some (.inl x1), some (.inl x2)], [.inr (.inr 1)], (am_sh, am_mm U17))) 1 (fun _ => rfl) ?_
                obtain ⟨U18, ha21a2a212aa1aac, ha21a2a212aa1aaa⟩ := ha21a2a212aa1aa
                refine ev_cal (σc := (d, 92, 0, [some (.inr (.inr 1))], [], (am_sh, am_mm U17))) (fun _ => rfl) ha21a2a212aa1aac ?_
                show Ev (am_kz N X) ((d + 1), 29, 123, [some (.inr (.inr 1)), some (.inl x1), some (.inl x2)], [], (am_sh, am_mm U18)) R
                subst ha21a2a212aa1aaa
                exact ev_end 2 (fun _ => rfl)
              · have ha21a2a212aa2 := ha21a2a212aa.2 hc
                refine ev_seg (σ1 := ((d + 1), 29, 95, [some (.inr (.inr 1)), some (.inl x1), some (.inl x2)], [.inl 2, .inr (.inr 1)], (am_sh, am_mm U15))) 2 (fun _ => rfl) ?_
                obtain ⟨r19, U19, ha21a2a212aa2c, ha21a2a212aa2a⟩ := ha21a2a212aa2
                refine ev_cal (σc := (d, 83, 0, [some (.inr (.inr 1)), some (.inl 2)], [], (am_sh, am_mm U15))) (fun _ => rfl) ha21a2a212aa2c ?_
                show Ev (am_kz N X) ((d + 1), 29, 98, [some (.inr (.inr 1)), some (.inl x1), some (.inl x2)], [.inl r19], (am_sh, am_mm U19)) R
                rw [ha21a2a212aa2a.2]
                exact ev_retz rfl rfl ha21a2a212aa2a.1
          · have ha21a2a22 := ha21a2a2.2 hc
            refine ev_seg (σ1 := ((d + 1), 29, 64, [some (.inr (.inr 1)), some (.inl x1), some (.inl x2)], [.inl 2, .inr (.inr 1)], (am_sh, am_mm U1))) 2 (fun _ => rfl) ?_
            obtain ⟨r20, U20, ha21a2a22c, ha21a2a22a⟩ := ha21a2a22
            refine ev_cal (σc := (d, 83, 0, [some (.inr (.inr 1)), some (.inl 2)], [], (am_sh, am_mm U1))) (fun _ => rfl) ha21a2a22c ?_
            show Ev (am_kz N X) ((d + 1), 29, 67, [some (.inr (.inr 1)), some (.inl x1), some (.inl x2)], [.inl r20], (am_sh, am_mm U20)) R
            rw [ha21a2a22a.2]
            exact ev_retz rfl rfl ha21a2a22a.1
    · have ha22 := ha2.2 hc
      refine ev_seg (σ1 := ((d + 1), 29, 15, [some (.inr (.inr 1)), some (.inl x1), some (.inl x2)], [.inl x2, .inr (.inr 1)], (am_sh, am_mm U1))) 2 (fun _ => rfl) ?_
      obtain ⟨r21, U21, ha22c, ha22a⟩ := ha22
      refine ev_cal (σc := (d, 102, 0, [some (.inr (.inr 1)), some (.inl x2)], [], (am_sh, am_mm U1))) (fun _ => rfl) ha22c ?_
      show Ev (am_kz N X) ((d + 1), 29, 18, [some (.inr (.inr 1)), some (.inl x1), some (.inl x2)], [.inl r21], (am_sh, am_mm U21)) R
      refine ev_br (P := ¬ r21 = 0) (σ1 := ((d + 1), 29, 27, [some (.inr (.inr 1)), some (.inl x1), some (.inl x2)], [], (am_sh, am_mm U21))) (σ2 := ((d + 1), 29, 21, [some (.inr (.inr 1)), some (.inl x1), some (.inl x2)], [], (am_sh, am_mm U21))) 1 (fun _ => rfl) (fun hc => ?_) (fun hc => ?_)
      · have ha22a1 := ha22a.1 hc
        refine ev_seg (σ1 := ((d + 1), 29, 35, [some (.inr (.inr 1)), some (.inl x1), some (.inl x2)], [.inl x1, .inr (.inr 18)], (am_sh, am_mm U21))) 4 (fun _ => rfl) ?_
        refine eu_iald 18 (n := 16) rfl (by decide) rfl (fun _ => rfl) ha22a1.1 ?_
        have ha22a1a := ha22a1.2
        refine ev_br (P := (U21 18 x1.toNat) = x2) (σ1 := ((d + 1), 29, 62, [some (.inr (.inr 1)), some (.inl x1), some (.inl x2)], [], (am_sh, am_mm U21))) (σ2 := ((d + 1), 29, 40, [some (.inr (.inr 1)), some (.inl x1), some (.inl x2)], [], (am_sh, am_mm U21))) 2 (fun _ => rfl) (fun hc => ?_) (fun hc => ?_)
        · have ha22a1a1 := ha22a1a.1 hc
          refine ev_seg (σ1 := ((d + 1), 29, 64, [some (.inr (.inr 1)), some (.inl x1), some (.inl x2)], [.inl 2, .inr (.inr 1)], (am_sh, am_mm U21))) 2 (fun _ => rfl) ?_
          obtain ⟨r22, U22, ha22a1a1c, ha22a1a1a⟩ := ha22a1a1
          refine ev_cal (σc := (d, 83, 0, [some (.inr (.inr 1)), some (.inl 2)], [], (am_sh, am_mm U21))) (fun _ => rfl) ha22a1a1c ?_
          show Ev (am_kz N X) ((d + 1), 29, 67, [some (.inr (.inr 1)), some (.inl x1), some (.inl x2)], [.inl r22], (am_sh, am_mm U22)) R
          rw [ha22a1a1a.2]
          exact ev_retz rfl rfl ha22a1a1a.1
        · have ha22a1a2 := ha22a1a.2 hc
          refine ev_seg (σ1 := ((d + 1), 29, 48, [some (.inr (.inr 1)), some (.inl x1), some (.inl x2)], [.inl x1, .inr (.inr 17)], (am_sh, am_mm U21))) 4 (fun _ => rfl) ?_
          refine eu_iald 17 (n := 16) rfl (by decide) rfl (fun _ => rfl) ha22a1a2.1 ?_
          have ha22a1a2a := ha22a1a2.2
          refine ev_br (P := 0 ≤ (U21 17 x1.toNat)) (σ1 := ((d + 1), 29, 68, [some (.inr (.inr 1)), some (.inl x1), some (.inl x2)], [], (am_sh, am_mm U21))) (σ2 := ((d + 1), 29, 52, [some (.inr (.inr 1)), some (.inl x1), some (.inl x2)], [], (am_sh, am_mm U21))) 1 (fun _ => rfl) (fun hc => ?_) (fun hc => ?_)
          · have ha22a1a2a1 := ha22a1a2a.1 hc
            refine ev_br (P := x2 = (-1)) (σ1 := ((d + 1), 29, 99, [some (.inr (.inr 1)), some (.inl x1), some (.inl x2)], [], (am_sh, am_mm U21))) (σ2 := ((d + 1), 29, 73, [some (.inr (.inr 1)), some (.inl x1), some (.inl x2)], [], (am_sh, am_mm U21))) 3 (fun _ => rfl) (fun hc => ?_) (fun hc => ?_)
            · have ha22a1a2a11 := ha22a1a2a1.1 hc
              refine ev_seg (σ1 := ((d + 1), 29, 107, [some (.inr (.inr 1)), some (.inl x1), some (.inl x2)], [.inr (.inr 16), .inr (.inr 56)], (am_sh, am_mm U21))) 4 (fun _ => rfl) ?_
              obtain ⟨U23, ha22a1a2a11c, ha22a1a2a11a⟩ := ha22a1a2a11
              refine ev_cal (σc := (d, 137, 0, [some (.inr (.inr 56)), some (.inr (.inr 16))], [], (am_sh, am_mm U21))) (fun _ => rfl) ha22a1a2a11c ?_
              show Ev (am_kz N X) ((d + 1), 29, 110, [some (.inr (.inr 1)), some (.inl x1), some (.inl x2)], [], (am_sh, am_mm U23)) R
              refine ev_seg (σ1 := ((d + 1), 29, 116, [some (.inr (.inr 1)), some (.inl x1), some (.inl x2)], [.inl x2, .inl x1, .inr (.inr 16)], (am_sh, am_mm U23))) 4 (fun _ => rfl) ?_
              obtain ⟨U24, ha22a1a2a11ac, ha22a1a2a11aa⟩ := ha22a1a2a11a
              refine ev_cal (σc := (d, 138, 0, [some (.inr (.inr 16)), some (.inl x1), some (.inl x2), none], [], (am_sh, am_mm U23))) (fun _ => rfl) ha22a1a2a11ac ?_
              show Ev (am_kz N X) ((d + 1), 29, 119, [some (.inr (.inr 1)), some (.inl x1), some (.inl x2)], [], (am_sh, am_mm U24)) R
              refine ev_seg (σ1 := ((d + 1), 29, 120, [some (.inr (.inr 1)), some (.inl x1), some (.inl x2)], [.inr (.inr 1)], (am_sh, am_mm U24))) 1 (fun _ => rfl) ?_
              obtain ⟨U25, ha22a1a2a11aac, ha22a1a2a11aaa⟩ := ha22a1a2a11aa
              refine ev_cal (σc := (d, 92, 0, [some (.inr (.inr 1))], [], (am_sh, am_mm U24))) (fun _ => rfl) ha22a1a2a11aac ?_
              show Ev (am_kz N X) ((d + 1), 29, 123, [some (.inr (.inr 1)), some (.inl x1), some (.inl x2)], [], (am_sh, am_mm U25)) R
              subst ha22a1a2a11aaa
              exact ev_end 2 (fun _ => rfl)
            · have ha22a1a2a12 := ha22a1a2a1.2 hc
              refine ev_seg (σ1 := ((d + 1), 29, 78, [some (.inr (.inr 1)), some (.inl x1), some (.inl x2)], [.inl x2, .inr (.inr 16)], (am_sh, am_mm U21))) 3 (fun _ => rfl) ?_
              obtain ⟨r26, U26, ha22a1a2a12c, ha22a1a2a12a⟩ := ha22a1a2a12
              refine ev_cal (σc := (d, 106, 0, [some (.inr (.inr 16)), some (.inl x2)], [], (am_sh, am_mm U21))) (fun _ => rfl) ha22a1a2a12c ?_
              show Ev (am_kz N X) ((d + 1), 29, 81, [some (.inr (.inr 1)), some (.inl x1), some (.inl x2)], [.inl r26], (am_sh, am_mm U26)) R
              refine ev_seg (σ1 := ((d + 1), 29, 89, [some (.inr (.inr 1)), some (.inl x1), some (.inl x2)], [.inl x2, .inr (.inr 8), .inl r26], (am_sh, am_mm U26))) 4 (fun _ => rfl) ?_
              refine eu_iald 8 (n := 12) rfl (by decide) rfl (fun _ => rfl) ha22a1a2a12a.1 ?_
              have ha22a1a2a12aa := ha22a1a2a12a.2
              refine ev_br (P := r26 < (U26 8 x2.toNat)) (σ1 := ((d + 1), 29, 99, [some (.inr (.inr 1)), some (.inl x1), some (.inl x2)], [], (am_sh, am_mm U26))) (σ2 := ((d + 1), 29, 93, [some (.inr (.inr 1)), some (.inl x1), some (.inl x2)], [], (am_sh, am_mm U26))) 1 (fun _ => rfl) (fun hc => ?_) (fun hc => ?_)
              · have ha22a1a2a12aa1 := ha22a1a2a12aa.1 hc
                refine ev_seg (σ1 := ((d + 1), 29, 107, [some (.inr (.inr 1)), some (.inl x1), some (.inl x2)], [.inr (.inr 16), .inr (.inr 56)], (am_sh, am_mm U26))) 4 (fun _ => rfl) ?_
                obtain ⟨U27, ha22a1a2a12aa1c, ha22a1a2a12aa1a⟩ := ha22a1a2a12aa1
                refine ev_cal (σc := (d, 137, 0, [some (.inr (.inr 56)), some (.inr (.inr 16))], [], (am_sh, am_mm U26))) (fun _ => rfl) ha22a1a2a12aa1c ?_
                show Ev (am_kz N X) ((d + 1), 29, 110, [some (.inr (.inr 1)), some (.inl x1), some (.inl x2)], [], (am_sh, am_mm U27)) R
                refine ev_seg (σ1 := ((d + 1), 29, 116, [some (.inr (.inr 1)), some (.inl x1), some (.inl x2)], [.inl x2, .inl x1, .inr (.inr 16)], (am_sh, am_mm U27))) 4 (fun _ => rfl) ?_
                obtain ⟨U28, ha22a1a2a12aa1ac, ha22a1a2a12aa1aa⟩ := ha22a1a2a12aa1a
                refine ev_cal (σc := (d, 138, 0, [some (.inr (.inr 16)), some (.inl x1), some (.inl x2), none], [], (am_sh, am_mm U27))) (fun _ => rfl) ha22a1a2a12aa1ac ?_
                show Ev (am_kz N X) ((d + 1), 29, 119, [some (.inr (.inr 1)), some (.inl x1), some (.inl x2)], [], (am_sh, am_mm U28)) R
                refine ev_seg (σ1 := ((d + 1), 29, 120, [some (.inr (.inr 1)), some (.inl x1), some (.inl x2)], [.inr (.inr 1)], (am_sh, am_mm U28))) 1 (fun _ => rfl) ?_
                obtain ⟨U29, ha22a1a2a12aa1aac, ha22a1a2a12aa1aaa⟩ := ha22a1a2a12aa1aa
                refine ev_cal (σc := (d, 92, 0, [some (.inr (.inr 1))], [], (am_sh, am_mm U28))) (fun _ => rfl) ha22a1a2a12aa1aac ?_
                show Ev (am_kz N X) ((d + 1), 29, 123, [some (.inr (.inr 1)), some (.inl x1), some (.inl x2)], [], (am_sh, am_mm U29)) R
                subst ha22a1a2a12aa1aaa
                exact ev_end 2 (fun _ => rfl)
              · have ha22a1a2a12aa2 := ha22a1a2a12aa.2 hc
                refine ev_seg (σ1 := ((d + 1), 29, 95, [some (.inr (.inr 1)), some (.inl x1), some (.inl x2)], [.inl 2, .inr (.inr 1)], (am_sh, am_mm U26))) 2 (fun _ => rfl) ?_
                obtain ⟨r30, U30, ha22a1a2a12aa2c, ha22a1a2a12aa2a⟩ := ha22a1a2a12aa2
                refine ev_cal (σc := (d, 83, 0, [some (.inr (.inr 1)), some (.inl 2)], [], (am_sh, am_mm U26))) (fun _ => rfl) ha22a1a2a12aa2c ?_
                show Ev (am_kz N X) ((d + 1), 29, 98, [some (.inr (.inr 1)), some (.inl x1), some (.inl x2)], [.inl r30], (am_sh, am_mm U30)) R
                rw [ha22a1a2a12aa2a.2]
                exact ev_retz rfl rfl ha22a1a2a12aa2a.1
          · have ha22a1a2a2 := ha22a1a2a.2 hc
            refine ev_br (P := ¬ (U21 16 2) = 0) (σ1 := ((d + 1), 29, 68, [some (.inr (.inr 1)), some (.inl x1), some (.inl x2)], [], (am_sh, am_mm U21))) (σ2 := ((d + 1), 29, 62, [some (.inr (.inr 1)), some (.inl x1), some (.inl x2)], [], (am_sh, am_mm U21))) 4 (fun _ => rfl) (fun hc => ?_) (fun hc => ?_)
            · have ha22a1a2a21 := ha22a1a2a2.1 hc
              refine ev_br (P := x2 = (-1)) (σ1 := ((d + 1), 29, 99, [some (.inr (.inr 1)), some (.inl x1), some (.inl x2)], [], (am_sh, am_mm U21))) (σ2 := ((d + 1), 29, 73, [some (.inr (.inr 1)), some (.inl x1), some (.inl x2)], [], (am_sh, am_mm U21))) 3 (fun _ => rfl) (fun hc => ?_) (fun hc => ?_)
              · have ha22a1a2a211 := ha22a1a2a21.1 hc
                refine ev_seg (σ1 := ((d + 1), 29, 107, [some (.inr (.inr 1)), some (.inl x1), some (.inl x2)], [.inr (.inr 16), .inr (.inr 56)], (am_sh, am_mm U21))) 4 (fun _ => rfl) ?_
                obtain ⟨U31, ha22a1a2a211c, ha22a1a2a211a⟩ := ha22a1a2a211
                refine ev_cal (σc := (d, 137, 0, [some (.inr (.inr 56)), some (.inr (.inr 16))], [], (am_sh, am_mm U21))) (fun _ => rfl) ha22a1a2a211c ?_
                show Ev (am_kz N X) ((d + 1), 29, 110, [some (.inr (.inr 1)), some (.inl x1), some (.inl x2)], [], (am_sh, am_mm U31)) R
                refine ev_seg (σ1 := ((d + 1), 29, 116, [some (.inr (.inr 1)), some (.inl x1), some (.inl x2)], [.inl x2, .inl x1, .inr (.inr 16)], (am_sh, am_mm U31))) 4 (fun _ => rfl) ?_
                obtain ⟨U32, ha22a1a2a211ac, ha22a1a2a211aa⟩ := ha22a1a2a211a
                refine ev_cal (σc := (d, 138, 0, [some (.inr (.inr 16)), some (.inl x1), some (.inl x2), none], [], (am_sh, am_mm U31))) (fun _ => rfl) ha22a1a2a211ac ?_
                show Ev (am_kz N X) ((d + 1), 29, 119, [some (.inr (.inr 1)), some (.inl x1), some (.inl x2)], [], (am_sh, am_mm U32)) R
                refine ev_seg (σ1 := ((d + 1), 29, 120, [some (.inr (.inr 1)), some (.inl x1), some (.inl x2)], [.inr (.inr 1)], (am_sh, am_mm U32))) 1 (fun _ => rfl) ?_
                obtain ⟨U33, ha22a1a2a211aac, ha22a1a2a211aaa⟩ := ha22a1a2a211aa
                refine ev_cal (σc := (d, 92, 0, [some (.inr (.inr 1))], [], (am_sh, am_mm U32))) (fun _ => rfl) ha22a1a2a211aac ?_
                show Ev (am_kz N X) ((d + 1), 29, 123, [some (.inr (.inr 1)), some (.inl x1), some (.inl x2)], [], (am_sh, am_mm U33)) R
                subst ha22a1a2a211aaa
                exact ev_end 2 (fun _ => rfl)
              · have ha22a1a2a212 := ha22a1a2a21.2 hc
                refine ev_seg (σ1 := ((d + 1), 29, 78, [some (.inr (.inr 1)), some (.inl x1), some (.inl x2)], [.inl x2, .inr (.inr 16)], (am_sh, am_mm U21))) 3 (fun _ => rfl) ?_
                obtain ⟨r34, U34, ha22a1a2a212c, ha22a1a2a212a⟩ := ha22a1a2a212
                refine ev_cal (σc := (d, 106, 0, [some (.inr (.inr 16)), some (.inl x2)], [], (am_sh, am_mm U21))) (fun _ => rfl) ha22a1a2a212c ?_
                show Ev (am_kz N X) ((d + 1), 29, 81, [some (.inr (.inr 1)), some (.inl x1), some (.inl x2)], [.inl r34], (am_sh, am_mm U34)) R
                refine ev_seg (σ1 := ((d + 1), 29, 89, [some (.inr (.inr 1)), some (.inl x1), some (.inl x2)], [.inl x2, .inr (.inr 8), .inl r34], (am_sh, am_mm U34))) 4 (fun _ => rfl) ?_
                refine eu_iald 8 (n := 12) rfl (by decide) rfl (fun _ => rfl) ha22a1a2a212a.1 ?_
                have ha22a1a2a212aa := ha22a1a2a212a.2
                refine ev_br (P := r34 < (U34 8 x2.toNat)) (σ1 := ((d + 1), 29, 99, [some (.inr (.inr 1)), some (.inl x1), some (.inl x2)], [], (am_sh, am_mm U34))) (σ2 := ((d + 1), 29, 93, [some (.inr (.inr 1)), some (.inl x1), some (.inl x2)], [], (am_sh, am_mm U34))) 1 (fun _ => rfl) (fun hc => ?_) (fun hc => ?_)
                · have ha22a1a2a212aa1 := ha22a1a2a212aa.1 hc
                  refine ev_seg (σ1 := ((d + 1), 29, 107, [some (.inr (.inr 1)), some (.inl x1), some (.inl x2)], [.inr (.inr 16), .inr (.inr 56)], (am_sh, am_mm U34))) 4 (fun _ => rfl) ?_
                  obtain ⟨U35, ha22a1a2a212aa1c, ha22a1a2a212aa1a⟩ := ha22a1a2a212aa1
                  refine ev_cal (σc := (d, 137, 0, [some (.inr (.inr 56)), some (.inr (.inr 16))], [], (am_sh, am_mm U34))) (fun _ => rfl) ha22a1a2a212aa1c ?_
                  show Ev (am_kz N X) ((d + 1), 29, 110, [some (.inr (.inr 1)), some (.inl x1), some (.inl x2)], [], (am_sh, am_mm U35)) R
                  refine ev_seg (σ1 := ((d + 1), 29, 116, [some (.inr (.inr 1)), some (.inl x1), some (.inl x2)], [.inl x2, .inl x1, .inr (.inr 16)], (am_sh, am_mm U35))) 4 (fun _ => rfl) ?_
                  obtain ⟨U36, ha22a1a2a212aa1ac, ha22a1a2a212aa1aa⟩ := ha22a1a2a212aa1a
                  refine ev_cal (σc := (d, 138, 0, [some (.inr (.inr 16)), some (.inl x1), some (.inl x2), none], [], (am_sh, am_mm U35))) (fun _ => rfl) ha22a1a2a212aa1ac ?_
                  show Ev (am_kz N X) ((d + 1), 29, 119, [some (.inr (.inr 1)), some (.inl x1), some (.inl x2)], [], (am_sh, am_mm U36)) R
                  refine ev_seg (σ1 := ((d + 1), 29, 120, [some (.inr (.inr 1)), some (.inl x1), some (.inl x2)], [.inr (.inr 1)], (am_sh, am_mm U36))) 1 (fun _ => rfl) ?_
                  obtain ⟨U37, ha22a1a2a212aa1aac, ha22a1a2a212aa1aaa⟩ := ha22a1a2a212aa1aa
                  refine ev_cal (σc := (d, 92, 0, [some (.inr (.inr 1))], [], (am_sh, am_mm U36))) (fun _ => rfl) ha22a1a2a212aa1aac ?_
                  show Ev (am_kz N X) ((d + 1), 29, 123, [some (.inr (.inr 1)), some (.inl x1), some (.inl x2)], [], (am_sh, am_mm U37)) R
                  subst ha22a1a2a212aa1aaa
                  exact ev_end 2 (fun _ => rfl)
                · have ha22a1a2a212aa2 := ha22a1a2a212aa.2 hc
                  refine ev_seg (σ1 := ((d + 1), 29, 95, [some (.inr (.inr 1)), some (.inl x1), some (.inl x2)], [.inl 2, .inr (.inr 1)], (am_sh, am_mm U34))) 2 (fun _ => rfl) ?_
                  obtain ⟨r38, U38, ha22a1a2a212aa2c, ha22a1a2a212aa2a⟩ := ha22a1a2a212aa2
                  refine ev_cal (σc := (d, 83, 0, [some (.inr (.inr 1)), some (.inl 2)], [], (am_sh, am_mm U34))) (fun _ => rfl) ha22a1a2a212aa2c ?_
                  show Ev (am_kz N X) ((d + 1), 29, 98, [some (.inr (.inr 1)), some (.inl x1), some (.inl x2)], [.inl r38], (am_sh, am_mm U38)) R
                  rw [ha22a1a2a212aa2a.2]
                  exact ev_retz rfl rfl ha22a1a2a212aa2a.1
            · have ha22a1a2a22 := ha22a1a2a2.2 hc
              refine ev_seg (σ1 := ((d + 1), 29, 64, [some (.inr (.inr 1)), some (.inl x1), some (.inl x2)], [.inl 2, .inr (.inr 1)], (am_sh, am_mm U21))) 2 (fun _ => rfl) ?_
              obtain ⟨r39, U39, ha22a1a2a22c, ha22a1a2a22a⟩ := ha22a1a2a22
              refine ev_cal (σc := (d, 83, 0, [some (.inr (.inr 1)), some (.inl 2)], [], (am_sh, am_mm U21))) (fun _ => rfl) ha22a1a2a22c ?_
              show Ev (am_kz N X) ((d + 1), 29, 67, [some (.inr (.inr 1)), some (.inl x1), some (.inl x2)], [.inl r39], (am_sh, am_mm U39)) R
              rw [ha22a1a2a22a.2]
              exact ev_retz rfl rfl ha22a1a2a22a.1
      · have ha22a2 := ha22a.2 hc
        refine ev_seg (σ1 := ((d + 1), 29, 23, [some (.inr (.inr 1)), some (.inl x1), some (.inl x2)], [.inl 2, .inr (.inr 1)], (am_sh, am_mm U21))) 2 (fun _ => rfl) ?_
        obtain ⟨r40, U40, ha22a2c, ha22a2a⟩ := ha22a2
        refine ev_cal (σc := (d, 83, 0, [some (.inr (.inr 1)), some (.inl 2)], [], (am_sh, am_mm U21))) (fun _ => rfl) ha22a2c ?_
        show Ev (am_kz N X) ((d + 1), 29, 26, [some (.inr (.inr 1)), some (.inl x1), some (.inl x2)], [.inl r40], (am_sh, am_mm U40)) R
        rw [ha22a2a.2]
        exact ev_retz rfl rfl ha22a2a.1
set_option maxRecDepth 8000 in
theorem st30_86_0 (N : Nat) (X : Nat → Int) (d : Nat) (x1 x2 : Int) (U : Nat → Nat → Int) (R : Option am_V × am_M) (h : ∃ (r1 : Int) (U1 : Nat → Nat → Int), Ev (am_kz N X) (d, 115, 0, [some (.inr (.inr 86)), some (.inl x1)], [], (am_sh, am_mm U)) (some (.inl r1), (am_sh, am_mm U1)) ∧ (((r1 = 0 : Prop)) → Ev (am_kz N X) ((d + 1), 30, 25, [some (.inr (.inr 86)), some (.inl x1), some (.inl x2), none], [], (am_sh, am_mm U1)) R) ∧ (¬ (r1 = 0) → (((x2 = (-1) : Prop)) → Ev (am_kz N X) ((d + 1), 30, 21, [some (.inr (.inr 86)), some (.inl x1), some (.inl x2), none], [], (am_sh, am_mm U1)) R) ∧ (¬ (x2 = (-1)) → ∃ (r2 : Int) (U2 : Nat → Nat → Int), Ev (am_kz N X) (d, 108, 0, [some (.inr (.inr 86)), some (.inl x2)], [], (am_sh, am_mm U1)) (some (.inl r2), (am_sh, am_mm U2)) ∧ (((r2 = 0 : Prop)) → Ev (am_kz N X) ((d + 1), 30, 25, [some (.inr (.inr 86)), some (.inl x1), some (.inl x2), none], [], (am_sh, am_mm U2)) R) ∧ (¬ (r2 = 0) → Ev (am_kz N X) ((d + 1), 30, 21, [some (.inr (.inr 86)), some (.inl x1), some (.inl x2), none], [], (am_sh, am_mm U2)) R)))) : Ev (am_kz N X) ((d + 1), 30, 0, [some (.inr (.inr 86)), some (.inl x1), some (.inl x2), none], [], (am_sh, am_mm U)) R := by
  refine ev_seg (σ1 := ((d + 1), 30, 2, [some (.inr (.inr 86)), some (.inl x1), some (.inl x2), none], [.inl x1, .inr (.inr 86)], (am_sh, am_mm U))) 2 (fun _ => rfl) ?_
  obtain ⟨r1, U1, hc, ha⟩ := h
  refine ev_cal (σc := (d, 115, 0, [some (.inr (.inr 86)), some (.inl x1)], [], (am_sh, am_mm U))) (fun _ => rfl) hc ?_
  show Ev (am_kz N X) ((d + 1), 30, 5, [some (.inr (.inr 86)), some (.inl x1), some (.inl x2), none], [.inl r1], (am_sh, am_mm U1)) R
  refine ev_br (P := r1 = 0) (σ1 := ((d + 1), 30, 25, [some (.inr (.inr 86)), some (.inl x1), some (.inl x2), none], [], (am_sh, am_mm U1))) (σ2 := ((d + 1), 30, 8, [some (.inr (.inr 86)), some (.inl x1), some (.inl x2), none], [], (am_sh, am_mm U1))) 1 (fun _ => rfl) (fun hc => ?_) (fun hc => ?_)
  · have ha1 := ha.1 hc
    exact ha1
  · have ha2 := ha.2 hc
    refine ev_br (P := x2 = (-1)) (σ1 := ((d + 1), 30, 21, [some (.inr (.inr 86)), some (.inl x1), some (.inl x2), none], [], (am_sh, am_mm U1))) (σ2 := ((d + 1), 30, 13, [some (.inr (.inr 86)), some (.inl x1), some (.inl x2), none], [], (am_sh, am_mm U1))) 3 (fun _ => rfl) (fun hc => ?_) (fun hc => ?_)
    · have ha21 := ha2.1 hc
      exact ha21
    · have ha22 := ha2.2 hc
      refine ev_seg (σ1 := ((d + 1), 30, 15, [some (.inr (.inr 86)), some (.inl x1), some (.inl x2), none], [.inl x2, .inr (.inr 86)], (am_sh, am_mm U1))) 2 (fun _ => rfl) ?_
      obtain ⟨r2, U2, ha22c, ha22a⟩ := ha22
      refine ev_cal (σc := (d, 108, 0, [some (.inr (.inr 86)), some (.inl x2)], [], (am_sh, am_mm U1))) (fun _ => rfl) ha22c ?_
      show Ev (am_kz N X) ((d + 1), 30, 18, [some (.inr (.inr 86)), some (.inl x1), some (.inl x2), none], [.inl r2], (am_sh, am_mm U2)) R
      refine ev_br (P := r2 = 0) (σ1 := ((d + 1), 30, 25, [some (.inr (.inr 86)), some (.inl x1), some (.inl x2), none], [], (am_sh, am_mm U2))) (σ2 := ((d + 1), 30, 21, [some (.inr (.inr 86)), some (.inl x1), some (.inl x2), none], [], (am_sh, am_mm U2))) 1 (fun _ => rfl) (fun hc => ?_) (fun hc => ?_)
      · have ha22a1 := ha22a.1 hc
        exact ha22a1
      · have ha22a2 := ha22a.2 hc
        exact ha22a2
set_option maxRecDepth 8000 in
theorem st30_86_25 (N : Nat) (X : Nat → Int) (d : Nat) (x1 x2 : Int) (U : Nat → Nat → Int) (R : Option am_V × am_M) (h : (((0 = 0 : Prop)) → Ev (am_kz N X) ((d + 1), 30, 83, [some (.inr (.inr 86)), some (.inl x1), some (.inl x2), some (.inl 0)], [], (am_sh, am_mm U)) R) ∧ (¬ (0 = 0) → (0 ≤ x1 ∧ x1 < 352) ∧ ((((U 124 x1.toNat) = x2 : Prop)) → Ev (am_kz N X) ((d + 1), 30, 83, [some (.inr (.inr 86)), some (.inl x1), some (.inl x2), some (.inl 0)], [], (am_sh, am_mm U)) R) ∧ (¬ ((U 124 x1.toNat) = x2) → (((x2 = (-1) : Prop)) → (0 ≤ x1 ∧ x1 < 352) ∧ (((0 < (U 123 x1.toNat) : Prop)) → (((¬ 1 = 0 : Prop)) → ∃ U1 : Nat → Nat → Int, Ev (am_kz N X) (d, 139, 0, [some (.inr (.inr 86))], [], (am_sh, am_mm U)) (none, (am_sh, am_mm U1)) ∧ (0 ≤ x1 ∧ x1 < 352) ∧ R = (some (.inl 1), (am_sh, am_mm (am_upd U1 124 x1.toNat x2)))) ∧ (¬ (¬ 1 = 0) → ∃ (r2 : Int) (U2 : Nat → Nat → Int), Ev (am_kz N X) (d, 85, 0, [some (.inr (.inr 86)), some (.inl 2)], [], (am_sh, am_mm U)) (some (.inl r2), (am_sh, am_mm U2)) ∧ (((r2 < 0 : Prop)) → R = (some (.inl 0), (am_sh, am_mm U2))) ∧ (¬ (r2 < 0) → R = (some (.inl 1), (am_sh, am_mm U2))))) ∧ (¬ (0 < (U 123 x1.toNat)) → (((¬ (U 121 0) = 1 : Prop)) → Ev (am_kz N X) ((d + 1), 30, 83, [some (.inr (.inr 86)), some (.inl x1), some (.inl x2), some (.inl 0)], [], (am_sh, am_mm U)) R) ∧ (¬ (¬ (U 121 0) = 1) → (((¬ 1 = 0 : Prop)) → ∃ U3 : Nat → Nat → Int, Ev (am_kz N X) (d, 139, 0, [some (.inr (.inr 86))], [], (am_sh, am_mm U)) (none, (am_sh, am_mm U3)) ∧ (0 ≤ x1 ∧ x1 < 352) ∧ R = (some (.inl 1), (am_sh, am_mm (am_upd U3 124 x1.toNat x2)))) ∧ (¬ (¬ 1 = 0) → ∃ (r4 : Int) (U4 : Nat → Nat → Int), Ev (am_kz N X) (d, 85, 0, [some (.inr (.inr 86)), some (.inl 2)], [], (am_sh, am_mm U)) (some (.inl r4), (am_sh, am_mm U4)) ∧ (((r4 < 0 : Prop)) → R = (some (.inl 0), (am_sh, am_mm U4))) ∧ (¬ (r4 < 0) → R = (some (.inl 1), (am_sh, am_mm U4))))))) ∧ (¬ (x2 = (-1)) → ∃ (r5 : Int) (U5 : Nat → Nat → Int), Ev (am_kz N X) (d, 111, 0, [some (.inr (.inr 86)), some (.inl 0), some (.inl x2), none, none], [], (am_sh, am_mm U)) (some (.inl r5), (am_sh, am_mm U5)) ∧ ∃ (r6 : Int) (U6 : Nat → Nat → Int), Ev (am_kz N X) (d, 110, 0, [some (.inr (.inr 86)), some (.inl x2)], [], (am_sh, am_mm U5)) (some (.inl r6), (am_sh, am_mm U6)) ∧ (((r6 ≤ r5 : Prop)) → Ev (am_kz N X) ((d + 1), 30, 83, [some (.inr (.inr 86)), some (.inl x1), some (.inl x2), some (.inl 0)], [], (am_sh, am_mm U6)) R) ∧ (¬ (r6 ≤ r5) → (0 ≤ x1 ∧ x1 < 352) ∧ (((0 < (U6 123 x1.toNat) : Prop)) → (((¬ 1 = 0 : Prop)) → ∃ U7 : Nat → Nat → Int, Ev (am_kz N X) (d, 139, 0, [some (.inr (.inr 86))], [], (am_sh, am_mm U6)) (none, (am_sh, am_mm U7)) ∧ (0 ≤ x1 ∧ x1 < 352) ∧ R = (some (.inl 1), (am_sh, am_mm (am_upd U7 124 x1.toNat x2)))) ∧ (¬ (¬ 1 = 0) → ∃ (r8 : Int) (U8 : Nat → Nat → Int), Ev (am_kz N X) (d, 85, 0, [some (.inr (.inr 86)), some (.inl 2)], [], (am_sh, am_mm U6)) (some (.inl r8), (am_sh, am_mm U8)) ∧ (((r8 < 0 : Prop)) → R = (some (.inl 0), (am_sh, am_mm U8))) ∧ (¬ (r8 < 0) → R = (some (.inl 1), (am_sh, am_mm U8))))) ∧ (¬ (0 < (U6 123 x1.toNat)) → (((¬ (U6 121 0) = 1 : Prop)) → Ev (am_kz N X) ((d + 1), 30, 83, [some (.inr (.inr 86)), some (.inl x1), some (.inl x2), some (.inl 0)], [], (am_sh, am_mm U6)) R) ∧ (¬ (¬ (U6 121 0) = 1) → (((¬ 1 = 0 : Prop)) → ∃ U9 : Nat → Nat → Int, Ev (am_kz N X) (d, 139, 0, [some (.inr (.inr 86))], [], (am_sh, am_mm U6)) (none, (am_sh, am_mm U9)) ∧ (0 ≤ x1 ∧ x1 < 352) ∧ R = (some (.inl 1), (am_sh, am_mm (am_upd U9 124 x1.toNat x2)))) ∧ (¬ (¬ 1 = 0) → ∃ (r10 : Int) (U10 : Nat → Nat → Int), Ev (am_kz N X) (d, 85, 0, [some (.inr (.inr 86)), some (.inl 2)], [], (am_sh, am_mm U6)) (some (.inl r10), (am_sh, am_mm U10)) ∧ (((r10 < 0 : Prop)) → R = (some (.inl 0), (am_sh, am_mm U10))) ∧ (¬ (r10 < 0) → R = (some (.inl 1), (am_sh, am_mm U10))))))))))) : Ev (am_kz N X) ((d + 1), 30, 25, [some (.inr (.inr 86)), some (.inl x1), some (.inl x2), none], [], (am_sh, am_mm U)) R := by
  refine ev_br (P := 0 = 0) (σ1 := ((d + 1), 30, 83, [some (.inr (.inr 86)), some (.inl x1), some (.inl x2), some (.inl 0)], [], (am_sh, am_mm U))) (σ2 := ((d + 1), 30, 31, [some (.inr (.inr 86)), some (.inl x1), some (.inl x2), some (.inl 0)], [], (am_sh, am_mm U))) 4 (fun _ => rfl) (fun hc => ?_) (fun hc => ?_)
  · have h1 := h.1 hc
    exact h1
  · have h2 := h.2 hc
    refine ev_seg (σ1 := ((d + 1), 30, 36, [some (.inr (.inr 86)), some (.inl x1), some (.inl x2), some (.inl 0)], [.inl x1, .inr (.inr 124)], (am_sh, am_mm U))) 3 (fun _ => rfl) ?_
    refine eu_iald 124 (n := 352) rfl (by decide) rfl (fun _ => rfl) h2.1 ?_
    have h2a := h2.2
    refine ev_br (P := (U 124 x1.toNat) = x2) (σ1 := ((d + 1), 30, 83, [some (.inr (.inr 86)), some (.inl x1), some (.inl x2), some (.inl 0)], [], (am_sh, am_mm U))) (σ2 := ((d + 1), 30, 41, [some (.inr (.inr 86)), some (.inl x1), some (.inl x2), some (.inl 0)], [], (am_sh, am_mm U))) 2 (fun _ => rfl) (fun hc => ?_) (fun hc => ?_)
    · have h2a1 := h2a.1 hc
      exact h2a1
    · have h2a2 := h2a.2 hc
      refine ev_br (P := x2 = (-1)) (σ1 := ((d + 1), 30, 60, [some (.inr (.inr 86)), some (.inl x1), some (.inl x2), some (.inl 0)], [], (am_sh, am_mm U))) (σ2 := ((d + 1), 30, 46, [some (.inr (.inr 86)), some (.inl x1), some (.inl x2), some (.inl 0)], [], (am_sh, am_mm U))) 3 (fun _ => rfl) (fun hc => ?_) (fun hc => ?_)
      · have h2a21 := h2a2.1 hc
        refine ev_seg (σ1 := ((d + 1), 30, 65, [some (.inr (.inr 86)), some (.inl x1), some (.inl x2), some (.inl 0)], [.inl x1, .inr (.inr 123)], (am_sh, am_mm U))) 3 (fun _ => rfl) ?_
        refine eu_iald 123 (n := 352) rfl (by decide) rfl (fun _ => rfl) h2a21.1 ?_
        have h2a21a := h2a21.2
        refine ev_br (P := 0 < (U 123 x1.toNat)) (σ1 := ((d + 1), 30, 79, [some (.inr (.inr 86)), some (.inl x1), some (.inl x2), some (.inl 0)], [], (am_sh, am_mm U))) (σ2 := ((d + 1), 30, 69, [some (.inr (.inr 86)), some (.inl x1), some (.inl x2), some (.inl 0)], [], (am_sh, am_mm U))) 1 (fun _ => rfl) (fun hc => ?_) (fun hc => ?_)
        · have h2a21a1 := h2a21a.1 hc
          refine ev_br (P := ¬ 1 = 0) (σ1 := ((d + 1), 30, 103, [some (.inr (.inr 86)), some (.inl x1), some (.inl x2), some (.inl 1)], [], (am_sh, am_mm U))) (σ2 := ((d + 1), 30, 89, [some (.inr (.inr 86)), some (.inl x1), some (.inl x2), some (.inl 1)], [], (am_sh, am_mm U))) 5 (fun _ => rfl) (fun hc => ?_) (fun hc => ?_)
          · have h2a21a11 := h2a21a1.1 hc
            refine ev_seg (σ1 := ((d + 1), 30, 104, [some (.inr (.inr 86)), some (.inl x1), some (.inl x2), some (.inl 1)], [.inr (.inr 86)], (am_sh, am_mm U))) 1 (fun _ => rfl) ?_
            obtain ⟨U1, h2a21a11c, h2a21a11a⟩ := h2a21a11
            refine ev_cal (σc := (d, 139, 0, [some (.inr (.inr 86))], [], (am_sh, am_mm U))) (fun _ => rfl) h2a21a11c ?_
            show Ev (am_kz N X) ((d + 1), 30, 107, [some (.inr (.inr 86)), some (.inl x1), some (.inl x2), some (.inl 1)], [], (am_sh, am_mm U1)) R
            refine ev_seg (σ1 := ((d + 1), 30, 113, [some (.inr (.inr 86)), some (.inl x1), some (.inl x2), some (.inl 1)], [.inl x2, .inl x1, .inr (.inr 124)], (am_sh, am_mm U1))) 4 (fun _ => rfl) ?_
            refine eu_iast 124 (n := 352) rfl (by decide) rfl (fun _ => rfl) h2a21a11a.1 ?_
            have h2a21a11aa := h2a21a11a.2
            subst h2a21a11aa
            exact ev_end 2 (fun _ => rfl)
          · have h2a21a12 := h2a21a1.2 hc
            refine ev_seg (σ1 := ((d + 1), 30, 91, [some (.inr (.inr 86)), some (.inl x1), some (.inl x2), some (.inl 1)], [.inl 2, .inr (.inr 86)], (am_sh, am_mm U))) 2 (fun _ => rfl) ?_
            obtain ⟨r2, U2, h2a21a12c, h2a21a12a⟩ := h2a21a12
            refine ev_cal (σc := (d, 85, 0, [some (.inr (.inr 86)), some (.inl 2)], [], (am_sh, am_mm U))) (fun _ => rfl) h2a21a12c ?_
            show Ev (am_kz N X) ((d + 1), 30, 94, [some (.inr (.inr 86)), some (.inl x1), some (.inl x2), some (.inl 1)], [.inl r2], (am_sh, am_mm U2)) R
            refine ev_br (P := r2 < 0) (σ1 := ((d + 1), 30, 101, [some (.inr (.inr 86)), some (.inl x1), some (.inl x2), some (.inl 1)], [], (am_sh, am_mm U2))) (σ2 := ((d + 1), 30, 97, [some (.inr (.inr 86)), some (.inl x1), some (.inl x2), some (.inl 1)], [], (am_sh, am_mm U2))) 1 (fun _ => rfl) (fun hc => ?_) (fun hc => ?_)
            · have h2a21a12a1 := h2a21a12a.1 hc
              subst h2a21a12a1
              exact ev_end 2 (fun _ => rfl)
            · have h2a21a12a2 := h2a21a12a.2 hc
              subst h2a21a12a2
              exact ev_end 3 (fun _ => rfl)
        · have h2a21a2 := h2a21a.2 hc
          refine ev_seg (σ1 := ((d + 1), 30, 74, [some (.inr (.inr 86)), some (.inl x1), some (.inl x2), some (.inl 0)], [.inl 0, .inr (.inr 121)], (am_sh, am_mm U))) 3 (fun _ => rfl) ?_
          refine eu_iald 121 (n := 22) rfl (by decide) rfl (fun _ => rfl) (by decide) ?_
          show Ev (am_kz N X) ((d + 1), 30, 75, [some (.inr (.inr 86)), some (.inl x1), some (.inl x2), some (.inl 0)], [.inl (U 121 0)], (am_sh, am_mm U)) R
          refine ev_br (P := ¬ (U 121 0) = 1) (σ1 := ((d + 1), 30, 83, [some (.inr (.inr 86)), some (.inl x1), some (.inl x2), some (.inl 0)], [], (am_sh, am_mm U))) (σ2 := ((d + 1), 30, 79, [some (.inr (.inr 86)), some (.inl x1), some (.inl x2), some (.inl 0)], [], (am_sh, am_mm U))) 2 (fun _ => rfl) (fun hc => ?_) (fun hc => ?_)
          · have h2a21a21 := h2a21a2.1 hc
            exact h2a21a21
          · have h2a21a22 := h2a21a2.2 hc
            refine ev_br (P := ¬ 1 = 0) (σ1 := ((d + 1), 30, 103, [some (.inr (.inr 86)), some (.inl x1), some (.inl x2), some (.inl 1)], [], (am_sh, am_mm U))) (σ2 := ((d + 1), 30, 89, [some (.inr (.inr 86)), some (.inl x1), some (.inl x2), some (.inl 1)], [], (am_sh, am_mm U))) 5 (fun _ => rfl) (fun hc => ?_) (fun hc => ?_)
            · have h2a21a221 := h2a21a22.1 hc
              refine ev_seg (σ1 := ((d + 1), 30, 104, [some (.inr (.inr 86)), some (.inl x1), some (.inl x2), some (.inl 1)], [.inr (.inr 86)], (am_sh, am_mm U))) 1 (fun _ => rfl) ?_
              obtain ⟨U3, h2a21a221c, h2a21a221a⟩ := h2a21a221
              refine ev_cal (σc := (d, 139, 0, [some (.inr (.inr 86))], [], (am_sh, am_mm U))) (fun _ => rfl) h2a21a221c ?_
              show Ev (am_kz N X) ((d + 1), 30, 107, [some (.inr (.inr 86)), some (.inl x1), some (.inl x2), some (.inl 1)], [], (am_sh, am_mm U3)) R
              refine ev_seg (σ1 := ((d + 1), 30, 113, [some (.inr (.inr 86)), some (.inl x1), some (.inl x2), some (.inl 1)], [.inl x2, .inl x1, .inr (.inr 124)], (am_sh, am_mm U3))) 4 (fun _ => rfl) ?_
              refine eu_iast 124 (n := 352) rfl (by decide) rfl (fun _ => rfl) h2a21a221a.1 ?_
              have h2a21a221aa := h2a21a221a.2
              subst h2a21a221aa
              exact ev_end 2 (fun _ => rfl)
            · have h2a21a222 := h2a21a22.2 hc
              refine ev_seg (σ1 := ((d + 1), 30, 91, [some (.inr (.inr 86)), some (.inl x1), some (.inl x2), some (.inl 1)], [.inl 2, .inr (.inr 86)], (am_sh, am_mm U))) 2 (fun _ => rfl) ?_
              obtain ⟨r4, U4, h2a21a222c, h2a21a222a⟩ := h2a21a222
              refine ev_cal (σc := (d, 85, 0, [some (.inr (.inr 86)), some (.inl 2)], [], (am_sh, am_mm U))) (fun _ => rfl) h2a21a222c ?_
              show Ev (am_kz N X) ((d + 1), 30, 94, [some (.inr (.inr 86)), some (.inl x1), some (.inl x2), some (.inl 1)], [.inl r4], (am_sh, am_mm U4)) R
              refine ev_br (P := r4 < 0) (σ1 := ((d + 1), 30, 101, [some (.inr (.inr 86)), some (.inl x1), some (.inl x2), some (.inl 1)], [], (am_sh, am_mm U4))) (σ2 := ((d + 1), 30, 97, [some (.inr (.inr 86)), some (.inl x1), some (.inl x2), some (.inl 1)], [], (am_sh, am_mm U4))) 1 (fun _ => rfl) (fun hc => ?_) (fun hc => ?_)
              · have h2a21a222a1 := h2a21a222a.1 hc
                subst h2a21a222a1
                exact ev_end 2 (fun _ => rfl)
              · have h2a21a222a2 := h2a21a222a.2 hc
                subst h2a21a222a2
                exact ev_end 3 (fun _ => rfl)
      · have h2a22 := h2a2.2 hc
        refine ev_seg (σ1 := ((d + 1), 30, 49, [some (.inr (.inr 86)), some (.inl x1), some (.inl x2), some (.inl 0)], [.inl x2, .inl 0, .inr (.inr 86)], (am_sh, am_mm U))) 3 (fun _ => rfl) ?_
        obtain ⟨r5, U5, h2a22c, h2a22a⟩ := h2a22
        refine ev_cal (σc := (d, 111, 0, [some (.inr (.inr 86)), some (.inl 0), some (.inl x2), none, none], [], (am_sh, am_mm U))) (fun _ => rfl) h2a22c ?_
        show Ev (am_kz N X) ((d + 1), 30, 52, [some (.inr (.inr 86)), some (.inl x1), some (.inl x2), some (.inl 0)], [.inl r5], (am_sh, am_mm U5)) R
        refine ev_seg (σ1 := ((d + 1), 30, 54, [some (.inr (.inr 86)), some (.inl x1), some (.inl x2), some (.inl 0)], [.inl x2, .inr (.inr 86), .inl r5], (am_sh, am_mm U5))) 2 (fun _ => rfl) ?_
        obtain ⟨r6, U6, h2a22ac, h2a22aa⟩ := h2a22a
        refine ev_cal (σc := (d, 110, 0, [some (.inr (.inr 86)), some (.inl x2)], [], (am_sh, am_mm U5))) (fun _ => rfl) h2a22ac ?_
        show Ev (am_kz N X) ((d + 1), 30, 57, [some (.inr (.inr 86)), some (.inl x1), some (.inl x2), some (.inl 0)], [.inl r6, .inl r5], (am_sh, am_mm U6)) R
        refine ev_br (P := r6 ≤ r5) (σ1 := ((d + 1), 30, 83, [some (.inr (.inr 86)), some (.inl x1), some (.inl x2), some (.inl 0)], [], (am_sh, am_mm U6))) (σ2 := ((d + 1), 30, 60, [some (.inr (.inr 86)), some (.inl x1), some (.inl x2), some (.inl 0)], [], (am_sh, am_mm U6))) 1 (fun _ => rfl) (fun hc => ?_) (fun hc => ?_)
        · have h2a22aa1 := h2a22aa.1 hc
          exact h2a22aa1
        · have h2a22aa2 := h2a22aa.2 hc
          refine ev_seg (σ1 := ((d + 1), 30, 65, [some (.inr (.inr 86)), some (.inl x1), some (.inl x2), some (.inl 0)], [.inl x1, .inr (.inr 123)], (am_sh, am_mm U6))) 3 (fun _ => rfl) ?_
          refine eu_iald 123 (n := 352) rfl (by decide) rfl (fun _ => rfl) h2a22aa2.1 ?_
          have h2a22aa2a := h2a22aa2.2
          refine ev_br (P := 0 < (U6 123 x1.toNat)) (σ1 := ((d + 1), 30, 79, [some (.inr (.inr 86)), some (.inl x1), some (.inl x2), some (.inl 0)], [], (am_sh, am_mm U6))) (σ2 := ((d + 1), 30, 69, [some (.inr (.inr 86)), some (.inl x1), some (.inl x2), some (.inl 0)], [], (am_sh, am_mm U6))) 1 (fun _ => rfl) (fun hc => ?_) (fun hc => ?_)
          · have h2a22aa2a1 := h2a22aa2a.1 hc
            refine ev_br (P := ¬ 1 = 0) (σ1 := ((d + 1), 30, 103, [some (.inr (.inr 86)), some (.inl x1), some (.inl x2), some (.inl 1)], [], (am_sh, am_mm U6))) (σ2 := ((d + 1), 30, 89, [some (.inr (.inr 86)), some (.inl x1), some (.inl x2), some (.inl 1)], [], (am_sh, am_mm U6))) 5 (fun _ => rfl) (fun hc => ?_) (fun hc => ?_)
            · have h2a22aa2a11 := h2a22aa2a1.1 hc
              refine ev_seg (σ1 := ((d + 1), 30, 104, [some (.inr (.inr 86)), some (.inl x1), some (.inl x2), some (.inl 1)], [.inr (.inr 86)], (am_sh, am_mm U6))) 1 (fun _ => rfl) ?_
              obtain ⟨U7, h2a22aa2a11c, h2a22aa2a11a⟩ := h2a22aa2a11
              refine ev_cal (σc := (d, 139, 0, [some (.inr (.inr 86))], [], (am_sh, am_mm U6))) (fun _ => rfl) h2a22aa2a11c ?_
              show Ev (am_kz N X) ((d + 1), 30, 107, [some (.inr (.inr 86)), some (.inl x1), some (.inl x2), some (.inl 1)], [], (am_sh, am_mm U7)) R
              refine ev_seg (σ1 := ((d + 1), 30, 113, [some (.inr (.inr 86)), some (.inl x1), some (.inl x2), some (.inl 1)], [.inl x2, .inl x1, .inr (.inr 124)], (am_sh, am_mm U7))) 4 (fun _ => rfl) ?_
              refine eu_iast 124 (n := 352) rfl (by decide) rfl (fun _ => rfl) h2a22aa2a11a.1 ?_
              have h2a22aa2a11aa := h2a22aa2a11a.2
              subst h2a22aa2a11aa
              exact ev_end 2 (fun _ => rfl)
            · have h2a22aa2a12 := h2a22aa2a1.2 hc
              refine ev_seg (σ1 := ((d + 1), 30, 91, [some (.inr (.inr 86)), some (.inl x1), some (.inl x2), some (.inl 1)], [.inl 2, .inr (.inr 86)], (am_sh, am_mm U6))) 2 (fun _ => rfl) ?_
              obtain ⟨r8, U8, h2a22aa2a12c, h2a22aa2a12a⟩ := h2a22aa2a12
              refine ev_cal (σc := (d, 85, 0, [some (.inr (.inr 86)), some (.inl 2)], [], (am_sh, am_mm U6))) (fun _ => rfl) h2a22aa2a12c ?_
              show Ev (am_kz N X) ((d + 1), 30, 94, [some (.inr (.inr 86)), some (.inl x1), some (.inl x2), some (.inl 1)], [.inl r8], (am_sh, am_mm U8)) R
              refine ev_br (P := r8 < 0) (σ1 := ((d + 1), 30, 101, [some (.inr (.inr 86)), some (.inl x1), some (.inl x2), some (.inl 1)], [], (am_sh, am_mm U8))) (σ2 := ((d + 1), 30, 97, [some (.inr (.inr 86)), some (.inl x1), some (.inl x2), some (.inl 1)], [], (am_sh, am_mm U8))) 1 (fun _ => rfl) (fun hc => ?_) (fun hc => ?_)
              · have h2a22aa2a12a1 := h2a22aa2a12a.1 hc
                subst h2a22aa2a12a1
                exact ev_end 2 (fun _ => rfl)
              · have h2a22aa2a12a2 := h2a22aa2a12a.2 hc
                subst h2a22aa2a12a2
                exact ev_end 3 (fun _ => rfl)
          · have h2a22aa2a2 := h2a22aa2a.2 hc
            refine ev_seg (σ1 := ((d + 1), 30, 74, [some (.inr (.inr 86)), some (.inl x1), some (.inl x2), some (.inl 0)], [.inl 0, .inr (.inr 121)], (am_sh, am_mm U6))) 3 (fun _ => rfl) ?_
            refine eu_iald 121 (n := 22) rfl (by decide) rfl (fun _ => rfl) (by decide) ?_
            show Ev (am_kz N X) ((d + 1), 30, 75, [some (.inr (.inr 86)), some (.inl x1), some (.inl x2), some (.inl 0)], [.inl (U6 121 0)], (am_sh, am_mm U6)) R
            refine ev_br (P := ¬ (U6 121 0) = 1) (σ1 := ((d + 1), 30, 83, [some (.inr (.inr 86)), some (.inl x1), some (.inl x2), some (.inl 0)], [], (am_sh, am_mm U6))) (σ2 := ((d + 1), 30, 79, [some (.inr (.inr 86)), some (.inl x1), some (.inl x2), some (.inl 0)], [], (am_sh, am_mm U6))) 2 (fun _ => rfl) (fun hc => ?_) (fun hc => ?_)
            · have h2a22aa2a21 := h2a22aa2a2.1 hc
              exact h2a22aa2a21
            · have h2a22aa2a22 := h2a22aa2a2.2 hc
              refine ev_br (P := ¬ 1 = 0) (σ1 := ((d + 1), 30, 103, [some (.inr (.inr 86)), some (.inl x1), some (.inl x2), some (.inl 1)], [], (am_sh, am_mm U6))) (σ2 := ((d + 1), 30, 89, [some (.inr (.inr 86)), some (.inl x1), some (.inl x2), some (.inl 1)], [], (am_sh, am_mm U6))) 5 (fun _ => rfl) (fun hc => ?_) (fun hc => ?_)
              · have h2a22aa2a221 := h2a22aa2a22.1 hc
                refine ev_seg (σ1 := ((d + 1), 30, 104, [some (.inr (.inr 86)), some (.inl x1), some (.inl x2), some (.inl 1)], [.inr (.inr 86)], (am_sh, am_mm U6))) 1 (fun _ => rfl) ?_
                obtain ⟨U9, h2a22aa2a221c, h2a22aa2a221a⟩ := h2a22aa2a221
                refine ev_cal (σc := (d, 139, 0, [some (.inr (.inr 86))], [], (am_sh, am_mm U6))) (fun _ => rfl) h2a22aa2a221c ?_
                show Ev (am_kz N X) ((d + 1), 30, 107, [some (.inr (.inr 86)), some (.inl x1), some (.inl x2), some (.inl 1)], [], (am_sh, am_mm U9)) R
                refine ev_seg (σ1 := ((d + 1), 30, 113, [some (.inr (.inr 86)), some (.inl x1), some (.inl x2), some (.inl 1)], [.inl x2, .inl x1, .inr (.inr 124)], (am_sh, am_mm U9))) 4 (fun _ => rfl) ?_
                refine eu_iast 124 (n := 352) rfl (by decide) rfl (fun _ => rfl) h2a22aa2a221a.1 ?_
                have h2a22aa2a221aa := h2a22aa2a221a.2
                subst h2a22aa2a221aa
                exact ev_end 2 (fun _ => rfl)
              · have h2a22aa2a222 := h2a22aa2a22.2 hc
                refine ev_seg (σ1 := ((d + 1), 30, 91, [some (.inr (.inr 86)), some (.inl x1), some (.inl x2), some (.inl 1)], [.inl 2, .inr (.inr 86)], (am_sh, am_mm U6))) 2 (fun _ => rfl) ?_
                obtain ⟨r10, U10, h2a22aa2a222c, h2a22aa2a222a⟩ := h2a22aa2a222
                refine ev_cal (σc := (d, 85, 0, [some (.inr (.inr 86)), some (.inl 2)], [], (am_sh, am_mm U6))) (fun _ => rfl) h2a22aa2a222c ?_
                show Ev (am_kz N X) ((d + 1), 30, 94, [some (.inr (.inr 86)), some (.inl x1), some (.inl x2), some (.inl 1)], [.inl r10], (am_sh, am_mm U10)) R
                refine ev_br (P := r10 < 0) (σ1 := ((d + 1), 30, 101, [some (.inr (.inr 86)), some (.inl x1), some (.inl x2), some (.inl 1)], [], (am_sh, am_mm U10))) (σ2 := ((d + 1), 30, 97, [some (.inr (.inr 86)), some (.inl x1), some (.inl x2), some (.inl 1)], [], (am_sh, am_mm U10))) 1 (fun _ => rfl) (fun hc => ?_) (fun hc => ?_)
                · have h2a22aa2a222a1 := h2a22aa2a222a.1 hc
                  subst h2a22aa2a222a1
                  exact ev_end 2 (fun _ => rfl)
                · have h2a22aa2a222a2 := h2a22aa2a222a.2 hc
                  subst h2a22aa2a222a2
                  exact ev_end 3 (fun _ => rfl)
set_option maxRecDepth 8000 in
theorem st30_86_21 (N : Nat) (X : Nat → Int) (d : Nat) (x1 x2 : Int) (U : Nat → Nat → Int) (R : Option am_V × am_M) (h : (((1 = 0 : Prop)) → Ev (am_kz N X) ((d + 1), 30, 83, [some (.inr (.inr 86)), some (.inl x1), some (.inl x2), some (.inl 1)], [], (am_sh, am_mm U)) R) ∧ (¬ (1 = 0) → (0 ≤ x1 ∧ x1 < 352) ∧ ((((U 124 x1.toNat) = x2 : Prop)) → Ev (am_kz N X) ((d + 1), 30, 83, [some (.inr (.inr 86)), some (.inl x1), some (.inl x2), some (.inl 1)], [], (am_sh, am_mm U)) R) ∧ (¬ ((U 124 x1.toNat) = x2) → (((x2 = (-1) : Prop)) → (0 ≤ x1 ∧ x1 < 352) ∧ (((0 < (U 123 x1.toNat) : Prop)) → (((¬ 1 = 0 : Prop)) → ∃ U1 : Nat → Nat → Int, Ev (am_kz N X) (d, 139, 0, [some (.inr (.inr 86))], [], (am_sh, am_mm U)) (none, (am_sh, am_mm U1)) ∧ (0 ≤ x1 ∧ x1 < 352) ∧ R = (some (.inl 1), (am_sh, am_mm (am_upd U1 124 x1.toNat x2)))) ∧ (¬ (¬ 1 = 0) → ∃ (r2 : Int) (U2 : Nat → Nat → Int), Ev (am_kz N X) (d, 85, 0, [some (.inr (.inr 86)), some (.inl 2)], [], (am_sh, am_mm U)) (some (.inl r2), (am_sh, am_mm U2)) ∧ (((r2 < 0 : Prop)) → R = (some (.inl 0), (am_sh, am_mm U2))) ∧ (¬ (r2 < 0) → R = (some (.inl 1), (am_sh, am_mm U2))))) ∧ (¬ (0 < (U 123 x1.toNat)) → (((¬ (U 121 0) = 1 : Prop)) → Ev (am_kz N X) ((d + 1), 30, 83, [some (.inr (.inr 86)), some (.inl x1), some (.inl x2), some (.inl 1)], [], (am_sh, am_mm U)) R) ∧ (¬ (¬ (U 121 0) = 1) → (((¬ 1 = 0 : Prop)) → ∃ U3 : Nat → Nat → Int, Ev (am_kz N X) (d, 139, 0, [some (.inr (.inr 86))], [], (am_sh, am_mm U)) (none, (am_sh, am_mm U3)) ∧ (0 ≤ x1 ∧ x1 < 352) ∧ R = (some (.inl 1), (am_sh, am_mm (am_upd U3 124 x1.toNat x2)))) ∧ (¬ (¬ 1 = 0) → ∃ (r4 : Int) (U4 : Nat → Nat → Int), Ev (am_kz N X) (d, 85, 0, [some (.inr (.inr 86)), some (.inl 2)], [], (am_sh, am_mm U)) (some (.inl r4), (am_sh, am_mm U4)) ∧ (((r4 < 0 : Prop)) → R = (some (.inl 0), (am_sh, am_mm U4))) ∧ (¬ (r4 < 0) → R = (some (.inl 1), (am_sh, am_mm U4))))))) ∧ (¬ (x2 = (-1)) → ∃ (r5 : Int) (U5 : Nat → Nat → Int), Ev (am_kz N X) (d, 111, 0, [some (.inr (.inr 86)), some (.inl 0), some (.inl x2), none, none], [], (am_sh, am_mm U)) (some (.inl r5), (am_sh, am_mm U5)) ∧ ∃ (r6 : Int) (U6 : Nat → Nat → Int), Ev (am_kz N X) (d, 110, 0, [some (.inr (.inr 86)), some (.inl x2)], [], (am_sh, am_mm U5)) (some (.inl r6), (am_sh, am_mm U6)) ∧ (((r6 ≤ r5 : Prop)) → Ev (am_kz N X) ((d + 1), 30, 83, [some (.inr (.inr 86)), some (.inl x1), some (.inl x2), some (.inl 1)], [], (am_sh, am_mm U6)) R) ∧ (¬ (r6 ≤ r5) → (0 ≤ x1 ∧ x1 < 352) ∧ (((0 < (U6 123 x1.toNat) : Prop)) → (((¬ 1 = 0 : Prop)) → ∃ U7 : Nat → Nat → Int, Ev (am_kz N X) (d, 139, 0, [some (.inr (.inr 86))], [], (am_sh, am_mm U6)) (none, (am_sh, am_mm U7)) ∧ (0 ≤ x1 ∧ x1 < 352) ∧ R = (some (.inl 1), (am_sh, am_mm (am_upd U7 124 x1.toNat x2)))) ∧ (¬ (¬ 1 = 0) → ∃ (r8 : Int) (U8 : Nat → Nat → Int), Ev (am_kz N X) (d, 85, 0, [some (.inr (.inr 86)), some (.inl 2)], [], (am_sh, am_mm U6)) (some (.inl r8), (am_sh, am_mm U8)) ∧ (((r8 < 0 : Prop)) → R = (some (.inl 0), (am_sh, am_mm U8))) ∧ (¬ (r8 < 0) → R = (some (.inl 1), (am_sh, am_mm U8))))) ∧ (¬ (0 < (U6 123 x1.toNat)) → (((¬ (U6 121 0) = 1 : Prop)) → Ev (am_kz N X) ((d + 1), 30, 83, [some (.inr (.inr 86)), some (.inl x1), some (.inl x2), some (.inl 1)], [], (am_sh, am_mm U6)) R) ∧ (¬ (¬ (U6 121 0) = 1) → (((¬ 1 = 0 : Prop)) → ∃ U9 : Nat → Nat → Int, Ev (am_kz N X) (d, 139, 0, [some (.inr (.inr 86))], [], (am_sh, am_mm U6)) (none, (am_sh, am_mm U9)) ∧ (0 ≤ x1 ∧ x1 < 352) ∧ R = (some (.inl 1), (am_sh, am_mm (am_upd U9 124 x1.toNat x2)))) ∧ (¬ (¬ 1 = 0) → ∃ (r10 : Int) (U10 : Nat → Nat → Int), Ev (am_kz N X) (d, 85, 0, [some (.inr (.inr 86)), some (.inl 2)], [], (am_sh, am_mm U6)) (some (.inl r10), (am_sh, am_mm U10)) ∧ (((r10 < 0 : Prop)) → R = (some (.inl 0), (am_sh, am_mm U10))) ∧ (¬ (r10 < 0) → R = (some (.inl 1), (am_sh, am_mm U10))))))))))) : Ev (am_kz N X) ((d + 1), 30, 21, [some (.inr (.inr 86)), some (.inl x1), some (.inl x2), none], [], (am_sh, am_mm U)) R := by
  refine ev_br (P := 1 = 0) (σ1 := ((d + 1), 30, 83, [some (.inr (.inr 86)), some (.inl x1), some (.inl x2), some (.inl 1)], [], (am_sh, am_mm U))) (σ2 := ((d + 1), 30, 31, [some (.inr (.inr 86)), some (.inl x1), some (.inl x2), some (.inl 1)], [], (am_sh, am_mm U))) 5 (fun _ => rfl) (fun hc => ?_) (fun hc => ?_)
  · have h1 := h.1 hc
    exact h1
  · have h2 := h.2 hc
    refine ev_seg (σ1 := ((d + 1), 30, 36, [some (.inr (.inr 86)), some (.inl x1), some (.inl x2), some (.inl 1)], [.inl x1, .inr (.inr 124)], (am_sh, am_mm U))) 3 (fun _ => rfl) ?_
    refine eu_iald 124 (n := 352) rfl (by decide) rfl (fun _ => rfl) h2.1 ?_
    have h2a := h2.2
    refine ev_br (P := (U 124 x1.toNat) = x2) (σ1 := ((d + 1), 30, 83, [some (.inr (.inr 86)), some (.inl x1), some (.inl x2), some (.inl 1)], [], (am_sh, am_mm U))) (σ2 := ((d + 1), 30, 41, [some (.inr (.inr 86)), some (.inl x1), some (.inl x2), some (.inl 1)], [], (am_sh, am_mm U))) 2 (fun _ => rfl) (fun hc => ?_) (fun hc => ?_)
    · have h2a1 := h2a.1 hc
      exact h2a1
    · have h2a2 := h2a.2 hc
      refine ev_br (P := x2 = (-1)) (σ1 := ((d + 1), 30, 60, [some (.inr (.inr 86)), some (.inl x1), some (.inl x2), some (.inl 1)], [], (am_sh, am_mm U))) (σ2 := ((d + 1), 30, 46, [some (.inr (.inr 86)), some (.inl x1), some (.inl x2), some (.inl 1)], [], (am_sh, am_mm U))) 3 (fun _ => rfl) (fun hc => ?_) (fun hc => ?_)
      · have h2a21 := h2a2.1 hc
        refine ev_seg (σ1 := ((d + 1), 30, 65, [some (.inr (.inr 86)), some (.inl x1), some (.inl x2), some (.inl 1)], [.inl x1, .inr (.inr 123)], (am_sh, am_mm U))) 3 (fun _ => rfl) ?_
        refine eu_iald 123 (n := 352) rfl (by decide) rfl (fun _ => rfl) h2a21.1 ?_
        have h2a21a := h2a21.2
        refine ev_br (P := 0 < (U 123 x1.toNat)) (σ1 := ((d + 1), 30, 79, [some (.inr (.inr 86)), some (.inl x1), some (.inl x2), some (.inl 1)], [], (am_sh, am_mm U))) (σ2 := ((d + 1), 30, 69, [some (.inr (.inr 86)), some (.inl x1), some (.inl x2), some (.inl 1)], [], (am_sh, am_mm U))) 1 (fun _ => rfl) (fun hc => ?_) (fun hc => ?_)
        · have h2a21a1 := h2a21a.1 hc
          refine ev_br (P := ¬ 1 = 0) (σ1 := ((d + 1), 30, 103, [some (.inr (.inr 86)), some (.inl x1), some (.inl x2), some (.inl 1)], [], (am_sh, am_mm U))) (σ2 := ((d + 1), 30, 89, [some (.inr (.inr 86)), some (.inl x1), some (.inl x2), some (.inl 1)], [], (am_sh, am_mm U))) 5 (fun _ => rfl) (fun hc => ?_) (fun hc => ?_)
          · have h2a21a11 := h2a21a1.1 hc
            refine ev_seg (σ1 := ((d + 1), 30, 104, [some (.inr (.inr 86)), some (.inl x1), some (.inl x2), some (.inl 1)], [.inr (.inr 86)], (am_sh, am_mm U))) 1 (fun _ => rfl) ?_
            obtain ⟨U1, h2a21a11c, h2a21a11a⟩ := h2a21a11
            refine ev_cal (σc := (d, 139, 0, [some (.inr (.inr 86))], [], (am_sh, am_mm U))) (fun _ => rfl) h2a21a11c ?_
            show Ev (am_kz N X) ((d + 1), 30, 107, [some (.inr (.inr 86)), some (.inl x1), some (.inl x2), some (.inl 1)], [], (am_sh, am_mm U1)) R
            refine ev_seg (σ1 := ((d + 1), 30, 113, [some (.inr (.inr 86)), some (.inl x1), some (.inl x2), some (.inl 1)], [.inl x2, .inl x1, .inr (.inr 124)], (am_sh, am_mm U1))) 4 (fun _ => rfl) ?_
            refine eu_iast 124 (n := 352) rfl (by decide) rfl (fun _ => rfl) h2a21a11a.1 ?_
            have h2a21a11aa := h2a21a11a.2
            subst h2a21a11aa
            exact ev_end 2 (fun _ => rfl)
          · have h2a21a12 := h2a21a1.2 hc
            refine ev_seg (σ1 := ((d + 1), 30, 91, [some (.inr (.inr 86)), some (.inl x1), some (.inl x2), some (.inl 1)], [.inl 2, .inr (.inr 86)], (am_sh, am_mm U))) 2 (fun _ => rfl) ?_
            obtain ⟨r2, U2, h2a21a12c, h2a21a12a⟩ := h2a21a12
            refine ev_cal (σc := (d, 85, 0, [some (.inr (.inr 86)), some (.inl 2)], [], (am_sh, am_mm U))) (fun _ => rfl) h2a21a12c ?_
            show Ev (am_kz N X) ((d + 1), 30, 94, [some (.inr (.inr 86)), some (.inl x1), some (.inl x2), some (.inl 1)], [.inl r2], (am_sh, am_mm U2)) R
            refine ev_br (P := r2 < 0) (σ1 := ((d + 1), 30, 101, [some (.inr (.inr 86)), some (.inl x1), some (.inl x2), some (.inl 1)], [], (am_sh, am_mm U2))) (σ2 := ((d + 1), 30, 97, [some (.inr (.inr 86)), some (.inl x1), some (.inl x2), some (.inl 1)], [], (am_sh, am_mm U2))) 1 (fun _ => rfl) (fun hc => ?_) (fun hc => ?_)
            · have h2a21a12a1 := h2a21a12a.1 hc
              subst h2a21a12a1
              exact ev_end 2 (fun _ => rfl)
            · have h2a21a12a2 := h2a21a12a.2 hc
              subst h2a21a12a2
              exact ev_end 3 (fun _ => rfl)
        · have h2a21a2 := h2a21a.2 hc
          refine ev_seg (σ1 := ((d + 1), 30, 74, [some (.inr (.inr 86)), some (.inl x1), some (.inl x2), some (.inl 1)], [.inl 0, .inr (.inr 121)], (am_sh, am_mm U))) 3 (fun _ => rfl) ?_
          refine eu_iald 121 (n := 22) rfl (by decide) rfl (fun _ => rfl) (by decide) ?_
          show Ev (am_kz N X) ((d + 1), 30, 75, [some (.inr (.inr 86)), some (.inl x1), some (.inl x2), some (.inl 1)], [.inl (U 121 0)], (am_sh, am_mm U)) R
          refine ev_br (P := ¬ (U 121 0) = 1) (σ1 := ((d + 1), 30, 83, [some (.inr (.inr 86)), some (.inl x1), some (.inl x2), some (.inl 1)], [], (am_sh, am_mm U))) (σ2 := ((d + 1), 30, 79, [some (.inr (.inr 86)), some (.inl x1), some (.inl x2), some (.inl 1)], [], (am_sh, am_mm U))) 2 (fun _ => rfl) (fun hc => ?_) (fun hc => ?_)
          · have h2a21a21 := h2a21a2.1 hc
            exact h2a21a21
          · have h2a21a22 := h2a21a2.2 hc
            refine ev_br (P := ¬ 1 = 0) (σ1 := ((d + 1), 30, 103, [some (.inr (.inr 86)), some (.inl x1), some (.inl x2), some (.inl 1)], [], (am_sh, am_mm U))) (σ2 := ((d + 1), 30, 89, [some (.inr (.inr 86)), some (.inl x1), some (.inl x2), some (.inl 1)], [], (am_sh, am_mm U))) 5 (fun _ => rfl) (fun hc => ?_) (fun hc => ?_)
            · have h2a21a221 := h2a21a22.1 hc
              refine ev_seg (σ1 := ((d + 1), 30, 104, [some (.inr (.inr 86)), some (.inl x1), some (.inl x2), some (.inl 1)], [.inr (.inr 86)], (am_sh, am_mm U))) 1 (fun _ => rfl) ?_
              obtain ⟨U3, h2a21a221c, h2a21a221a⟩ := h2a21a221
              refine ev_cal (σc := (d, 139, 0, [some (.inr (.inr 86))], [], (am_sh, am_mm U))) (fun _ => rfl) h2a21a221c ?_
              show Ev (am_kz N X) ((d + 1), 30, 107, [some (.inr (.inr 86)), some (.inl x1), some (.inl x2), some (.inl 1)], [], (am_sh, am_mm U3)) R
              refine ev_seg (σ1 := ((d + 1), 30, 113, [some (.inr (.inr 86)), some (.inl x1), some (.inl x2), some (.inl 1)], [.inl x2, .inl x1, .inr (.inr 124)], (am_sh, am_mm U3))) 4 (fun _ => rfl) ?_
              refine eu_iast 124 (n := 352) rfl (by decide) rfl (fun _ => rfl) h2a21a221a.1 ?_
              have h2a21a221aa := h2a21a221a.2
              subst h2a21a221aa
              exact ev_end 2 (fun _ => rfl)
            · have h2a21a222 := h2a21a22.2 hc
              refine ev_seg (σ1 := ((d + 1), 30, 91, [some (.inr (.inr 86)), some (.inl x1), some (.inl x2), some (.inl 1)], [.inl 2, .inr (.inr 86)], (am_sh, am_mm U))) 2 (fun _ => rfl) ?_
              obtain ⟨r4, U4, h2a21a222c, h2a21a222a⟩ := h2a21a222
              refine ev_cal (σc := (d, 85, 0, [some (.inr (.inr 86)), some (.inl 2)], [], (am_sh, am_mm U))) (fun _ => rfl) h2a21a222c ?_
              show Ev (am_kz N X) ((d + 1), 30, 94, [some (.inr (.inr 86)), some (.inl x1), some (.inl x2), some (.inl 1)], [.inl r4], (am_sh, am_mm U4)) R
              refine ev_br (P := r4 < 0) (σ1 := ((d + 1), 30, 101, [some (.inr (.inr 86)), some (.inl x1), some (.inl x2), some (.inl 1)], [], (am_sh, am_mm U4))) (σ2 := ((d + 1), 30, 97, [some (.inr (.inr 86)), some (.inl x1), some (.inl x2), some (.inl 1)], [], (am_sh, am_mm U4))) 1 (fun _ => rfl) (fun hc => ?_) (fun hc => ?_)
              · have h2a21a222a1 := h2a21a222a.1 hc
                subst h2a21a222a1
                exact ev_end 2 (fun _ => rfl)
              · have h2a21a222a2 := h2a21a222a.2 hc
                subst h2a21a222a2
                exact ev_end 3 (fun _ => rfl)
      · have h2a22 := h2a2.2 hc
        refine ev_seg (σ1 := ((d + 1), 30, 49, [some (.inr (.inr 86)), some (.inl x1), some (.inl x2), some (.inl 1)], [.inl x2, .inl 0, .inr (.inr 86)], (am_sh, am_mm U))) 3 (fun _ => rfl) ?_
        obtain ⟨r5, U5, h2a22c, h2a22a⟩ := h2a22
        refine ev_cal (σc := (d, 111, 0, [some (.inr (.inr 86)), some (.inl 0), some (.inl x2), none, none], [], (am_sh, am_mm U))) (fun _ => rfl) h2a22c ?_
        show Ev (am_kz N X) ((d + 1), 30, 52, [some (.inr (.inr 86)), some (.inl x1), some (.inl x2), some (.inl 1)], [.inl r5], (am_sh, am_mm U5)) R
        refine ev_seg (σ1 := ((d + 1), 30, 54, [some (.inr (.inr 86)), some (.inl x1), some (.inl x2), some (.inl 1)], [.inl x2, .inr (.inr 86), .inl r5], (am_sh, am_mm U5))) 2 (fun _ => rfl) ?_
        obtain ⟨r6, U6, h2a22ac, h2a22aa⟩ := h2a22a
        refine ev_cal (σc := (d, 110, 0, [some (.inr (.inr 86)), some (.inl x2)], [], (am_sh, am_mm U5))) (fun _ => rfl) h2a22ac ?_
        show Ev (am_kz N X) ((d + 1), 30, 57, [some (.inr (.inr 86)), some (.inl x1), some (.inl x2), some (.inl 1)], [.inl r6, .inl r5], (am_sh, am_mm U6)) R
        refine ev_br (P := r6 ≤ r5) (σ1 := ((d + 1), 30, 83, [some (.inr (.inr 86)), some (.inl x1), some (.inl x2), some (.inl 1)], [], (am_sh, am_mm U6))) (σ2 := ((d + 1), 30, 60, [some (.inr (.inr 86)), some (.inl x1), some (.inl x2), some (.inl 1)], [], (am_sh, am_mm U6))) 1 (fun _ => rfl) (fun hc => ?_) (fun hc => ?_)
        · have h2a22aa1 := h2a22aa.1 hc
          exact h2a22aa1
        · have h2a22aa2 := h2a22aa.2 hc
          refine ev_seg (σ1 := ((d + 1), 30, 65, [some (.inr (.inr 86)), some (.inl x1), some (.inl x2), some (.inl 1)], [.inl x1, .inr (.inr 123)], (am_sh, am_mm U6))) 3 (fun _ => rfl) ?_
          refine eu_iald 123 (n := 352) rfl (by decide) rfl (fun _ => rfl) h2a22aa2.1 ?_
          have h2a22aa2a := h2a22aa2.2
          refine ev_br (P := 0 < (U6 123 x1.toNat)) (σ1 := ((d + 1), 30, 79, [some (.inr (.inr 86)), some (.inl x1), some (.inl x2), some (.inl 1)], [], (am_sh, am_mm U6))) (σ2 := ((d + 1), 30, 69, [some (.inr (.inr 86)), some (.inl x1), some (.inl x2), some (.inl 1)], [], (am_sh, am_mm U6))) 1 (fun _ => rfl) (fun hc => ?_) (fun hc => ?_)
          · have h2a22aa2a1 := h2a22aa2a.1 hc
            refine ev_br (P := ¬ 1 = 0) (σ1 := ((d + 1), 30, 103, [some (.inr (.inr 86)), some (.inl x1), some (.inl x2), some (.inl 1)], [], (am_sh, am_mm U6))) (σ2 := ((d + 1), 30, 89, [some (.inr (.inr 86)), some (.inl x1), some (.inl x2), some (.inl 1)], [], (am_sh, am_mm U6))) 5 (fun _ => rfl) (fun hc => ?_) (fun hc => ?_)
            · have h2a22aa2a11 := h2a22aa2a1.1 hc
              refine ev_seg (σ1 := ((d + 1), 30, 104, [some (.inr (.inr 86)), some (.inl x1), some (.inl x2), some (.inl 1)], [.inr (.inr 86)], (am_sh, am_mm U6))) 1 (fun _ => rfl) ?_
              obtain ⟨U7, h2a22aa2a11c, h2a22aa2a11a⟩ := h2a22aa2a11
              refine ev_cal (σc := (d, 139, 0, [some (.inr (.inr 86))], [], (am_sh, am_mm U6))) (fun _ => rfl) h2a22aa2a11c ?_
              show Ev (am_kz N X) ((d + 1), 30, 107, [some (.inr (.inr 86)), some (.inl x1), some (.inl x2), some (.inl 1)], [], (am_sh, am_mm U7)) R
              refine ev_seg (σ1 := ((d + 1), 30, 113, [some (.inr (.inr 86)), some (.inl x1), some (.inl x2), some (.inl 1)], [.inl x2, .inl x1, .inr (.inr 124)], (am_sh, am_mm U7))) 4 (fun _ => rfl) ?_
              refine eu_iast 124 (n := 352) rfl (by decide) rfl (fun _ => rfl) h2a22aa2a11a.1 ?_
              have h2a22aa2a11aa := h2a22aa2a11a.2
              subst h2a22aa2a11aa
              exact ev_end 2 (fun _ => rfl)
            · have h2a22aa2a12 := h2a22aa2a1.2 hc
              refine ev_seg (σ1 := ((d + 1), 30, 91, [some (.inr (.inr 86)), some (.inl x1), some (.inl x2), some (.inl 1)], [.inl 2, .inr (.inr 86)], (am_sh, am_mm U6))) 2 (fun _ => rfl) ?_
              obtain ⟨r8, U8, h2a22aa2a12c, h2a22aa2a12a⟩ := h2a22aa2a12
              refine ev_cal (σc := (d, 85, 0, [some (.inr (.inr 86)), some (.inl 2)], [], (am_sh, am_mm U6))) (fun _ => rfl) h2a22aa2a12c ?_
              show Ev (am_kz N X) ((d + 1), 30, 94, [some (.inr (.inr 86)), some (.inl x1), some (.inl x2), some (.inl 1)], [.inl r8], (am_sh, am_mm U8)) R
              refine ev_br (P := r8 < 0) (σ1 := ((d + 1), 30, 101, [some (.inr (.inr 86)), some (.inl x1), some (.inl x2), some (.inl 1)], [], (am_sh, am_mm U8))) (σ2 := ((d + 1), 30, 97, [some (.inr (.inr 86)), some (.inl x1), some (.inl x2), some (.inl 1)], [], (am_sh, am_mm U8))) 1 (fun _ => rfl) (fun hc => ?_) (fun hc => ?_)
              · have h2a22aa2a12a1 := h2a22aa2a12a.1 hc
                subst h2a22aa2a12a1
                exact ev_end 2 (fun _ => rfl)
              · have h2a22aa2a12a2 := h2a22aa2a12a.2 hc
                subst h2a22aa2a12a2
                exact ev_end 3 (fun _ => rfl)
          · have h2a22aa2a2 := h2a22aa2a.2 hc
            refine ev_seg (σ1 := ((d + 1), 30, 74, [some (.inr (.inr 86)), some (.inl x1), some (.inl x2), some (.inl 1)], [.inl 0, .inr (.inr 121)], (am_sh, am_mm U6))) 3 (fun _ => rfl) ?_
            refine eu_iald 121 (n := 22) rfl (by decide) rfl (fun _ => rfl) (by decide) ?_
            show Ev (am_kz N X) ((d + 1), 30, 75, [some (.inr (.inr 86)), some (.inl x1), some (.inl x2), some (.inl 1)], [.inl (U6 121 0)], (am_sh, am_mm U6)) R
            refine ev_br (P := ¬ (U6 121 0) = 1) (σ1 := ((d + 1), 30, 83, [some (.inr (.inr 86)), some (.inl x1), some (.inl x2), some (.inl 1)], [], (am_sh, am_mm U6))) (σ2 := ((d + 1), 30, 79, [some (.inr (.inr 86)), some (.inl x1), some (.inl x2), some (.inl 1)], [], (am_sh, am_mm U6))) 2 (fun _ => rfl) (fun hc => ?_) (fun hc => ?_)
            · have h2a22aa2a21 := h2a22aa2a2.1 hc
              exact h2a22aa2a21
            · have h2a22aa2a22 := h2a22aa2a2.2 hc
              refine ev_br (P := ¬ 1 = 0) (σ1 := ((d + 1), 30, 103, [some (.inr (.inr 86)), some (.inl x1), some (.inl x2), some (.inl 1)], [], (am_sh, am_mm U6))) (σ2 := ((d + 1), 30, 89, [some (.inr (.inr 86)), some (.inl x1), some (.inl x2), some (.inl 1)], [], (am_sh, am_mm U6))) 5 (fun _ => rfl) (fun hc => ?_) (fun hc => ?_)
              · have h2a22aa2a221 := h2a22aa2a22.1 hc
                refine ev_seg (σ1 := ((d + 1), 30, 104, [some (.inr (.inr 86)), some (.inl x1), some (.inl x2), some (.inl 1)], [.inr (.inr 86)], (am_sh, am_mm U6))) 1 (fun _ => rfl) ?_
                obtain ⟨U9, h2a22aa2a221c, h2a22aa2a221a⟩ := h2a22aa2a221
                refine ev_cal (σc := (d, 139, 0, [some (.inr (.inr 86))], [], (am_sh, am_mm U6))) (fun _ => rfl) h2a22aa2a221c ?_
                show Ev (am_kz N X) ((d + 1), 30, 107, [some (.inr (.inr 86)), some (.inl x1), some (.inl x2), some (.inl 1)], [], (am_sh, am_mm U9)) R
                refine ev_seg (σ1 := ((d + 1), 30, 113, [some (.inr (.inr 86)), some (.inl x1), some (.inl x2), some (.inl 1)], [.inl x2, .inl x1, .inr (.inr 124)], (am_sh, am_mm U9))) 4 (fun _ => rfl) ?_
                refine eu_iast 124 (n := 352) rfl (by decide) rfl (fun _ => rfl) h2a22aa2a221a.1 ?_
                have h2a22aa2a221aa := h2a22aa2a221a.2
                subst h2a22aa2a221aa
                exact ev_end 2 (fun _ => rfl)
              · have h2a22aa2a222 := h2a22aa2a22.2 hc
                refine ev_seg (σ1 := ((d + 1), 30, 91, [some (.inr (.inr 86)), some (.inl x1), some (.inl x2), some (.inl 1)], [.inl 2, .inr (.inr 86)], (am_sh, am_mm U6))) 2 (fun _ => rfl) ?_
                obtain ⟨r10, U10, h2a22aa2a222c, h2a22aa2a222a⟩ := h2a22aa2a222
                refine ev_cal (σc := (d, 85, 0, [some (.inr (.inr 86)), some (.inl 2)], [], (am_sh, am_mm U6))) (fun _ => rfl) h2a22aa2a222c ?_
                show Ev (am_kz N X) ((d + 1), 30, 94, [some (.inr (.inr 86)), some (.inl x1), some (.inl x2), some (.inl 1)], [.inl r10], (am_sh, am_mm U10)) R
                refine ev_br (P := r10 < 0) (σ1 := ((d + 1), 30, 101, [some (.inr (.inr 86)), some (.inl x1), some (.inl x2), some (.inl 1)], [], (am_sh, am_mm U10))) (σ2 := ((d + 1), 30, 97, [some (.inr (.inr 86)), some (.inl x1), some (.inl x2), some (.inl 1)], [], (am_sh, am_mm U10))) 1 (fun _ => rfl) (fun hc => ?_) (fun hc => ?_)
                · have h2a22aa2a222a1 := h2a22aa2a222a.1 hc
                  subst h2a22aa2a222a1
                  exact ev_end 2 (fun _ => rfl)
                · have h2a22aa2a222a2 := h2a22aa2a222a.2 hc
                  subst h2a22aa2a222a2
                  exact ev_end 3 (fun _ => rfl)
set_option maxRecDepth 8000 in
theorem st30_86_83 (N : Nat) (X : Nat → Int) (d : Nat) (x1 x2 x3 : Int) (U : Nat → Nat → Int) (R : Option am_V × am_M) (h : (((¬ 0 = 0 : Prop)) → ∃ U1 : Nat → Nat → Int, Ev (am_kz N X) (d, 139, 0, [some (.inr (.inr 86))], [], (am_sh, am_mm U)) (none, (am_sh, am_mm U1)) ∧ (0 ≤ x1 ∧ x1 < 352) ∧ R = (some (.inl 1), (am_sh, am_mm (am_upd U1 124 x1.toNat x2)))) ∧ (¬ (¬ 0 = 0) → ∃ (r2 : Int) (U2 : Nat → Nat → Int), Ev (am_kz N X) (d, 85, 0, [some (.inr (.inr 86)), some (.inl 2)], [], (am_sh, am_mm U)) (some (.inl r2), (am_sh, am_mm U2)) ∧ (((r2 < 0 : Prop)) → R = (some (.inl 0), (am_sh, am_mm U2))) ∧ (¬ (r2 < 0) → R = (some (.inl 1), (am_sh, am_mm U2))))) : Ev (am_kz N X) ((d + 1), 30, 83, [some (.inr (.inr 86)), some (.inl x1), some (.inl x2), some (.inl x3)], [], (am_sh, am_mm U)) R := by
  refine ev_br (P := ¬ 0 = 0) (σ1 := ((d + 1), 30, 103, [some (.inr (.inr 86)), some (.inl x1), some (.inl x2), some (.inl 0)], [], (am_sh, am_mm U))) (σ2 := ((d + 1), 30, 89, [some (.inr (.inr 86)), some (.inl x1), some (.inl x2), some (.inl 0)], [], (am_sh, am_mm U))) 4 (fun _ => rfl) (fun hc => ?_) (fun hc => ?_)
  · have h1 := h.1 hc
    refine ev_seg (σ1 := ((d + 1), 30, 104, [some (.inr (.inr 86)), some (.inl x1), some (.inl x2), some (.inl 0)], [.inr (.inr 86)], (am_sh, am_mm U))) 1 (fun _ => rfl) ?_
    obtain ⟨U1, h1c, h1a⟩ := h1
    refine ev_cal (σc := (d, 139, 0, [some (.inr (.inr 86))], [], (am_sh, am_mm U))) (fun _ => rfl) h1c ?_
    show Ev (am_kz N X) ((d + 1), 30, 107, [some (.inr (.inr 86)), some (.inl x1), some (.inl x2), some (.inl 0)], [], (am_sh, am_mm U1)) R
    refine ev_seg (σ1 := ((d + 1), 30, 113, [some (.inr (.inr 86)), some (.inl x1), some (.inl x2), some (.inl 0)], [.inl x2, .inl x1, .inr (.inr 124)], (am_sh, am_mm U1))) 4 (fun _ => rfl) ?_
    refine eu_iast 124 (n := 352) rfl (by decide) rfl (fun _ => rfl) h1a.1 ?_
    have h1aa := h1a.2
    subst h1aa
    exact ev_end 2 (fun _ => rfl)
  · have h2 := h.2 hc
    refine ev_seg (σ1 := ((d + 1), 30, 91, [some (.inr (.inr 86)), some (.inl x1), some (.inl x2), some (.inl 0)], [.inl 2, .inr (.inr 86)], (am_sh, am_mm U))) 2 (fun _ => rfl) ?_
    obtain ⟨r2, U2, h2c, h2a⟩ := h2
    refine ev_cal (σc := (d, 85, 0, [some (.inr (.inr 86)), some (.inl 2)], [], (am_sh, am_mm U))) (fun _ => rfl) h2c ?_
    show Ev (am_kz N X) ((d + 1), 30, 94, [some (.inr (.inr 86)), some (.inl x1), some (.inl x2), some (.inl 0)], [.inl r2], (am_sh, am_mm U2)) R
    refine ev_br (P := r2 < 0) (σ1 := ((d + 1), 30, 101, [some (.inr (.inr 86)), some (.inl x1), some (.inl x2), some (.inl 0)], [], (am_sh, am_mm U2))) (σ2 := ((d + 1), 30, 97, [some (.inr (.inr 86)), some (.inl x1), some (.inl x2), some (.inl 0)], [], (am_sh, am_mm U2))) 1 (fun _ => rfl) (fun hc => ?_) (fun hc => ?_)
    · have h2a1 := h2a.1 hc
      subst h2a1
      exact ev_end 2 (fun _ => rfl)
    · have h2a2 := h2a.2 hc
      subst h2a2
      exact ev_end 3 (fun _ => rfl)
set_option maxRecDepth 8000 in
theorem st31_1_0 (N : Nat) (X : Nat → Int) (d : Nat) (x1 : Int) (U : Nat → Nat → Int) (R : Option am_V × am_M) (h : (((¬ (U 16 2) = x1 : Prop)) → ∃ U1 : Nat → Nat → Int, Ev (am_kz N X) (d, 137, 0, [some (.inr (.inr 56)), some (.inr (.inr 16))], [], (am_sh, am_mm U)) (none, (am_sh, am_mm U1)) ∧ (x1 = 0 ∨ x1 = 1) ∧ R = (some (.inl 1), (am_sh, am_mm (am_upd U1 16 2 x1)))) ∧ (¬ (¬ (U 16 2) = x1) → ∃ (r2 : Int) (U2 : Nat → Nat → Int), Ev (am_kz N X) (d, 83, 0, [some (.inr (.inr 1)), some (.inl 2)], [], (am_sh, am_mm U)) (some (.inl r2), (am_sh, am_mm U2)) ∧ (r2 = 0 ∨ r2 = 1) ∧ R = (some (.inl r2), (am_sh, am_mm U2)))) : Ev (am_kz N X) ((d + 1), 31, 0, [some (.inr (.inr 1)), some (.inl x1)], [], (am_sh, am_mm U)) R := by
  refine ev_br (P := ¬ (U 16 2) = x1) (σ1 := ((d + 1), 31, 17, [some (.inr (.inr 1)), some (.inl x1)], [], (am_sh, am_mm U))) (σ2 := ((d + 1), 31, 11, [some (.inr (.inr 1)), some (.inl x1)], [], (am_sh, am_mm U))) 5 (fun _ => rfl) (fun hc => ?_) (fun hc => ?_)
  · have h1 := h.1 hc
    refine ev_seg (σ1 := ((d + 1), 31, 25, [some (.inr (.inr 1)), some (.inl x1)], [.inr (.inr 16), .inr (.inr 56)], (am_sh, am_mm U))) 4 (fun _ => rfl) ?_
    obtain ⟨U1, h1c, h1a⟩ := h1
    refine ev_cal (σc := (d, 137, 0, [some (.inr (.inr 56)), some (.inr (.inr 16))], [], (am_sh, am_mm U))) (fun _ => rfl) h1c ?_
    show Ev (am_kz N X) ((d + 1), 31, 28, [some (.inr (.inr 1)), some (.inl x1)], [], (am_sh, am_mm U1)) R
    refine ev_seg (σ1 := ((d + 1), 31, 33, [some (.inr (.inr 1)), some (.inl x1)], [.inl x1, .inr (.inr 16)], (am_sh, am_mm U1))) 3 (fun _ => rfl) ?_
    refine eu_putz 16 (n := 7) rfl (by decide) rfl rfl h1a.1 ?_
    have h1aa := h1a.2
    subst h1aa
    exact ev_end 2 (fun _ => rfl)
  · have h2 := h.2 hc
    refine ev_seg (σ1 := ((d + 1), 31, 13, [some (.inr (.inr 1)), some (.inl x1)], [.inl 2, .inr (.inr 1)], (am_sh, am_mm U))) 2 (fun _ => rfl) ?_
    obtain ⟨r2, U2, h2c, h2a⟩ := h2
    refine ev_cal (σc := (d, 83, 0, [some (.inr (.inr 1)), some (.inl 2)], [], (am_sh, am_mm U))) (fun _ => rfl) h2c ?_
    show Ev (am_kz N X) ((d + 1), 31, 16, [some (.inr (.inr 1)), some (.inl x1)], [.inl r2], (am_sh, am_mm U2)) R
    rw [h2a.2]
    exact ev_retz rfl rfl h2a.1
set_option maxRecDepth 8000 in
theorem st32_86_0 (N : Nat) (X : Nat → Int) (d : Nat) (x1 : Int) (U : Nat → Nat → Int) (R : Option am_V × am_M) (h : (((¬ (U 121 0) = 1 : Prop)) → (((¬ 0 = x1 : Prop)) → ∃ U1 : Nat → Nat → Int, Ev (am_kz N X) (d, 139, 0, [some (.inr (.inr 86))], [], (am_sh, am_mm U)) (none, (am_sh, am_mm U1)) ∧ (((x1 = 0 : Prop)) → R = (some (.inl 1), (am_sh, am_mm (am_upd U1 121 0 0)))) ∧ (¬ (x1 = 0) → R = (some (.inl 1), (am_sh, am_mm (am_upd U1 121 0 1))))) ∧ (¬ (¬ 0 = x1) → ∃ (r2 : Int) (U2 : Nat → Nat → Int), Ev (am_kz N X) (d, 85, 0, [some (.inr (.inr 86)), some (.inl 2)], [], (am_sh, am_mm U)) (some (.inl r2), (am_sh, am_mm U2)) ∧ (((r2 < 0 : Prop)) → R = (some (.inl 0), (am_sh, am_mm U2))) ∧ (¬ (r2 < 0) → R = (some (.inl 1), (am_sh, am_mm U2))))) ∧ (¬ (¬ (U 121 0) = 1) → (((¬ 1 = x1 : Prop)) → ∃ U3 : Nat → Nat → Int, Ev (am_kz N X) (d, 139, 0, [some (.inr (.inr 86))], [], (am_sh, am_mm U)) (none, (am_sh, am_mm U3)) ∧ (((x1 = 0 : Prop)) → R = (some (.inl 1), (am_sh, am_mm (am_upd U3 121 0 0)))) ∧ (¬ (x1 = 0) → R = (some (.inl 1), (am_sh, am_mm (am_upd U3 121 0 1))))) ∧ (¬ (¬ 1 = x1) → ∃ (r4 : Int) (U4 : Nat → Nat → Int), Ev (am_kz N X) (d, 85, 0, [some (.inr (.inr 86)), some (.inl 2)], [], (am_sh, am_mm U)) (some (.inl r4), (am_sh, am_mm U4)) ∧ (((r4 < 0 : Prop)) → R = (some (.inl 0), (am_sh, am_mm U4))) ∧ (¬ (r4 < 0) → R = (some (.inl 1), (am_sh, am_mm U4)))))) : Ev (am_kz N X) ((d + 1), 32, 0, [some (.inr (.inr 86)), some (.inl x1)], [], (am_sh, am_mm U)) R := by
  refine ev_seg (σ1 := ((d + 1), 32, 5, [some (.inr (.inr 86)), some (.inl x1)], [.inl 0, .inr (.inr 121)], (am_sh, am_mm U))) 3 (fun _ => rfl) ?_
  refine eu_iald 121 (n := 22) rfl (by decide) rfl (fun _ => rfl) (by decide) ?_
  show Ev (am_kz N X) ((d + 1), 32, 6, [some (.inr (.inr 86)), some (.inl x1)], [.inl (U 121 0)], (am_sh, am_mm U)) R
  refine ev_br (P := ¬ (U 121 0) = 1) (σ1 := ((d + 1), 32, 14, [some (.inr (.inr 86)), some (.inl x1)], [], (am_sh, am_mm U))) (σ2 := ((d + 1), 32, 10, [some (.inr (.inr 86)), some (.inl x1)], [], (am_sh, am_mm U))) 2 (fun _ => rfl) (fun hc => ?_) (fun hc => ?_)
  · have h1 := h.1 hc
    refine ev_br (P := ¬ 0 = x1) (σ1 := ((d + 1), 32, 33, [some (.inr (.inr 86)), some (.inl x1)], [], (am_sh, am_mm U))) (σ2 := ((d + 1), 32, 19, [some (.inr (.inr 86)), some (.inl x1)], [], (am_sh, am_mm U))) 3 (fun _ => rfl) (fun hc => ?_) (fun hc => ?_)
    · have h11 := h1.1 hc
      refine ev_seg (σ1 := ((d + 1), 32, 34, [some (.inr (.inr 86)), some (.inl x1)], [.inr (.inr 86)], (am_sh, am_mm U))) 1 (fun _ => rfl) ?_
      obtain ⟨U1, h11c, h11a⟩ := h11
      refine ev_cal (σc := (d, 139, 0, [some (.inr (.inr 86))], [], (am_sh, am_mm U))) (fun _ => rfl) h11c ?_
      show Ev (am_kz N X) ((d + 1), 32, 37, [some (.inr (.inr 86)), some (.inl x1)], [], (am_sh, am_mm U1)) R
      refine ev_br (P := x1 = 0) (σ1 := ((d + 1), 32, 50, [some (.inr (.inr 86)), some (.inl x1)], [.inl 0, .inr (.inr 121)], (am_sh, am_mm U1))) (σ2 := ((d + 1), 32, 46, [some (.inr (.inr 86)), some (.inl x1)], [.inl 0, .inr (.inr 121)], (am_sh, am_mm U1))) 5 (fun _ => rfl) (fun hc => ?_) (fun hc => ?_)
      · have h11a1 := h11a.1 hc
        refine ev_seg (σ1 := ((d + 1), 32, 51, [some (.inr (.inr 86)), some (.inl x1)], [.inl 0, .inl 0, .inr (.inr 121)], (am_sh, am_mm U1))) 1 (fun _ => rfl) ?_
        refine eu_iast 121 (n := 22) rfl (by decide) rfl (fun _ => rfl) (by decide) ?_
        show Ev (am_kz N X) ((d + 1), 32, 52, [some (.inr (.inr 86)), some (.inl x1)], [], (am_sh, am_mm (am_upd U1 121 0 0))) R
        subst h11a1
        exact ev_end 2 (fun _ => rfl)
      · have h11a2 := h11a.2 hc
        refine ev_seg (σ1 := ((d + 1), 32, 51, [some (.inr (.inr 86)), some (.inl x1)], [.inl 1, .inl 0, .inr (.inr 121)], (am_sh, am_mm U1))) 2 (fun _ => rfl) ?_
        refine eu_iast 121 (n := 22) rfl (by decide) rfl (fun _ => rfl) (by decide) ?_
        show Ev (am_kz N X) ((d + 1), 32, 52, [some (.inr (.inr 86)), some (.inl x1)], [], (am_sh, am_mm (am_upd U1 121 0 1))) R
        subst h11a2
        exact ev_end 2 (fun _ => rfl)
    · have h12 := h1.2 hc
      refine ev_seg (σ1 := ((d + 1), 32, 21, [some (.inr (.inr 86)), some (.inl x1)], [.inl 2, .inr (.inr 86)], (am_sh, am_mm U))) 2 (fun _ => rfl) ?_
      obtain ⟨r2, U2, h12c, h12a⟩ := h12
      refine ev_cal (σc := (d, 85, 0, [some (.inr (.inr 86)), some (.inl 2)], [], (am_sh, am_mm U))) (fun _ => rfl) h12c ?_
      show Ev (am_kz N X) ((d + 1), 32, 24, [some (.inr (.inr 86)), some (.inl x1)], [.inl r2], (am_sh, am_mm U2)) R
      refine ev_br (P := r2 < 0) (σ1 := ((d + 1), 32, 31, [some (.inr (.inr 86)), some (.inl x1)], [], (am_sh, am_mm U2))) (σ2 := ((d + 1), 32, 27, [some (.inr (.inr 86)), some (.inl x1)], [], (am_sh, am_mm U2))) 1 (fun _ => rfl) (fun hc => ?_) (fun hc => ?_)
      · have h12a1 := h12a.1 hc
        subst h12a1
        exact ev_end 2 (fun _ => rfl)
      · have h12a2 := h12a.2 hc
        subst h12a2
        exact ev_end 3 (fun _ => rfl)
  · have h2 := h.2 hc
    refine ev_br (P := ¬ 1 = x1) (σ1 := ((d + 1), 32, 33, [some (.inr (.inr 86)), some (.inl x1)], [], (am_sh, am_mm U))) (σ2 := ((d + 1), 32, 19, [some (.inr (.inr 86)), some (.inl x1)], [], (am_sh, am_mm U))) 4 (fun _ => rfl) (fun hc => ?_) (fun hc => ?_)
    · have h21 := h2.1 hc
      refine ev_seg (σ1 := ((d + 1), 32, 34, [some (.inr (.inr 86)), some (.inl x1)], [.inr (.inr 86)], (am_sh, am_mm U))) 1 (fun _ => rfl) ?_
      obtain ⟨U3, h21c, h21a⟩ := h21
      refine ev_cal (σc := (d, 139, 0, [some (.inr (.inr 86))], [], (am_sh, am_mm U))) (fun _ => rfl) h21c ?_
      show Ev (am_kz N X) ((d + 1), 32, 37, [some (.inr (.inr 86)), some (.inl x1)], [], (am_sh, am_mm U3)) R
      refine ev_br (P := x1 = 0) (σ1 := ((d + 1), 32, 50, [some (.inr (.inr 86)), some (.inl x1)], [.inl 0, .inr (.inr 121)], (am_sh, am_mm U3))) (σ2 := ((d + 1), 32, 46, [some (.inr (.inr 86)), some (.inl x1)], [.inl 0, .inr (.inr 121)], (am_sh, am_mm U3))) 5 (fun _ => rfl) (fun hc => ?_) (fun hc => ?_)
      · have h21a1 := h21a.1 hc
        refine ev_seg (σ1 := ((d + 1), 32, 51, [some (.inr (.inr 86)), some (.inl x1)], [.inl 0, .inl 0, .inr (.inr 121)], (am_sh, am_mm U3))) 1 (fun _ => rfl) ?_
        refine eu_iast 121 (n := 22) rfl (by decide) rfl (fun _ => rfl) (by decide) ?_
        show Ev (am_kz N X) ((d + 1), 32, 52, [some (.inr (.inr 86)), some (.inl x1)], [], (am_sh, am_mm (am_upd U3 121 0 0))) R
        subst h21a1
        exact ev_end 2 (fun _ => rfl)
      · have h21a2 := h21a.2 hc
        refine ev_seg (σ1 := ((d + 1), 32, 51, [some (.inr (.inr 86)), some (.inl x1)], [.inl 1, .inl 0, .inr (.inr 121)], (am_sh, am_mm U3))) 2 (fun _ => rfl) ?_
        refine eu_iast 121 (n := 22) rfl (by decide) rfl (fun _ => rfl) (by decide) ?_
        show Ev (am_kz N X) ((d + 1), 32, 52, [some (.inr (.inr 86)), some (.inl x1)], [], (am_sh, am_mm (am_upd U3 121 0 1))) R
        subst h21a2
        exact ev_end 2 (fun _ => rfl)
    · have h22 := h2.2 hc
      refine ev_seg (σ1 := ((d + 1), 32, 21, [some (.inr (.inr 86)), some (.inl x1)], [.inl 2, .inr (.inr 86)], (am_sh, am_mm U))) 2 (fun _ => rfl) ?_
      obtain ⟨r4, U4, h22c, h22a⟩ := h22
      refine ev_cal (σc := (d, 85, 0, [some (.inr (.inr 86)), some (.inl 2)], [], (am_sh, am_mm U))) (fun _ => rfl) h22c ?_
      show Ev (am_kz N X) ((d + 1), 32, 24, [some (.inr (.inr 86)), some (.inl x1)], [.inl r4], (am_sh, am_mm U4)) R
      refine ev_br (P := r4 < 0) (σ1 := ((d + 1), 32, 31, [some (.inr (.inr 86)), some (.inl x1)], [], (am_sh, am_mm U4))) (σ2 := ((d + 1), 32, 27, [some (.inr (.inr 86)), some (.inl x1)], [], (am_sh, am_mm U4))) 1 (fun _ => rfl) (fun hc => ?_) (fun hc => ?_)
      · have h22a1 := h22a.1 hc
        subst h22a1
        exact ev_end 2 (fun _ => rfl)
      · have h22a2 := h22a.2 hc
        subst h22a2
        exact ev_end 3 (fun _ => rfl)
set_option maxRecDepth 8000 in
theorem st33_1_0 (N : Nat) (X : Nat → Int) (d : Nat) (U : Nat → Nat → Int) (R : Option am_V × am_M) (h : ∃ U1 : Nat → Nat → Int, Ev (am_kz N X) (d, 137, 0, [some (.inr (.inr 56)), some (.inr (.inr 16))], [], (am_sh, am_mm U)) (none, (am_sh, am_mm U1)) ∧ Ev (am_kz N X) ((d + 1), 33, 15, [some (.inr (.inr 1)), some (.inl 0), some (.inl 0), none, none], [], (am_sh, am_mm U1)) R) : Ev (am_kz N X) ((d + 1), 33, 0, [some (.inr (.inr 1)), none, none, none, none], [], (am_sh, am_mm U)) R := by
  refine ev_seg (σ1 := ((d + 1), 33, 8, [some (.inr (.inr 1)), none, none, none, none], [.inr (.inr 16), .inr (.inr 56)], (am_sh, am_mm U))) 4 (fun _ => rfl) ?_
  obtain ⟨U1, hc, ha⟩ := h
  refine ev_cal (σc := (d, 137, 0, [some (.inr (.inr 56)), some (.inr (.inr 16))], [], (am_sh, am_mm U))) (fun _ => rfl) hc ?_
  show Ev (am_kz N X) ((d + 1), 33, 11, [some (.inr (.inr 1)), none, none, none, none], [], (am_sh, am_mm U1)) R
  refine ev_seg (σ1 := ((d + 1), 33, 15, [some (.inr (.inr 1)), some (.inl 0), some (.inl 0), none, none], [], (am_sh, am_mm U1))) 4 (fun _ => rfl) ?_
  exact ha
set_option maxRecDepth 8000 in
theorem st33_1_15 (N : Nat) (X : Nat → Int) (d : Nat) (x1 x2 : Int) (U : Nat → Nat → Int) (R : Option am_V × am_M) (h : ((((U 16 0) ≤ x2 : Prop)) → ∃ U1 : Nat → Nat → Int, Ev (am_kz N X) (d, 92, 0, [some (.inr (.inr 1))], [], (am_sh, am_mm U)) (none, (am_sh, am_mm U1)) ∧ R = (some (.inl x1), (am_sh, am_mm U1))) ∧ (¬ ((U 16 0) ≤ x2) → (0 ≤ x2 ∧ x2 < 16) ∧ (((¬ (U 18 x2.toNat) = (-1) : Prop)) → Ev (am_kz N X) ((d + 1), 33, 70, [some (.inr (.inr 1)), some (.inl x1), some (.inl x2), some (.inl 0), some (.inl 0)], [], (am_sh, am_mm U)) R) ∧ (¬ (¬ (U 18 x2.toNat) = (-1)) → (0 ≤ x2 ∧ x2 < 16) ∧ (((0 < (U 17 x2.toNat) : Prop)) → Ev (am_kz N X) ((d + 1), 33, 70, [some (.inr (.inr 1)), some (.inl x1), some (.inl x2), some (.inl 1), some (.inl 0)], [], (am_sh, am_mm U)) R) ∧ (¬ (0 < (U 17 x2.toNat)) → ((((U 16 2) = 0 : Prop)) → Ev (am_kz N X) ((d + 1), 33, 70, [some (.inr (.inr 1)), some (.inl x1), some (.inl x2), some (.inl 0), some (.inl 0)], [], (am_sh, am_mm U)) R) ∧ (¬ ((U 16 2) = 0) → Ev (am_kz N X) ((d + 1), 33, 70, [some (.inr (.inr 1)), some (.inl x1), some (.inl x2), some (.inl 1), some (.inl 0)], [], (am_sh, am_mm U)) R))))) : Ev (am_kz N X) ((d + 1), 33, 15, [some (.inr (.inr 1)), some (.inl x1), some (.inl x2), none, none], [], (am_sh, am_mm U)) R := by
  refine ev_br (P := (U 16 0) ≤ x2) (σ1 := ((d + 1), 33, 126, [some (.inr (.inr 1)), some (.inl x1), some (.inl x2), none, none], [], (am_sh, am_mm U))) (σ2 := ((d + 1), 33, 26, [some (.inr (.inr 1)), some (.inl x1), some (.inl x2), none, none], [], (am_sh, am_mm U))) 5 (fun _ => rfl) (fun hc => ?_) (fun hc => ?_)
  · have h1 := h.1 hc
    refine ev_seg (σ1 := ((d + 1), 33, 127, [some (.inr (.inr 1)), some (.inl x1), some (.inl x2), none, none], [.inr (.inr 1)], (am_sh, am_mm U))) 1 (fun _ => rfl) ?_
    obtain ⟨U1, h1c, h1a⟩ := h1
    refine ev_cal (σc := (d, 92, 0, [some (.inr (.inr 1))], [], (am_sh, am_mm U))) (fun _ => rfl) h1c ?_
    show Ev (am_kz N X) ((d + 1), 33, 130, [some (.inr (.inr 1)), some (.inl x1), some (.inl x2), none, none], [], (am_sh, am_mm U1)) R
    subst h1a
    exact ev_end 2 (fun _ => rfl)
  · have h2 := h.2 hc
    refine ev_seg (σ1 := ((d + 1), 33, 34, [some (.inr (.inr 1)), some (.inl x1), some (.inl x2), none, none], [.inl x2, .inr (.inr 18)], (am_sh, am_mm U))) 4 (fun _ => rfl) ?_
    refine eu_iald 18 (n := 16) rfl (by decide) rfl (fun _ => rfl) h2.1 ?_
    have h2a := h2.2
    refine ev_br (P := ¬ (U 18 x2.toNat) = (-1)) (σ1 := ((d + 1), 33, 65, [some (.inr (.inr 1)), some (.inl x1), some (.inl x2), none, none], [], (am_sh, am_mm U))) (σ2 := ((d + 1), 33, 39, [some (.inr (.inr 1)), some (.inl x1), some (.inl x2), none, none], [], (am_sh, am_mm U))) 2 (fun _ => rfl) (fun hc => ?_) (fun hc => ?_)
    · have h2a1 := h2a.1 hc
      refine ev_seg (σ1 := ((d + 1), 33, 70, [some (.inr (.inr 1)), some (.inl x1), some (.inl x2), some (.inl 0), some (.inl 0)], [], (am_sh, am_mm U))) 4 (fun _ => rfl) ?_
      exact h2a1
    · have h2a2 := h2a.2 hc
      refine ev_seg (σ1 := ((d + 1), 33, 47, [some (.inr (.inr 1)), some (.inl x1), some (.inl x2), none, none], [.inl x2, .inr (.inr 17)], (am_sh, am_mm U))) 4 (fun _ => rfl) ?_
      refine eu_iald 17 (n := 16) rfl (by decide) rfl (fun _ => rfl) h2a2.1 ?_
      have h2a2a := h2a2.2
      refine ev_br (P := 0 < (U 17 x2.toNat)) (σ1 := ((d + 1), 33, 61, [some (.inr (.inr 1)), some (.inl x1), some (.inl x2), none, none], [], (am_sh, am_mm U))) (σ2 := ((d + 1), 33, 51, [some (.inr (.inr 1)), some (.inl x1), some (.inl x2), none, none], [], (am_sh, am_mm U))) 1 (fun _ => rfl) (fun hc => ?_) (fun hc => ?_)
      · have h2a2a1 := h2a2a.1 hc
        refine ev_seg (σ1 := ((d + 1), 33, 70, [some (.inr (.inr 1)), some (.inl x1), some (.inl x2), some (.inl 1), some (.inl 0)], [], (am_sh, am_mm U))) 5 (fun _ => rfl) ?_
        exact h2a2a1
      · have h2a2a2 := h2a2a.2 hc
        refine ev_br (P := (U 16 2) = 0) (σ1 := ((d + 1), 33, 65, [some (.inr (.inr 1)), some (.inl x1), some (.inl x2), none, none], [], (am_sh, am_mm U))) (σ2 := ((d + 1), 33, 61, [some (.inr (.inr 1)), some (.inl x1), some (.inl x2), none, none], [], (am_sh, am_mm U))) 4 (fun _ => rfl) (fun hc => ?_) (fun hc => ?_)
        · have h2a2a21 := h2a2a2.1 hc
          refine ev_seg (σ1 := ((d + 1), 33, 70, [some (.inr (.inr 1)), some (.inl x1), some (.inl x2), some (.inl 0), some (.inl 0)], [], (am_sh, am_mm U))) 4 (fun _ => rfl) ?_
          exact h2a2a21
        · have h2a2a22 := h2a2a2.2 hc
          refine ev_seg (σ1 := ((d + 1), 33, 70, [some (.inr (.inr 1)), some (.inl x1), some (.inl x2), some (.inl 1), some (.inl 0)], [], (am_sh, am_mm U))) 5 (fun _ => rfl) ?_
          exact h2a2a22
set_option maxRecDepth 8000 in
theorem st33_1_70 (N : Nat) (X : Nat → Int) (d : Nat) (x1 x2 x3 x4 : Int) (U : Nat → Nat → Int) (R : Option am_V × am_M) (h : ((((U 3 1) ≤ x4 : Prop)) → Ev (am_kz N X) ((d + 1), 33, 15, [some (.inr (.inr 1)), some (.inl x1), some (.inl (w32 (x2 + 1))), some (.inl x3), some (.inl x4)], [], (am_sh, am_mm U)) R) ∧ (¬ ((U 3 1) ≤ x4) → (((x3 = 0 : Prop)) → Ev (am_kz N X) ((d + 1), 33, 15, [some (.inr (.inr 1)), some (.inl x1), some (.inl (w32 (x2 + 1))), some (.inl x3), some (.inl x4)], [], (am_sh, am_mm U)) R) ∧ (¬ (x3 = 0) → ∃ (r1 : Int) (U1 : Nat → Nat → Int), Ev (am_kz N X) (d, 128, 0, [some (.inr (.inr 45)), some (.inl x2), some (.inl x4), none, none], [], (am_sh, am_mm U)) (some (.inl r1), (am_sh, am_mm U1)) ∧ (((r1 = 0 : Prop)) → Ev (am_kz N X) ((d + 1), 33, 70, [some (.inr (.inr 1)), some (.inl x1), some (.inl x2), some (.inl x3), some (.inl (w32 (x4 + 1)))], [], (am_sh, am_mm U1)) R) ∧ (¬ (r1 = 0) → ∃ U2 : Nat → Nat → Int, Ev (am_kz N X) (d, 138, 0, [some (.inr (.inr 16)), some (.inl x2), some (.inl x4), none], [], (am_sh, am_mm U1)) (none, (am_sh, am_mm U2)) ∧ Ev (am_kz N X) ((d + 1), 33, 70, [some (.inr (.inr 1)), some (.inl (w32 (x1 + 1))), some (.inl x2), some (.inl 0), some (.inl (w32 (x4 + 1)))], [], (am_sh, am_mm U2)) R)))) : Ev (am_kz N X) ((d + 1), 33, 70, [some (.inr (.inr 1)), some (.inl x1), some (.inl x2), some (.inl x3), some (.inl x4)], [], (am_sh, am_mm U)) R := by
  refine ev_br (P := (U 3 1) ≤ x4) (σ1 := ((d + 1), 33, 120, [some (.inr (.inr 1)), some (.inl x1), some (.inl x2), some (.inl x3), some (.inl x4)], [], (am_sh, am_mm U))) (σ2 := ((d + 1), 33, 82, [some (.inr (.inr 1)), some (.inl x1), some (.inl x2), some (.inl x3), some (.inl x4)], [], (am_sh, am_mm U))) 5 (fun _ => rfl) (fun hc => ?_) (fun hc => ?_)
  · have h1 := h.1 hc
    refine ev_seg (σ1 := ((d + 1), 33, 15, [some (.inr (.inr 1)), some (.inl x1), some (.inl (w32 (x2 + 1))), some (.inl x3), some (.inl x4)], [], (am_sh, am_mm U))) 2 (fun _ => rfl) ?_
    exact h1
  · have h2 := h.2 hc
    refine ev_br (P := x3 = 0) (σ1 := ((d + 1), 33, 120, [some (.inr (.inr 1)), some (.inl x1), some (.inl x2), some (.inl x3), some (.inl x4)], [], (am_sh, am_mm U))) (σ2 := ((d + 1), 33, 86, [some (.inr (.inr 1)), some (.inl x1), some (.inl x2), some (.inl x3), some (.inl x4)], [], (am_sh, am_mm U))) 2 (fun _ => rfl) (fun hc => ?_) (fun hc => ?_)
    · have h21 := h2.1 hc
      refine ev_seg (σ1 := ((d + 1), 33, 15, [some (.inr (.inr 1)), some (.inl x1), some (.inl (w32 (x2 + 1))), some (.inl x3), some (.inl x4)], [], (am_sh, am_mm U))) 2 (fun _ => rfl) ?_
      exact h21
    · have h22 := h2.2 hc
      refine ev_seg (σ1 := ((d + 1), 33, 93, [some (.inr (.inr 1)), some (.inl x1), some (.inl x2), some (.inl x3), some (.inl x4)], [.inl x4, .inl x2, .inr (.inr 45)], (am_sh, am_mm U))) 4 (fun _ => rfl) ?_
      obtain ⟨r1, U1, h22c, h22a⟩ := h22
      refine ev_cal (σc := (d, 128, 0, [some (.inr (.inr 45)), some (.inl x2), some (.inl x4), none, none], [], (am_sh, am_mm U))) (fun _ => rfl) h22c ?_
      show Ev (am_kz N X) ((d + 1), 33, 96, [some (.inr (.inr 1)), some (.inl x1), some (.inl x2), some (.inl x3), some (.inl x4)], [.inl r1], (am_sh, am_mm U1)) R
      refine ev_br (P := r1 = 0) (σ1 := ((d + 1), 33, 114, [some (.inr (.inr 1)), some (.inl x1), some (.inl x2), some (.inl x3), some (.inl x4)], [], (am_sh, am_mm U1))) (σ2 := ((d + 1), 33, 99, [some (.inr (.inr 1)), some (.inl x1), some (.inl x2), some (.inl x3), some (.inl x4)], [], (am_sh, am_mm U1))) 1 (fun _ => rfl) (fun hc => ?_) (fun hc => ?_)
      · have h22a1 := h22a.1 hc
        refine ev_seg (σ1 := ((d + 1), 33, 70, [some (.inr (.inr 1)), some (.inl x1), some (.inl x2), some (.inl x3), some (.inl (w32 (x4 + 1)))], [], (am_sh, am_mm U1))) 2 (fun _ => rfl) ?_
        exact h22a1
      · have h22a2 := h22a.2 hc
        refine ev_seg (σ1 := ((d + 1), 33, 106, [some (.inr (.inr 1)), some (.inl x1), some (.inl x2), some (.inl x3), some (.inl x4)], [.inl x4, .inl x2, .inr (.inr 16)], (am_sh, am_mm U1))) 4 (fun _ => rfl) ?_
        obtain ⟨U2, h22a2c, h22a2a⟩ := h22a2
        refine ev_cal (σc := (d, 138, 0, [some (.inr (.inr 16)), some (.inl x2), some (.inl x4), none], [], (am_sh, am_mm U1))) (fun _ => rfl) h22a2c ?_
        show Ev (am_kz N X) ((d + 1), 33, 109, [some (.inr (.inr 1)), some (.inl x1), some (.inl x2), some (.inl x3), some (.inl x4)], [], (am_sh, am_mm U2)) R
        refine ev_seg (σ1 := ((d + 1), 33, 70, [some (.inr (.inr 1)), some (.inl (w32 (x1 + 1))), some (.inl x2), some (.inl 0), some (.inl (w32 (x4 + 1)))], [], (am_sh, am_mm U2))) 5 (fun _ => rfl) ?_
        exact h22a2a
set_option maxRecDepth 8000 in
theorem st34_86_0 (N : Nat) (X : Nat → Int) (d : Nat) (U : Nat → Nat → Int) (R : Option am_V × am_M) (h : ∃ U1 : Nat → Nat → Int, Ev (am_kz N X) (d, 139, 0, [some (.inr (.inr 86))], [], (am_sh, am_mm U)) (none, (am_sh, am_mm U1)) ∧ Ev (am_kz N X) ((d + 1), 34, 8, [some (.inr (.inr 86)), some (.inl 0), some (.inl 0), none, none], [], (am_sh, am_mm U1)) R) : Ev (am_kz N X) ((d + 1), 34, 0, [some (.inr (.inr 86)), none, none, none, none], [], (am_sh, am_mm U)) R := by
  refine ev_seg (σ1 := ((d + 1), 34, 1, [some (.inr (.inr 86)), none, none, none, none], [.inr (.inr 86)], (am_sh, am_mm U))) 1 (fun _ => rfl) ?_
  obtain ⟨U1, hc, ha⟩ := h
  refine ev_cal (σc := (d, 139, 0, [some (.inr (.inr 86))], [], (am_sh, am_mm U))) (fun _ => rfl) hc ?_
  show Ev (am_kz N X) ((d + 1), 34, 4, [some (.inr (.inr 86)), none, none, none, none], [], (am_sh, am_mm U1)) R
  refine ev_seg (σ1 := ((d + 1), 34, 8, [some (.inr (.inr 86)), some (.inl 0), some (.inl 0), none, none], [], (am_sh, am_mm U1))) 4 (fun _ => rfl) ?_
  exact ha
set_option maxRecDepth 8000 in
theorem st34_86_8 (N : Nat) (X : Nat → Int) (d : Nat) (x1 x2 : Int) (U : Nat → Nat → Int) (R : Option am_V × am_M) (h : ((((U 122 0) ≤ x2 : Prop)) → R = (some (.inl x1), (am_sh, am_mm U))) ∧ (¬ ((U 122 0) ≤ x2) → (0 ≤ x2 ∧ x2 < 352) ∧ (((¬ (U 124 x2.toNat) = (-1) : Prop)) → Ev (am_kz N X) ((d + 1), 34, 8, [some (.inr (.inr 86)), some (.inl x1), some (.inl (w32 (x2 + 1))), none, none], [], (am_sh, am_mm U)) R) ∧ (¬ (¬ (U 124 x2.toNat) = (-1)) → (0 ≤ x2 ∧ x2 < 352) ∧ (((0 ≤ (U 123 x2.toNat) : Prop)) → Ev (am_kz N X) ((d + 1), 34, 54, [some (.inr (.inr 86)), some (.inl x1), some (.inl x2), some (.inl (-1)), some (.inl 0)], [], (am_sh, am_mm U)) R) ∧ (¬ (0 ≤ (U 123 x2.toNat)) → (((¬ (U 121 0) = 0 : Prop)) → Ev (am_kz N X) ((d + 1), 34, 54, [some (.inr (.inr 86)), some (.inl x1), some (.inl x2), some (.inl (-1)), some (.inl 0)], [], (am_sh, am_mm U)) R) ∧ (¬ (¬ (U 121 0) = 0) → Ev (am_kz N X) ((d + 1), 34, 8, [some (.inr (.inr 86)), some (.inl x1), some (.inl (w32 (x2 + 1))), none, none], [], (am_sh, am_mm U)) R))))) : Ev (am_kz N X) ((d + 1), 34, 8, [some (.inr (.inr 86)), some (.inl x1), some (.inl x2), none, none], [], (am_sh, am_mm U)) R := by
  refine ev_seg (σ1 := ((d + 1), 34, 14, [some (.inr (.inr 86)), some (.inl x1), some (.inl x2), none, none], [.inl 0, .inr (.inr 122), .inl x2], (am_sh, am_mm U))) 4 (fun _ => rfl) ?_
  refine eu_iald 122 (n := 22) rfl (by decide) rfl (fun _ => rfl) (by decide) ?_
  show Ev (am_kz N X) ((d + 1), 34, 15, [some (.inr (.inr 86)), some (.inl x1), some (.inl x2), none, none], [.inl (U 122 0), .inl x2], (am_sh, am_mm U)) R
  refine ev_br (P := (U 122 0) ≤ x2) (σ1 := ((d + 1), 34, 123, [some (.inr (.inr 86)), some (.inl x1), some (.inl x2), none, none], [], (am_sh, am_mm U))) (σ2 := ((d + 1), 34, 18, [some (.inr (.inr 86)), some (.inl x1), some (.inl x2), none, none], [], (am_sh, am_mm U))) 1 (fun _ => rfl) (fun hc => ?_) (fun hc => ?_)
  · have h1 := h.1 hc
    subst h1
    exact ev_end 2 (fun _ => rfl)
  · have h2 := h.2 hc
    refine ev_seg (σ1 := ((d + 1), 34, 23, [some (.inr (.inr 86)), some (.inl x1), some (.inl x2), none, none], [.inl x2, .inr (.inr 124)], (am_sh, am_mm U))) 3 (fun _ => rfl) ?_
    refine eu_iald 124 (n := 352) rfl (by decide) rfl (fun _ => rfl) h2.1 ?_
    have h2a := h2.2
    refine ev_br (P := ¬ (U 124 x2.toNat) = (-1)) (σ1 := ((d + 1), 34, 117, [some (.inr (.inr 86)), some (.inl x1), some (.inl x2), none, none], [], (am_sh, am_mm U))) (σ2 := ((d + 1), 34, 28, [some (.inr (.inr 86)), some (.inl x1), some (.inl x2), none, none], [], (am_sh, am_mm U))) 2 (fun _ => rfl) (fun hc => ?_) (fun hc => ?_)
    · have h2a1 := h2a.1 hc
      refine ev_seg (σ1 := ((d + 1), 34, 8, [some (.inr (.inr 86)), some (.inl x1), some (.inl (w32 (x2 + 1))), none, none], [], (am_sh, am_mm U))) 2 (fun _ => rfl) ?_
      exact h2a1
    · have h2a2 := h2a.2 hc
      refine ev_seg (σ1 := ((d + 1), 34, 33, [some (.inr (.inr 86)), some (.inl x1), some (.inl x2), none, none], [.inl x2, .inr (.inr 123)], (am_sh, am_mm U))) 3 (fun _ => rfl) ?_
      refine eu_iald 123 (n := 352) rfl (by decide) rfl (fun _ => rfl) h2a2.1 ?_
      have h2a2a := h2a2.2
      refine ev_br (P := 0 ≤ (U 123 x2.toNat)) (σ1 := ((d + 1), 34, 49, [some (.inr (.inr 86)), some (.inl x1), some (.inl x2), none, none], [], (am_sh, am_mm U))) (σ2 := ((d + 1), 34, 37, [some (.inr (.inr 86)), some (.inl x1), some (.inl x2), none, none], [], (am_sh, am_mm U))) 1 (fun _ => rfl) (fun hc => ?_) (fun hc => ?_)
      · have h2a2a1 := h2a2a.1 hc
        refine ev_seg (σ1 := ((d + 1), 34, 54, [some (.inr (.inr 86)), some (.inl x1), some (.inl x2), some (.inl (-1)), some (.inl 0)], [], (am_sh, am_mm U))) 4 (fun _ => rfl) ?_
        exact h2a2a1
      · have h2a2a2 := h2a2a.2 hc
        refine ev_seg (σ1 := ((d + 1), 34, 42, [some (.inr (.inr 86)), some (.inl x1), some (.inl x2), none, none], [.inl 0, .inr (.inr 121)], (am_sh, am_mm U))) 3 (fun _ => rfl) ?_
        refine eu_iald 121 (n := 22) rfl (by decide) rfl (fun _ => rfl) (by decide) ?_
        show Ev (am_kz N X) ((d + 1), 34, 43, [some (.inr (.inr 86)), some (.inl x1), some (.inl x2), none, none], [.inl (U 121 0)], (am_sh, am_mm U)) R
        refine ev_br (P := ¬ (U 121 0) = 0) (σ1 := ((d + 1), 34, 49, [some (.inr (.inr 86)), some (.inl x1), some (.inl x2), none, none], [], (am_sh, am_mm U))) (σ2 := ((d + 1), 34, 46, [some (.inr (.inr 86)), some (.inl x1), some (.inl x2), none, none], [], (am_sh, am_mm U))) 1 (fun _ => rfl) (fun hc => ?_) (fun hc => ?_)
        · have h2a2a21 := h2a2a2.1 hc
          refine ev_seg (σ1 := ((d + 1), 34, 54, [some (.inr (.inr 86)), some (.inl x1), some (.inl x2), some (.inl (-1)), some (.inl 0)], [], (am_sh, am_mm U))) 4 (fun _ => rfl) ?_
          exact h2a2a21
        · have h2a2a22 := h2a2a2.2 hc
          refine ev_seg (σ1 := ((d + 1), 34, 8, [some (.inr (.inr 86)), some (.inl x1), some (.inl (w32 (x2 + 1))), none, none], [], (am_sh, am_mm U))) 3 (fun _ => rfl) ?_
          exact h2a2a22
set_option maxRecDepth 8000 in
theorem st34_86_54 (N : Nat) (X : Nat → Int) (d : Nat) (x1 x2 x3 x4 : Int) (U : Nat → Nat → Int) (R : Option am_V × am_M) (h : (0 ≤ (U 86 13) ∧ (U 86 13) < 2) ∧ ((((U 90 (U 86 13).toNat) ≤ x4 : Prop)) → (0 ≤ x2 ∧ x2 < 352) ∧ (((¬ x3 = (-1) : Prop)) → Ev (am_kz N X) ((d + 1), 34, 8, [some (.inr (.inr 86)), some (.inl (w32 (x1 + 1))), some (.inl (w32 (x2 + 1))), some (.inl x3), some (.inl x4)], [], (am_sh, am_mm (am_upd U 124 x2.toNat x3))) R) ∧ (¬ (¬ x3 = (-1)) → Ev (am_kz N X) ((d + 1), 34, 8, [some (.inr (.inr 86)), some (.inl (w32 (x1 + 0))), some (.inl (w32 (x2 + 1))), some (.inl x3), some (.inl x4)], [], (am_sh, am_mm (am_upd U 124 x2.toNat x3))) R)) ∧ (¬ ((U 90 (U 86 13).toNat) ≤ x4) → (((¬ x3 = (-1) : Prop)) → (0 ≤ x2 ∧ x2 < 352) ∧ (((¬ x3 = (-1) : Prop)) → Ev (am_kz N X) ((d + 1), 34, 8, [some (.inr (.inr 86)), some (.inl (w32 (x1 + 1))), some (.inl (w32 (x2 + 1))), some (.inl x3), some (.inl x4)], [], (am_sh, am_mm (am_upd U 124 x2.toNat x3))) R) ∧ (¬ (¬ x3 = (-1)) → Ev (am_kz N X) ((d + 1), 34, 8, [some (.inr (.inr 86)), some (.inl (w32 (x1 + 0))), some (.inl (w32 (x2 + 1))), some (.inl x3), some (.inl x4)], [], (am_sh, am_mm (am_upd U 124 x2.toNat x3))) R)) ∧ (¬ (¬ x3 = (-1)) → ∃ (r1 : Int) (U1 : Nat → Nat → Int), Ev (am_kz N X) (d, 129, 0, [some (.inr (.inr 86)), some (.inl 0), some (.inl x2), some (.inl x4), none, none], [], (am_sh, am_mm U)) (some (.inl r1), (am_sh, am_mm U1)) ∧ (((r1 = 0 : Prop)) → Ev (am_kz N X) ((d + 1), 34, 54, [some (.inr (.inr 86)), some (.inl x1), some (.inl x2), some (.inl (-1)), some (.inl (w32 (x4 + 1)))], [], (am_sh, am_mm U1)) R) ∧ (¬ (r1 = 0) → Ev (am_kz N X) ((d + 1), 34, 54, [some (.inr (.inr 86)), some (.inl x1), some (.inl x2), some (.inl x4), some (.inl (w32 (x4 + 1)))], [], (am_sh, am_mm U1)) R)))) : Ev (am_kz N X) ((d + 1), 34, 54, [some (.inr (.inr 86)), some (.inl x1), some (.inl x2), some (.inl x3), some (.inl x4)], [], (am_sh, am_mm U)) R := by
  refine ev_seg (σ1 := ((d + 1), 34, 64, [some (.inr (.inr 86)), some (.inl x1), some (.inl x2), some (.inl x3), some (.inl x4)], [.inl (U 86 13), .inr (.inr 90), .inl x4], (am_sh, am_mm U))) 5 (fun _ => rfl) ?_
  refine eu_iald 90 (n := 2) rfl (by decide) rfl (fun _ => rfl) h.1 ?_
  have ha := h.2
  refine ev_br (P := (U 90 (U 86 13).toNat) ≤ x4) (σ1 := ((d + 1), 34, 97, [some (.inr (.inr 86)), some (.inl x1), some (.inl x2), some (.inl x3), some (.inl x4)], [], (am_sh, am_mm U))) (σ2 := ((d + 1), 34, 68, [some (.inr (.inr 86)), some (.inl x1), some (.inl x2), some (.inl x3), some (.inl x4)], [], (am_sh, am_mm U))) 1 (fun _ => rfl) (fun hc => ?_) (fun hc => ?_)
  · have ha1 := ha.1 hc
    refine ev_seg (σ1 := ((d + 1), 34, 103, [some (.inr (.inr 86)), some (.inl x1), some (.inl x2), some (.inl x3), some (.inl x4)], [.inl x3, .inl x2, .inr (.inr 124)], (am_sh, am_mm U))) 4 (fun _ => rfl) ?_
    refine eu_iast 124 (n := 352) rfl (by decide) rfl (fun _ => rfl) ha1.1 ?_
    have ha1a := ha1.2
    refine ev_br (P := ¬ x3 = (-1)) (σ1 := ((d + 1), 34, 114, [some (.inr (.inr 86)), some (.inl x1), some (.inl x2), some (.inl x3), some (.inl x4)], [.inl x1], (am_sh, am_mm (am_upd U 124 x2.toNat x3)))) (σ2 := ((d + 1), 34, 110, [some (.inr (.inr 86)), some (.inl x1), some (.inl x2), some (.inl x3), some (.inl x4)], [.inl x1], (am_sh, am_mm (am_upd U 124 x2.toNat x3)))) 4 (fun _ => rfl) (fun hc => ?_) (fun hc => ?_)
    · have ha1a1 := ha1a.1 hc
      refine ev_seg (σ1 := ((d + 1), 34, 8, [some (.inr (.inr 86)), some (.inl (w32 (x1 + 1))), some (.inl (w32 (x2 + 1))), some (.inl x3), some (.inl x4)], [], (am_sh, am_mm (am_upd U 124 x2.toNat x3)))) 5 (fun _ => rfl) ?_
      exact ha1a1
    · have ha1a2 := ha1a.2 hc
      refine ev_seg (σ1 := ((d + 1), 34, 8, [some (.inr (.inr 86)), some (.inl (w32 (x1 + 0))), some (.inl (w32 (x2 + 1))), some (.inl x3), some (.inl x4)], [], (am_sh, am_mm (am_upd U 124 x2.toNat x3)))) 6 (fun _ => rfl) ?_
      exact ha1a2
  · have ha2 := ha.2 hc
    refine ev_br (P := ¬ x3 = (-1)) (σ1 := ((d + 1), 34, 97, [some (.inr (.inr 86)), some (.inl x1), some (.inl x2), some (.inl x3), some (.inl x4)], [], (am_sh, am_mm U))) (σ2 := ((d + 1), 34, 73, [some (.inr (.inr 86)), some (.inl x1), some (.inl x2), some (.inl x3), some (.inl x4)], [], (am_sh, am_mm U))) 3 (fun _ => rfl) (fun hc => ?_) (fun hc => ?_)
    · have ha21 := ha2.1 hc
      refine ev_seg (σ1 := ((d + 1), 34, 103, [some (.inr (.inr 86)), some (.inl x1), some (.inl x2), some (.inl x3), some (.inl x4)], [.inl x3, .inl x2, .inr (.inr 124)], (am_sh, am_mm U))) 4 (fun _ => rfl) ?_
      refine eu_iast 124 (n := 352) rfl (by decide) rfl (fun _ => rfl) ha21.1 ?_
      have ha21a := ha21.2
      refine ev_br (P := ¬ x3 = (-1)) (σ1 := ((d + 1), 34, 114, [some (.inr (.inr 86)), some (.inl x1), some (.inl x2), some (.inl x3), some (.inl x4)], [.inl x1], (am_sh, am_mm (am_upd U 124 x2.toNat x3)))) (σ2 := ((d + 1), 34, 110, [some (.inr (.inr 86)), some (.inl x1), some (.inl x2), some (.inl x3), some (.inl x4)], [.inl x1], (am_sh, am_mm (am_upd U 124 x2.toNat x3)))) 4 (fun _ => rfl) (fun hc => ?_) (fun hc => ?_)
      · have ha21a1 := ha21a.1 hc
        refine ev_seg (σ1 := ((d + 1), 34, 8, [some (.inr (.inr 86)), some (.inl (w32 (x1 + 1))), some (.inl (w32 (x2 + 1))), some (.inl x3), some (.inl x4)], [], (am_sh, am_mm (am_upd U 124 x2.toNat x3)))) 5 (fun _ => rfl) ?_
        exact ha21a1
      · have ha21a2 := ha21a.2 hc
        refine ev_seg (σ1 := ((d + 1), 34, 8, [some (.inr (.inr 86)), some (.inl (w32 (x1 + 0))), some (.inl (w32 (x2 + 1))), some (.inl x3), some (.inl x4)], [], (am_sh, am_mm (am_upd U 124 x2.toNat x3)))) 6 (fun _ => rfl) ?_
        exact ha21a2
    · have ha22 := ha2.2 hc
      refine ev_seg (σ1 := ((d + 1), 34, 78, [some (.inr (.inr 86)), some (.inl x1), some (.inl x2), some (.inl x3), some (.inl x4)], [.inl x4, .inl x2, .inl 0, .inr (.inr 86)], (am_sh, am_mm U))) 4 (fun _ => rfl) ?_
      obtain ⟨r1, U1, ha22c, ha22a⟩ := ha22
      refine ev_cal (σc := (d, 129, 0, [some (.inr (.inr 86)), some (.inl 0), some (.inl x2), some (.inl x4), none, none], [], (am_sh, am_mm U))) (fun _ => rfl) ha22c ?_
      show Ev (am_kz N X) ((d + 1), 34, 81, [some (.inr (.inr 86)), some (.inl x1), some (.inl x2), some (.inl x3), some (.inl x4)], [.inl r1], (am_sh, am_mm U1)) R
      refine ev_br (P := r1 = 0) (σ1 := ((d + 1), 34, 89, [some (.inr (.inr 86)), some (.inl x1), some (.inl x2), some (.inl x3), some (.inl x4)], [], (am_sh, am_mm U1))) (σ2 := ((d + 1), 34, 84, [some (.inr (.inr 86)), some (.inl x1), some (.inl x2), some (.inl x3), some (.inl x4)], [], (am_sh, am_mm U1))) 1 (fun _ => rfl) (fun hc => ?_) (fun hc => ?_)
      · have ha22a1 := ha22a.1 hc
        refine ev_seg (σ1 := ((d + 1), 34, 54, [some (.inr (.inr 86)), some (.inl x1), some (.inl x2), some (.inl (-1)), some (.inl (w32 (x4 + 1)))], [], (am_sh, am_mm U1))) 4 (fun _ => rfl) ?_
        exact ha22a1
      · have ha22a2 := ha22a.2 hc
        refine ev_seg (σ1 := ((d + 1), 34, 54, [some (.inr (.inr 86)), some (.inl x1), some (.inl x2), some (.inl x4), some (.inl (w32 (x4 + 1)))], [], (am_sh, am_mm U1))) 5 (fun _ => rfl) ?_
        exact ha22a2
