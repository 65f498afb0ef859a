/-! the law: its loop, and its answer -/
section LWL
variable {N : Nat} {X : Nat → Int} {i : Nat} {U : am_U}
set_option maxRecDepth 40000 in
set_option maxHeartbeats 4000000 in
theorem law_disp (hN : N ≤ 3072) (hi : i + 5 < N) (hX : ∀ j, in32 (X j)) (hI : Inv U) {m : Nat} (hm : m < 64) : ∃ U2, Inv U2 ∧ ∀ R, EvK N X (2048, 0, 1119, Lw i, [], (am_sh, am_mm U2)) R → EvK N X (2048, 0, 33, Lw i, [.inl (m : Int)], (am_sh, am_mm U)) R := by
  by_cases h : m < 35
  · have h35 : m = 0 ∨ m = 1 ∨ m = 2 ∨ m = 3 ∨ m = 4 ∨ m = 5 ∨ m = 6 ∨ m = 7 ∨ m = 8 ∨ m = 9 ∨ m = 10 ∨ m = 11 ∨ m = 12 ∨ m = 13 ∨ m = 14 ∨ m = 15 ∨ m = 16 ∨ m = 17 ∨ m = 18 ∨ m = 19 ∨ m = 20 ∨ m = 21 ∨ m = 22 ∨ m = 23 ∨ m = 24 ∨ m = 25 ∨ m = 26 ∨ m = 27 ∨ m = 28 ∨ m = 29 ∨ m = 30 ∨ m = 31 ∨ m = 32 ∨ m = 33 ∨ m = 34 := by omega
    clear h hm
    rcases h35 with rfl | rfl | rfl | rfl | rfl | rfl | rfl | rfl | rfl | rfl | rfl | rfl | rfl | rfl | rfl | rfl | rfl | rfl | rfl | rfl | rfl | rfl | rfl | rfl | rfl | rfl | rfl | rfl | rfl | rfl | rfl | rfl | rfl | rfl | rfl
    · obtain ⟨U2, a, b⟩ := law_c0 hN hi hX hI
      exact ⟨U2, a, fun R hR => ev_sw (off := 155) (pt := 188) rfl rfl rfl (b R hR)⟩
    · obtain ⟨U2, a, b⟩ := law_c1 hN hi hX hI
      exact ⟨U2, a, fun R hR => ev_sw (off := 218) (pt := 251) rfl rfl rfl (b R hR)⟩
    · obtain ⟨U2, a, b⟩ := law_c2 hN hi hX hI
      exact ⟨U2, a, fun R hR => ev_sw (off := 241) (pt := 274) rfl rfl rfl (b R hR)⟩
    · obtain ⟨U2, a, b⟩ := law_c3 hN hi hX hI
      exact ⟨U2, a, fun R hR => ev_sw (off := 254) (pt := 287) rfl rfl rfl (b R hR)⟩
    · obtain ⟨U2, a, b⟩ := law_c4 hN hi hX hI
      exact ⟨U2, a, fun R hR => ev_sw (off := 277) (pt := 310) rfl rfl rfl (b R hR)⟩
    · obtain ⟨U2, a, b⟩ := law_c5 hN hi hX hI
      exact ⟨U2, a, fun R hR => ev_sw (off := 300) (pt := 333) rfl rfl rfl (b R hR)⟩
    · obtain ⟨U2, a, b⟩ := law_c6 hN hi hX hI
      exact ⟨U2, a, fun R hR => ev_sw (off := 343) (pt := 376) rfl rfl rfl (b R hR)⟩
    · obtain ⟨U2, a, b⟩ := law_c7 hN hi hX hI
      exact ⟨U2, a, fun R hR => ev_sw (off := 376) (pt := 409) rfl rfl rfl (b R hR)⟩
    · obtain ⟨U2, a, b⟩ := law_c8 hN hi hX hI
      exact ⟨U2, a, fun R hR => ev_sw (off := 399) (pt := 432) rfl rfl rfl (b R hR)⟩
    · obtain ⟨U2, a, b⟩ := law_c9 hN hi hX hI
      exact ⟨U2, a, fun R hR => ev_sw (off := 432) (pt := 465) rfl rfl rfl (b R hR)⟩
    · obtain ⟨U2, a, b⟩ := law_c10 hN hi hX hI
      exact ⟨U2, a, fun R hR => ev_sw (off := 465) (pt := 498) rfl rfl rfl (b R hR)⟩
    · obtain ⟨U2, a, b⟩ := law_c11 hN hi hX hI
      exact ⟨U2, a, fun R hR => ev_sw (off := 498) (pt := 531) rfl rfl rfl (b R hR)⟩
    · obtain ⟨U2, a, b⟩ := law_c12 hN hi hX hI
      exact ⟨U2, a, fun R hR => ev_sw (off := 521) (pt := 554) rfl rfl rfl (b R hR)⟩
    · obtain ⟨U2, a, b⟩ := law_c13 hN hi hX hI
      exact ⟨U2, a, fun R hR => ev_sw (off := 564) (pt := 597) rfl rfl rfl (b R hR)⟩
    · obtain ⟨U2, a, b⟩ := law_c14 hN hi hX hI
      exact ⟨U2, a, fun R hR => ev_sw (off := 597) (pt := 630) rfl rfl rfl (b R hR)⟩
    · obtain ⟨U2, a, b⟩ := law_c15 hN hi hX hI
      exact ⟨U2, a, fun R hR => ev_sw (off := 636) (pt := 669) rfl rfl rfl (b R hR)⟩
    · obtain ⟨U2, a, b⟩ := law_c16 hN hi hX hI
      exact ⟨U2, a, fun R hR => ev_sw (off := 649) (pt := 682) rfl rfl rfl (b R hR)⟩
    · obtain ⟨U2, a, b⟩ := law_c17 hN hi hX hI
      exact ⟨U2, a, fun R hR => ev_sw (off := 672) (pt := 705) rfl rfl rfl (b R hR)⟩
    · obtain ⟨U2, a, b⟩ := law_c18 hN hi hX hI
      exact ⟨U2, a, fun R hR => ev_sw (off := 685) (pt := 718) rfl rfl rfl (b R hR)⟩
    · obtain ⟨U2, a, b⟩ := law_c19 hN hi hX hI
      exact ⟨U2, a, fun R hR => ev_sw (off := 708) (pt := 741) rfl rfl rfl (b R hR)⟩
    · obtain ⟨U2, a, b⟩ := law_c20 hN hi hX hI
      exact ⟨U2, a, fun R hR => ev_sw (off := 731) (pt := 764) rfl rfl rfl (b R hR)⟩
    · obtain ⟨U2, a, b⟩ := law_c21 hN hi hX hI
      exact ⟨U2, a, fun R hR => ev_sw (off := 764) (pt := 797) rfl rfl rfl (b R hR)⟩
    · obtain ⟨U2, a, b⟩ := law_c22 hN hi hX hI
      exact ⟨U2, a, fun R hR => ev_sw (off := 787) (pt := 820) rfl rfl rfl (b R hR)⟩
    · obtain ⟨U2, a, b⟩ := law_c23 hN hi hX hI
      exact ⟨U2, a, fun R hR => ev_sw (off := 820) (pt := 853) rfl rfl rfl (b R hR)⟩
    · obtain ⟨U2, a, b⟩ := law_c24 hN hi hX hI
      exact ⟨U2, a, fun R hR => ev_sw (off := 843) (pt := 876) rfl rfl rfl (b R hR)⟩
    · obtain ⟨U2, a, b⟩ := law_c25 hN hi hX hI
      exact ⟨U2, a, fun R hR => ev_sw (off := 876) (pt := 909) rfl rfl rfl (b R hR)⟩
    · obtain ⟨U2, a, b⟩ := law_c26 hN hi hX hI
      exact ⟨U2, a, fun R hR => ev_sw (off := 909) (pt := 942) rfl rfl rfl (b R hR)⟩
    · obtain ⟨U2, a, b⟩ := law_c27 hN hi hX hI
      exact ⟨U2, a, fun R hR => ev_sw (off := 942) (pt := 975) rfl rfl rfl (b R hR)⟩
    · obtain ⟨U2, a, b⟩ := law_c28 hN hi hX hI
      exact ⟨U2, a, fun R hR => ev_sw (off := 965) (pt := 998) rfl rfl rfl (b R hR)⟩
    · obtain ⟨U2, a, b⟩ := law_c29 hN hi hX hI
      exact ⟨U2, a, fun R hR => ev_sw (off := 978) (pt := 1011) rfl rfl rfl (b R hR)⟩
    · obtain ⟨U2, a, b⟩ := law_c30 hN hi hX hI
      exact ⟨U2, a, fun R hR => ev_sw (off := 991) (pt := 1024) rfl rfl rfl (b R hR)⟩
    · obtain ⟨U2, a, b⟩ := law_c31 hN hi hX hI
      exact ⟨U2, a, fun R hR => ev_sw (off := 1014) (pt := 1047) rfl rfl rfl (b R hR)⟩
    · obtain ⟨U2, a, b⟩ := law_c32 hN hi hX hI
      exact ⟨U2, a, fun R hR => ev_sw (off := 1027) (pt := 1060) rfl rfl rfl (b R hR)⟩
    · obtain ⟨U2, a, b⟩ := law_c33 hN hi hX hI
      exact ⟨U2, a, fun R hR => ev_sw (off := 1050) (pt := 1083) rfl rfl rfl (b R hR)⟩
    · obtain ⟨U2, a, b⟩ := law_c34 hN hi hX hI
      exact ⟨U2, a, fun R hR => ev_sw (off := 1063) (pt := 1096) rfl rfl rfl (b R hR)⟩
  · refine ⟨U, hI, fun R hR => ev_sw (off := 1086) (pt := 1119) rfl ?_ rfl hR⟩
    show (if ((m : Int) < 0 ∨ (34 : Int) < m) then some (1086 : Int) else _) = some 1086
    rw [if_pos (Or.inr (by omega))]
set_option maxRecDepth 40000 in
set_option maxHeartbeats 4000000 in
theorem law_step (hN : N ≤ 3072) (hX : ∀ j, in32 (X j)) (hI : Inv U) {Q : Option am_V × am_M → Prop} (h1 : ∀ U2, Inv U2 → ∃ R, Q R ∧ EvK N X (2048, 0, 1125, Lw i, [], (am_sh, am_mm U2)) R) (h2 : i + 5 < N → ∀ U2, Inv U2 → ∃ R, Q R ∧ EvK N X (2048, 0, 18, Lw (i + 6), [], (am_sh, am_mm U2)) R) : ∃ R, Q R ∧ EvK N X (2048, 0, 18, Lw i, [], (am_sh, am_mm U)) R := by
  have e : w32 ((N : Int) - 6) = (N : Int) - 6 := by unfold w32; omega
  have go : ∀ R, EvK N X (2048, 0, 24, Lw i, [.inl ((N : Int) - 6), .inl (i : Int)], (am_sh, am_mm U)) R → EvK N X (2048, 0, 18, Lw i, [], (am_sh, am_mm U)) R := by
    intro R h
    refine cn_seg (pc' := 20) (L' := Lw i) (st' := [.inr (.inr (-1)), .inl (i : Int)]) 2 (fun _ _ => rfl) ?_
    refine law_len hN ?_
    refine cn_seg (pc' := 24) (L' := Lw i) (st' := [.inl (w32 ((N : Int) - 6)), .inl (i : Int)]) 2 (fun _ _ => rfl) ?_
    rw [e]
    exact h
  by_cases hi : i + 5 < N
  · obtain ⟨m, hm, em⟩ := and63 (X i)
    obtain ⟨U2, hI2, hb⟩ := law_disp hN hi hX hI hm
    obtain ⟨R, hQ, hE⟩ := h2 hi U2 hI2
    refine ⟨R, hQ, go R ?_⟩
    refine ev_br (P := (N : Int) - 6 < (i : Int)) (σ1 := (2048, 0, 1125, Lw i, [], (am_sh, am_mm U))) (σ2 := (2048, 0, 27, Lw i, [], (am_sh, am_mm U))) 1 (fun k => rfl) (fun hq => absurd hq (by omega)) (fun hq => ?_)
    refine cn_seg (pc' := 29) (L' := Lw i) (st' := [.inl (i : Int), .inr (.inr (-1))]) 2 (fun _ _ => rfl) ?_
    refine ev_iaz (f := X) (n := N) rfl (by decide) rfl ⟨by omega, by omega⟩ ?_
    rw [Int.toNat_natCast]
    refine cn_seg (pc' := 33) (L' := Lw i) (st' := [.inl (am_and (X i) 63)]) 2 (fun _ _ => rfl) ?_
    rw [em]
    refine hb R ?_
    have e2 : w32 ((i : Int) + 6) = ((i + 6 : Nat) : Int) := w32_pc (k := 6) (by omega)
    refine ev_seg (σ1 := (2048, 0, 18, [some (.inr (.inr (-1))), some (.inr (.inr 1)), some (.inr (.inr 86)), some (.inl (w32 ((i : Int) + 6)))], [], (am_sh, am_mm U2))) 2 (fun k => rfl) ?_
    rw [e2]
    exact hE
  · obtain ⟨R, hQ, hE⟩ := h1 U hI
    refine ⟨R, hQ, go R ?_⟩
    refine ev_br (P := (N : Int) - 6 < (i : Int)) (σ1 := (2048, 0, 1125, Lw i, [], (am_sh, am_mm U))) (σ2 := (2048, 0, 27, Lw i, [], (am_sh, am_mm U))) 1 (fun k => rfl) (fun _ => hE) (fun hq => absurd (show (N : Int) - 6 < (i : Int) by omega) hq)
end LWL
def lawQ (R : Option am_V × am_M) : Prop := R.1 = some (.inl 1) ∧ R.2.1 = am_sh
set_option maxRecDepth 40000 in
theorem law_loop {N : Nat} {X : Nat → Int} (hN : N ≤ 3072) (hX : ∀ j, in32 (X j)) : ∀ t i U, N - i ≤ t → Inv U → ∃ R, lawQ R ∧ EvK N X (2048, 0, 18, Lw i, [], (am_sh, am_mm U)) R := by
  intro t
  induction t with
  | zero =>
    intro i U ht hI
    refine law_step hN hX hI (fun U2 _ => ⟨(some (.inl 1), (am_sh, am_mm U2)), ⟨rfl, rfl⟩, ev_end 2 (fun k => rfl)⟩) (fun h => absurd h (by omega))
  | succ t ih =>
    intro i U ht hI
    refine law_step hN hX hI (fun U2 _ => ⟨(some (.inl 1), (am_sh, am_mm U2)), ⟨rfl, rfl⟩, ev_end 2 (fun k => rfl)⟩) (fun h U2 hI2 => ih (i + 6) U2 (by omega) hI2)
set_option maxRecDepth 40000 in
theorem am_runs : am_Runs := by
  intro L xs hL hx
  obtain ⟨R, ⟨e1, e2⟩, hE⟩ := law_loop hL hx L 0 U00 (by omega) inv00
  obtain ⟨n, hn⟩ := law_new hE
  obtain ⟨r, M⟩ := R
  simp only at e1 e2
  subst e1
  refine ⟨n, M, hn, ?_, ?_⟩
  · rw [e2]; decide
  · unfold am_sum
    rw [e2]; decide
