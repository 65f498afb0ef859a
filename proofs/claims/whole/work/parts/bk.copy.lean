/-! the town told becomes the town; the reference begins anew -/
theorem cpy_ne {U : am_U} {r t r' : Nat} {n : Int} (h : r' ≠ t) : am_cpy U r t 0 0 n r' = U r' := by
  funext j
  unfold am_cpy
  rw [if_neg (fun z => h z.1)]
theorem cpy_at {U : am_U} {r t j : Nat} {n : Int} (h : (j : Int) < n) : am_cpy U r t 0 0 n t j = U r j := by
  unfold am_cpy
  rw [if_pos ⟨rfl, by omega, by omega⟩, show (((j : Int)) - 0 + 0).toNat = j by omega]
section CPF
variable {N : Nat} {X : Nat → Int} {d : Nat} {U : am_U}
theorem ct_Tw_copyFrom {L : Nat} (h18 : U 31 18 = (L : Nat)) (hL : L ≤ 1600) : ∃ U', EvK N X (Tw_copyFrom_s0 (d + 2) U) (rV U') ∧ (∀ r, r ≠ 3 → ¬ (4 ≤ r ∧ r ≤ 15) → U' r = U r) ∧ (∀ j, j ≤ 5 ∨ j = 18 → U' 3 j = U 31 j) ∧ (∀ r j, 4 ≤ r → r ≤ 14 → r ≠ 11 → j < cwd r → U' r j = U (r + 28) j) ∧ (∀ j, j < L → U' 15 j = U 43 j) := by
  obtain ⟨Z0, hZ0⟩ : ∃ Z0, Z0 = am_upd (am_upd (am_upd (am_upd (am_upd (am_upd (am_upd U 3 0 (U 31 0)) 3 1 (U 31 1)) 3 2 (U 31 2)) 3 3 (U 31 3)) 3 4 (U 31 4)) 3 5 (U 31 5)) 3 18 (U 31 18) := ⟨_, rfl⟩
  have z0 : ∀ r, r ≠ 3 → Z0 r = U r := fun r q => by rw [hZ0, upd_row q, upd_row q, upd_row q, upd_row q, upd_row q, upd_row q, upd_row q]
  have z3 : ∀ j, j ≤ 5 ∨ j = 18 → Z0 3 j = U 31 j := fun j hj => by
    rw [hZ0]
    unfold am_upd
    rcases hj with hj | rfl
    · have : j = 0 ∨ j = 1 ∨ j = 2 ∨ j = 3 ∨ j = 4 ∨ j = 5 := by omega
      rcases this with rfl | rfl | rfl | rfl | rfl | rfl <;> simp
    · simp
  obtain ⟨U', hU'⟩ : ∃ U', U' = am_cpy (am_cpy (am_cpy (am_cpy (am_cpy (am_cpy (am_cpy (am_cpy (am_cpy (am_cpy (am_cpy Z0 32 4 0 0 4) 33 5 0 0 12) 34 6 0 0 12) 35 7 0 0 12) 36 8 0 0 12) 37 9 0 0 12) 38 10 0 0 12) 40 12 0 0 8) 41 13 0 0 9) 42 14 0 0 9) 43 15 0 0 (L : Nat) := ⟨_, rfl⟩
  have c0 : ∀ Z : am_U, EvK N X (Tw_copyRow_32_4_s0 (d + 1) 4 Z) (rV (am_cpy Z 32 4 0 0 4)) := fun Z => Tw_copyRow_32_4_r0 ⟨fun z => absurd z (by decide), fun _ => ⟨fun z => absurd z (by decide), fun _ => ⟨by decide, rfl⟩⟩⟩
  have c1 : ∀ Z : am_U, EvK N X (Tw_copyRow_33_5_s0 (d + 1) 12 Z) (rV (am_cpy Z 33 5 0 0 12)) := fun Z => Tw_copyRow_33_5_r0 ⟨fun z => absurd z (by decide), fun _ => ⟨fun z => absurd z (by decide), fun _ => ⟨by decide, rfl⟩⟩⟩
  have c2 : ∀ Z : am_U, EvK N X (Tw_copyRow_34_6_s0 (d + 1) 12 Z) (rV (am_cpy Z 34 6 0 0 12)) := fun Z => Tw_copyRow_34_6_r0 ⟨fun z => absurd z (by decide), fun _ => ⟨fun z => absurd z (by decide), fun _ => ⟨by decide, rfl⟩⟩⟩
  have c3 : ∀ Z : am_U, EvK N X (Tw_copyRow_35_7_s0 (d + 1) 12 Z) (rV (am_cpy Z 35 7 0 0 12)) := fun Z => Tw_copyRow_35_7_r0 ⟨fun z => absurd z (by decide), fun _ => ⟨fun z => absurd z (by decide), fun _ => ⟨by decide, rfl⟩⟩⟩
  have c4 : ∀ Z : am_U, EvK N X (Tw_copyRow_36_8_s0 (d + 1) 12 Z) (rV (am_cpy Z 36 8 0 0 12)) := fun Z => Tw_copyRow_36_8_r0 ⟨fun z => absurd z (by decide), fun _ => ⟨fun z => absurd z (by decide), fun _ => ⟨by decide, rfl⟩⟩⟩
  have c5 : ∀ Z : am_U, EvK N X (Tw_copyRow_37_9_s0 (d + 1) 12 Z) (rV (am_cpy Z 37 9 0 0 12)) := fun Z => Tw_copyRow_37_9_r0 ⟨fun z => absurd z (by decide), fun _ => ⟨fun z => absurd z (by decide), fun _ => ⟨by decide, rfl⟩⟩⟩
  have c6 : ∀ Z : am_U, EvK N X (Tw_copyRow_38_10_s0 (d + 1) 12 Z) (rV (am_cpy Z 38 10 0 0 12)) := fun Z => Tw_copyRow_38_10_r0 ⟨fun z => absurd z (by decide), fun _ => ⟨fun z => absurd z (by decide), fun _ => ⟨by decide, rfl⟩⟩⟩
  have c7 : ∀ Z : am_U, EvK N X (Tw_copyRow_40_12_s0 (d + 1) 8 Z) (rV (am_cpy Z 40 12 0 0 8)) := fun Z => Tw_copyRow_40_12_r0 ⟨fun z => absurd z (by decide), fun _ => ⟨fun z => absurd z (by decide), fun _ => ⟨by decide, rfl⟩⟩⟩
  have c8 : ∀ Z : am_U, EvK N X (Tw_copyRow_41_13_s0 (d + 1) 9 Z) (rV (am_cpy Z 41 13 0 0 9)) := fun Z => Tw_copyRow_41_13_r0 ⟨fun z => absurd z (by decide), fun _ => ⟨fun z => absurd z (by decide), fun _ => ⟨by decide, rfl⟩⟩⟩
  have c9 : ∀ Z : am_U, EvK N X (Tw_copyRow_42_14_s0 (d + 1) 9 Z) (rV (am_cpy Z 42 14 0 0 9)) := fun Z => Tw_copyRow_42_14_r0 ⟨fun z => absurd z (by decide), fun _ => ⟨fun z => absurd z (by decide), fun _ => ⟨by decide, rfl⟩⟩⟩
  have c10 : ∀ Z : am_U, EvK N X (Tw_copyRow_43_15_s0 (d + 1) ((L : Nat) : Int) Z) (rV (am_cpy Z 43 15 0 0 ((L : Nat) : Int))) := fun Z => Tw_copyRow_43_15_r0 ⟨fun z => absurd z (by omega), fun _ => ⟨fun z => absurd z (by omega), fun _ => ⟨by omega, rfl⟩⟩⟩
  have e18 : (am_cpy (am_cpy (am_cpy (am_cpy (am_cpy (am_cpy (am_cpy (am_cpy (am_cpy (am_cpy Z0 32 4 0 0 4) 33 5 0 0 12) 34 6 0 0 12) 35 7 0 0 12) 36 8 0 0 12) 37 9 0 0 12) 38 10 0 0 12) 40 12 0 0 8) 41 13 0 0 9) 42 14 0 0 9) 3 18 = (L : Nat) := by
    rw [cpy_ne (by decide), cpy_ne (by decide), cpy_ne (by decide), cpy_ne (by decide), cpy_ne (by decide), cpy_ne (by decide), cpy_ne (by decide), cpy_ne (by decide), cpy_ne (by decide), cpy_ne (by decide), z3 18 (by omega)]; exact h18
  refine ⟨U', ?_, fun r q1 q2 => ?_, fun j hj => ?_, fun r j q1 q2 q3 hj => ?_, fun j hj => ?_⟩
  · rw [hU']
    refine Tw_copyFrom_r0 ?_
    rw [← hZ0]
    refine ⟨_, c0 Z0, _, c1 _, _, c2 _, _, c3 _, _, c4 _, _, c5 _, _, c6 _, _, c7 _, _, c8 _, _, c9 _, _, ?_, rfl⟩
    rw [e18]; exact c10 _
  · rw [hU', cpy_ne (by omega), cpy_ne (by omega), cpy_ne (by omega), cpy_ne (by omega), cpy_ne (by omega), cpy_ne (by omega), cpy_ne (by omega), cpy_ne (by omega), cpy_ne (by omega), cpy_ne (by omega), cpy_ne (by omega)]; exact z0 r q1
  · rw [hU', cpy_ne (by decide), cpy_ne (by decide), cpy_ne (by decide), cpy_ne (by decide), cpy_ne (by decide), cpy_ne (by decide), cpy_ne (by decide), cpy_ne (by decide), cpy_ne (by decide), cpy_ne (by decide), cpy_ne (by decide)]; exact z3 j hj
  · rw [hU']
    unfold cwd at hj
    have rr : r = 4 ∨ r = 5 ∨ r = 6 ∨ r = 7 ∨ r = 8 ∨ r = 9 ∨ r = 10 ∨ r = 12 ∨ r = 13 ∨ r = 14 := by omega
    rcases rr with rfl | rfl | rfl | rfl | rfl | rfl | rfl | rfl | rfl | rfl
    · rw [cpy_ne (by decide), cpy_ne (by decide), cpy_ne (by decide), cpy_ne (by decide), cpy_ne (by decide), cpy_ne (by decide), cpy_ne (by decide), cpy_ne (by decide), cpy_ne (by decide), cpy_ne (by decide), cpy_at (by simp at hj; omega), z0 32 (by decide)]
    · rw [cpy_ne (by decide), cpy_ne (by decide), cpy_ne (by decide), cpy_ne (by decide), cpy_ne (by decide), cpy_ne (by decide), cpy_ne (by decide), cpy_ne (by decide), cpy_ne (by decide), cpy_at (by simp at hj; omega), cpy_ne (by decide), z0 33 (by decide)]
    · rw [cpy_ne (by decide), cpy_ne (by decide), cpy_ne (by decide), cpy_ne (by decide), cpy_ne (by decide), cpy_ne (by decide), cpy_ne (by decide), cpy_ne (by decide), cpy_at (by simp at hj; omega), cpy_ne (by decide), cpy_ne (by decide), z0 34 (by decide)]
    · rw [cpy_ne (by decide), cpy_ne (by decide), cpy_ne (by decide), cpy_ne (by decide), cpy_ne (by decide), cpy_ne (by decide), cpy_ne (by decide), cpy_at (by simp at hj; omega), cpy_ne (by decide), cpy_ne (by decide), cpy_ne (by decide), z0 35 (by decide)]
    · rw [cpy_ne (by decide), cpy_ne (by decide), cpy_ne (by decide), cpy_ne (by decide), cpy_ne (by decide), cpy_ne (by decide), cpy_at (by simp at hj; omega), cpy_ne (by decide), cpy_ne (by decide), cpy_ne (by decide), cpy_ne (by decide), z0 36 (by decide)]
    · rw [cpy_ne (by decide), cpy_ne (by decide), cpy_ne (by decide), cpy_ne (by decide), cpy_ne (by decide), cpy_at (by simp at hj; omega), cpy_ne (by decide), cpy_ne (by decide), cpy_ne (by decide), cpy_ne (by decide), cpy_ne (by decide), z0 37 (by decide)]
    · rw [cpy_ne (by decide), cpy_ne (by decide), cpy_ne (by decide), cpy_ne (by decide), cpy_at (by simp at hj; omega), cpy_ne (by decide), cpy_ne (by decide), cpy_ne (by decide), cpy_ne (by decide), cpy_ne (by decide), cpy_ne (by decide), z0 38 (by decide)]
    · rw [cpy_ne (by decide), cpy_ne (by decide), cpy_ne (by decide), cpy_at (by simp at hj; omega), cpy_ne (by decide), cpy_ne (by decide), cpy_ne (by decide), cpy_ne (by decide), cpy_ne (by decide), cpy_ne (by decide), cpy_ne (by decide), z0 40 (by decide)]
    · rw [cpy_ne (by decide), cpy_ne (by decide), cpy_at (by simp at hj; omega), cpy_ne (by decide), cpy_ne (by decide), cpy_ne (by decide), cpy_ne (by decide), cpy_ne (by decide), cpy_ne (by decide), cpy_ne (by decide), cpy_ne (by decide), z0 41 (by decide)]
    · rw [cpy_ne (by decide), cpy_at (by simp at hj; omega), cpy_ne (by decide), cpy_ne (by decide), cpy_ne (by decide), cpy_ne (by decide), cpy_ne (by decide), cpy_ne (by decide), cpy_ne (by decide), cpy_ne (by decide), cpy_ne (by decide), z0 42 (by decide)]
  · rw [hU', cpy_at (by omega), cpy_ne (by decide), cpy_ne (by decide), cpy_ne (by decide), cpy_ne (by decide), cpy_ne (by decide), cpy_ne (by decide), cpy_ne (by decide), cpy_ne (by decide), cpy_ne (by decide), cpy_ne (by decide), z0 43 (by decide)]
theorem ct_begin {V : am_U} {b n : Nat} (h13 : V 86 13 = (b : Nat)) (hb : b < 2) (h97 : V 97 b = (n : Nat)) (hn : n ≤ 16) : ∃ V', EvK N X (M_begin_s0 d V) (rV V') ∧ (∀ r, r ≠ 86 → ¬ (120 ≤ r ∧ r ≤ 124) → V' r = V r) ∧ (∀ j, j ≠ 58 → j ≠ 82 → V' 86 j = V 86 j) ∧ (V' 86 58 = 0 ∧ V' 86 82 = 0) ∧ (V' 120 0 = 0 ∧ V' 121 0 = 0 ∧ V' 122 0 = (n : Nat)) ∧ ∀ p, p < n → V' 123 p = V 98 (16 * b + p) ∧ V' 124 p = V 99 (16 * b + p) := by
  obtain ⟨Z, hZ⟩ : ∃ Z, Z = am_upd (am_upd (am_upd (am_upd (am_upd V 120 0 0) 121 0 0) 86 58 0) 86 82 0) 122 0 ((n : Nat) : Int) := ⟨_, rfl⟩
  have zr : ∀ r, r ≠ 86 → ¬ (120 ≤ r ∧ r ≤ 122) → Z r = V r := fun r q1 q2 => by rw [hZ, upd_row (by omega), upd_row q1, upd_row q1, upd_row (by omega), upd_row (by omega)]
  have zj : ∀ j, j ≠ 58 → j ≠ 82 → Z 86 j = V 86 j := fun j q1 q2 => by rw [hZ, upd_row (by decide), upd_ne q2, upd_ne q1, upd_row (by decide), upd_row (by decide)]
  have goA : ∀ m i : Nat, i + m = n → ∀ Y : am_U, (∀ r, r ≠ 123 → r ≠ 124 → Y r = Z r) → (∀ p, p < i → Y 123 p = V 98 (16 * b + p) ∧ Y 124 p = V 99 (16 * b + p)) → ∃ V', EvK N X (M_begin_s41 d (i : Nat) Y) (rV V') ∧ (∀ r, r ≠ 123 → r ≠ 124 → V' r = Z r) ∧ ∀ p, p < n → V' 123 p = V 98 (16 * b + p) ∧ V' 124 p = V 99 (16 * b + p) := by
    intro m
    induction m with
    | zero =>
      intro i hi Y h1 h2
      obtain rfl : i = n := by omega
      refine ⟨Y, M_begin_r41 ?_, h1, h2⟩
      rw [h1 86 (by decide) (by decide), zj 13 (by decide) (by decide), h13, Int.toNat_natCast, h1 97 (by decide) (by decide), zr 97 (by decide) (by decide), h97]
      exact ⟨by omega, fun _ => rfl, fun z => absurd z (by omega)⟩
    | succ m ih =>
      intro i hi Y h1 h2
      have x0 : eqI (w32 (w32 (16 * ((b : Nat) : Int)) + ((i : Nat) : Int))) ((16 * b + i : Nat) : Int) := by show _ = _; rw [w32_eq (x := 16 * ((b : Nat) : Int)) (by omega) (by omega), w32_eq (by omega) (by omega)]; omega
      obtain ⟨V', k1, k2, k3⟩ := ih (i + 1) (by omega) (am_upd (am_upd Y 123 i (V 98 (16 * b + i))) 124 i (V 99 (16 * b + i))) (fun r q1 q2 => by rw [upd_row q2, upd_row q1]; exact h1 r q1 q2) (fun p hp => by
        rw [upd_row (show (123 : Nat) ≠ 124 by decide), upd_if, upd_if, upd_row (show (124 : Nat) ≠ 123 by decide)]
        by_cases c : p = i
        · rw [if_pos c, if_pos c, c]; exact ⟨rfl, rfl⟩
        · rw [if_neg c, if_neg c]; exact h2 p (by omega))
      refine ⟨V', M_begin_r41 ?_, k2, k3⟩
      rw [h1 86 (by decide) (by decide), zj 13 (by decide) (by decide), h13, Int.toNat_natCast, h1 97 (by decide) (by decide), zr 97 (by decide) (by decide), h97, eqI_o x0, Int.toNat_natCast, Int.toNat_natCast, h1 98 (by decide) (by decide), h1 99 (by decide) (by decide), zr 98 (by decide) (by decide), zr 99 (by decide) (by decide), w32_succ (i := i) (by omega)]
      exact ⟨by omega, fun z => absurd z (by omega), fun _ => ⟨by omega, by omega, k1⟩⟩
  obtain ⟨V', k1, k2, k3⟩ := goA n 0 (by omega) Z (fun _ _ _ => rfl) (fun p hp => absurd hp (Nat.not_lt_zero p))
  refine ⟨V', M_begin_r0 ?_, fun r q1 q2 => by rw [k2 r (by omega) (by omega)]; exact zr r q1 (by omega), fun j q1 q2 => by rw [k2 86 (by decide) (by decide)]; exact zj j q1 q2, ⟨?_, ?_⟩, ⟨?_, ?_, ?_⟩, k3⟩
  · rw [h13, Int.toNat_natCast, h97, ← hZ]
    exact ⟨by omega, k1⟩
  · rw [k2 86 (by decide) (by decide), hZ, upd_row (by decide), upd_ne (by decide), upd_at]
  · rw [k2 86 (by decide) (by decide), hZ, upd_row (by decide), upd_at]
  · rw [k2 120 (by decide) (by decide), hZ, upd_row (by decide), upd_row (by decide), upd_row (by decide), upd_row (by decide), upd_at]
  · rw [k2 121 (by decide) (by decide), hZ, upd_row (by decide), upd_row (by decide), upd_row (by decide), upd_at]
  · rw [k2 122 (by decide) (by decide), hZ, upd_at]
end CPF
