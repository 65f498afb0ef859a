/-! the reference looks ahead -/
theorem ct_M_isL {N : Nat} {X : Nat → Int} {d : Nat} {U : am_U} (c : Int) : EvK N X (M_isLetter_s0 d c U) (rI (b2i (isL c = true)) U) := by
  rw [show b2i (isL c = true) = b2i (97 ≤ c ∧ c ≤ 122) from b2i_cg isL_iff]
  refine M_isLetter_r0 ?_
  (repeat' (first | apply And.intro | intro _)) <;> (unfold b2i; split <;> first | rfl | (exfalso; omega))
theorem ct_M_isD {N : Nat} {X : Nat → Int} {d : Nat} {U : am_U} (c : Int) : EvK N X (M_isDigit_s0 d c U) (rI (b2i (isD c = true)) U) := by
  rw [show b2i (isD c = true) = b2i (48 ≤ c ∧ c ≤ 57) from b2i_cg isD_iff]
  refine M_isDigit_r0 ?_
  (repeat' (first | apply And.intro | intro _)) <;> (unfold b2i; split <;> first | rfl | (exfalso; omega))
theorem i64_nat {x : Nat} (hx : x < 9223372036854775808) : (Int64.ofInt ((x : Nat) : Int)).toBitVec.toNat = x := by
  rw [Int64.toBitVec_ofInt, BitVec.toNat_ofInt, ← Int.natCast_emod, Int.toNat_natCast, Nat.mod_eq_of_lt (by omega)]
theorem lshl_8 {x : Nat} (hx : x < 36028797018963968) : am_lshl (x : Nat) 8 = ((256 * x : Nat) : Int) := by
  unfold am_lshl
  have e : (Int64.ofInt ((x : Nat) : Int) <<< ((Int32.ofInt 8).toInt64 &&& 63)).toBitVec = (Int64.ofInt ((x : Nat) : Int)).toBitVec <<< 8 := by
    rw [Int64.toBitVec_shiftLeft]
    show (Int64.ofInt ((x : Nat) : Int)).toBitVec <<< (((Int32.ofInt 8).toInt64 &&& 63).toBitVec.smod 64).toNat = _
    rw [show (((Int32.ofInt 8).toInt64 &&& 63).toBitVec.smod 64).toNat = 8 from by decide +kernel]
  have e4 : ((Int64.ofInt ((x : Nat) : Int)).toBitVec <<< 8).toNat = 256 * x := by
    rw [BitVec.toNat_shiftLeft, i64_nat (by omega), Nat.shiftLeft_eq, Nat.mod_eq_of_lt (by omega)]
    omega
  have e3 : (Int64.ofInt ((x : Nat) : Int) <<< ((Int32.ofInt 8).toInt64 &&& 63)).toInt = ((Int64.ofInt ((x : Nat) : Int)).toBitVec <<< 8).toInt := by
    rw [← e]; rfl
  rw [e3, BitVec.toInt_eq_toNat_of_lt (by rw [e4]; omega), e4]
theorem lor_b {x c : Nat} (hx : x < 36028797018963968) (hc : c < 256) : am_lor ((256 * x : Nat) : Int) (c : Nat) = ((256 * x + c : Nat) : Int) := by
  unfold am_lor
  have e4 : (Int64.ofInt ((256 * x : Nat) : Int) ||| Int64.ofInt ((c : Nat) : Int)).toBitVec.toNat = 256 * x + c := by
    rw [Int64.toBitVec_or, BitVec.toNat_or, i64_nat (by omega), i64_nat (by omega), Nat.two_pow_add_eq_or_of_lt (i := 8) hc x]
  have e3 : (Int64.ofInt ((256 * x : Nat) : Int) ||| Int64.ofInt ((c : Nat) : Int)).toInt = (Int64.ofInt ((256 * x : Nat) : Int) ||| Int64.ofInt ((c : Nat) : Int)).toBitVec.toInt := rfl
  rw [e3, BitVec.toInt_eq_toNat_of_lt (by rw [e4]; omega), e4]
/-- what looking ahead may change -/
def fA6 (U U' : am_U) : Prop := ∀ r j, ¬ (r = 86 ∧ (j = 3 ∨ j = 4 ∨ j = 5 ∨ j = 6 ∨ j = 7 ∨ j = 12)) → U' r j = U r j
theorem fA6_trans {U U1 U2 : am_U} (h1 : fA6 U U1) (h2 : fA6 U1 U2) : fA6 U U2 := fun r j a => by rw [h2 r j a, h1 r j a]
theorem fA6_upd {U V : am_U} {j : Nat} {x : Int} (hj : j = 3 ∨ j = 4 ∨ j = 5 ∨ j = 6 ∨ j = 7 ∨ j = 12) (h : fA6 U V) : fA6 U (am_upd V 86 j x) := fun r i q => by
  by_cases c : r = 86
  · subst c
    rw [upd_ne (fun e => q ⟨rfl, by omega⟩)]; exact h 86 i q
  · rw [upd_row c]; exact h r i q
theorem fA6_row {U U' : am_U} (h : fA6 U U') {r : Nat} (hr : r ≠ 86) : U' r = U r := funext fun j => h r j (fun z => hr z.1)
/-- the tape as it is read -/
def tpL (U : am_U) (T : Nat → Int) (L : Nat) : Prop := (L ≤ 1600 ∧ U 86 9 = -1) ∧ U 86 2 = (L : Nat) ∧ ∀ j, j < L → U 87 j = T j ∧ 0 ≤ T j ∧ T j ≤ 255
theorem tpL_fA6 {U U' : am_U} {T : Nat → Int} {L : Nat} (h : fA6 U U') (ht : tpL U T L) : tpL U' T L := by
  refine ⟨⟨ht.1.1, by rw [h 86 9 (by decide)]; exact ht.1.2⟩, ?_, fun j hj => ?_⟩
  · rw [h 86 2 (by decide)]; exact ht.2.1
  · rw [fA6_row h (by decide)]; exact ht.2.2 j hj
theorem min6_s {n : Nat} (h : n < 6) : min (n + 1) 6 = min n 6 + 1 := by omega
theorem lxA_s {T : Nat → Int} {a n most : Nat} (h : n ≠ most) : lxA T a (n + 1) most = lxA T a n most := by
  unfold lxA
  by_cases c : jnt T a = true
  · rw [if_pos c, if_pos c]
  · rw [if_neg c, if_neg c]
    by_cases q : most < n
    · rw [if_pos q, if_pos (by omega)]
    · rw [if_neg q, if_neg (by omega)]
theorem lxA_at {T : Nat → Int} {a most : Nat} : lxA T a (most + 1) most = if lxA T a most most = -1 then ((a + most : Nat) : Int) else lxA T a most most := by
  unfold lxA
  by_cases c : jnt T a = true
  · rw [if_pos c, if_pos c, if_neg (by omega)]
  · rw [if_neg c, if_neg c, if_pos (Nat.lt_succ_self most), if_neg (Nat.lt_irrefl most), if_pos rfl]
theorem ahead_L {N : Nat} {X : Nat → Int} {d L a : Nat} {T : Nat → Int} : ∀ k n : Nat, a + n + k = L → (∀ j, j < n → isL (T (a + j)) = true) → ∀ U : am_U, tpL U T L → U 86 7 = (w8 T a (min n 6) : Nat) → U 86 12 = lxA T a n 6 → ∃ U', EvK N X (M_ahead_s205 (d + 1) ((a + n : Nat) : Int) 1 0 6 (n : Nat) U) (rV U') ∧ fA6 U U' ∧ U' 86 3 = U 86 3 ∧ U' 86 4 = U 86 4 ∧ ∃ len, a + len = fr1 (fun j => !(isL (T j))) L (a + n) ∧ (∀ j, j < len → isL (T (a + j)) = true) ∧ U' 86 5 = ((a + len : Nat) : Int) ∧ U' 86 7 = (w8 T a (min len 6) : Nat) ∧ U' 86 12 = lxA T a len 6 := by
  intro k
  induction k with
  | zero =>
    intro n hn hl U ht h7 h12
    refine ⟨am_upd U 86 5 ((a + n : Nat) : Int), M_ahead_r205 ⟨fun _ => rfl, fun z => absurd z (by rw [ht.2.1]; omega)⟩, fA6_upd (by omega) (fun _ _ _ => rfl), upd_ne (by decide), upd_ne (by decide), n, ?_, hl, upd_at _ _ _ _, ?_, ?_⟩
    · rw [fr1_stop (Or.inl (by omega))]
    · rw [upd_ne (by decide)]; exact h7
    · rw [upd_ne (by decide)]; exact h12
  | succ k ih =>
    intro n hn hl U ht h7 h12
    have hL := ht.1.1
    obtain ⟨q1, q2, q3⟩ := ht.2.2 (a + n) (by omega)
    by_cases c : isL (T (a + n)) = true
    · have c' := isL_iff.mp c
      have hl2 : ∀ j, j < n + 1 → isL (T (a + j)) = true := fun j hj => by
        by_cases e : j = n
        · rw [e]; exact c
        · exact hl j (by omega)
      have st : fr1 (fun j => !(isL (T j))) L (a + n) = fr1 (fun j => !(isL (T j))) L (a + (n + 1)) := fr1_step (by omega) (by rw [c]; rfl)
      -- the letter is taken
      have tk : ∀ V : am_U, fA6 U V → V 86 3 = U 86 3 → V 86 4 = U 86 4 → V 86 7 = (w8 T a (min n 6) : Nat) → V 86 12 = lxA T a (n + 1) 6 → ∃ U', EvK N X (M_ahead_s264 (d + 1) ((a + n : Nat) : Int) 1 0 6 (n : Nat) V) (rV U') ∧ fA6 U U' ∧ U' 86 3 = U 86 3 ∧ U' 86 4 = U 86 4 ∧ ∃ len, a + len = fr1 (fun j => !(isL (T j))) L (a + n) ∧ (∀ j, j < len → isL (T (a + j)) = true) ∧ U' 86 5 = ((a + len : Nat) : Int) ∧ U' 86 7 = (w8 T a (min len 6) : Nat) ∧ U' 86 12 = lxA T a len 6 := fun V f f3 f4 f7 f12 => by
        have htV := tpL_fA6 f ht
        by_cases c6 : n < 6
        · have wl := w8_lt (T := T) (a := a) (k := n) hl
          have w6 : w8 T a n < 36028797018963968 := Nat.lt_of_lt_of_le wl (Nat.le_trans (Nat.pow_le_pow_right (by decide) (show n ≤ 5 by omega)) (by decide))
          have mn : min n 6 = n := by omega
          have mn2 : min (n + 1) 6 = n + 1 := by omega
          have ew : am_lor (am_lshl (V 86 7) 8) (V 87 (a + n)) = ((w8 T a (n + 1) : Nat) : Int) := by
            rw [f7, mn, lshl_8 w6, (htV.2.2 (a + n) (by omega)).1, show T (a + n) = (((T (a + n)).toNat : Nat) : Int) by omega, lor_b w6 (by omega)]
            rfl
          obtain ⟨U', k1, k2, k3, k4, len, l1, l2, l3, l4, l5⟩ := ih (n + 1) (by omega) hl2 (am_upd V 86 7 ((w8 T a (n + 1) : Nat) : Int)) (tpL_fA6 (fA6_upd (by omega) (fun _ _ _ => rfl)) htV) (by rw [upd_at, mn2]) (by rw [upd_ne (by decide)]; exact f12)
          refine ⟨U', M_ahead_r264 ⟨fun z => absurd z (by omega), fun _ => ⟨fun z => absurd z (by decide), fun _ => ⟨by omega, fun _ => ?_, fun z => absurd rfl z⟩⟩⟩, fA6_trans f (fA6_trans (fA6_upd (by omega) (fun _ _ _ => rfl)) k2), by rw [k3, upd_ne (by decide)]; exact f3, by rw [k4, upd_ne (by decide)]; exact f4, len, by rw [st]; exact l1, l2, l3, l4, l5⟩
          rw [Int.toNat_natCast, ew, w32_succ (i := a + n) (by omega), w32_succ (i := n) (by omega)]
          exact k1
        · have mn : min n 6 = 6 := by omega
          have mn2 : min (n + 1) 6 = 6 := by omega
          obtain ⟨U', k1, k2, k3, k4, len, l1, l2, l3, l4, l5⟩ := ih (n + 1) (by omega) hl2 V htV (by rw [mn2, f7, mn]) f12
          refine ⟨U', M_ahead_r264 ⟨fun _ => ?_, fun z => absurd z (by omega)⟩, fA6_trans f k2, by rw [k3]; exact f3, by rw [k4]; exact f4, len, by rw [st]; exact l1, l2, l3, l4, l5⟩
          rw [w32_succ (i := a + n) (by omega), w32_succ (i := n) (by omega)]
          exact k1
      have run : ∀ {R}, ((((n : Nat) : Int) ≠ 6) → EvK N X (M_ahead_s264 (d + 1) ((a + n : Nat) : Int) 1 0 6 (n : Nat) U) R) ∧ ((((n : Nat) : Int) = 6) → (((U 86 12) ≠ (-1)) → EvK N X (M_ahead_s264 (d + 1) ((a + n : Nat) : Int) 1 0 6 (n : Nat) U) R) ∧ (((U 86 12) = (-1)) → EvK N X (M_ahead_s264 (d + 1) ((a + n : Nat) : Int) 1 0 6 (n : Nat) (am_upd U 86 12 ((a + n : Nat) : Int))) R)) → EvK N X (M_ahead_s205 (d + 1) ((a + n : Nat) : Int) 1 0 6 (n : Nat) U) R := fun {R} y => by
        refine M_ahead_r205 ⟨fun z => absurd z (by rw [ht.2.1]; omega), fun _ => ⟨fun z => absurd z (by decide), fun _ => ⟨by omega, 1, U, ?_, fun z => absurd z (by decide), fun _ => y⟩⟩⟩
        have := ct_M_isL (N := N) (X := X) (d := d) (U := U) (T (a + n))
        rw [b2i_t c] at this
        rw [Int.toNat_natCast, q1]; exact this
      by_cases c6 : n = 6
      · by_cases cx : U 86 12 = -1
        · obtain ⟨U', k1, k2⟩ := tk (am_upd U 86 12 ((a + n : Nat) : Int)) (fA6_upd (by omega) (fun _ _ _ => rfl)) (upd_ne (by decide)) (upd_ne (by decide)) (by rw [upd_ne (by decide)]; exact h7) (by
            rw [upd_at]
            subst c6
            rw [lxA_at, ← h12, if_pos cx])
          exact ⟨U', run ⟨fun z => absurd (by omega) z, fun _ => ⟨fun z => absurd cx z, fun _ => k1⟩⟩, k2⟩
        · obtain ⟨U', k1, k2⟩ := tk U (fun _ _ _ => rfl) rfl rfl h7 (by
            subst c6
            rw [lxA_at, ← h12, if_neg cx])
          exact ⟨U', run ⟨fun z => absurd (by omega) z, fun _ => ⟨fun _ => k1, fun z => absurd z cx⟩⟩, k2⟩
      · obtain ⟨U', k1, k2⟩ := tk U (fun _ _ _ => rfl) rfl rfl h7 (by rw [lxA_s c6]; exact h12)
        exact ⟨U', run ⟨fun _ => k1, fun z => absurd z (by omega)⟩, k2⟩
    · refine ⟨am_upd U 86 5 ((a + n : Nat) : Int), M_ahead_r205 ⟨fun z => absurd z (by rw [ht.2.1]; omega), fun _ => ⟨fun z => absurd z (by decide), fun _ => ⟨by omega, 0, U, ?_, fun _ => rfl, fun z => absurd rfl z⟩⟩⟩, fA6_upd (by omega) (fun _ _ _ => rfl), upd_ne (by decide), upd_ne (by decide), n, ?_, hl, upd_at _ _ _ _, ?_, ?_⟩
      · have := ct_M_isL (N := N) (X := X) (d := d) (U := U) (T (a + n))
        rw [b2i_f c] at this
        rw [Int.toNat_natCast, q1]; exact this
      · rw [fr1_stop (Or.inr (by rw [Bool.eq_false_iff.mpr c]; rfl))]
      · rw [upd_ne (by decide)]; exact h7
      · rw [upd_ne (by decide)]; exact h12
theorem ahead_D {N : Nat} {X : Nat → Int} {d L a : Nat} {T : Nat → Int} : ∀ k n : Nat, a + n + k = L → (∀ j, j < n → isD (T (a + j)) = true) → ∀ U : am_U, tpL U T L → U 86 6 = (v10 T a (min n 9) : Nat) → U 86 12 = lxA T a n 9 → ∃ U', EvK N X (M_ahead_s205 (d + 1) ((a + n : Nat) : Int) 0 1 9 (n : Nat) U) (rV U') ∧ fA6 U U' ∧ U' 86 3 = U 86 3 ∧ U' 86 4 = U 86 4 ∧ ∃ len, a + len = fr1 (fun j => !(isD (T j))) L (a + n) ∧ (∀ j, j < len → isD (T (a + j)) = true) ∧ U' 86 5 = ((a + len : Nat) : Int) ∧ U' 86 6 = (v10 T a (min len 9) : Nat) ∧ U' 86 12 = lxA T a len 9 := by
  intro k
  induction k with
  | zero =>
    intro n hn hl U ht h7 h12
    refine ⟨am_upd U 86 5 ((a + n : Nat) : Int), M_ahead_r205 ⟨fun _ => rfl, fun z => absurd z (by rw [ht.2.1]; omega)⟩, fA6_upd (by omega) (fun _ _ _ => rfl), upd_ne (by decide), upd_ne (by decide), n, ?_, hl, upd_at _ _ _ _, ?_, ?_⟩
    · rw [fr1_stop (Or.inl (by omega))]
    · rw [upd_ne (by decide)]; exact h7
    · rw [upd_ne (by decide)]; exact h12
  | succ k ih =>
    intro n hn hl U ht h7 h12
    have hL := ht.1.1
    obtain ⟨q1, q2, q3⟩ := ht.2.2 (a + n) (by omega)
    by_cases c : isD (T (a + n)) = true
    · have c' := isD_iff.mp c
      have hl2 : ∀ j, j < n + 1 → isD (T (a + j)) = true := fun j hj => by
        by_cases e : j = n
        · rw [e]; exact c
        · exact hl j (by omega)
      have st : fr1 (fun j => !(isD (T j))) L (a + n) = fr1 (fun j => !(isD (T j))) L (a + (n + 1)) := fr1_step (by omega) (by rw [c]; rfl)
      have tk : ∀ V : am_U, fA6 U V → V 86 3 = U 86 3 → V 86 4 = U 86 4 → V 86 6 = (v10 T a (min n 9) : Nat) → V 86 12 = lxA T a (n + 1) 9 → ∃ U', EvK N X (M_ahead_s264 (d + 1) ((a + n : Nat) : Int) 0 1 9 (n : Nat) V) (rV U') ∧ fA6 U U' ∧ U' 86 3 = U 86 3 ∧ U' 86 4 = U 86 4 ∧ ∃ len, a + len = fr1 (fun j => !(isD (T j))) L (a + n) ∧ (∀ j, j < len → isD (T (a + j)) = true) ∧ U' 86 5 = ((a + len : Nat) : Int) ∧ U' 86 6 = (v10 T a (min len 9) : Nat) ∧ U' 86 12 = lxA T a len 9 := fun V f f3 f4 f7 f12 => by
        have htV := tpL_fA6 f ht
        by_cases c6 : n < 9
        · have wl := v10_lt (T := T) (a := a) (k := n) hl
          have w6 : v10 T a n < 100000000 := Nat.lt_of_lt_of_le wl (Nat.le_trans (Nat.pow_le_pow_right (by decide) (show n ≤ 8 by omega)) (by decide))
          have mn : min n 9 = n := by omega
          have mn2 : min (n + 1) 9 = n + 1 := by omega
          have ew : eqI (w32 (w32 (w32 (10 * V 86 6) + V 87 (a + n)) - 48)) ((v10 T a (n + 1) : Nat) : Int) := by
            show _ = ((10 * v10 T a n + (T (a + n) - 48).toNat : Nat) : Int)
            rw [f7, mn, (htV.2.2 (a + n) (by omega)).1, w32_eq (x := 10 * ((v10 T a n : Nat) : Int)) (by omega) (by omega), w32_eq (x := 10 * ((v10 T a n : Nat) : Int) + T (a + n)) (by omega) (by omega), w32_eq (by omega) (by omega)]
            omega
          obtain ⟨U', k1, k2, k3, k4, len, l1, l2, l3, l4, l5⟩ := ih (n + 1) (by omega) hl2 (am_upd V 86 6 ((v10 T a (n + 1) : Nat) : Int)) (tpL_fA6 (fA6_upd (by omega) (fun _ _ _ => rfl)) htV) (by rw [upd_at, mn2]) (by rw [upd_ne (by decide)]; exact f12)
          refine ⟨U', M_ahead_r264 ⟨fun z => absurd z (by omega), fun _ => ⟨fun _ => ⟨fun z => absurd z (by decide), fun _ => ⟨by omega, ?_⟩⟩, fun z => absurd rfl z⟩⟩, fA6_trans f (fA6_trans (fA6_upd (by omega) (fun _ _ _ => rfl)) k2), by rw [k3, upd_ne (by decide)]; exact f3, by rw [k4, upd_ne (by decide)]; exact f4, len, by rw [st]; exact l1, l2, l3, l4, l5⟩
          rw [Int.toNat_natCast, eqI_o ew, w32_succ (i := a + n) (by omega), w32_succ (i := n) (by omega)]
          exact k1
        · have mn : min n 9 = 9 := by omega
          have mn2 : min (n + 1) 9 = 9 := by omega
          obtain ⟨U', k1, k2, k3, k4, len, l1, l2, l3, l4, l5⟩ := ih (n + 1) (by omega) hl2 V htV (by rw [mn2, f7, mn]) f12
          refine ⟨U', M_ahead_r264 ⟨fun _ => ?_, fun z => absurd z (by omega)⟩, fA6_trans f k2, by rw [k3]; exact f3, by rw [k4]; exact f4, len, by rw [st]; exact l1, l2, l3, l4, l5⟩
          rw [w32_succ (i := a + n) (by omega), w32_succ (i := n) (by omega)]
          exact k1
      have run : ∀ {R}, ((((n : Nat) : Int) ≠ 9) → EvK N X (M_ahead_s264 (d + 1) ((a + n : Nat) : Int) 0 1 9 (n : Nat) U) R) ∧ ((((n : Nat) : Int) = 9) → (((U 86 12) ≠ (-1)) → EvK N X (M_ahead_s264 (d + 1) ((a + n : Nat) : Int) 0 1 9 (n : Nat) U) R) ∧ (((U 86 12) = (-1)) → EvK N X (M_ahead_s264 (d + 1) ((a + n : Nat) : Int) 0 1 9 (n : Nat) (am_upd U 86 12 ((a + n : Nat) : Int))) R)) → EvK N X (M_ahead_s205 (d + 1) ((a + n : Nat) : Int) 0 1 9 (n : Nat) U) R := fun {R} y => by
        refine M_ahead_r205 ⟨fun z => absurd z (by rw [ht.2.1]; omega), fun _ => ⟨fun _ => ⟨by omega, 1, U, ?_, fun z => absurd z (by decide), fun _ => y⟩, fun z => absurd rfl z⟩⟩
        have := ct_M_isD (N := N) (X := X) (d := d) (U := U) (T (a + n))
        rw [b2i_t c] at this
        rw [Int.toNat_natCast, q1]; exact this
      by_cases c6 : n = 9
      · by_cases cx : U 86 12 = -1
        · obtain ⟨U', k1, k2⟩ := tk (am_upd U 86 12 ((a + n : Nat) : Int)) (fA6_upd (by omega) (fun _ _ _ => rfl)) (upd_ne (by decide)) (upd_ne (by decide)) (by rw [upd_ne (by decide)]; exact h7) (by
            rw [upd_at]
            subst c6
            rw [lxA_at, ← h12, if_pos cx])
          exact ⟨U', run ⟨fun z => absurd (by omega) z, fun _ => ⟨fun z => absurd cx z, fun _ => k1⟩⟩, k2⟩
        · obtain ⟨U', k1, k2⟩ := tk U (fun _ _ _ => rfl) rfl rfl h7 (by
            subst c6
            rw [lxA_at, ← h12, if_neg cx])
          exact ⟨U', run ⟨fun z => absurd (by omega) z, fun _ => ⟨fun _ => k1, fun z => absurd z cx⟩⟩, k2⟩
      · obtain ⟨U', k1, k2⟩ := tk U (fun _ _ _ => rfl) rfl rfl h7 (by rw [lxA_s c6]; exact h12)
        exact ⟨U', run ⟨fun _ => k1, fun z => absurd z (by omega)⟩, k2⟩
    · refine ⟨am_upd U 86 5 ((a + n : Nat) : Int), M_ahead_r205 ⟨fun z => absurd z (by rw [ht.2.1]; omega), fun _ => ⟨fun _ => ⟨by omega, 0, U, ?_, fun _ => rfl, fun z => absurd rfl z⟩, fun z => absurd rfl z⟩⟩, fA6_upd (by omega) (fun _ _ _ => rfl), upd_ne (by decide), upd_ne (by decide), n, ?_, hl, upd_at _ _ _ _, ?_, ?_⟩
      · have := ct_M_isD (N := N) (X := X) (d := d) (U := U) (T (a + n))
        rw [b2i_f c] at this
        rw [Int.toNat_natCast, q1]; exact this
      · rw [fr1_stop (Or.inr (by rw [Bool.eq_false_iff.mpr c]; rfl))]
      · rw [upd_ne (by decide)]; exact h7
      · rw [upd_ne (by decide)]; exact h12
/-- what the reference knows of the one at e -/
def rTok (U : am_U) (T : Nat → Int) (L e : Nat) : Prop := U 86 4 = (tkA T L e : Nat) ∧ U 86 5 = (tkE T L e : Nat) ∧
  ((tkA T L e = L ∧ U 86 3 = 0 ∧ U 86 12 = -1) ∨
   (tkA T L e < L ∧ isL (T (tkA T L e)) = true ∧ U 86 3 = 1 ∧ ∃ len, tkE T L e = tkA T L e + len ∧ 1 ≤ len ∧ (∀ j, j < len → isL (T (tkA T L e + j)) = true) ∧ U 86 7 = (w8 T (tkA T L e) (min len 6) : Nat) ∧ U 86 12 = lxA T (tkA T L e) len 6) ∨
   (tkA T L e < L ∧ isD (T (tkA T L e)) = true ∧ U 86 3 = 2 ∧ ∃ len, tkE T L e = tkA T L e + len ∧ 1 ≤ len ∧ (∀ j, j < len → isD (T (tkA T L e + j)) = true) ∧ U 86 6 = (v10 T (tkA T L e) (min len 9) : Nat) ∧ U 86 12 = lxA T (tkA T L e) len 9) ∨
   (tkA T L e < L ∧ isL (T (tkA T L e)) = false ∧ isD (T (tkA T L e)) = false ∧ U 86 3 = 3 ∧ U 86 6 = T (tkA T L e) ∧ U 86 12 = -1))
theorem lxA_1 {T : Nat → Int} {a most : Nat} (h : 1 ≤ most) : lxA T a 0 most = if jnt T a then ((a : Nat) : Int) else -1 := by
  unfold lxA
  by_cases c : jnt T a = true
  · rw [if_pos c, if_pos c]
  · rw [if_neg c, if_neg c, if_neg (by omega)]
theorem ct_ahead {N : Nat} {X : Nat → Int} {d L e : Nat} {T : Nat → Int} {U : am_U} (ht : tpL U T L) (he : U 86 5 = (e : Nat)) (hle : e ≤ L) : ∃ U', EvK N X (M_ahead_s0 (d + 1) U) (rV U') ∧ fA6 U U' ∧ rTok U' T L e := by
  have hL := ht.1.1
  have loop : ∀ k p : Nat, p + k = L → tkA T L e = tkA T L p → ∃ U', EvK N X (M_ahead_s5 (d + 1) (p : Nat) U) (rV U') ∧ fA6 U U' ∧ rTok U' T L e := by
    intro k
    induction k with
    | zero =>
      intro p hp ep
      have eA : tkA T L e = L := by rw [ep]; unfold tkA; rw [fr1_stop (Or.inl (by omega))]; omega
      refine ⟨_, M_ahead_r5 ⟨fun _ => rfl, fun z => absurd z (by rw [ht.2.1]; omega)⟩, fA6_upd (by omega) (fA6_upd (by omega) (fA6_upd (by omega) (fA6_upd (by omega) (fun _ _ _ => rfl)))), ?_, ?_, Or.inl ⟨eA, ?_, upd_at _ _ _ _⟩⟩
      · rw [upd_ne (by decide), upd_ne (by decide), upd_ne (by decide), upd_at, eA]; omega
      · rw [upd_ne (by decide), upd_ne (by decide), upd_at]
        unfold tkE
        rw [if_pos (by omega), eA]; omega
      · rw [upd_ne (by decide), upd_at]
    | succ k ih =>
      intro p hp ep
      obtain ⟨q1, q2, q3⟩ := ht.2.2 p (by omega)
      by_cases cb : isB (T p) = true
      · obtain ⟨U', k1, k2⟩ := ih (p + 1) (by omega) (by rw [ep]; unfold tkA; exact fr1_step (by omega) (by rw [cb]; rfl))
        have cb' := isB_iff.mp cb
        refine ⟨U', M_ahead_r5 ⟨fun z => absurd z (by rw [ht.2.1]; omega), fun _ => ⟨by omega, ?_⟩⟩, k2⟩
        rw [Int.toNat_natCast, q1, w32_succ (i := p) (by omega)]
        refine ⟨fun _ => k1, fun z => ⟨fun z2 => ?_, fun _ => k1⟩⟩
        omega
      · have eA : tkA T L e = p := by rw [ep]; unfold tkA; exact fr1_stop (Or.inr (by rw [Bool.eq_false_iff.mpr cb]; rfl))
        have cb' : ¬ (T p = 32 ∨ T p = 10) := fun z => cb (isB_iff.mpr z)
        obtain ⟨V0, hV0⟩ : ∃ V0, V0 = am_upd (am_upd (am_upd (am_upd U 86 4 ((p : Nat) : Int)) 86 5 ((p : Nat) : Int)) 86 3 0) 86 12 (-1) := ⟨_, rfl⟩
        have fV0 : fA6 U V0 := by rw [hV0]; exact fA6_upd (by omega) (fA6_upd (by omega) (fA6_upd (by omega) (fA6_upd (by omega) (fun _ _ _ => rfl))))
        have v4 : V0 86 4 = (p : Nat) := by rw [hV0, upd_ne (by decide), upd_ne (by decide), upd_ne (by decide), upd_at]
        have v12 : V0 86 12 = -1 := by rw [hV0, upd_at]
        have r87 : V0 87 = U 87 := fA6_row fV0 (by decide)
        -- whether it stands right behind another
        obtain ⟨Vj, jt, jf⟩ : ∃ Vj, (jnt T p = true → Vj = am_upd V0 86 12 ((p : Nat) : Int)) ∧ (jnt T p = false → Vj = V0) := by
          cases jnt T p with
          | true => exact ⟨_, fun _ => rfl, fun z => absurd z (by decide)⟩
          | false => exact ⟨_, fun z => absurd z (by decide), fun _ => rfl⟩
        have fVj : fA6 U Vj ∧ Vj 86 4 = (p : Nat) ∧ Vj 86 12 = (if jnt T p then ((p : Nat) : Int) else -1) := by
          cases q : jnt T p with
          | true => rw [jt q]; exact ⟨fA6_upd (by omega) fV0, by rw [upd_ne (by decide)]; exact v4, by rw [upd_at]; rfl⟩
          | false => rw [jf q]; exact ⟨fV0, v4, by rw [v12]; rfl⟩
        have jn : ∀ {R} (r1 r2 : Int), ((r1 ≠ 0) ∨ (r2 ≠ 0)) → r1 = b2i (isL (T p) = true) → r2 = b2i (isD (T p) = true) → EvK N X (M_ahead_s135 (d + 1) (p : Nat) r1 r2 Vj) R → EvK N X (M_ahead_s5 (d + 1) (p : Nat) U) R := fun {R} r1 r2 hr h1 h2 hgo => by
          have cl := ct_M_isL (N := N) (X := X) (d := d) (U := V0) (T p)
          have cd := ct_M_isD (N := N) (X := X) (d := d) (U := V0) (T p)
          rw [← h1] at cl
          rw [← h2] at cd
          have g0 : (p = 0 ∨ jnt T p = false) → EvK N X (M_ahead_s135 (d + 1) (p : Nat) r1 r2 V0) R := fun z => by
            have q : jnt T p = false := by
              rcases z with z | z
              · rw [z]; rfl
              · exact z
            rw [← jf q]; exact hgo
          have g1 : jnt T p = true → EvK N X (M_ahead_s135 (d + 1) (p : Nat) r1 r2 (am_upd V0 86 12 ((p : Nat) : Int))) R := fun z => by rw [← jt z]; exact hgo
          -- the one ahead of it
          have pv : 0 < p → (0 ≤ (w32 (((p : Nat) : Int) - 1)) ∧ (w32 (((p : Nat) : Int) - 1)) < 1800) ∧ ∃ (r3 : Int) (U3 : am_U), EvK N X (M_isLetter_s0 d (V0 87 ((w32 (((p : Nat) : Int) - 1)).toNat)) V0) (rI r3 U3) ∧ ((r3 ≠ 0) → EvK N X (M_ahead_s135 (d + 1) (p : Nat) r1 r2 (am_upd U3 86 12 ((p : Nat) : Int))) R) ∧ ((r3 = 0) → ∃ (r4 : Int) (U4 : am_U), EvK N X (M_isDigit_s0 d (U3 87 ((w32 (((p : Nat) : Int) - 1)).toNat)) U3) (rI r4 U4) ∧ ((r4 = 0) → EvK N X (M_ahead_s135 (d + 1) (p : Nat) r1 r2 U4) R) ∧ ((r4 ≠ 0) → EvK N X (M_ahead_s135 (d + 1) (p : Nat) r1 r2 (am_upd U4 86 12 ((p : Nat) : Int))) R)) := fun hp0 => by
            rw [w32_eq (by omega) (by omega), show ((p : Nat) : Int) - 1 = ((p - 1 : Nat) : Int) by omega, Int.toNat_natCast, r87, (ht.2.2 (p - 1) (by omega)).1]
            refine ⟨by omega, _, V0, ct_M_isL _, fun z => g1 ?_, fun z => ⟨b2i (isD (T (p - 1)) = true), V0, ?_, fun z2 => g0 (Or.inr ?_), fun z2 => g1 ?_⟩⟩
            · unfold jnt; rw [decide_eq_true hp0, b2i_ne.mp z]; rfl
            · rw [r87, (ht.2.2 (p - 1) (by omega)).1]; exact ct_M_isD _
            · unfold jnt; rw [Bool.eq_false_iff.mpr (b2i_eq.mp z), Bool.eq_false_iff.mpr (b2i_eq.mp z2)]; simp
            · unfold jnt; rw [decide_eq_true hp0, b2i_ne.mp z2]; simp
          refine M_ahead_r5 ⟨fun z => absurd z (by rw [ht.2.1]; omega), fun _ => ⟨by omega, ?_⟩⟩
          rw [Int.toNat_natCast, q1]
          refine ⟨fun z => absurd (Or.inl z) cb', fun _ => ⟨fun _ => ⟨r1, V0, by rw [← hV0]; exact cl, r2, V0, by rw [r87, q1]; exact cd, fun z => ⟨fun z2 => g0 (Or.inl (by omega)), fun z2 => pv (by omega)⟩, fun z => ⟨fun z2 => absurd hr (by omega), fun _ => ⟨fun z2 => g0 (Or.inl (by omega)), fun z2 => pv (by omega)⟩⟩⟩, fun z => absurd (Or.inr z) cb'⟩⟩
        have eE : tkE T L e = if isL (T p) then fr1 (fun j => !(isL (T j))) L p else if isD (T p) then fr1 (fun j => !(isD (T j))) L p else p + 1 := by
          unfold tkE
          rw [eA, if_neg (by omega)]
        obtain ⟨f, f4, f12⟩ := fVj
        by_cases cl : isL (T p) = true
        · have nd : ¬ isD (T p) = true := fun z => by have := isD_iff.mp z; have := isL_iff.mp cl; omega
          rw [if_pos cl] at eE
          obtain ⟨W, hW⟩ : ∃ W, W = am_upd (am_upd (am_upd (am_upd (am_upd Vj 86 6 0) 86 7 0) 86 3 3) 86 5 ((p + 1 : Nat) : Int)) 86 3 1 := ⟨_, rfl⟩
          have fW : fA6 U W := by rw [hW]; exact fA6_upd (by omega) (fA6_upd (by omega) (fA6_upd (by omega) (fA6_upd (by omega) (fA6_upd (by omega) f))))
          obtain ⟨U', k1, k2, k3, k4, len, l1, l2, l3, l4, l5⟩ := ahead_L (N := N) (X := X) (d := d) (a := p) (T := T) (L := L) (L - p) 0 (by omega) (fun j hj => absurd hj (Nat.not_lt_zero j)) W (tpL_fA6 fW ht) (by rw [hW, upd_ne (by decide), upd_ne (by decide), upd_ne (by decide), upd_at]; rfl) (by rw [hW, upd_ne (by decide), upd_ne (by decide), upd_ne (by decide), upd_ne (by decide), upd_ne (by decide), f12, lxA_1 (by decide)])
          rw [Nat.add_zero] at l1
          have h1 : 1 ≤ len := by
            have := (tkE_spec (T := T) hle).2.2 (by omega)
            omega
          refine ⟨U', jn 1 0 (Or.inl (by decide)) (b2i_t cl).symm (b2i_f nd).symm (M_ahead_r135 ⟨fun _ => ?_, fun z => absurd z (by decide)⟩), fA6_trans fW k2, ?_, ?_, Or.inr (Or.inl ⟨by omega, by rw [eA]; exact cl, ?_, len, by rw [eE, eA, l1], h1, by rw [eA]; exact l2, by rw [eA]; exact l4, by rw [eA]; exact l5⟩)⟩
          · rw [w32_succ (i := p) (by omega), ← hW]; exact k1
          · rw [k4, hW, upd_ne (by decide), upd_ne (by decide), upd_ne (by decide), upd_ne (by decide), upd_ne (by decide), f4, eA]
          · rw [l3, eE, l1]
          · rw [k3, hW, upd_at]
        · rw [if_neg cl] at eE
          by_cases cd : isD (T p) = true
          · rw [if_pos cd] at eE
            obtain ⟨W, hW⟩ : ∃ W, W = am_upd (am_upd (am_upd (am_upd (am_upd Vj 86 6 0) 86 7 0) 86 3 3) 86 5 ((p + 1 : Nat) : Int)) 86 3 2 := ⟨_, rfl⟩
            have fW : fA6 U W := by rw [hW]; exact fA6_upd (by omega) (fA6_upd (by omega) (fA6_upd (by omega) (fA6_upd (by omega) (fA6_upd (by omega) f))))
            obtain ⟨U', k1, k2, k3, k4, len, l1, l2, l3, l4, l5⟩ := ahead_D (N := N) (X := X) (d := d) (a := p) (T := T) (L := L) (L - p) 0 (by omega) (fun j hj => absurd hj (Nat.not_lt_zero j)) W (tpL_fA6 fW ht) (by rw [hW, upd_ne (by decide), upd_ne (by decide), upd_ne (by decide), upd_ne (by decide), upd_at]; rfl) (by rw [hW, upd_ne (by decide), upd_ne (by decide), upd_ne (by decide), upd_ne (by decide), upd_ne (by decide), f12, lxA_1 (by decide)])
            rw [Nat.add_zero] at l1
            have h1 : 1 ≤ len := by
              have := (tkE_spec (T := T) hle).2.2 (by omega)
              omega
            refine ⟨U', jn 0 1 (Or.inr (by decide)) (b2i_f cl).symm (b2i_t cd).symm (M_ahead_r135 ⟨fun z => absurd rfl z, fun _ => ⟨fun _ => ?_, fun z => absurd z (by decide)⟩⟩), fA6_trans fW k2, ?_, ?_, Or.inr (Or.inr (Or.inl ⟨by omega, by rw [eA]; exact cd, ?_, len, by rw [eE, eA, l1], h1, by rw [eA]; exact l2, by rw [eA]; exact l4, by rw [eA]; exact l5⟩))⟩
            · rw [w32_succ (i := p) (by omega), ← hW]; exact k1
            · rw [k4, hW, upd_ne (by decide), upd_ne (by decide), upd_ne (by decide), upd_ne (by decide), upd_ne (by decide), f4, eA]
            · rw [l3, eE, l1]
            · rw [k3, hW, upd_at]
          · rw [if_neg cd] at eE
            have cl0 := ct_M_isL (N := N) (X := X) (d := d) (U := V0) (T p)
            have cd0 := ct_M_isD (N := N) (X := X) (d := d) (U := V0) (T p)
            rw [b2i_f cl] at cl0
            rw [b2i_f cd] at cd0
            refine ⟨am_upd (am_upd (am_upd (am_upd (am_upd V0 86 6 0) 86 7 0) 86 3 3) 86 5 ((p + 1 : Nat) : Int)) 86 6 (T p), M_ahead_r5 ⟨fun z => absurd z (by rw [ht.2.1]; omega), fun _ => ⟨by omega, ?_⟩⟩, fA6_upd (by omega) (fA6_upd (by omega) (fA6_upd (by omega) (fA6_upd (by omega) (fA6_upd (by omega) fV0)))), ?_, ?_, Or.inr (Or.inr (Or.inr ⟨by omega, by rw [eA]; exact Bool.eq_false_iff.mpr cl, by rw [eA]; exact Bool.eq_false_iff.mpr cd, ?_, ?_, ?_⟩))⟩
            · rw [Int.toNat_natCast, q1]
              refine ⟨fun z => absurd (Or.inl z) cb', fun _ => ⟨fun _ => ⟨0, V0, by rw [← hV0]; exact cl0, 0, V0, by rw [r87, q1]; exact cd0, fun z => absurd rfl z, fun _ => ⟨fun _ => M_ahead_r135 ⟨fun z => absurd rfl z, fun _ => ⟨fun z => absurd rfl z, fun _ => ⟨by omega, ?_⟩⟩⟩, fun z => absurd rfl z⟩⟩, fun z => absurd (Or.inr z) cb'⟩⟩
              rw [w32_succ (i := p) (by omega), Int.toNat_natCast, r87, q1]
            · rw [upd_ne (by decide), upd_ne (by decide), upd_ne (by decide), upd_ne (by decide), upd_ne (by decide), v4, eA]
            · rw [upd_ne (by decide), upd_at, eE]
            · rw [upd_ne (by decide), upd_ne (by decide), upd_at]
            · rw [upd_at, eA]
            · rw [upd_ne (by decide), upd_ne (by decide), upd_ne (by decide), upd_ne (by decide), upd_ne (by decide), v12]
  obtain ⟨U', k1, k2⟩ := loop (L - e) e (by omega) rfl
  exact ⟨U', M_ahead_r0 (by rw [he]; exact k1), k2⟩
