/-! one element tells a word, number or sign: its value, place and kind -/
theorem shl_n {x n : Nat} (hn : n < 32) (hx : x * 2 ^ n < 2147483648) : am_shl (x : Nat) (n : Nat) = ((2 ^ n * x : Nat) : Int) := by
  have pp : 0 < 2 ^ n := Nat.pow_pos (by decide)
  have xl : x ≤ x * 2 ^ n := Nat.le_mul_of_pos_right x pp
  refine tb_ext (shl_in _ _) (nat_in (by rw [Nat.mul_comm]; exact hx)) (fun i hi => ?_)
  rw [tb_shl hn hi, tb_nat (by rw [Nat.mul_comm]; exact hx) hi, sh_tb]
  by_cases c : n ≤ i
  · rw [decide_eq_true c, tb_nat (by omega) (by omega)]
  · rw [decide_eq_false c, Bool.false_and, Bool.false_and]
theorem or_n {a b n : Nat} (hb : b < 2 ^ n) (h : 2 ^ n * a + b < 2147483648) : am_or ((2 ^ n * a : Nat) : Int) (b : Nat) = ((2 ^ n * a + b : Nat) : Int) := by
  refine tb_ext (or_in _ _) (nat_in h) (fun i hi => ?_)
  rw [tb_or, tb_nat (by omega) hi, tb_nat (by omega) hi, tb_nat h hi, Nat.two_pow_add_eq_or_of_lt hb a, Nat.testBit_or]
theorem l64_n {x : Nat} (hx : x < 9223372036854775808) : (Int64.ofInt ((x : Nat) : Int)).toBitVec.toNat = x := by
  rw [Int64.toBitVec_ofInt, BitVec.toNat_ofInt]
  rw [← Int.natCast_emod, Int.toNat_natCast, Nat.mod_eq_of_lt (by omega)]
theorem l64_i {z : Int64} {n : Nat} (h : z.toBitVec.toNat = n) (hn : n < 9223372036854775808) : z.toInt = ((n : Nat) : Int) := by
  show z.toBitVec.toInt = _
  rw [BitVec.toInt_eq_toNat_of_lt (by rw [h]; omega), h]
theorem land_p {x n : Nat} (hx : x < 9223372036854775808) (hn : 2 ^ n - 1 < 9223372036854775808) : am_land (x : Nat) ((2 ^ n - 1 : Nat) : Int) = ((x % 2 ^ n : Nat) : Int) := by
  unfold am_land
  refine l64_i ?_ (Nat.lt_of_le_of_lt (Nat.mod_le _ _) hx)
  rw [Int64.toBitVec_and, BitVec.toNat_and, l64_n hx, l64_n hn, Nat.and_two_pow_sub_one_eq_mod]
theorem lor_p {a b n : Nat} (hb : b < 2 ^ n) (h : 2 ^ n * a + b < 9223372036854775808) : am_lor ((2 ^ n * a : Nat) : Int) (b : Nat) = ((2 ^ n * a + b : Nat) : Int) := by
  unfold am_lor
  refine l64_i ?_ h
  rw [Int64.toBitVec_or, BitVec.toNat_or, l64_n (by omega), l64_n (by omega), Nat.two_pow_add_eq_or_of_lt hb a]
theorem lshl_p {x n : Nat} (hn : n < 64) (h : 2 ^ n * x < 9223372036854775808) : am_lshl (x : Nat) (n : Nat) = ((2 ^ n * x : Nat) : Int) := by
  have pp : 0 < 2 ^ n := Nat.pow_pos (by decide)
  have xl : x ≤ 2 ^ n * x := Nat.le_mul_of_pos_left x pp
  unfold am_lshl
  refine l64_i ?_ h
  rw [Int64.toBitVec_shiftLeft]
  show ((Int64.ofInt ((x : Nat) : Int)).toBitVec <<< (((Int32.ofInt ((n : Nat) : Int)).toInt64 &&& 63).toBitVec.smod 64).toNat).toNat = _
  rw [sh_64 n hn, BitVec.toNat_shiftLeft, l64_n (by omega), Nat.shiftLeft_eq, Nat.mul_comm, Nat.mod_eq_of_lt (by omega)]
theorem told_n {k v p : Nat} (hk : k < 8) (hp : p < 2048) (hv : v < 1073741824) : am_lor (am_lor (am_lshl (v : Nat) 14) (am_shl (p : Nat) 3)) (k : Nat) = ((16384 * v + 8 * p + k : Nat) : Int) := by
  have e1 : am_lshl ((v : Nat) : Int) 14 = ((2 ^ 14 * v : Nat) : Int) := lshl_p (n := 14) (by decide) (by omega)
  have e2 : am_shl ((p : Nat) : Int) 3 = ((2 ^ 3 * p : Nat) : Int) := shl_n (n := 3) (by decide) (by omega)
  have e3 : am_lor ((2 ^ 14 * v : Nat) : Int) ((2 ^ 3 * p : Nat) : Int) = ((2 ^ 14 * v + 2 ^ 3 * p : Nat) : Int) := lor_p (n := 14) (by omega) (by omega)
  rw [e1, e2, e3, show 2 ^ 14 * v + 2 ^ 3 * p = 2 ^ 3 * (2048 * v + p) by omega, lor_p (n := 3) (by omega) (by omega)]
/-- kind, value, place of the j-th as told -/
def tK (U : am_U) (j : Nat) : Int := U 28 j % 8
def tV (U : am_U) (j : Nat) : Int := U 28 j / 16384
def tP (U : am_U) (j : Nat) : Int := U 28 j / 8 % 2048
def tokB (U : am_U) (j : Nat) : Prop := 0 ≤ U 28 j ∧ U 28 j < 17592186044416
/-- all that is told of the j-th stays -/
def tQ (U U' : am_U) (j : Nat) : Prop := tK U' j = tK U j ∧ tV U' j = tV U j ∧ tP U' j = tP U j ∧ (tokB U j → tokB U' j)
theorem tQ_of {U U' : am_U} {j : Nat} (h : U' 28 j = U 28 j) : tQ U U' j := by
  unfold tQ tK tV tP tokB
  rw [h]
  exact ⟨rfl, rfl, rfl, fun z => z⟩
theorem t_cg {U U' : am_U} (h : U' 28 = U 28) : tK U' = tK U ∧ tV U' = tV U ∧ tP U' = tP U ∧ tokB U' = tokB U := by
  refine ⟨funext fun j => ?_, funext fun j => ?_, funext fun j => ?_, funext fun j => ?_⟩
  · unfold tK; rw [h]
  · unfold tV; rw [h]
  · unfold tP; rw [h]
  · unfold tokB; rw [h]
theorem told_of {U : am_U} {j : Nat} {k v p : Int} (hk : 0 ≤ k ∧ k < 8) (hv : 0 ≤ v ∧ v < 1073741824) (hp : 0 ≤ p ∧ p < 2048) (h : U 28 j = 16384 * v + 8 * p + k) : tK U j = k ∧ tV U j = v ∧ tP U j = p ∧ tokB U j := by
  unfold tK tV tP tokB
  rw [h]
  refine ⟨by omega, by omega, by omega, by omega, by omega⟩
theorem told_i {k v p : Int} (hk : 0 ≤ k ∧ k < 8) (hv : 0 ≤ v ∧ v < 1073741824) (hp : 0 ≤ p ∧ p < 2048) : am_lor (am_lor (am_lshl v 14) (am_shl p 3)) k = 16384 * v + 8 * p + k := by
  have := told_n (k := k.toNat) (v := v.toNat) (p := p.toNat) (by omega) (by omega) (by omega)
  rw [show ((k.toNat : Nat) : Int) = k by omega, show ((v.toNat : Nat) : Int) = v by omega, show ((p.toNat : Nat) : Int) = p by omega] at this
  rw [this]
  omega
theorem kind_w {U : am_U} {j : Nat} (h : tokB U j) : w32 (am_land (U 28 j) 7) = tK U j := by
  obtain ⟨h1, h2⟩ := h
  unfold tK
  generalize U 28 j = z at h1 h2 ⊢
  have e : am_land ((z.toNat : Nat) : Int) 7 = ((z.toNat % 2 ^ 3 : Nat) : Int) := land_p (n := 3) (by omega) (by decide)
  rw [show ((z.toNat : Nat) : Int) = z by omega] at e
  rw [e, w32_eq (by omega) (by omega)]
  omega
theorem place_w {U : am_U} {j : Nat} (h : tokB U j) : w32 (am_land (am_lshr (U 28 j) 3) 2047) = tP U j := by
  obtain ⟨h1, h2⟩ := h
  unfold tP
  generalize U 28 j = z at h1 h2 ⊢
  have e0 : am_lshr ((z.toNat : Nat) : Int) 3 = ((z.toNat / 2 ^ 3 : Nat) : Int) := lshr_n (n := 3) (by omega) (by decide)
  have e : am_land ((z.toNat / 2 ^ 3 : Nat) : Int) 2047 = ((z.toNat / 2 ^ 3 % 2 ^ 11 : Nat) : Int) := land_p (n := 11) (by omega) (by decide)
  rw [show ((z.toNat : Nat) : Int) = z by omega] at e0
  rw [e0, e, w32_eq (by omega) (by omega)]
  omega
theorem value_w {U : am_U} {j : Nat} (h : tokB U j) : w32 (am_lshr (U 28 j) 14) = tV U j := by
  obtain ⟨h1, h2⟩ := h
  unfold tV
  generalize U 28 j = z at h1 h2 ⊢
  have e0 : am_lshr ((z.toNat : Nat) : Int) 14 = ((z.toNat / 2 ^ 14 : Nat) : Int) := lshr_n (n := 14) (by omega) (by decide)
  rw [show ((z.toNat : Nat) : Int) = z by omega] at e0
  rw [e0, w32_eq (by omega) (by omega)]
  omega
theorem ct_kindOf {N : Nat} {X : Nat → Int} {d i : Nat} {U : am_U} (hi : i < 1601) (hc : ((i : Nat) : Int) < U 27 1) (hb : tokB U i) : EvK N X (Tk_kindOf_s0 d (i : Nat) U) (rI (tK U i) U) :=
  Tk_kindOf_r0 ⟨fun z => absurd z (by omega), fun _ => ⟨fun z => absurd z (by omega), fun _ => ⟨fun z => absurd z (by omega), fun _ => ⟨by omega, by rw [Int.toNat_natCast, kind_w hb]⟩⟩⟩⟩
theorem ct_valueOf {N : Nat} {X : Nat → Int} {d i : Nat} {U : am_U} (hi : i < 1601) (hc : ((i : Nat) : Int) < U 27 1) (hb : tokB U i) : EvK N X (Tk_valueOf_s0 d (i : Nat) U) (rI (tV U i) U) :=
  Tk_valueOf_r0 ⟨fun z => absurd z (by omega), fun _ => ⟨fun z => absurd z (by omega), fun _ => ⟨fun z => absurd z (by omega), fun _ => ⟨by omega, by rw [Int.toNat_natCast, value_w hb]⟩⟩⟩⟩
theorem ct_placeOf {N : Nat} {X : Nat → Int} {d i : Nat} {U : am_U} (hi : i < 1601) (hc : ((i : Nat) : Int) < U 27 1) (hb : tokB U i) : EvK N X (Tk_placeOf_s0 d (i : Nat) U) (rI (tP U i) U) :=
  Tk_placeOf_r0 ⟨fun z => absurd z (by omega), fun _ => ⟨fun z => absurd z (by omega), fun _ => ⟨fun z => absurd z (by omega), fun _ => ⟨by omega, by rw [Int.toNat_natCast, place_w hb]⟩⟩⟩⟩
