/-! draws -/
theorem land_mask {x : Nat} (hx : x < 9223372036854775808) : am_land (x : Nat) 2147483647 = ((x % 2147483648 : Nat) : Int) := by
  unfold am_land
  have e : (Int64.ofInt ((x : Nat) : Int) &&& Int64.ofInt 2147483647).toBitVec = BitVec.ofNat 64 (x % 2147483648) := by
    rw [Int64.toBitVec_and, Int64.toBitVec_ofInt, Int64.toBitVec_ofInt]
    apply BitVec.eq_of_toNat_eq
    rw [BitVec.toNat_and, BitVec.toNat_ofInt, BitVec.toNat_ofInt, BitVec.toNat_ofNat]
    have e1 : (((x : Nat) : Int) % ((2 ^ 64 : Nat) : Int)).toNat = x := by
      rw [← Int.natCast_emod, Int.toNat_natCast, Nat.mod_eq_of_lt (by omega)]
    have e2 : ((2147483647 : Int) % ((2 ^ 64 : Nat) : Int)).toNat = 2 ^ 31 - 1 := by decide
    rw [e1, e2, Nat.and_two_pow_sub_one_eq_mod, Nat.mod_eq_of_lt (a := x % 2147483648) (by omega)]
  have e3 : (Int64.ofInt ((x : Nat) : Int) &&& Int64.ofInt 2147483647).toInt = (BitVec.ofNat 64 (x % 2147483648)).toInt := by
    rw [← e]; rfl
  have e4 : (BitVec.ofNat 64 (x % 2147483648)).toNat = x % 2147483648 := by rw [BitVec.toNat_ofNat, Nat.mod_eq_of_lt (by omega)]
  rw [e3, BitVec.toInt_eq_toNat_of_lt (by rw [e4]; omega), e4]
def drS (s : Nat) : Nat := (1103515245 * s + 12345) % 2147483648
def drV (s m : Nat) : Nat := drS s / 64 % m
theorem drS_lt (s : Nat) : drS s < 2147483648 := Nat.mod_lt _ (by decide)
theorem ct_draw {N : Nat} {X : Nat → Int} {d : Nat} {U : am_U} {s m : Nat} (hs : U 1 18 = (s : Nat)) (hs2 : s < 2147483648) (hm : 1 ≤ m) : EvK N X (D_draw_s0 (d + 1) (m : Nat) U) (rI ((drV s m : Nat) : Int) (am_upd U 1 18 ((drS s : Nat) : Int))) := by
  have e1 : w64 (w64 (1103515245 * U 1 18) + 12345) = ((1103515245 * s + 12345 : Nat) : Int) := by
    rw [hs]
    unfold w64
    omega
  have e2 : w32 (am_land (w64 (w64 (1103515245 * U 1 18) + 12345)) 2147483647) = ((drS s : Nat) : Int) := by
    rw [e1, land_mask (by omega)]
    have := drS_lt s
    unfold drS at this ⊢
    rw [w32_eq (by omega) (by omega)]
  clear e1
  refine D_draw_r0 ?_
  rw [e2]
  clear e2
  have h1 := drS_lt s
  have e3 : (if (1 : Int) < ((m : Nat) : Int) then ((m : Nat) : Int) else 1) = (m : Nat) := by split <;> omega
  rw [e3, show Int.tdiv ((drS s : Nat) : Int) 64 = ((drS s / 64 : Nat) : Int) from tdiv_nat _ 64]
  have h2 : drS s / 64 < 2147483648 := by omega
  rw [w32_eq (x := ((drS s / 64 : Nat) : Int)) (by omega) (by omega)]
  refine ⟨by omega, ?_⟩
  unfold drV
  rw [tmod_nat]
theorem ct_M_draw {N : Nat} {X : Nat → Int} {d : Nat} {U : am_U} {s m : Nat} (hs : U 86 59 = (s : Nat)) (hs2 : s < 2147483648) (hm : 1 ≤ m) : EvK N X (M_draw_s0 d (m : Nat) U) (rI ((drV s m : Nat) : Int) (am_upd U 86 59 ((drS s : Nat) : Int))) := by
  have e1 : w64 (w64 (1103515245 * U 86 59) + 12345) = ((1103515245 * s + 12345 : Nat) : Int) := by
    rw [hs]
    unfold w64
    omega
  refine M_draw_r0 ?_
  rw [e1]
  clear e1
  have h1 := drS_lt s
  rw [show Int.tmod ((1103515245 * s + 12345 : Nat) : Int) 2147483648 = ((drS s : Nat) : Int) from tmod_nat _ 2147483648, show Int.tdiv ((drS s : Nat) : Int) 64 = ((drS s / 64 : Nat) : Int) from tdiv_nat _ 64]
  have h2 : drS s / 64 < 2147483648 := by omega
  have h3 : w64 ((drS s / 64 : Nat) : Int) = ((drS s / 64 : Nat) : Int) := by unfold w64; omega
  rw [h3, tmod_nat]
  clear h3
  refine ⟨by omega, ?_⟩
  have h4 : drS s / 64 % m ≤ drS s / 64 := Nat.mod_le _ _
  rw [w32_eq (x := ((drS s / 64 % m : Nat) : Int)) (by omega) (by omega)]
  rfl
