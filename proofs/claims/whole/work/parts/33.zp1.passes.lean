/-! the reference's test of a prime: as numbers -/
theorem shq_64 : ∀ n, n < 64 → (((Int32.ofInt (n : Nat)).toInt64 &&& 63).toBitVec.smod 64).toNat = n := by decide +kernel
theorem lshq_n {x n : Nat} (hx : x < 9223372036854775808) (hn : n < 64) : am_lshr (x : Nat) (n : Nat) = ((x / 2 ^ n : Nat) : Int) := by
  unfold am_lshr
  have e : (Int64.ofInt ((x : Nat) : Int) >>> ((Int32.ofInt ((n : Nat) : Int)).toInt64 &&& 63)).toBitVec = (Int64.ofInt ((x : Nat) : Int)).toBitVec.sshiftRight n := by
    rw [Int64.toBitVec_shiftRight]
    show (Int64.ofInt ((x : Nat) : Int)).toBitVec.sshiftRight (((Int32.ofInt ((n : Nat) : Int)).toInt64 &&& 63).toBitVec.smod 64).toNat = _
    rw [shq_64 n hn]
  have e2 : (Int64.ofInt ((x : Nat) : Int) >>> ((Int32.ofInt ((n : Nat) : Int)).toInt64 &&& 63)).toInt = ((Int64.ofInt ((x : Nat) : Int)).toBitVec.sshiftRight n).toInt := by
    rw [← e]; rfl
  have e3 : (Int64.ofInt ((x : Nat) : Int)).toBitVec.toInt = ((x : Nat) : Int) := i64_to (x := ((x : Nat) : Int)) (by unfold in64; omega)
  rw [e2, BitVec.toInt_sshiftRight, e3, Int.shiftRight_eq_div_pow]
  rfl
theorem land_1q {x : Nat} (hx : x < 9223372036854775808) : am_land (x : Nat) 1 = ((x % 2 : Nat) : Int) := by
  unfold am_land
  have e : (Int64.ofInt ((x : Nat) : Int) &&& Int64.ofInt 1).toBitVec = BitVec.ofNat 64 (x % 2) := by
    rw [Int64.toBitVec_and, Int64.toBitVec_ofInt, Int64.toBitVec_ofInt]
    apply BitVec.eq_of_toNat_eq
    rw [BitVec.toNat_and, BitVec.toNat_ofInt, BitVec.toNat_ofInt, BitVec.toNat_ofNat]
    have e1 : (((x : Nat) : Int) % ((2 ^ 64 : Nat) : Int)).toNat = x := by
      rw [← Int.natCast_emod, Int.toNat_natCast, Nat.mod_eq_of_lt (by omega)]
    have e2 : ((1 : Int) % ((2 ^ 64 : Nat) : Int)).toNat = 2 ^ 1 - 1 := by decide
    rw [e1, e2, Nat.and_two_pow_sub_one_eq_mod, Nat.mod_eq_of_lt (a := x % 2) (by omega)]
  have e3 : (Int64.ofInt ((x : Nat) : Int) &&& Int64.ofInt 1).toInt = (BitVec.ofNat 64 (x % 2)).toInt := by
    rw [← e]; rfl
  have e4 : (BitVec.ofNat 64 (x % 2)).toNat = x % 2 := by rw [BitVec.toNat_ofNat, Nat.mod_eq_of_lt (by omega)]
  rw [e3, BitVec.toInt_eq_toNat_of_lt (by rw [e4]; omega), e4]
/-- the value first, for the kernel -/
noncomputable def tFor {α : Type} (x : Nat) (f : Nat → α) : α := Nat.rec (motive := fun _ => α) (f 0) (fun y _ => f (y + 1)) x
theorem tFor_eq {α : Type} (x : Nat) (f : Nat → α) : tFor x f = f x := by cases x <;> rfl
/-- a to the power e, what it leaves: bit by bit -/
noncomputable def pwL (n k : Nat) : Nat → Nat → Nat → Nat := Nat.rec (motive := fun _ => Nat → Nat → Nat → Nat) (fun r _ _ => r) (fun _ ih r b e => tFor (bif Nat.beq (e % 2) 1 then r * b % n else r) (fun r' => tFor (b * b % n) (fun b' => tFor (e / 2) (fun e' => ih r' b' e')))) k
theorem pow_half (b e n r : Nat) : (r * b ^ e) % n = ((if e % 2 = 1 then r * b % n else r) * (b * b % n) ^ (e / 2)) % n := by
  have h1 : b ^ e = b ^ (e % 2) * (b * b) ^ (e / 2) := by
    rw [← Nat.pow_two, ← Nat.pow_mul, ← Nat.pow_add, Nat.mod_add_div]
  rw [h1]
  rcases (by omega : e % 2 = 0 ∨ e % 2 = 1) with q | q
  · rw [q, if_neg (by decide), Nat.pow_zero, Nat.one_mul, Nat.mul_mod, Nat.pow_mod, ← Nat.mul_mod_mod, Nat.mod_mod]
    rw [Nat.mul_mod r ((b * b % n) ^ (e / 2)), ← Nat.mul_mod_mod]
  · rw [q, if_pos rfl, Nat.pow_one, ← Nat.mul_assoc, Nat.mul_mod, Nat.pow_mod, ← Nat.mul_mod]
    rw [Nat.mul_mod (r * b % n), Nat.mod_mod, ← Nat.mul_mod]
theorem pwL_eq {n : Nat} : ∀ k r b e, r < n → e < 2 ^ k → pwL n k r b e = r * b ^ e % n := by
  intro k
  induction k with
  | zero =>
    intro r b e hr he
    have : e = 0 := by rw [Nat.pow_zero] at he; omega
    rw [this, Nat.pow_zero, Nat.mul_one, Nat.mod_eq_of_lt hr]
    rfl
  | succ k ih =>
    intro r b e hr he
    show tFor (bif Nat.beq (e % 2) 1 then r * b % n else r) (fun r' => tFor (b * b % n) (fun b' => tFor (e / 2) (fun e' => pwL n k r' b' e'))) = _
    rw [tFor_eq, tFor_eq, tFor_eq]
    rw [Nat.pow_succ] at he
    have hc : (bif Nat.beq (e % 2) 1 then r * b % n else r) = if e % 2 = 1 then r * b % n else r := by
      by_cases q : e % 2 = 1
      · rw [q]; rfl
      · have : e % 2 = 0 := by omega
        rw [this]; rfl
    rw [hc, ih _ _ _ ?_ (by omega)]
    · exact (pow_half b e n r).symm
    · split
      · exact Nat.mod_lt _ (by omega)
      · exact hr
theorem ct_powered_l {N : Nat} {X : Nat → Int} {d : Nat} {U : am_U} {a0 e0 : Int} {n : Nat} (hn : 2 ≤ n ∧ n ≤ 1000000000) : ∀ k e r b, e < 2 ^ k → k ≤ 62 → r < n → b < n → EvK N X (M_powered_s12 d a0 e0 (n : Nat) (r : Nat) (b : Nat) (e : Nat) U) (rJ ((r * b ^ e % n : Nat) : Int) U) := by
  intro k
  induction k with
  | zero =>
    intro e r b he _ hr hb
    have : e = 0 := by rw [Nat.pow_zero] at he; omega
    subst this
    refine M_powered_r12 ⟨fun _ => ?_, fun h => absurd h (by omega)⟩
    rw [Nat.pow_zero, Nat.mul_one, Nat.mod_eq_of_lt hr]
  | succ k ih =>
    intro e r b he hk hr hb
    rcases Nat.eq_zero_or_pos e with q | q
    · subst q
      refine M_powered_r12 ⟨fun _ => ?_, fun h => absurd h (by omega)⟩
      rw [Nat.pow_zero, Nat.mul_one, Nat.mod_eq_of_lt hr]
    have hp : 2 ^ (k + 1) ≤ 2 ^ 63 := Nat.pow_le_pow_right (by decide) (by omega)
    have he2 : e < 9223372036854775808 := by omega
    rw [Nat.pow_succ] at he
    have hbb : b * b ≤ 1000000000 * 1000000000 := Nat.mul_le_mul (by omega) (by omega)
    have hrb : r * b ≤ 1000000000 * 1000000000 := Nat.mul_le_mul (by omega) (by omega)
    have eb : Int.tmod (w64 ((b : Int) * b)) (n : Nat) = ((b * b % n : Nat) : Int) := by
      rw [← Int.natCast_mul, w64_eq (by omega) (by omega), tmod_nat]
    have er : Int.tmod (w64 ((r : Int) * b)) (n : Nat) = ((r * b % n : Nat) : Int) := by
      rw [← Int.natCast_mul, w64_eq (by omega) (by omega), tmod_nat]
    have e1 : am_land (e : Nat) 1 = ((e % 2 : Nat) : Int) := land_1q he2
    have e2 : am_lshr (e : Nat) 1 = ((e / 2 : Nat) : Int) := lshq_n (n := 1) he2 (by decide)
    have hm : b * b % n < n := Nat.mod_lt _ (by omega)
    have hm2 : r * b % n < n := Nat.mod_lt _ (by omega)
    have H := pow_half b e n r
    refine M_powered_r12 ⟨fun h => absurd h (by omega), fun _ => ⟨fun h => ⟨by omega, ?_⟩, fun h => ⟨by omega, by omega, ?_⟩⟩⟩
    · rw [e1] at h
      rw [eb, e2, H, if_neg (by omega)]
      exact ih (e / 2) r (b * b % n) (by omega) (by omega) hr hm
    · rw [e1] at h
      rw [eb, er, e2, H, if_pos (by omega)]
      exact ih (e / 2) (r * b % n) (b * b % n) (by omega) (by omega) hm2 hm
theorem ct_M_powered {N : Nat} {X : Nat → Int} {d : Nat} {U : am_U} {a e n : Nat} (hn : 2 ≤ n ∧ n ≤ 1000000000) (he : e ≤ 1000000000) : EvK N X (M_powered_s0 d (a : Nat) (e : Nat) (n : Nat) U) (rJ ((a ^ e % n : Nat) : Int) U) := by
  refine M_powered_r0 ⟨by omega, ?_⟩
  rw [tmod_nat]
  have h := ct_powered_l (N := N) (X := X) (d := d) (U := U) (a0 := (a : Nat)) (e0 := (e : Nat)) hn 30 e 1 (a % n) (by omega) (by decide) (by omega) (Nat.mod_lt _ (by omega))
  rw [Nat.one_mul, ← Nat.pow_mod] at h
  exact h
