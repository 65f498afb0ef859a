/-! rent: digits multiplied -/
def cry (v x k : Nat) : Nat := v % 10 ^ k * x / 10 ^ k
theorem cry_0 (v x : Nat) : cry v x 0 = 0 := by unfold cry; rw [Nat.pow_zero, Nat.mod_one, Nat.zero_mul]
theorem cry_mid (v x k : Nat) : dgt v k * x + cry v x k = v % 10 ^ (k + 1) * x / 10 ^ k := by
  unfold dgt cry
  have hp : 0 < 10 ^ k := Nat.pow_pos (by decide)
  rw [Nat.mod_pow_succ, Nat.add_mul, Nat.mul_assoc, Nat.add_mul_div_left _ _ hp, Nat.add_comm]
theorem cry_succ (v x k : Nat) : (dgt v k * x + cry v x k) / 10 = cry v x (k + 1) := by
  rw [cry_mid]; unfold cry
  rw [Nat.div_div_eq_div_mul, ← Nat.pow_succ]
theorem cry_dgt (v x k : Nat) : (dgt v k * x + cry v x k) % 10 = dgt (v * x) k := by
  rw [cry_mid]; unfold dgt
  have hp : 0 < 10 ^ k := Nat.pow_pos (by decide)
  have e : v * x = v % 10 ^ (k + 1) * x + 10 ^ k * (10 * (v / 10 ^ (k + 1) * x)) := by
    have h := Nat.mod_add_div v (10 ^ (k + 1))
    have : v * x = (v % 10 ^ (k + 1) + 10 ^ (k + 1) * (v / 10 ^ (k + 1))) * x := by rw [h]
    rw [this, Nat.add_mul]
    congr 1
    rw [Nat.pow_succ, Nat.mul_assoc, Nat.mul_assoc]
  rw [e, Nat.add_mul_div_left _ _ hp, Nat.add_mul_mod_self_left]
theorem cry_lt {v x : Nat} (hx : 0 < x) (k : Nat) : cry v x k < x := by
  unfold cry
  have hp : 0 < 10 ^ k := Nat.pow_pos (by decide)
  rw [Nat.div_lt_iff_lt_mul hp, Nat.mul_comm x]
  exact Nat.mul_lt_mul_of_pos_right (Nat.mod_lt _ hp) hx
