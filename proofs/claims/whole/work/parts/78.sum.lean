/-! sums: carries -/
def car (v x k : Nat) : Nat := (v % 10 ^ k + x % 10 ^ k) / 10 ^ k
theorem car_0 (v x : Nat) : car v x 0 = 0 := by unfold car; rw [Nat.pow_zero, Nat.mod_one, Nat.mod_one]
theorem car_mid (v x k : Nat) : dgt v k + dgt x k + car v x k = (v % 10 ^ (k + 1) + x % 10 ^ (k + 1)) / 10 ^ k := by
  unfold dgt car
  have hp : 0 < 10 ^ k := Nat.pow_pos (by decide)
  rw [Nat.mod_pow_succ, Nat.mod_pow_succ, show v % 10 ^ k + 10 ^ k * (v / 10 ^ k % 10) + (x % 10 ^ k + 10 ^ k * (x / 10 ^ k % 10)) = v % 10 ^ k + x % 10 ^ k + 10 ^ k * (v / 10 ^ k % 10 + x / 10 ^ k % 10) from by rw [Nat.mul_add]; omega, Nat.add_mul_div_left _ _ hp, Nat.add_comm]
theorem car_succ (v x k : Nat) : (dgt v k + dgt x k + car v x k) / 10 = car v x (k + 1) := by
  rw [car_mid]; unfold car
  rw [Nat.div_div_eq_div_mul, ← Nat.pow_succ]
theorem car_dgt (v x k : Nat) : (dgt v k + dgt x k + car v x k) % 10 = dgt (v + x) k := by
  rw [car_mid]; unfold dgt
  have hp : 0 < 10 ^ k := Nat.pow_pos (by decide)
  have e : v + x = v % 10 ^ (k + 1) + x % 10 ^ (k + 1) + 10 ^ k * (10 * (v / 10 ^ (k + 1) + x / 10 ^ (k + 1))) := by
    have h1 := Nat.mod_add_div v (10 ^ (k + 1))
    have h2 := Nat.mod_add_div x (10 ^ (k + 1))
    have h3 : 10 ^ k * (10 * (v / 10 ^ (k + 1) + x / 10 ^ (k + 1))) = 10 ^ (k + 1) * (v / 10 ^ (k + 1)) + 10 ^ (k + 1) * (x / 10 ^ (k + 1)) := by
      rw [← Nat.mul_assoc, ← Nat.pow_succ, Nat.mul_add]
    omega
  conv => rhs; rw [e]
  rw [Nat.add_mul_div_left _ _ hp, Nat.add_mul_mod_self_left]
theorem car_1 (v x k : Nat) : car v x k ≤ 1 := by
  unfold car
  have hp : 0 < 10 ^ k := Nat.pow_pos (by decide)
  have h1 := Nat.mod_lt v hp
  have h2 := Nat.mod_lt x hp
  have : (v % 10 ^ k + x % 10 ^ k) / 10 ^ k < 2 := by
    rw [Nat.div_lt_iff_lt_mul hp]; omega
  omega
theorem car_all {v x k : Nat} (hv : v < 10 ^ k) (hx : x < 10 ^ k) : car v x k = (v + x) / 10 ^ k := by
  unfold car; rw [Nat.mod_eq_of_lt hv, Nat.mod_eq_of_lt hx]
theorem dgt_0 {x k : Nat} (h : x < 10 ^ k) : dgt x k = 0 := by unfold dgt; rw [Nat.div_eq_of_lt h]
/-- how long the carry has run, how many there were, the longest -/
def rn (v x : Nat) : Nat → Nat
  | 0 => 0
  | k + 1 => if car v x (k + 1) = 1 then rn v x k + 1 else 0
def cs (v x : Nat) : Nat → Nat
  | 0 => 0
  | k + 1 => cs v x k + car v x (k + 1)
def lg (v x l : Nat) : Nat → Nat
  | 0 => l
  | k + 1 => if lg v x l k < rn v x (k + 1) then rn v x (k + 1) else lg v x l k
theorem rn_le (v x : Nat) : ∀ k, rn v x k ≤ k
  | 0 => Nat.le_refl 0
  | k + 1 => by have := rn_le v x k; rw [rn]; split <;> omega
theorem cs_le (v x : Nat) : ∀ k, cs v x k ≤ k
  | 0 => Nat.le_refl 0
  | k + 1 => by have := cs_le v x k; have := car_1 v x (k + 1); rw [cs]; omega
theorem lg_le {v x l : Nat} (hl : l ≤ 20) : ∀ k, k ≤ 20 → lg v x l k ≤ 20
  | 0, _ => hl
  | k + 1, h => by have := lg_le (v := v) (x := x) hl k (by omega); have := rn_le v x (k + 1); rw [lg]; split <;> omega
theorem cs_stop {v x m : Nat} : ∀ j, (∀ k, m < k → car v x k = 0) → cs v x (m + j) = cs v x m
  | 0, _ => rfl
  | j + 1, h => by show cs v x (m + j + 1) = _; rw [cs, cs_stop j h, h (m + j + 1) (by omega), Nat.add_zero]
theorem lg_stop {v x l m : Nat} : ∀ j, (∀ k, m < k → car v x k = 0) → lg v x l (m + j) = lg v x l m
  | 0, _ => rfl
  | j + 1, h => by
    show lg v x l (m + j + 1) = _
    have e : rn v x (m + j + 1) = 0 := by rw [rn, if_neg (by rw [h (m + j + 1) (by omega)]; decide)]
    rw [lg, lg_stop j h, e, if_neg (Nat.not_lt_zero _)]
theorem car_off {v x m : Nat} (hx : x < 10 ^ m) (hc : car v x m = 0) : ∀ j, car v x (m + j) = 0
  | 0 => hc
  | j + 1 => by
    show car v x (m + j + 1) = 0
    have hx2 : x < 10 ^ (m + j) := Nat.lt_of_lt_of_le hx (Nat.pow_le_pow_right (by decide) (by omega))
    have := dgt_9 v (m + j)
    rw [← car_succ, car_off hx hc j, dgt_0 hx2]
    omega
theorem car_off2 {v x m : Nat} (hv : v < 10 ^ m) (hx : x < 10 ^ m) {k : Nat} (hk : m < k) : car v x k = 0 := by
  have h1 : car v x (m + 1) = 0 := by
    rw [← car_succ, dgt_0 hv, dgt_0 hx]
    have := car_1 v x m
    omega
  have := car_off (v := v) (Nat.lt_of_lt_of_le hx (Nat.pow_le_pow_right (by decide) (Nat.le_succ m))) h1 (k - (m + 1))
  rwa [show m + 1 + (k - (m + 1)) = k from by omega] at this
theorem tot_eq {a x c : Nat} (ha : a ≤ 9) (hc : c ≤ 1) (hx : x < 1000000000) : w32 (w32 (((a : Nat) : Int) + Int.tmod ((x : Nat) : Int) 10) + ((c : Nat) : Int)) = ((a + x % 10 + c : Nat) : Int) := by
  rw [show Int.tmod ((x : Nat) : Int) 10 = ((x % 10 : Nat) : Int) from tmod_nat _ 10, ← Int.natCast_add, w32_eq (x := ((a + x % 10 : Nat) : Int)) (by omega) (by omega), ← Int.natCast_add, w32_eq (by omega) (by omega)]
theorem div32 {z : Nat} (hz : z < 2147483648) : w32 (Int.tdiv ((z : Nat) : Int) 10) = ((z / 10 : Nat) : Int) := by
  rw [show Int.tdiv ((z : Nat) : Int) 10 = ((z / 10 : Nat) : Int) from tdiv_nat _ 10, w32_eq (by omega) (by omega)]
theorem w32_na {a b : Nat} (h : a + b < 2147483648) : w32 (((a : Nat) : Int) + ((b : Nat) : Int)) = ((a + b : Nat) : Int) := by
  rw [← Int.natCast_add, w32_eq (by omega) (by omega)]
/-- one place of the class's adding -/
theorem Dg_add_st {N : Nat} {X : Nat → Int} {d : Nat} {U : am_U} {R : Option am_V × am_M} {x1 : Int} {k x c r a C l L : Nat} (hk : k < 64) (hx : x < 1000000000) (hc : c ≤ 1) (hxc : 0 < x + c) (hr : r ≤ 1000) (ha : U 83 k = (a : Nat)) (ha9 : a ≤ 9) (hC : U 82 2 = (C : Nat)) (hC2 : C ≤ 1000000) (hl : U 82 3 = (l : Nat)) (hl2 : l ≤ 1000000) (hL : U 82 1 = (L : Nat)) (h : ∀ c' r', c' = (a + x % 10 + c) / 10 → r' = (if c' = 1 then r + 1 else 0) → EvK N X (Dg_add_s10 (d + 1) x1 ((x / 10 : Nat) : Int) ((c' : Nat) : Int) ((r' : Nat) : Int) ((k + 1 : Nat) : Int) (am_upd (am_upd (am_upd (am_upd U 83 k (((a + x % 10 + c) % 10 : Nat) : Int)) 82 2 ((C + c' : Nat) : Int)) 82 3 ((if l < r' then r' else l : Nat) : Int)) 82 1 ((if L < k + 1 then k + 1 else L : Nat) : Int))) R) : EvK N X (Dg_add_s10 (d + 1) x1 (x : Nat) (c : Nat) (r : Nat) (k : Nat) U) R := by
  have eL : (if ((L : Nat) : Int) < ((k + 1 : Nat) : Int) then ((k + 1 : Nat) : Int) else ((L : Nat) : Int)) = ((if L < k + 1 then k + 1 else L : Nat) : Int) := by
    by_cases z : L < k + 1
    · rw [if_pos z, if_pos (by omega)]
    · rw [if_neg z, if_neg (by omega)]
  refine Dg_add_r10 ⟨fun q => absurd q (by omega), fun _ => ?_⟩
  rw [w32_na (by omega), Int.toNat_natCast, ha, tot_eq ha9 hc hx, div32 (by omega), w32_succ (i := k) (by omega), hC, hl, hL, eL]
  refine ⟨fun q => absurd q (by omega), fun _ => ⟨by omega, fun q => ?_, fun q => ?_⟩⟩
  · have h0 := h 0 0 (by omega) rfl
    rw [w32_eq (x := ((a + x % 10 + c : Nat) : Int) - 0) (by omega) (by omega), w32_eq (x := ((C : Nat) : Int) + 0) (by omega) (by omega), if_neg (show ¬ ((l : Nat) : Int) < 0 by omega)]
    rw [Nat.add_zero, if_neg (Nat.not_lt_zero l), Nat.mod_eq_of_lt (show a + x % 10 + c < 10 by omega)] at h0
    rw [Int.sub_zero, Int.add_zero]
    exact h0
  · have h0 := h 1 (r + 1) (by omega) rfl
    have e2 : ((a + x % 10 + c : Nat) : Int) - 10 = (((a + x % 10 + c) % 10 : Nat) : Int) := by omega
    have e3 : (if ((l : Nat) : Int) < ((r + 1 : Nat) : Int) then ((r + 1 : Nat) : Int) else ((l : Nat) : Int)) = ((if l < r + 1 then r + 1 else l : Nat) : Int) := by
      by_cases z : l < r + 1
      · rw [if_pos z, if_pos (by omega)]
      · rw [if_neg z, if_neg (by omega)]
    rw [w32_eq (x := ((a + x % 10 + c : Nat) : Int) - 10) (by omega) (by omega), e2, w32_eq (x := ((C : Nat) : Int) + 1) (by omega) (by omega), w32_succ (i := r) (by omega), e3]
    exact h0
theorem cs_s (v x k : Nat) : cs v x (k + 1) = cs v x k + car v x (k + 1) := rfl
theorem lg_s (v x l k : Nat) : lg v x l (k + 1) = if lg v x l k < rn v x (k + 1) then rn v x (k + 1) else lg v x l k := rfl
theorem rn_s (v x k : Nat) : rn v x (k + 1) = if car v x (k + 1) = 1 then rn v x k + 1 else 0 := rfl
