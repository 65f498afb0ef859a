/-! greatest common factors and squares, both ways -/
noncomputable def cb (p : Prop) : Int := @ite _ p (Classical.propDecidable p) 1 0
theorem cb_t {p : Prop} (h : p) : cb p = 1 := if_pos h
theorem cb_f {p : Prop} (h : ¬ p) : cb p = 0 := if_neg h
theorem cb_01 (p : Prop) : cb p = 0 ∨ cb p = 1 := by
  rcases Classical.em p with h | h
  · right; exact cb_t h
  · left; exact cb_f h
theorem cb_ne {p : Prop} : cb p ≠ 0 ↔ p := by
  rcases Classical.em p with h | h
  · rw [cb_t h]; simp [h]
  · rw [cb_f h]; simp [h]
theorem cb_eq {p : Prop} : cb p = 0 ↔ ¬ p := by
  rcases Classical.em p with h | h
  · rw [cb_t h]; simp [h]
  · rw [cb_f h]; simp [h]
theorem tmod_nat (a b : Nat) : Int.tmod (a : Int) (b : Int) = ((a % b : Nat) : Int) := (Int.ofNat_tmod a b).symm
theorem gcd_step {a b : Nat} : Nat.gcd b (a % b) = Nat.gcd a b := by rw [Nat.gcd_comm a b, Nat.gcd_rec b a, Nat.gcd_comm]
theorem ct_cf_l {N : Nat} {X : Nat → Int} {d : Nat} {U : am_U} {x y : Int} : ∀ k a b s : Nat, a * b < 2 ^ k → b ≤ a → s + k ≤ 64 → EvK N X (Nm_commonFactor_s25 d x y (a : Nat) (b : Nat) (s : Nat) U) (rI ((Nat.gcd a b : Nat) : Int) U) := by
  intro k
  induction k with
  | zero =>
    intro a b s h1 h2 h3
    have hb : b = 0 := by
      rcases Nat.eq_zero_or_pos b with q | q
      · exact q
      · have : 1 * 1 ≤ a * b := Nat.mul_le_mul (by omega) q
        omega
    subst hb
    rw [Nat.gcd_zero_right]
    exact Nm_commonFactor_r25 ⟨fun _ => rfl, fun _ => ⟨fun _ => rfl, fun h => absurd rfl h⟩⟩
  | succ k ih =>
    intro a b s h1 h2 h3
    rcases Nat.eq_zero_or_pos b with q | q
    · subst q
      rw [Nat.gcd_zero_right]
      exact Nm_commonFactor_r25 ⟨fun _ => rfl, fun _ => ⟨fun _ => rfl, fun h => absurd rfl h⟩⟩
    · refine Nm_commonFactor_r25 ⟨fun h => absurd h (by omega), fun _ => ⟨fun h => absurd h (by omega), fun _ => ⟨by omega, ?_⟩⟩⟩
      rw [tmod_nat, w32_succ (by omega), ← gcd_step]
      have m1 : a % b < b := Nat.mod_lt _ q
      have m2 : 2 * (a % b) ≤ a := by
        have := Nat.div_add_mod a b
        have : b * 1 ≤ b * (a / b) := Nat.mul_le_mul_left _ (Nat.div_pos h2 q)
        omega
      refine ih b (a % b) (s + 1) ?_ (by omega) (by omega)
      have m3 : b * (2 * (a % b)) ≤ b * a := Nat.mul_le_mul_left _ m2
      rw [Nat.pow_succ] at h1
      rw [Nat.mul_comm b a, Nat.mul_left_comm] at m3
      omega
theorem ct_cf_n {N : Nat} {X : Nat → Int} {d : Nat} {U : am_U} {x y : Int} {a b : Nat} (ha : a < 2147483648) (hb : b < 2147483648) : EvK N X (Nm_commonFactor_s25 d x y (a : Nat) (b : Nat) 0 U) (rI ((Nat.gcd a b : Nat) : Int) U) := by
  have hp : ∀ u v : Nat, u < 2147483648 → v < 2147483648 → u * v < 2 ^ 62 := fun u v hu hv => by
    have : u * v ≤ 2147483647 * 2147483647 := Nat.mul_le_mul (by omega) (by omega)
    omega
  rcases Nat.lt_or_ge a b with h | h
  · refine Nm_commonFactor_r25 ⟨fun h => absurd h (by omega), fun _ => ⟨fun h => absurd h (by omega), fun _ => ⟨by omega, ?_⟩⟩⟩
    rw [tmod_nat, ← gcd_step]
    have := ct_cf_l (N := N) (X := X) (d := d) (U := U) (x := x) (y := y) 62 b (a % b) 1 (hp b _ hb (Nat.lt_of_le_of_lt (Nat.mod_le _ _) ha)) (Nat.le_of_lt (Nat.mod_lt _ (by omega))) (by omega)
    exact this
  · exact ct_cf_l 62 a b 0 (hp a b ha hb) h (by omega)
/-- commonFactor -/
theorem ct_commonFactor {N : Nat} {X : Nat → Int} {d : Nat} {U : am_U} (x y : Int) (hx : -2147483647 ≤ x ∧ x ≤ 2147483647) (hy : -2147483647 ≤ y ∧ y ≤ 2147483647) : EvK N X (Nm_commonFactor_s0 d x y U) (rI ((Nat.gcd x.natAbs y.natAbs : Nat) : Int) U) := by
  have e := ct_cf_n (N := N) (X := X) (d := d) (U := U) (x := x) (y := y) (a := x.natAbs) (b := y.natAbs) (by omega) (by omega)
  refine Nm_commonFactor_r0 ⟨fun h1 => ⟨fun h2 => ?_, fun h2 => ?_⟩, fun h1 => ⟨fun h2 => ?_, fun h2 => ?_⟩⟩
  · rw [show ((x.natAbs : Nat) : Int) = x from by omega, show ((y.natAbs : Nat) : Int) = y from by omega] at e; exact e
  · rw [w32_eq (by omega) (by omega)]
    rw [show ((x.natAbs : Nat) : Int) = x from by omega, show ((y.natAbs : Nat) : Int) = -y from by omega] at e; exact e
  · rw [w32_eq (by omega) (by omega)]
    rw [show ((x.natAbs : Nat) : Int) = -x from by omega, show ((y.natAbs : Nat) : Int) = y from by omega] at e; exact e
  · rw [w32_eq (by omega) (by omega), w32_eq (by omega) (by omega)]
    rw [show ((x.natAbs : Nat) : Int) = -x from by omega, show ((y.natAbs : Nat) : Int) = -y from by omega] at e; exact e
theorem ct_M_size {N : Nat} {X : Nat → Int} {d : Nat} {U : am_U} (x : Int) (hx : -9223372036854775807 ≤ x ∧ x ≤ 9223372036854775807) : EvK N X (M_size_s0 d x U) (rJ ((x.natAbs : Nat) : Int) U) := by
  refine M_size_r0 ⟨fun h => ?_, fun h => ?_⟩
  · rw [show ((x.natAbs : Nat) : Int) = x from by omega]
  · rw [w64_eq (by omega) (by omega), show ((x.natAbs : Nat) : Int) = -x from by omega]
theorem ct_M_gcd_l {N : Nat} {X : Nat → Int} {d : Nat} {U : am_U} {x y : Int} : ∀ n b a : Nat, b ≤ n → EvK N X (M_gcd_s12 (d + 1) x y (a : Nat) (b : Nat) U) (rJ ((Nat.gcd a b : Nat) : Int) U) := by
  intro n
  induction n with
  | zero =>
    intro b a hb
    obtain rfl : b = 0 := by omega
    rw [Nat.gcd_zero_right]
    exact M_gcd_r12 ⟨fun _ => rfl, fun h => absurd h (by omega)⟩
  | succ n ih =>
    intro b a hb
    rcases Nat.eq_zero_or_pos b with q | q
    · subst q
      rw [Nat.gcd_zero_right]
      exact M_gcd_r12 ⟨fun _ => rfl, fun h => absurd h (by omega)⟩
    · refine M_gcd_r12 ⟨fun h => absurd h (by omega), fun _ => ⟨by omega, ?_⟩⟩
      rw [tmod_nat, ← gcd_step]
      exact ih (a % b) b (by have := Nat.mod_lt a q; omega)
theorem ct_M_gcd {N : Nat} {X : Nat → Int} {d : Nat} {U : am_U} (x y : Int) (hx : -9223372036854775807 ≤ x ∧ x ≤ 9223372036854775807) (hy : -9223372036854775807 ≤ y ∧ y ≤ 9223372036854775807) : EvK N X (M_gcd_s0 (d + 1) x y U) (rJ ((Nat.gcd x.natAbs y.natAbs : Nat) : Int) U) :=
  M_gcd_r0 ⟨_, _, ct_M_size x hx, _, _, ct_M_size y hy, ct_M_gcd_l _ _ _ (Nat.le_refl _)⟩
/-! squares -/
def isSq (x : Int) : Prop := ∃ k : Nat, (k : Int) * k = x
theorem sq_lt {a b : Int} (ha : 0 ≤ a) (h : a < b) : a * a < b * b := by
  have h1 : a * a ≤ a * b := Int.mul_le_mul_of_nonneg_left (by omega) ha
  have h2 : a * b < b * b := Int.mul_lt_mul_of_pos_right h (by omega)
  omega
theorem sq_le {a b : Int} (ha : 0 ≤ a) (h : a ≤ b) : a * a ≤ b * b := by
  rcases Int.lt_or_eq_of_le h with q | q
  · exact Int.le_of_lt (sq_lt ha q)
  · rw [q]; exact Int.le_refl _
theorem tdiv2 {a : Int} (h : 0 ≤ a) : Int.tdiv a 2 = a / 2 := Int.tdiv_eq_ediv_of_nonneg h
/-- the class's search: low * low ≤ n < (high + 1) * (high + 1) -/
theorem ct_isSquare_l {N : Nat} {X : Nat → Int} {d : Nat} {U : am_U} {n : Int} (hn : 0 ≤ n ∧ n ≤ 2147395600) : ∀ (k s : Nat) (low high : Int), 0 ≤ low → low ≤ high → high ≤ 46340 → high - low < 2 ^ k → s + k ≤ 32 → low * low ≤ n → n < (high + 1) * (high + 1) → EvK N X (Nm_isSquare_s13 d n low high (s : Nat) U) (rI (cb (isSq n)) U) := by
  intro k
  have fin : ∀ low : Int, 0 ≤ low → low ≤ 46340 → low * low ≤ n → n < (low + 1) * (low + 1) → (((w32 (low * low)) ≠ n → rI (cb (isSq n)) U = rI 0 U) ∧ ((w32 (low * low)) = n → rI (cb (isSq n)) U = rI 1 U)) := by
    intro low h0 h1 h2 h3
    have h4 : low * low ≤ 46340 * 46340 := sq_le h0 h1
    have h5 : 0 ≤ low * low := Int.mul_nonneg h0 h0
    rw [w32_eq (by omega) (by omega)]
    refine ⟨fun h => ?_, fun h => ?_⟩
    · rw [cb_f]
      rintro ⟨j, hj⟩
      rcases Int.lt_trichotomy (j : Int) low with q | q | q
      · have := sq_lt (by omega) q; omega
      · rw [q] at hj; omega
      · have := sq_le (a := low + 1) (b := j) (by omega) (by omega); omega
    · rw [cb_t ⟨low.toNat, by rw [show ((low.toNat : Nat) : Int) = low from by omega]; exact h⟩]
  induction k with
  | zero =>
    intro s low high h0 h1 h2 h3 h4 h5 h6
    have e : low = high := by omega
    subst e
    exact Nm_isSquare_r13 ⟨fun _ => fin low h0 h2 h5 h6, fun _ => ⟨fun _ => fin low h0 h2 h5 h6, fun h => absurd h (by omega)⟩⟩
  | succ k ih =>
    intro s low high h0 h1 h2 h3 h4 h5 h6
    by_cases e : low = high
    · subst e
      exact Nm_isSquare_r13 ⟨fun _ => fin low h0 h2 h5 h6, fun _ => ⟨fun _ => fin low h0 h2 h5 h6, fun h => absurd h (by omega)⟩⟩
    · have hm : w32 (Int.tdiv (w32 (w32 (low + high) + 1)) 2) = (low + high + 1) / 2 := by
        rw [w32_eq (x := low + high) (by omega) (by omega), w32_eq (x := low + high + 1) (by omega) (by omega), tdiv2 (by omega), w32_eq (by omega) (by omega)]
      refine Nm_isSquare_r13 ⟨fun h => absurd h (by omega), fun _ => ⟨fun h => absurd h (by omega), fun _ => ?_⟩⟩
      rw [hm]
      have hmid : low < (low + high + 1) / 2 ∧ (low + high + 1) / 2 ≤ high := by omega
      rw [Int.pow_succ] at h3
      have h3' : high - (low + high + 1) / 2 < 2 ^ k ∧ (low + high + 1) / 2 - 1 - low < 2 ^ k := by omega
      generalize (low + high + 1) / 2 = mid at *
      have q1 : mid * mid ≤ 46340 * 46340 := sq_le (by omega) (by omega)
      have q2 : 0 ≤ mid * mid := Int.mul_nonneg (by omega) (by omega)
      rw [w32_eq (x := mid * mid) (by omega) (by omega), w32_succ (by omega)]
      refine ⟨fun h => ?_, fun h => ?_⟩
      · rw [w32_eq (by omega) (by omega)]
        exact ih (s + 1) low (mid - 1) h0 (by omega) (by omega) h3'.2 (by omega) h5 (by rw [show mid - 1 + 1 = mid from by omega]; exact h)
      · exact ih (s + 1) mid high (by omega) (by omega) h2 h3'.1 (by omega) h h6
theorem ct_isSquare {N : Nat} {X : Nat → Int} {d : Nat} {U : am_U} (n : Int) (hn : n ≤ 2147395600) : EvK N X (Nm_isSquare_s0 d n U) (rI (cb (isSq n)) U) := by
  refine Nm_isSquare_r0 ⟨fun h => ?_, fun h => ?_⟩
  · exact ct_isSquare_l ⟨h, hn⟩ 17 0 0 46340 (by omega) (by omega) (by omega) (by decide) (by omega) (by omega) (by omega)
  · rw [cb_f]
    rintro ⟨k, hk⟩
    have : (0 : Int) ≤ (k : Int) * k := Int.mul_nonneg (by omega) (by omega)
    omega
/-- the reference's search: (low - 1) * (low - 1) < n ≤ high * high -/
theorem ct_M_isSquare_l {N : Nat} {X : Nat → Int} {d : Nat} {U : am_U} {n : Int} (hn : 0 ≤ n ∧ n ≤ 1600000000) : ∀ (k : Nat) (low high : Int), 0 ≤ low → low ≤ high → high ≤ 40000 → high - low < k → (∀ j : Int, 0 ≤ j → j < low → j * j < n) → n ≤ high * high → EvK N X (M_isSquare_s15 d n low high U) (rI (cb (isSq n)) U) := by
  intro k
  induction k with
  | zero => intro low high h0 h1 h2 h3; omega
  | succ k ih =>
    intro low high h0 h1 h2 h3 h4 h5
    by_cases e : low = high
    · subst e
      have q1 : low * low ≤ 40000 * 40000 := sq_le h0 h2
      have q2 : 0 ≤ low * low := Int.mul_nonneg h0 h0
      refine M_isSquare_r15 ⟨fun _ => ?_, fun h => absurd h (by omega)⟩
      rw [w64_eq (by omega) (by omega)]
      refine ⟨fun h => ?_, fun h => ?_⟩
      · rw [cb_f]
        rintro ⟨j, hj⟩
        rcases (by omega : (j : Int) < low ∨ low ≤ (j : Int)) with q | q
        · have := h4 j (by omega) q; omega
        · have := sq_le h0 q; omega
      · rw [cb_t ⟨low.toNat, by rw [show ((low.toNat : Nat) : Int) = low from by omega]; exact h⟩]
    · have hm : w64 (Int.tdiv (w64 (low + high)) 2) = (low + high) / 2 := by
        rw [w64_eq (x := low + high) (by omega) (by omega), tdiv2 (by omega), w64_eq (by omega) (by omega)]
      refine M_isSquare_r15 ⟨fun h => absurd h (by omega), fun _ => ?_⟩
      rw [hm]
      have hmid : low ≤ (low + high) / 2 ∧ (low + high) / 2 < high := by omega
      generalize (low + high) / 2 = mid at *
      have q1 : mid * mid ≤ 40000 * 40000 := sq_le (by omega) (by omega)
      have q2 : 0 ≤ mid * mid := Int.mul_nonneg (by omega) (by omega)
      rw [w64_eq (x := mid * mid) (by omega) (by omega)]
      refine ⟨fun h => ?_, fun h => ?_⟩
      · exact ih low mid h0 (by omega) (by omega) (by omega) h4 h
      · rw [w64_eq (by omega) (by omega)]
        refine ih (mid + 1) high (by omega) (by omega) h2 (by omega) (fun j a b => ?_) h5
        have := sq_le (a := j) (b := mid) a (by omega)
        omega
theorem ct_M_isSquare {N : Nat} {X : Nat → Int} {d : Nat} {U : am_U} (n : Int) (hn : n ≤ 1600000000) : EvK N X (M_isSquare_s0 d n U) (rI (cb (isSq n)) U) := by
  refine M_isSquare_r0 ⟨fun h => ?_, fun h => ?_⟩
  · exact ct_M_isSquare_l ⟨h, hn⟩ 40001 0 40000 (by omega) (by omega) (by omega) (by omega) (fun j a b => by omega) (by omega)
  · rw [cb_f]
    rintro ⟨k, hk⟩
    have : (0 : Int) ≤ (k : Int) * k := Int.mul_nonneg (by omega) (by omega)
    omega
