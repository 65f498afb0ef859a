/-! the reference's test: primes pass; what passes leaves 1 -/
theorem pow_mod1 {x n k : Nat} (hn : 2 ≤ n) (h : x % n = 1) : x ^ k % n = 1 := by
  rw [Nat.pow_mod, h, Nat.one_pow]
  exact Nat.mod_eq_of_lt (by omega)
theorem sq_m1 {n : Nat} (hn : 2 ≤ n) : (n - 1) * (n - 1) % n = 1 := by
  obtain ⟨z, rfl⟩ : ∃ z, n = z + 2 := ⟨n - 2, by omega⟩
  have e : (z + 2 - 1) * (z + 2 - 1) = 1 + (z + 2) * z := by
    show (z + 1) * (z + 1) = _
    rw [Nat.add_mul, Nat.mul_add, Nat.add_mul]
    omega
  rw [e, Nat.add_mul_mod_self_left]
  exact Nat.mod_eq_of_lt (by omega)
theorem pow_sq (x n t : Nat) : x ^ (2 ^ (t + 1)) % n = (x * x % n) ^ (2 ^ t) % n := by
  rw [← Nat.pow_mod, ← Nat.pow_two, ← Nat.pow_mul, Nat.pow_succ 2 t, Nat.mul_comm (2 ^ t) 2]
theorem rSq_one {n : Nat} (hn : 2 ≤ n) : ∀ k x, rSq n k x = true → x ^ (2 ^ (k + 1)) % n = 1 := by
  intro k
  induction k with
  | zero => intro x h; cases h
  | succ k ih =>
    intro x h
    rw [rSq_s] at h
    rw [pow_sq]
    split at h
    · rename_i e
      rw [e, pow_sq, sq_m1 hn]
      exact pow_mod1 hn (Nat.mod_eq_of_lt (by omega))
    · exact ih _ h
theorem rTw_one {n a : Nat} (hn : 2 ≤ n) : ∀ f e s, e < 2 ^ f → f + s ≤ 30 → 0 < e → (1 ≤ s ∨ e % 2 = 0) → rTw n a f e s = true → a ^ (e * 2 ^ s) % n = 1 := by
  intro f
  induction f with
  | zero => intro e s he _ h0; rw [Nat.pow_zero] at he; omega
  | succ f ih =>
    intro e s he hf h0 hs h
    have he30 : e < 2 ^ 30 := Nat.lt_of_lt_of_le he (Nat.pow_le_pow_right (by decide) (by omega))
    rw [rTw_s hn he30] at h
    rw [Nat.pow_succ] at he
    split at h
    · rename_i q
      have h1 := ih (e / 2) (s + 1) (by omega) (by omega) (by omega) (by omega) h
      have e1 : e / 2 * 2 ^ (s + 1) = e * 2 ^ s := by
        rw [Nat.pow_succ, Nat.mul_comm (2 ^ s) 2, ← Nat.mul_assoc]
        congr 1
        omega
      rw [← e1]; exact h1
    · rename_i q
      obtain ⟨t, rfl⟩ : ∃ t, s = t + 1 := ⟨s - 1, by omega⟩
      rw [Nat.pow_mul, Nat.pow_mod]
      split at h
      · rename_i e1
        rw [e1]
        exact pow_mod1 hn (Nat.mod_eq_of_lt (by omega))
      · split at h
        · rename_i e1
          rw [e1, pow_sq, sq_m1 hn]
          exact pow_mod1 hn (Nat.mod_eq_of_lt (by omega))
        · exact rSq_one hn _ _ h
theorem mrR_one {n a : Nat} (hn : 2 ≤ n) (hn2 : n ≤ 1000000000) (ho : n % 2 = 1) (ha : n % a ≠ 0) (h : mrR n a = true) : a ^ (n - 1) % n = 1 := by
  unfold mrR at h
  rw [beq_f ha] at h
  have h1 := rTw_one hn 30 (n - 1) 0 (by omega) (by decide) (by omega) (Or.inr (by omega)) h
  rw [Nat.pow_zero, Nat.mul_one] at h1
  exact h1
theorem pr_root {n x : Nat} (hp : Pr n) (hx : x < n) (h : x * x % n = 1) : x = 1 ∨ x = n - 1 := by
  have hn := hp.1
  have h0 : x ≠ 0 := fun e => by
    rw [e, Nat.mul_zero, Nat.zero_mod] at h; omega
  have h1 : n ∣ x * x - 1 := mod_dvd (by rw [h]; exact (Nat.mod_eq_of_lt (by omega)).symm)
  have e : x * x - 1 = (x - 1) * (x + 1) := by
    obtain ⟨z, rfl⟩ : ∃ z, x = z + 1 := ⟨x - 1, by omega⟩
    show (z + 1) * (z + 1) - 1 = z * (z + 1 + 1)
    rw [Nat.succ_mul, Nat.mul_succ z (z + 1)]
    omega
  rw [e] at h1
  rcases pr_mul hp h1 with q | q
  · left
    rcases Nat.eq_zero_or_pos (x - 1) with w | w
    · omega
    · have := Nat.le_of_dvd w q; omega
  · right
    have := Nat.le_of_dvd (by omega) q
    omega
theorem pr_chain {n : Nat} (hp : Pr n) : ∀ s x, x < n → x ^ (2 ^ s) % n = 1 → x = 1 ∨ x = n - 1 ∨ rSq n (s - 1) x = true := by
  have hn := hp.1
  intro s
  induction s with
  | zero =>
    intro x hx h
    rw [Nat.pow_zero, Nat.pow_one, Nat.mod_eq_of_lt hx] at h
    exact Or.inl h
  | succ s ih =>
    intro x hx h
    rw [pow_sq] at h
    have hm : x * x % n < n := Nat.mod_lt _ (by omega)
    rcases ih _ hm h with q | q | q
    · rcases pr_root hp hx q with w | w
      · exact Or.inl w
      · exact Or.inr (Or.inl w)
    · cases s with
      | zero =>
        rw [Nat.pow_zero, Nat.pow_one, Nat.mod_mod] at h
        rcases pr_root hp hx h with w | w
        · exact Or.inl w
        · exact Or.inr (Or.inl w)
      | succ t =>
        right; right
        show rSq n (t + 1) x = true
        rw [rSq_s, if_pos q]
    · cases s with
      | zero => cases q
      | succ t =>
        right; right
        show rSq n (t + 1) x = true
        rw [rSq_s]
        split
        · rfl
        · exact q
theorem rTw_pr {n a : Nat} (hp : Pr n) : ∀ f e s, e < 2 ^ f → f + s ≤ 30 → 0 < e → a ^ (e * 2 ^ s) % n = 1 → rTw n a f e s = true := by
  have hn := hp.1
  intro f
  induction f with
  | zero => intro e s he _ h0; rw [Nat.pow_zero] at he; omega
  | succ f ih =>
    intro e s he hf h0 h
    have he30 : e < 2 ^ 30 := Nat.lt_of_lt_of_le he (Nat.pow_le_pow_right (by decide) (by omega))
    rw [rTw_s hn he30]
    rw [Nat.pow_succ] at he
    split
    · rename_i q
      refine ih (e / 2) (s + 1) (by omega) (by omega) (by omega) ?_
      have e1 : e / 2 * 2 ^ (s + 1) = e * 2 ^ s := by
        rw [Nat.pow_succ, Nat.mul_comm (2 ^ s) 2, ← Nat.mul_assoc]
        congr 1
        omega
      rw [e1]; exact h
    · rw [Nat.pow_mul, Nat.pow_mod] at h
      rcases pr_chain hp s _ (Nat.mod_lt _ (by omega)) h with q | q | q
      · rw [if_pos q]
      · split
        · rfl
        · first | rfl | rw [if_pos q]
      · split
        · rfl
        · split
          · rfl
          · exact q
theorem mrR_pr {n a : Nat} (hp : Pr n) (hn2 : n ≤ 1000000000) (ha : Pr a) : mrR n a = true := by
  have hn := hp.1
  unfold mrR
  by_cases h : n % a = 0
  · rw [beq_t h]
    rcases hp.2 a (Nat.dvd_of_mod_eq_zero h) with q | q
    · have := ha.1; omega
    · exact beq_t q.symm
  · rw [beq_f h]
    by_cases hd : n ∣ a
    · rcases ha.2 n hd with q | q
      · omega
      · rw [q, Nat.mod_self] at h
        exact absurd rfl h
    · refine rTw_pr hp 30 (n - 1) 0 (by omega) (by decide) (by omega) ?_
      rw [Nat.pow_zero, Nat.mul_one]
      exact flt1 hp hd
