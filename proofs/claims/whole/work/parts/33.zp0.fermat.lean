/-! primes: Euclid's lemma, Pascal's triangle, Fermat's little theorem -/
def Pr (n : Nat) : Prop := 2 ≤ n ∧ ∀ m, m ∣ n → m = 1 ∨ m = n
theorem pr_cop {p a : Nat} (hp : Pr p) (h : ¬ p ∣ a) : Nat.Coprime p a := by
  have h1 : Nat.gcd p a ∣ p := Nat.gcd_dvd_left p a
  have h2 : Nat.gcd p a ∣ a := Nat.gcd_dvd_right p a
  rcases hp.2 _ h1 with e | e
  · exact e
  · rw [e] at h2; exact absurd h2 h
theorem pr_mul {p a b : Nat} (hp : Pr p) (h : p ∣ a * b) : p ∣ a ∨ p ∣ b := by
  by_cases q : p ∣ a
  · exact Or.inl q
  · exact Or.inr ((pr_cop hp q).dvd_of_dvd_mul_left h)
theorem pr_pow {p a : Nat} (hp : Pr p) : ∀ k, p ∣ a ^ k → p ∣ a := by
  intro k
  induction k with
  | zero => intro h; rw [Nat.pow_zero] at h; have := Nat.le_of_dvd (by decide) h; have := hp.1; omega
  | succ k ih =>
    intro h
    rw [Nat.pow_succ] at h
    rcases pr_mul hp h with q | q
    · exact ih q
    · exact q
/-- every number above 1 has a prime factor -/
theorem pr_ex : ∀ n : Nat, 2 ≤ n → ∃ p, Pr p ∧ p ∣ n := by
  intro n
  induction n using Nat.strongRecOn with
  | ind n ih =>
    intro hn
    by_cases h : ∃ m, m ∣ n ∧ m ≠ 1 ∧ m ≠ n
    · obtain ⟨m, h1, h2, h3⟩ := h
      have h4 := Nat.le_of_dvd (by omega) h1
      have h5 : m ≠ 0 := fun e => by
        rw [e] at h1
        have := Nat.eq_zero_of_zero_dvd h1
        omega
      obtain ⟨p, q1, q2⟩ := ih m (by omega) (by omega)
      exact ⟨p, q1, Nat.dvd_trans q2 h1⟩
    · refine ⟨n, ⟨hn, fun m hm => ?_⟩, Nat.dvd_refl n⟩
      by_cases e : m = 1
      · exact Or.inl e
      · right
        by_cases e2 : m = n
        · exact e2
        · exact absurd ⟨m, hm, e, e2⟩ h
def chs : Nat → Nat → Nat
  | _, 0 => 1
  | 0, _ + 1 => 0
  | n + 1, k + 1 => chs n k + chs n (k + 1)
theorem chs_0 (n : Nat) : chs n 0 = 1 := by cases n <;> rfl
theorem chs_out : ∀ n k, n < k → chs n k = 0 := by
  intro n
  induction n with
  | zero => intro k h; cases k with
    | zero => omega
    | succ k => rfl
  | succ n ih => intro k h; cases k with
    | zero => omega
    | succ k =>
      show chs n k + chs n (k + 1) = 0
      rw [ih k (by omega), ih (k + 1) (by omega)]
theorem chs_self : ∀ n, chs n n = 1 := by
  intro n
  induction n with
  | zero => rfl
  | succ n ih =>
    show chs n n + chs n (n + 1) = 1
    rw [ih, chs_out n (n + 1) (by omega)]
theorem chs_absorb : ∀ n k, (k + 1) * chs (n + 1) (k + 1) = (n + 1) * chs n k := by
  intro n
  induction n with
  | zero => intro k; cases k with
    | zero => rfl
    | succ k =>
      show (k + 2) * (chs 0 (k + 1) + chs 0 (k + 2)) = _
      rw [chs_out 0 (k + 1) (by omega), chs_out 0 (k + 2) (by omega)]
      rfl
  | succ n ih => intro k; cases k with
    | zero =>
      have h := ih 0
      rw [chs_0] at h ⊢
      show (0 + 1) * (chs (n + 1) 0 + chs (n + 1) (0 + 1)) = _
      rw [chs_0]
      omega
    | succ j =>
      have h1 := ih j
      have h2 := ih (j + 1)
      show (j + 1 + 1) * (chs (n + 1) (j + 1) + chs (n + 1) (j + 1 + 1)) = (n + 1 + 1) * chs (n + 1) (j + 1)
      have h3 : chs (n + 1) (j + 1) = chs n j + chs n (j + 1) := rfl
      rw [Nat.mul_add, h2, Nat.add_mul (j + 1) 1, h1, Nat.add_mul (n + 1) 1]
      have h4 : (n + 1) * chs (n + 1) (j + 1) = (n + 1) * chs n j + (n + 1) * chs n (j + 1) := by rw [h3, Nat.mul_add]
      omega
theorem fb_sm_shift (f : Nat → Nat) (n : Nat) : fb_sm f (n + 1) = f 0 + fb_sm (fun k => f (k + 1)) n := by
  have h := fb_sm_split f 1 n
  rw [Nat.add_comm 1 n] at h
  rw [h]
  have e : fb_sm f 1 = f 0 := by
    show 0 + f 0 = f 0
    omega
  rw [e]
  congr 1
  exact fb_sm_cong (fun k _ => by rw [Nat.add_comm 1 k])
theorem fb_sm_mulc (c : Nat) (f : Nat → Nat) : ∀ n, fb_sm (fun k => c * f k) n = c * fb_sm f n := by
  intro n
  induction n with
  | zero => rfl
  | succ n ih => rw [fb_sm_succ, fb_sm_succ, ih, Nat.mul_add]
theorem binom (a n : Nat) : (a + 1) ^ n = fb_sm (fun k => chs n k * a ^ k) (n + 1) := by
  induction n with
  | zero => rfl
  | succ n ih =>
    rw [fb_sm_shift (fun k => chs (n + 1) k * a ^ k) (n + 1)]
    have e1 : fb_sm (fun k => chs (n + 1) (k + 1) * a ^ (k + 1)) (n + 1) = a * fb_sm (fun k => chs n k * a ^ k) (n + 1) + fb_sm (fun k => chs n (k + 1) * a ^ (k + 1)) (n + 1) := by
      rw [← fb_sm_mulc, ← fb_sm_add]
      refine fb_sm_cong (fun k _ => ?_)
      show (chs n k + chs n (k + 1)) * a ^ (k + 1) = _
      rw [Nat.add_mul]
      congr 1
      rw [Nat.pow_succ, Nat.mul_comm (a ^ k) a, Nat.mul_left_comm]
    have e2 : fb_sm (fun k => chs n k * a ^ k) (n + 1 + 1) = chs n 0 * a ^ 0 + fb_sm (fun k => chs n (k + 1) * a ^ (k + 1)) (n + 1) := fb_sm_shift (fun k => chs n k * a ^ k) (n + 1)
    rw [fb_sm_succ, chs_out n (n + 1) (by omega), Nat.zero_mul, Nat.add_zero, chs_0] at e2
    show (a + 1) ^ (n + 1) = chs (n + 1) 0 * a ^ 0 + fb_sm (fun k => chs (n + 1) (k + 1) * a ^ (k + 1)) (n + 1)
    rw [e1, chs_0, Nat.pow_succ, ih, Nat.mul_add, Nat.mul_one, Nat.mul_comm _ a]
    omega
theorem pr_chs {p k : Nat} (hp : Pr p) (h0 : 0 < k) (hk : k < p) : p ∣ chs p k := by
  obtain ⟨n, rfl⟩ : ∃ n, p = n + 1 := ⟨p - 1, by omega⟩
  obtain ⟨j, rfl⟩ : ∃ j, k = j + 1 := ⟨k - 1, by omega⟩
  have h := chs_absorb n j
  have h2 : (n + 1) ∣ (j + 1) * chs (n + 1) (j + 1) := by rw [h]; exact Nat.dvd_mul_right _ _
  rcases pr_mul hp h2 with q | q
  · have := Nat.le_of_dvd (by omega) q
    omega
  · exact q
theorem fb_sm_dvd {p : Nat} {f : Nat → Nat} : ∀ n, (∀ k, k < n → p ∣ f k) → p ∣ fb_sm f n := by
  intro n
  induction n with
  | zero => intro _; exact ⟨0, rfl⟩
  | succ n ih =>
    intro h
    rw [fb_sm_succ]
    exact Nat.dvd_add (ih (fun k hk => h k (by omega))) (h n (by omega))
theorem flt {p : Nat} (hp : Pr p) (a : Nat) : a ^ p % p = a % p := by
  have h2 := hp.1
  induction a with
  | zero => rw [Nat.zero_pow (by omega)]
  | succ a ih =>
    obtain ⟨n, rfl⟩ : ∃ n, p = n + 1 := ⟨p - 1, by omega⟩
    rw [binom, fb_sm_succ, chs_self, Nat.one_mul, fb_sm_shift, chs_0]
    have h : (n + 1) ∣ fb_sm (fun k => chs (n + 1) (k + 1) * a ^ (k + 1)) n := fb_sm_dvd n (fun k hk => Nat.dvd_trans (pr_chs hp (by omega) (by omega)) (Nat.dvd_mul_right _ _))
    obtain ⟨z, hz⟩ := h
    rw [hz]
    have e : 1 * a ^ 0 + (n + 1) * z + a ^ (n + 1) = (1 + a ^ (n + 1)) + (n + 1) * z := by
      rw [Nat.pow_zero]; omega
    rw [e, Nat.add_mul_mod_self_left, Nat.add_mod, ih, ← Nat.add_mod, Nat.add_comm 1 a]
theorem mod_dvd {p x y : Nat} (h : x % p = y % p) : p ∣ x - y := by
  refine ⟨x / p - y / p, ?_⟩
  have h1 := Nat.div_add_mod x p
  have h2 := Nat.div_add_mod y p
  rw [Nat.mul_sub]
  omega
theorem flt1 {p a : Nat} (hp : Pr p) (h : ¬ p ∣ a) : a ^ (p - 1) % p = 1 := by
  have h2 := hp.1
  obtain ⟨n, rfl⟩ : ∃ n, p = n + 1 := ⟨p - 1, by omega⟩
  have h1 := flt hp a
  have h0 : a ≠ 0 := fun e => h (e ▸ Nat.dvd_zero _)
  have h3 : 1 ≤ a ^ n := Nat.pow_pos (by omega)
  have h4 : (n + 1) ∣ a * (a ^ n - 1) := by
    rw [Nat.mul_sub, Nat.mul_one, Nat.mul_comm a (a ^ n), ← Nat.pow_succ]
    exact mod_dvd h1
  rcases pr_mul hp h4 with q | q
  · exact absurd q h
  · show a ^ n % (n + 1) = 1
    obtain ⟨z, hz⟩ := q
    have e : a ^ n = 1 + (n + 1) * z := by omega
    rw [e, Nat.add_mul_mod_self_left]
    exact Nat.mod_eq_of_lt (by omega)
