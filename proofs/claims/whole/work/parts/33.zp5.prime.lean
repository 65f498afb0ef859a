/-! the class's test of a prime: all of it -/
noncomputable def tlT (n : Nat) : Bool := bif Nat.blt n 1681 then true else (cLd n 2 31 1 && cLd n 7 31 1 && cLd n 61 31 1)
noncomputable def spT (n : Nat) : List Nat → Bool
  | [] => tlT n
  | p :: l => bif Nat.beq (n % p) 0 then Nat.beq n p else spT n l
section PRC
variable {N : Nat} {X : Nat → Int} {d : Nat} {U : am_U} {n i : Nat}
theorem ct_s54 (hn : 2 ≤ n ∧ n ≤ 1000000000) : EvK N X (Nm_isPrime_s54 d (n : Nat) 1 0 U) (rI (bI (tlT n)) U) := by
  have z : ∀ (i : Nat) (b : Bool), i ≤ 3 → b = false → EvK N X (Nm_isPrime_s54 d (n : Nat) (bI b) (i : Nat) U) (rI 0 U) := by
    intro i b hi hb
    subst hb
    exact Nm_isPrime_r54 ⟨fun _ => ⟨Or.inl rfl, rfl⟩, fun _ => ⟨fun _ => ⟨Or.inl rfl, rfl⟩, fun q => absurd rfl q⟩⟩
  unfold tlT
  by_cases h : n < 1681
  · have e : Nat.blt n 1681 = true := by simpa [Nat.blt_eq] using h
    rw [e]
    exact Nm_isPrime_r54 ⟨fun q => absurd q (by decide), fun _ => ⟨fun q => absurd q (by decide), fun _ => ⟨fun _ => ⟨Or.inr rfl, rfl⟩, fun q => absurd q (by omega)⟩⟩⟩
  · have e : Nat.blt n 1681 = false := by
      cases q : Nat.blt n 1681 with
      | false => rfl
      | true => exact absurd (by simpa [Nat.blt_eq] using q) h
    rw [e]
    show EvK N X _ (rI (bI (cLd n 2 31 1 && cLd n 7 31 1 && cLd n 61 31 1)) U)
    refine Nm_isPrime_r54 ⟨fun q => absurd q (by decide), fun _ => ⟨fun q => absurd q (by decide), fun _ => ⟨fun q => absurd q (by omega), fun _ => ?_⟩⟩⟩
    refine ct_ld79 (i := 0) (a := 2) hn (by decide) rfl (by decide) 31 1 true (by decide) (by omega) ?_
    rw [Bool.true_and]
    cases c2 : cLd n 2 31 1 with
    | false => exact z 1 false (by decide) rfl
    | true =>
      refine Nm_isPrime_r54 ⟨fun q => absurd q (by decide), fun _ => ⟨fun q => absurd q (by decide), fun _ => ⟨fun q => absurd q (by omega), fun _ => ?_⟩⟩⟩
      refine ct_ld79 (i := 1) (a := 7) hn (by decide) rfl (by decide) 31 1 true (by decide) (by omega) ?_
      rw [Bool.true_and]
      cases c7 : cLd n 7 31 1 with
      | false => exact z 2 false (by decide) rfl
      | true =>
        refine Nm_isPrime_r54 ⟨fun q => absurd q (by decide), fun _ => ⟨fun q => absurd q (by decide), fun _ => ⟨fun q => absurd q (by omega), fun _ => ?_⟩⟩⟩
        refine ct_ld79 (i := 2) (a := 61) hn (by decide) rfl (by decide) 31 1 true (by decide) (by omega) ?_
        rw [Bool.true_and]
        cases c61 : cLd n 61 31 1 with
        | false => exact z 3 false (by decide) rfl
        | true => exact Nm_isPrime_r54 ⟨fun _ => ⟨Or.inr rfl, rfl⟩, fun q => absurd q (by decide)⟩
theorem ct_s9 {p : Nat} {l : List Nat} (hi : i < 12) (hp : am_pr i = (p : Nat)) (hp0 : 0 < p) (h : EvK N X (Nm_isPrime_s9 d (n : Nat) ((i + 1 : Nat) : Int) U) (rI (bI (spT n l)) U)) : EvK N X (Nm_isPrime_s9 d (n : Nat) (i : Nat) U) (rI (bI (spT n (p :: l))) U) := by
  have e : Int.tmod ((n : Nat) : Int) ((p : Nat) : Int) = ((n % p : Nat) : Int) := tmod_nat n p
  show EvK N X _ (rI (bI (bif Nat.beq (n % p) 0 then Nat.beq n p else spT n l)) U)
  refine Nm_isPrime_r9 ⟨fun q => absurd q (by omega), fun _ => ⟨by omega, fun q => ?_, fun _ => ⟨?_, fun q => ?_, fun q => ⟨fun w => ?_, fun w => ?_⟩⟩⟩⟩
  · rw [Int.toNat_natCast, hp] at q; omega
  · rw [Int.toNat_natCast, hp]; omega
  · rw [Int.toNat_natCast, hp, e] at q
    rw [beq_f (by omega), w32_succ (by omega)]; exact h
  · rw [Int.toNat_natCast, hp] at q w
    rw [e] at q
    rw [beq_t (by omega : n % p = 0), beq_f (by omega : n ≠ p)]; rfl
  · rw [Int.toNat_natCast, hp] at q w
    rw [e] at q
    rw [beq_t (by omega : n % p = 0), beq_t (by omega : n = p)]; rfl
theorem ct_Nm_isPr (hn : n ≤ 1000000000) : EvK N X (Nm_isPrime_s0 d (n : Nat) U) (rI (bI (Nat.ble 2 n && spT n [2, 3, 5, 7, 11, 13, 17, 19, 23, 29, 31, 37])) U) := by
  by_cases h2 : 2 ≤ n
  · have e0 : Nat.ble 2 n = true := Nat.ble_eq.mpr h2
    rw [e0, Bool.true_and]
    refine Nm_isPrime_r0 ⟨fun _ => ?_, fun q => absurd q (by omega)⟩
    refine ct_s9 (i := 0) (by decide) rfl (by decide) ?_
    refine ct_s9 (i := 1) (by decide) rfl (by decide) ?_
    refine ct_s9 (i := 2) (by decide) rfl (by decide) ?_
    refine ct_s9 (i := 3) (by decide) rfl (by decide) ?_
    refine ct_s9 (i := 4) (by decide) rfl (by decide) ?_
    refine ct_s9 (i := 5) (by decide) rfl (by decide) ?_
    refine ct_s9 (i := 6) (by decide) rfl (by decide) ?_
    refine ct_s9 (i := 7) (by decide) rfl (by decide) ?_
    refine ct_s9 (i := 8) (by decide) rfl (by decide) ?_
    refine ct_s9 (i := 9) (by decide) rfl (by decide) ?_
    refine ct_s9 (i := 10) (by decide) rfl (by decide) ?_
    refine ct_s9 (i := 11) (by decide) rfl (by decide) ?_
    exact Nm_isPrime_r9 ⟨fun _ => ct_s54 ⟨h2, hn⟩, fun q => absurd q (by decide)⟩
  · have e0 : Nat.ble 2 n = false := by
      cases q : Nat.ble 2 n with
      | false => rfl
      | true => exact absurd (Nat.ble_eq.mp q) h2
    rw [e0]
    exact Nm_isPrime_r0 ⟨fun q => absurd q (by omega), fun _ => rfl⟩
end PRC
/-! a prime passes; what passes leaves 1 -/
theorem half_bit (e b : Nat) : e / 2 ^ b = 2 * (e / 2 ^ (b + 1)) + e / 2 ^ b % 2 := by
  rw [Nat.pow_succ, ← Nat.div_div_eq_div_mul]
  omega
theorem ld_next {n a b x : Nat} (hx : x = a ^ ((n - 1) / 2 ^ (b + 1)) % n) : (if (n - 1) / 2 ^ b % 2 = 1 then x * x % n * a % n else x * x % n) = a ^ ((n - 1) / 2 ^ b) % n := by
  have h := half_bit (n - 1) b
  have e2 : x * x % n = a ^ (2 * ((n - 1) / 2 ^ (b + 1))) % n := by
    rw [hx, ← Nat.mul_mod, ← Nat.pow_add]
    congr 2
    omega
  split
  · rename_i q
    rw [q] at h
    rw [h, Nat.pow_succ, e2, Nat.mul_mod, Nat.mod_mod, ← Nat.mul_mod]
  · rename_i q
    have q0 : (n - 1) / 2 ^ b % 2 = 0 := by omega
    rw [q0, Nat.add_zero] at h
    rw [h, e2]
theorem cLd_one {n a : Nat} : ∀ k x, x = a ^ ((n - 1) / 2 ^ k) % n → cLd n a k x = true → a ^ (n - 1) % n = 1 := by
  intro k
  induction k with
  | zero =>
    intro x hx h
    rw [cLd_0] at h
    rw [Nat.pow_zero, Nat.div_one] at hx
    rw [← hx]; exact Nat.eq_of_beq_eq_true h
  | succ b ih =>
    intro x hx h
    rw [cLd_s] at h
    split at h
    · exact ih _ (ld_next hx) h
    · cases h
theorem cLd_pr {n a : Nat} (hp : Pr n) (ha : ¬ n ∣ a) : ∀ k x, x = a ^ ((n - 1) / 2 ^ k) % n → cLd n a k x = true := by
  have hn := hp.1
  intro k
  induction k with
  | zero =>
    intro x hx
    rw [Nat.pow_zero, Nat.div_one, flt1 hp ha] at hx
    rw [cLd_0]; exact beq_t hx
  | succ b ih =>
    intro x hx
    have hl : x < n := by rw [hx]; exact Nat.mod_lt _ (by omega)
    rw [cLd_s, if_pos (fun q => pr_root hp hl q)]
    exact ih _ (ld_next hx)
theorem ld_start {n a : Nat} (hn : 2 ≤ n ∧ n ≤ 1000000000) : 1 = a ^ ((n - 1) / 2 ^ 31) % n := by
  rw [Nat.div_eq_of_lt (by omega), Nat.pow_zero]
  exact (Nat.mod_eq_of_lt (by omega)).symm
theorem spT_pr {n : Nat} (hp : Pr n) (hn : n ≤ 1000000000) : ∀ l : List Nat, (∀ p, p ∈ l → 2 ≤ p) → spT n l = true := by
  intro l
  have h2 := hp.1
  induction l with
  | nil =>
    intro _
    show tlT n = true
    unfold tlT
    by_cases h : n < 1681
    · have e : Nat.blt n 1681 = true := by simpa [Nat.blt_eq] using h
      rw [e]; rfl
    · have nd : ∀ a, 0 < a → a < 1681 → ¬ n ∣ a := fun a h0 h1 q => by
        have := Nat.le_of_dvd h0 q; omega
      have p : ∀ a, 0 < a → a < 1681 → cLd n a 31 1 = true := fun a h0 h1 => cLd_pr hp (nd a h0 h1) 31 1 (ld_start ⟨h2, hn⟩)
      rw [p 2 (by decide) (by decide), p 7 (by decide) (by decide), p 61 (by decide) (by decide)]
      cases Nat.blt n 1681 <;> rfl
  | cons p l ih =>
    intro hl
    show (bif Nat.beq (n % p) 0 then Nat.beq n p else spT n l) = true
    by_cases q : n % p = 0
    · rw [beq_t q]
      have h3 := hl p List.mem_cons_self
      rcases hp.2 p (Nat.dvd_of_mod_eq_zero q) with w | w
      · omega
      · exact beq_t w.symm
    · rw [beq_f q]
      exact ih (fun r hr => hl r (List.mem_cons_of_mem _ hr))
