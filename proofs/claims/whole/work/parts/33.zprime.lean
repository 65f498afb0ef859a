/-! primes -/
def Pr (n : Nat) : Prop := 2 ≤ n ∧ ∀ m, m ∣ n → m = 1 ∨ m = n
theorem ct_isPrime {N : Nat} {X : Nat → Int} {d : Nat} {U : am_U} (n : Int) (hn : n ≤ 1000000000) : EvK N X (Nm_isPrime_s0 d n U) (rI (cb (Pr n.toNat)) U) := by
  sorry
theorem ct_M_isPrime {N : Nat} {X : Nat → Int} {d : Nat} {U : am_U} (n : Int) (hn : n ≤ 1000000000) : EvK N X (M_isPrime_s0 (d + 2) n U) (rI (cb (Pr n.toNat)) U) := by
  sorry
