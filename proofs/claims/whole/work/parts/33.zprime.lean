/-! primes -/
def Pr (n : Nat) : Prop := 2 ≤ n ∧ ∀ m, m ∣ n → m = 1 ∨ m = n
theorem ct_isPrime {N : Nat} {X : Nat → Int} {d : Nat} {U : am_U} (n : Int) (hn : n ≤ 1000000000) : EvK N X (Nm_isPrime_s0 d n U) (rI (cb (Pr n.toNat)) U) := by
  sorry
theorem ct_M_isPrime {N : Nat} {X : Nat → Int} {d : Nat} {U : am_U} (n : Int) (hn : n ≤ 1000000000) : EvK N X (M_isPrime_s0 (d + 2) n U) (rI (cb (Pr n.toNat)) U) := by
  sorry
/-- all below itself by which a number can be divided, together -/
def prt (n : Nat) : Nat := fb_sm (fun k => if n % k = 0 then k else 0) n
theorem ct_partsOf {N : Nat} {X : Nat → Int} {d : Nat} {U : am_U} (n : Nat) (hn : n ≤ 999999999) : EvK N X (Nm_partsOf_s0 (d + 1) (n : Nat) U) (rJ ((prt n : Nat) : Int) U) := by
  sorry
theorem ct_M_partsOf {N : Nat} {X : Nat → Int} {d : Nat} {U : am_U} (n : Nat) (hn : n ≤ 999999999) : EvK N X (M_partsOf_s0 d (n : Nat) U) (rJ ((prt n : Nat) : Int) U) := by
  sorry
