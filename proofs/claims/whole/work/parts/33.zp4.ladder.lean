/-! the class's test of a prime: one witness -/
noncomputable def cLd (n a k : Nat) : Nat → Bool := Nat.rec (motive := fun _ => Nat → Bool) (fun x => Nat.beq x 1) (fun b ih x => tFor (x * x % n) (fun sq => bif (bif Nat.beq sq 1 then (bif Nat.beq x 1 then true else Nat.beq x (n - 1)) else true) then tFor (bif Nat.beq ((n - 1) / 2 ^ b % 2) 1 then sq * a % n else sq) ih else false)) k
theorem cLd_s (n a b x : Nat) : cLd n a (b + 1) x = if (x * x % n = 1 → x = 1 ∨ x = n - 1) then cLd n a b (if (n - 1) / 2 ^ b % 2 = 1 then x * x % n * a % n else x * x % n) else false := by
  show tFor (x * x % n) (fun sq => bif (bif Nat.beq sq 1 then (bif Nat.beq x 1 then true else Nat.beq x (n - 1)) else true) then tFor (bif Nat.beq ((n - 1) / 2 ^ b % 2) 1 then sq * a % n else sq) (cLd n a b) else false) = _
  rw [tFor_eq, tFor_eq]
  have hc : (bif Nat.beq ((n - 1) / 2 ^ b % 2) 1 then x * x % n * a % n else x * x % n) = if (n - 1) / 2 ^ b % 2 = 1 then x * x % n * a % n else x * x % n := by
    by_cases q : (n - 1) / 2 ^ b % 2 = 1
    · rw [if_pos q, beq_t q]; rfl
    · rw [if_neg q, beq_f q]; rfl
  rw [hc]
  by_cases h : x * x % n = 1
  · rw [beq_t h]
    by_cases h1 : x = 1
    · rw [beq_t h1, if_pos (fun _ => Or.inl h1)]; rfl
    · rw [beq_f h1]
      by_cases h2 : x = n - 1
      · rw [beq_t h2, if_pos (fun _ => Or.inr h2)]; rfl
      · have hneg : ¬ (x * x % n = 1 → x = 1 ∨ x = n - 1) := fun q => by
          rcases q h with w | w
          · exact h1 w
          · exact h2 w
        rw [beq_f h2, if_neg hneg]; rfl
  · rw [beq_f h, if_pos (fun q => absurd q h)]; rfl
theorem cLd_0 (n a x : Nat) : cLd n a 0 x = Nat.beq x 1 := rfl
theorem bitq {n b : Nat} (hn : 1 ≤ n ∧ n ≤ 1000000000) (hb : b < 32) : am_and (am_shr (w32 ((n : Int) - 1)) (b : Nat)) 1 = (((n - 1) / 2 ^ b % 2 : Nat) : Int) := by
  have e : w32 ((n : Int) - 1) = ((n - 1 : Nat) : Int) := by rw [w32_eq (by omega) (by omega)]; omega
  rw [e, bit_shr hb, tb_u32 _ hb]
  have e2 : u32 ((n - 1 : Nat) : Int) = n - 1 := by unfold u32; omega
  rw [e2, Nat.testBit_eq_decide_div_mod_eq]
  have := Nat.mod_lt ((n - 1) / 2 ^ b) (by decide : 0 < 2)
  by_cases q : (n - 1) / 2 ^ b % 2 = 1
  · rw [q]; rfl
  · have q0 : (n - 1) / 2 ^ b % 2 = 0 := by omega
    rw [q0]; rfl
section LDR
variable {N : Nat} {X : Nat → Int} {d : Nat} {U : am_U} {n a i : Nat} {R : Option am_V × am_M}
theorem ct_ld79 (hn : 2 ≤ n ∧ n ≤ 1000000000) (hi : i < 3) (ha : am_wi i = (a : Nat)) (ha2 : a ≤ 61) : ∀ k x fl, k ≤ 31 → x < n → EvK N X (Nm_isPrime_s54 d (n : Nat) (bI (fl && cLd n a k x)) ((i + 1 : Nat) : Int) U) R → EvK N X (Nm_isPrime_s79 d (n : Nat) (bI fl) (i : Nat) (x : Nat) ((k : Nat) - 1 : Int) U) R := by
  intro k
  induction k with
  | zero =>
    intro x fl _ hx h
    refine Nm_isPrime_r79 ⟨fun _ => ?_, fun q => absurd q (by omega)⟩
    rw [w32_succ (by omega)]
    rw [cLd_0] at h
    cases fl with
    | false => exact ⟨fun _ => h, fun q => absurd (show bI false = 0 from rfl) q⟩
    | true =>
      refine ⟨fun q => absurd q (by decide), fun _ => ⟨fun q => ?_, fun q => ?_⟩⟩
      · rw [beq_f (by omega : x ≠ 1)] at h; exact h
      · rw [beq_t (by omega : x = 1)] at h; exact h
  | succ b ih =>
    intro x fl hk hx h
    have eb : ((b + 1 : Nat) : Int) - 1 = (b : Nat) := by omega
    rw [eb]
    have hxx : x * x ≤ 1000000000 * 1000000000 := Nat.mul_le_mul (by omega) (by omega)
    have es : Int.tmod (w64 ((x : Int) * x)) (n : Nat) = ((x * x % n : Nat) : Int) := by
      rw [← Int.natCast_mul, w64_eq (by omega) (by omega), tmod_nat]
    have hm : x * x % n < n := Nat.mod_lt _ (by omega)
    have hsa : x * x % n * a ≤ 1000000000 * 61 := Nat.mul_le_mul (by omega) ha2
    have ea : Int.tmod (w64 (((x * x % n : Nat) : Int) * (a : Nat))) (n : Nat) = ((x * x % n * a % n : Nat) : Int) := by
      rw [← Int.natCast_mul, w64_eq (by omega) (by omega), tmod_nat]
    have hma : x * x % n * a % n < n := Nat.mod_lt _ (by omega)
    have ew : w32 (((b : Nat) : Int) + (-1)) = (b : Nat) - 1 := by rw [w32_eq (by omega) (by omega)]; omega
    have en : w32 ((n : Int) - 1) = ((n - 1 : Nat) : Int) := by rw [w32_eq (by omega) (by omega)]; omega
    have hbit := bitq (n := n) (b := b) ⟨by omega, hn.2⟩ (by omega)
    rw [cLd_s] at h
    -- the two ways on
    have go : ∀ fl' : Bool, (fl' = (fl && decide (x * x % n = 1 → x = 1 ∨ x = n - 1))) → ((am_and (am_shr (w32 ((n : Int) - 1)) (b : Nat)) 1) ≠ 1 → EvK N X (Nm_isPrime_s79 d (n : Nat) (bI fl') (i : Nat) (Int.tmod (w64 ((x : Int) * x)) (n : Nat)) (w32 (((b : Nat) : Int) + (-1))) U) R) ∧ ((am_and (am_shr (w32 ((n : Int) - 1)) (b : Nat)) 1) = 1 → (0 ≤ ((i : Nat) : Int) ∧ ((i : Nat) : Int) < 3) ∧ ((n : Nat) : Int) ≠ 0 ∧ EvK N X (Nm_isPrime_s79 d (n : Nat) (bI fl') (i : Nat) (Int.tmod (w64 ((Int.tmod (w64 ((x : Int) * x)) (n : Nat)) * (am_wi ((i : Nat) : Int).toNat))) (n : Nat)) (w32 (((b : Nat) : Int) + (-1))) U) R) := by
      intro fl' hfl
      have h' : ∀ y, y = (if (n - 1) / 2 ^ b % 2 = 1 then x * x % n * a % n else x * x % n) → EvK N X (Nm_isPrime_s54 d (n : Nat) (bI (fl' && cLd n a b y)) ((i + 1 : Nat) : Int) U) R := by
        intro y hy
        rw [hy, hfl]
        by_cases q : (x * x % n = 1 → x = 1 ∨ x = n - 1)
        · rw [if_pos q] at h
          rw [decide_eq_true q, Bool.and_true]; exact h
        · rw [if_neg q, Bool.and_false] at h
          rw [decide_eq_false q, Bool.and_false, Bool.false_and]; exact h
      rw [hbit, es, ew, Int.toNat_natCast, ha, ea]
      refine ⟨fun q => ?_, fun q => ⟨by omega, by omega, ?_⟩⟩
      · exact ih _ fl' (by omega) hm (h' _ (by rw [if_neg (by omega)]))
      · exact ih _ fl' (by omega) hma (h' _ (by rw [if_pos (by omega)]))
    refine Nm_isPrime_r79 ⟨fun q => absurd q (by omega), fun _ => ⟨by omega, ?_, ?_⟩⟩
    · intro q
      cases fl with
      | true => exact absurd q (by decide)
      | false => exact go false rfl
    · intro q
      cases fl with
      | false => exact absurd rfl q
      | true =>
        rw [es, en]
        rw [es, en] at go
        refine ⟨fun w => ?_, fun w => ⟨fun w1 => ?_, fun w1 => ⟨fun w2 => ?_, fun w2 => ?_⟩⟩⟩
        · exact go true (by rw [decide_eq_true (fun z => absurd z (by omega))]; rfl)
        · exact go true (by rw [decide_eq_true (fun _ => Or.inl (by omega))]; rfl)
        · exact go false (by rw [decide_eq_false (fun z => by rcases z (by omega) with y | y <;> omega)]; rfl)
        · exact go true (by rw [decide_eq_true (fun _ => Or.inr (by omega))]; rfl)
end LDR
