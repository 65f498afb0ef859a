/-! small words -/
def b2i (p : Prop) [Decidable p] : Int := if p then 1 else 0
theorem b2i_t {p : Prop} [Decidable p] (h : p) : b2i p = 1 := if_pos h
theorem b2i_f {p : Prop} [Decidable p] (h : ¬ p) : b2i p = 0 := if_neg h
theorem b2i_ne {p : Prop} [Decidable p] : b2i p ≠ 0 ↔ p := by unfold b2i; split <;> simp_all
theorem b2i_eq {p : Prop} [Decidable p] : b2i p = 0 ↔ ¬ p := by unfold b2i; split <;> simp_all
theorem b2i_01 {p : Prop} [Decidable p] : b2i p = 0 ∨ b2i p = 1 := by unfold b2i; split <;> simp
theorem b2i_cg {p q : Prop} [Decidable p] [Decidable q] (h : p ↔ q) : b2i p = b2i q := by
  by_cases hp : p
  · rw [b2i_t hp, b2i_t (h.mp hp)]
  · rw [b2i_f hp, b2i_f (fun hq => hp (h.mpr hq))]
theorem w32_eq {x : Int} (h1 : -2147483648 ≤ x) (h2 : x < 2147483648) : w32 x = x := w32_id ⟨h1, h2⟩
theorem w64_eq {x : Int} (h1 : -9223372036854775808 ≤ x) (h2 : x < 9223372036854775808) : w64 x = x := w64_id ⟨h1, h2⟩
theorem w32_succ {i : Nat} (h : i < 2147483647) : w32 ((i : Int) + 1) = ((i + 1 : Nat) : Int) := by rw [w32_eq] <;> omega
theorem w32_0 {x : Int} (h1 : -2147483648 ≤ x) (h2 : x < 2147483648) : w32 (x + 0) = x := by rw [Int.add_zero]; exact w32_eq h1 h2
theorem upd_at (U : am_U) (r j : Nat) (x : Int) : am_upd U r j x r j = x := if_pos ⟨rfl, rfl⟩
theorem upd_row {U : am_U} {r r' j : Nat} {x : Int} (h : r' ≠ r) : am_upd U r j x r' = U r' := funext fun _ => if_neg (fun e => h e.1)
theorem upd_ne {U : am_U} {r j j' : Nat} {x : Int} (h : j' ≠ j) : am_upd U r j x r j' = U r j' := if_neg (fun e => h e.2)
theorem upd_if (U : am_U) (r j j' : Nat) (x : Int) : am_upd U r j x r j' = if j' = j then x else U r j' := by
  unfold am_upd
  by_cases h : j' = j
  · rw [if_pos ⟨rfl, h⟩, if_pos h]
  · rw [if_neg (fun e => h e.2), if_neg h]
/-- a row filled with one number up to n -/
def fil (U : am_U) (r n : Nat) (v : Int) : am_U := fun r' j => if r' = r ∧ j < n then v else U r' j
theorem fil_0 (U : am_U) (r : Nat) (v : Int) : fil U r 0 v = U := by
  funext r' j; exact if_neg (by omega)
theorem fil_succ (U : am_U) (r n : Nat) (v : Int) : am_upd (fil U r n v) r n v = fil U r (n + 1) v := by
  funext r' j
  unfold am_upd fil
  by_cases h : r' = r ∧ j = n
  · rw [if_pos h, if_pos (by omega)]
  · rw [if_neg h]
    by_cases h2 : r' = r ∧ j < n
    · rw [if_pos h2, if_pos (by omega)]
    · rw [if_neg h2, if_neg (by omega)]
theorem fil_row {U : am_U} {r r' n : Nat} {v : Int} (h : r' ≠ r) : fil U r n v r' = U r' := funext fun _ => if_neg (fun e => h e.1)
theorem fil_in {U : am_U} {r n j : Nat} {v : Int} (h : j < n) : fil U r n v r j = v := if_pos ⟨rfl, h⟩
theorem fil_out {U : am_U} {r n j : Nat} {v : Int} (h : n ≤ j) : fil U r n v r j = U r j := if_neg (by omega)
/-- the place of the k-th one below n -/
def kth (p : Nat → Bool) (k : Int) : Nat → Int
  | 0 => -1
  | n + 1 => if kth p k n = -1 ∧ p n = true ∧ (fb_ct p n : Int) = k then n else kth p k n
theorem kth_m1 {p : Nat → Bool} {k : Int} : ∀ {n : Nat}, (fb_ct p n : Int) ≤ k → kth p k n = -1
  | 0, _ => rfl
  | n + 1, h => by
    have h2 := fb_ct_succ p n
    have h1 : (fb_ct p n : Int) ≤ k := by split at h2 <;> omega
    unfold kth
    rw [if_neg, kth_m1 h1]
    rintro ⟨-, h3, h4⟩
    rw [if_pos h3] at h2
    omega
theorem kth_neg {p : Nat → Bool} {k : Int} (hk : k < 0) : ∀ n : Nat, kth p k n = -1
  | 0 => rfl
  | n + 1 => by
    unfold kth
    rw [if_neg (by omega), kth_neg hk n]
theorem kth_in {p : Nat → Bool} {k : Int} {i : Nat} (hp : p i = true) (hk : (fb_ct p i : Int) = k) : ∀ {n : Nat}, i < n → kth p k n = i
  | 0, h => absurd h (Nat.not_lt_zero _)
  | n + 1, h => by
    unfold kth
    by_cases e : i = n
    · subst e
      rw [if_pos ⟨kth_m1 (by omega), hp, hk⟩]
    · rw [kth_in hp hk (n := n) (by omega), if_neg (by omega)]
theorem kth_cong {p q : Nat → Bool} {k : Int} : ∀ {n : Nat}, (∀ i, i < n → p i = q i) → kth p k n = kth q k n
  | 0, _ => rfl
  | n + 1, h => by
    have h1 : ∀ i, i < n → p i = q i := fun i hi => h i (by omega)
    unfold kth
    rw [kth_cong h1, fb_ct_cong h1, h n (by omega)]
/-- nothing behind m -/
theorem kth_cut {p : Nat → Bool} {k : Int} {m : Nat} : ∀ {n : Nat}, m ≤ n → (∀ i, m ≤ i → i < n → p i = false) → kth p k n = kth p k m
  | 0, h, _ => by have : m = 0 := by omega
                  subst this; rfl
  | n + 1, h, h2 => by
    by_cases e : m = n + 1
    · rw [e]
    · have := h2 n (by omega) (by omega)
      rw [kth, if_neg (by rw [this]; simp), kth_cut (by omega) (fun i a b => h2 i a (by omega))]
theorem ct_cut {p : Nat → Bool} {m : Nat} : ∀ {n : Nat}, m ≤ n → (∀ i, m ≤ i → i < n → p i = false) → fb_ct p n = fb_ct p m
  | 0, h, _ => by have : m = 0 := by omega
                  subst this; rfl
  | n + 1, h, h2 => by
    by_cases e : m = n + 1
    · rw [e]
    · rw [fb_ct_succ, h2 n (by omega) (by omega), ct_cut (by omega) (fun i a b => h2 i a (by omega))]
      simp
