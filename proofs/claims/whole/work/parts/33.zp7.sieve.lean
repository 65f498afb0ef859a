/-! no other number passes: ways to try many numbers by the kernel -/
/-- the value first, for the kernel -/
noncomputable def tF {α : Type} (x : Nat) (f : Nat → α) : α := Nat.rec (motive := fun _ => α) (f 0) (fun y _ => f y) (Nat.add x 1)
theorem tF_eq {α : Type} (x : Nat) (f : Nat → α) : tF x f = f x := rfl
/-- if b then x else false -/
noncomputable def aB (b x : Bool) : Bool := Bool.rec (motive := fun _ => Bool) false x b
/-- if b then x else true -/
noncomputable def iB (b x : Bool) : Bool := Bool.rec (motive := fun _ => Bool) true x b
theorem aB_t {b x : Bool} (h : aB b x = true) : b = true ∧ x = true := by
  cases b with
  | false => cases h
  | true => exact ⟨rfl, h⟩
theorem iB_t {b x : Bool} (h : iB b x = true) (hb : b = true) : x = true := by
  rw [hb] at h; exact h
/-- does a leave 1 to the power n - 1 -/
noncomputable def fz (n a : Nat) : Bool := tF (Nat.sub n 1) (fun e => tF (Nat.div e 1024) (fun e1 => tF (Nat.mod (Nat.pow a (Nat.div e1 1024)) n) (fun x => tF (Nat.mod (Nat.mul (Nat.pow x 1024) (Nat.pow a (Nat.mod e1 1024))) n) (fun y => Nat.beq (Nat.mod (Nat.mul (Nat.pow y 1024) (Nat.pow a (Nat.mod e 1024))) n) 1))))
theorem fz_st (n a e : Nat) : ((a ^ (e / 1024) % n) ^ 1024 * a ^ (e % 1024)) % n = a ^ e % n := by
  have h : a ^ e = (a ^ (e / 1024)) ^ 1024 * a ^ (e % 1024) := by
    rw [← Nat.pow_mul, ← Nat.pow_add]
    congr 1
    omega
  rw [h, Nat.mul_mod, ← Nat.pow_mod, ← Nat.mul_mod]
theorem fz_eq (n a : Nat) : fz n a = Nat.beq (a ^ (n - 1) % n) 1 := by
  have h : fz n a = Nat.beq (((((a ^ ((n - 1) / 1024 / 1024) % n) ^ 1024 * a ^ ((n - 1) / 1024 % 1024)) % n) ^ 1024 * a ^ ((n - 1) % 1024)) % n) 1 := rfl
  rw [h, fz_st, fz_st]
theorem fz_t {n a : Nat} (h : a ^ (n - 1) % n = 1) : fz n a = true := by rw [fz_eq, h]; rfl
noncomputable def smf (n : Nat) : Bool := Nat.beq (n % 11) 0 || Nat.beq (n % 13) 0 || Nat.beq (n % 17) 0 || Nat.beq (n % 19) 0 || Nat.beq (n % 23) 0 || Nat.beq (n % 29) 0 || Nat.beq (n % 31) 0 || Nat.beq (n % 37) 0
noncomputable def hv (n : Nat) : Bool := Bool.rec (motive := fun _ => Bool) (iB (pvC n) (smf n)) false (pvR n)
noncomputable def chk (n : Nat) : Bool := iB (fz n 2) (iB (fz n 7) (hv n))
/-- what prKey asks of n -/
def okN (n : Nat) : Prop := pvR n = false ∧ ((∀ p, p ∈ [11, 13, 17, 19, 23, 29, 31, 37] → n % p ≠ 0) → pvC n = false)
theorem chk_ok {n : Nat} (h : chk n = true) (h2 : 2 ^ (n - 1) % n = 1) (h7 : 7 ^ (n - 1) % n = 1) : okN n := by
  have h1 := iB_t (iB_t h (fz_t h2)) (fz_t h7)
  unfold hv at h1
  unfold okN
  cases e : pvR n with
  | true => rw [e] at h1; cases h1
  | false =>
    rw [e] at h1
    refine ⟨rfl, fun hp => ?_⟩
    cases e2 : pvC n with
    | false => rfl
    | true =>
      exfalso
      have h3 : smf n = true := iB_t h1 e2
      have z : ∀ p, p ∈ [11, 13, 17, 19, 23, 29, 31, 37] → Nat.beq (n % p) 0 = false := fun p hq => beq_f (hp p hq)
      unfold smf at h3
      rw [z 11 (by decide), z 13 (by decide), z 17 (by decide), z 19 (by decide), z 23 (by decide), z 29 (by decide), z 31 (by decide), z 37 (by decide)] at h3
      cases h3
/-- all from a, 2 ^ k of them, up to K -/
noncomputable def allU (f : Nat → Bool) (K k : Nat) : Nat → Bool := Nat.rec (motive := fun _ => Nat → Bool) (fun a => iB (Nat.ble a K) (f a)) (fun k ih a => iB (Nat.ble a K) (aB (ih a) (tF (Nat.add a (Nat.pow 2 k)) ih))) k
theorem allU_t {f : Nat → Bool} {K : Nat} : ∀ k a, allU f K k a = true → ∀ x, a ≤ x → x < a + 2 ^ k → x ≤ K → f x = true := by
  intro k
  induction k with
  | zero =>
    intro a h x h1 h2 h3
    have e : x = a := by rw [Nat.pow_zero] at h2; omega
    subst e
    exact iB_t h (Nat.ble_eq.mpr h3)
  | succ k ih =>
    intro a h x h1 h2 h3
    have h' := aB_t (iB_t (b := Nat.ble a K) h (Nat.ble_eq.mpr (by omega)))
    rw [Nat.pow_succ] at h2
    rcases Nat.lt_or_ge x (a + 2 ^ k) with q | q
    · exact ih a h'.1 x h1 q h3
    · exact ih (a + 2 ^ k) h'.2 x q (by omega) h3
/-- a product of a range -/
noncomputable def prd (k : Nat) : Nat → Nat := Nat.rec (motive := fun _ => Nat → Nat) (fun a => a) (fun k ih a => Nat.mul (ih a) (tF (Nat.add a (Nat.pow 2 k)) ih)) k
theorem prd_s (k a : Nat) : prd (k + 1) a = prd k a * prd k (a + 2 ^ k) := rfl
theorem prd_in : ∀ k a x, a ≤ x → x < a + 2 ^ k → x ∣ prd k a := by
  intro k
  induction k with
  | zero =>
    intro a x h1 h2
    have e : x = a := by rw [Nat.pow_zero] at h2; omega
    subst e
    exact Nat.dvd_refl _
  | succ k ih =>
    intro a x h1 h2
    rw [prd_s]
    rw [Nat.pow_succ] at h2
    rcases Nat.lt_or_ge x (a + 2 ^ k) with q | q
    · exact Nat.dvd_trans (ih a x h1 q) (Nat.dvd_mul_right _ _)
    · exact Nat.dvd_trans (ih (a + 2 ^ k) x q (by omega)) (Nat.dvd_mul_left _ _)
theorem prd_pr {q : Nat} (hq : Pr q) : ∀ k a, 0 < a → a + 2 ^ k ≤ q + 1 → ¬ q ∣ prd k a ∨ q = a + 2 ^ k - 1 := by
  intro k
  induction k with
  | zero =>
    intro a h0 h1
    rw [Nat.pow_zero] at h1 ⊢
    by_cases e : q = a
    · right; omega
    · left
      intro h
      have := Nat.le_of_dvd h0 (show q ∣ a from h)
      omega
  | succ k ih =>
    intro a h0 h1
    have hp : 0 < 2 ^ k := Nat.pow_pos (by decide)
    rw [Nat.pow_succ] at h1 ⊢
    by_cases e : q = a + 2 ^ k * 2 - 1
    · exact Or.inr e
    · left
      intro h
      rw [prd_s] at h
      rcases pr_mul hq h with w | w
      · rcases ih a h0 (by omega) with z | z
        · exact z w
        · omega
      · rcases ih (a + 2 ^ k) (by omega) (by omega) with z | z
        · exact z w
        · omega
theorem pw_gcd {q a : Nat} (hq : 2 ≤ q) : ∀ x y, a ^ x % q = 1 → a ^ y % q = 1 → a ^ (Nat.gcd x y) % q = 1 := by
  intro x y
  induction x, y using Nat.gcd.induction with
  | H0 y => intro _ h; rw [Nat.gcd_zero_left]; exact h
  | H1 x y hx ih =>
    intro h1 h2
    rw [Nat.gcd_rec]
    refine ih ?_ h1
    have e : a ^ y = (a ^ x) ^ (y / x) * a ^ (y % x) := by
      rw [← Nat.pow_mul, ← Nat.pow_add, Nat.div_add_mod]
    rw [e, Nat.mul_mod, pow_mod1 hq h1, Nat.one_mul, Nat.mod_mod] at h2
    exact h2
