/-! couples: the most that can be -/
def isLow (S a : Nat) : Prop := S.testBit a = true ∧ ∀ i, i < a → S.testBit i = false
theorem low_one {S a b : Nat} (ha : isLow S a) (hb : isLow S b) : a = b := by
  rcases Nat.lt_trichotomy a b with q | q | q
  · have := hb.2 a q; rw [ha.1] at this; exact absurd this (by decide)
  · exact q
  · have := ha.2 b q; rw [hb.1] at this; exact absurd this (by decide)
theorem low_ex {S n : Nat} (h0 : 0 < S) (hS : S < 2 ^ n) : ∃ a, a < n ∧ isLow S a := by
  obtain ⟨i, i1, i2, i3⟩ := fb_first (p := fun i => S.testBit i = true) (some_bit h0 hS)
  exact ⟨i, i1, i2, fun j hj => Bool.eq_false_iff.mpr (i3 j hj)⟩
/-- the most of what is left, with the first one alone or with one of those below b -/
def mM (al : Nat → Nat → Bool) (E : Nat → Nat) (R a : Nat) : Nat → Nat
  | 0 => E R
  | b + 1 => if R.testBit b && al a b then (if mM al E R a b < 1 + E (clr R b) then 1 + E (clr R b) else mM al E R a b) else mM al E R a b
theorem mM_s (al : Nat → Nat → Bool) (E : Nat → Nat) (R a b : Nat) : mM al E R a (b + 1) = if R.testBit b && al a b then (if mM al E R a b < 1 + E (clr R b) then 1 + E (clr R b) else mM al E R a b) else mM al E R a b := rfl
def isM (al : Nat → Nat → Bool) (n : Nat) (E : Nat → Nat) (s : Nat) : Prop := E 0 = 0 ∧ ∀ S a, S < s → isLow S a → E S = mM al E (clr S a) a n
theorem mM_cg {al : Nat → Nat → Bool} {E E' : Nat → Nat} {R a : Nat} (h : ∀ t, t ≤ R → E' t = E t) : ∀ b, mM al E' R a b = mM al E R a b
  | 0 => h R (Nat.le_refl R)
  | b + 1 => by rw [mM_s, mM_s, mM_cg h b, h _ (clr_le R b)]
theorem mM_le {al : Nat → Nat → Bool} {E : Nat → Nat} {R a B : Nat} (h0 : E R ≤ B) : ∀ {n : Nat}, (∀ b, b < n → R.testBit b = true → al a b = true → 1 + E (clr R b) ≤ B) → mM al E R a n ≤ B
  | 0, _ => h0
  | n + 1, h => by
    have ih := mM_le h0 (n := n) (fun b hb => h b (by omega))
    rw [mM_s]
    by_cases c : (R.testBit n && al a n) = true
    · have c' := c
      rw [Bool.and_eq_true] at c'
      have := h n (by omega) c'.1 c'.2
      rw [if_pos c]; split <;> omega
    · rw [if_neg c]; exact ih
theorem le_mM0 {al : Nat → Nat → Bool} {E : Nat → Nat} {R a : Nat} : ∀ n, E R ≤ mM al E R a n
  | 0 => Nat.le_refl _
  | n + 1 => by
    have ih := le_mM0 (al := al) (E := E) (R := R) (a := a) n
    rw [mM_s]
    split
    · split <;> omega
    · exact ih
theorem le_mM {al : Nat → Nat → Bool} {E : Nat → Nat} {R a : Nat} : ∀ {n b : Nat}, b < n → R.testBit b = true → al a b = true → 1 + E (clr R b) ≤ mM al E R a n
  | 0, b, hb, _, _ => absurd hb (Nat.not_lt_zero b)
  | n + 1, b, hb, h1, h2 => by
    rw [mM_s]
    by_cases e : b = n
    · subst e
      rw [h1, h2, if_pos (by decide)]; split <;> omega
    · have := le_mM (E := E) (show b < n by omega) h1 h2
      split
      · split <;> omega
      · exact this
/-- nothing of R stands below a -/
theorem mM_skip {al : Nat → Nat → Bool} {E : Nat → Nat} {R a : Nat} : ∀ {m : Nat}, (∀ i, i < m → R.testBit i = false) → mM al E R a m = E R
  | 0, _ => rfl
  | m + 1, h => by
    rw [mM_s, h m (by omega), Bool.false_and, if_neg (by decide)]
    exact mM_skip (fun i hi => h i (by omega))
theorem isM_step {al : Nat → Nat → Bool} {n s a v : Nat} {E : Nat → Nat} (h : isM al n E s) (hs : 0 < s) (ha : isLow s a) (hv : v = mM al E (clr s a) a n) : isM al n (fun t => if t = s then v else E t) (s + 1) := by
  refine ⟨by show (if 0 = s then v else E 0) = 0; rw [if_neg (by omega)]; exact h.1, fun S a' h1 h2 => ?_⟩
  have cl := clr_lt h2.1
  have cg : mM al (fun t => if t = s then v else E t) (clr S a') a' n = mM al E (clr S a') a' n := mM_cg (fun t ht => if_neg (by omega)) n
  rw [cg]
  by_cases c : S = s
  · subst c
    show (if S = S then v else E S) = _
    rw [if_pos rfl, hv, low_one ha h2]
  · show (if S = s then v else E S) = _
    rw [if_neg c]
    exact h.2 S a' (by omega) h2
/-- twice as many people are wed -/
theorem isM_le {al : Nat → Nat → Bool} {n s : Nat} {E : Nat → Nat} (h : isM al n E s) : ∀ b S, S < b → S < s → S < 2 ^ n → 2 * E S ≤ fb_ct S.testBit n
  | 0, S, hb, _, _ => absurd hb (Nat.not_lt_zero S)
  | b + 1, S, hb, hs, hn => by
    by_cases c : S = 0
    · rw [c, h.1]; exact Nat.zero_le _
    · obtain ⟨a, a1, a2⟩ := low_ex (show 0 < S by omega) hn
      have cl := clr_lt a2.1
      have ct := ct_clr a2.1 a1
      have q0 := isM_le h b (clr S a) (by omega) (by omega) (by omega)
      have up : mM al E (clr S a) a n ≤ fb_ct S.testBit n / 2 := mM_le (by omega) (fun g g1 g2 _ => by
        have cl2 := clr_lt g2
        have ct2 := ct_clr g2 g1
        have q1 := isM_le h b (clr (clr S a) g) (by omega) (by omega) (by omega)
        omega)
      rw [h.2 S a hs a2]
      omega
/-! the last ones, told from 0 on -/
theorem sh_tb (h s i : Nat) : (2 ^ h * s).testBit i = (decide (h ≤ i) && s.testBit (i - h)) := by
  have := Nat.testBit_two_pow_mul_add (i := h) (b := 0) s (Nat.pow_pos (by decide)) i
  rw [Nat.add_zero] at this
  rw [this, Nat.zero_testBit]
  by_cases c : i < h
  · rw [if_pos c, decide_eq_false (by omega), Bool.false_and]
  · rw [if_neg c, decide_eq_true (by omega), Bool.true_and]
theorem sh_clr (h s i : Nat) : clr (2 ^ h * s) (h + i) = 2 ^ h * clr s i := tb_eq (fun k => by
  rw [clr_tb, sh_tb, sh_tb, clr_tb]
  by_cases c : h ≤ k
  · rw [decide_eq_true c, Bool.true_and, Bool.true_and]
    congr 1
    exact decide_eq_decide.mpr (by omega)
  · rw [decide_eq_false c, Bool.false_and, Bool.false_and, Bool.false_and])
theorem sh_low {h s a : Nat} (ha : isLow s a) : isLow (2 ^ h * s) (h + a) := by
  refine ⟨by rw [sh_tb, decide_eq_true (Nat.le_add_right h a), Nat.add_sub_cancel_left, ha.1]; rfl, fun i hi => ?_⟩
  rw [sh_tb]
  by_cases c : h ≤ i
  · rw [ha.2 (i - h) (by omega), Bool.and_false]
  · rw [decide_eq_false c, Bool.false_and]
theorem M_shift {al : Nat → Nat → Bool} {n m h : Nat} {E T : Nat → Nat} (hn : n = h + m) (hE : isM al n E (2 ^ n)) (hT : isM (fun i j => al (h + i) (h + j)) m T (2 ^ m)) : ∀ b s, s < b → s < 2 ^ m → E (2 ^ h * s) = T s
  | 0, s, hb, _ => absurd hb (Nat.not_lt_zero s)
  | b + 1, s, hb, hs => by
    by_cases c : s = 0
    · rw [c, Nat.mul_zero, hE.1, hT.1]
    · obtain ⟨a, a1, a2⟩ := low_ex (show 0 < s by omega) hs
      have cl := clr_lt a2.1
      have hp : 0 < 2 ^ h := Nat.pow_pos (by decide)
      have hlt : 2 ^ h * s < 2 ^ n := by rw [hn, Nat.pow_add]; exact Nat.mul_lt_mul_of_pos_left hs hp
      rw [hE.2 _ _ hlt (sh_low a2), hT.2 s a hs a2, sh_clr, hn]
      have base : mM al E (2 ^ h * clr s a) (h + a) h = E (2 ^ h * clr s a) := mM_skip (fun i hi => by rw [sh_tb, decide_eq_false (by omega), Bool.false_and])
      have go : ∀ k, k ≤ m → mM al E (2 ^ h * clr s a) (h + a) (h + k) = mM (fun i j => al (h + i) (h + j)) T (clr s a) a k := fun k => by
        induction k with
        | zero => intro _; rw [Nat.add_zero, base]; exact M_shift hn hE hT b (clr s a) (by omega) (by omega)
        | succ k ih =>
          intro hk
          have e := ih (by omega)
          have q := M_shift hn hE hT b (clr (clr s a) k) (by have := clr_le (clr s a) k; omega) (by have := clr_le (clr s a) k; omega)
          show mM al E (2 ^ h * clr s a) (h + a) (h + k + 1) = _
          rw [mM_s, mM_s, sh_tb, decide_eq_true (Nat.le_add_right h k), Nat.add_sub_cancel_left, Bool.true_and, e, sh_clr, q]
      exact go m (Nat.le_refl m)
