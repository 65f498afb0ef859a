/-! sets as bits -/
theorem shr_div {x : Int} (hx : in32 x) {n : Nat} (hn : n < 32) : am_shr x (n : Nat) = x / ((2 ^ n : Nat) : Int) := by
  unfold am_shr
  have e : (Int32.ofInt x >>> (Int32.ofInt ((n : Nat) : Int) &&& 31)).toBitVec = (Int32.ofInt x).toBitVec.sshiftRight n := by
    rw [Int32.toBitVec_shiftRight]
    show (Int32.ofInt x).toBitVec.sshiftRight ((Int32.ofInt (n : Nat) &&& 31).toBitVec.smod 32).toNat = _
    rw [sh_l n hn]
  have e2 : (Int32.ofInt x >>> (Int32.ofInt ((n : Nat) : Int) &&& 31)).toInt = ((Int32.ofInt x).toBitVec.sshiftRight n).toInt := by
    rw [← e]; rfl
  have e3 : (Int32.ofInt x).toBitVec.toInt = x := i32_to hx
  rw [e2, BitVec.toInt_sshiftRight, e3, Int.shiftRight_eq_div_pow]
theorem and15 {t : Int} {g : Nat} (hg : g < 16) : am_and (16 * t + (g : Nat)) 15 = ((g : Nat) : Int) := by
  have e : u32 (am_and (16 * t + (g : Nat)) 15) = g := by
    rw [u32_and, show u32 15 = 2 ^ 4 - 1 from rfl, Nat.and_two_pow_sub_one_eq_mod]
    unfold u32
    omega
  exact u32_inv (and_in _ _) e (by omega)
theorem shr4 {t : Int} {g : Nat} (hg : g < 16) (ht : -100000000 ≤ t ∧ t ≤ 100000000) : am_shr (16 * t + (g : Nat)) 4 = t := by
  have := shr_div (x := 16 * t + (g : Nat)) (by unfold in32; omega) (n := 4) (by decide)
  rw [show ((4 : Nat) : Int) = 4 from rfl] at this
  rw [this, show ((2 ^ 4 : Nat) : Int) = 16 from rfl]
  omega
theorem tb_nat {S i : Nat} (hS : S < 2147483648) (hi : i < 32) : tb (S : Nat) i = S.testBit i := by
  rw [tb_u32 _ hi]
  have : u32 ((S : Nat) : Int) = S := by unfold u32; omega
  rw [this]
def clr (S h : Nat) : Nat := if S.testBit h then S - 2 ^ h else S
theorem bit_split {S h : Nat} (hb : S.testBit h = true) : S = 2 ^ (h + 1) * (S / 2 ^ (h + 1)) + (2 ^ h * 1 + S % 2 ^ h) := by
  have e1 := Nat.mod_add_div S (2 ^ (h + 1))
  have e2 : S % 2 ^ (h + 1) = S % 2 ^ h + 2 ^ h * (S / 2 ^ h % 2) := Nat.mod_pow_succ
  rw [Nat.testBit_eq_decide_div_mod_eq, decide_eq_true_iff] at hb
  rw [hb] at e2
  omega
theorem clr_add {S h : Nat} (hb : S.testBit h = true) : clr S h + 2 ^ h = S := by
  have e := bit_split hb
  unfold clr
  rw [if_pos hb]
  generalize 2 ^ (h + 1) * (S / 2 ^ (h + 1)) = a at e
  omega
theorem clr_tb (S h k : Nat) : (clr S h).testBit k = (S.testBit k && decide (k ≠ h)) := by
  by_cases hb : S.testBit h = true
  · have e := bit_split hb
    have hp : 0 < 2 ^ h := Nat.pow_pos (by decide)
    have hm := Nat.mod_lt S hp
    have h2 : 2 ^ (h + 1) = 2 ^ h + 2 ^ h := by rw [Nat.pow_succ]; omega
    have e2 : clr S h = 2 ^ (h + 1) * (S / 2 ^ (h + 1)) + S % 2 ^ h := by
      have := clr_add hb
      generalize 2 ^ (h + 1) * (S / 2 ^ (h + 1)) = a at e
      omega
    rw [e2, Nat.testBit_two_pow_mul_add _ (by omega)]
    have e3 : S.testBit k = if k < h + 1 then (2 ^ h * 1 + S % 2 ^ h).testBit k else (S / 2 ^ (h + 1)).testBit (k - (h + 1)) := by
      have := Nat.testBit_two_pow_mul_add (i := h + 1) (b := 2 ^ h * 1 + S % 2 ^ h) (S / 2 ^ (h + 1)) (by omega) k
      rwa [← e] at this
    rw [e3]
    by_cases c : k < h + 1
    · rw [if_pos c, if_pos c, Nat.testBit_two_pow_mul_add 1 hm]
      by_cases c2 : k < h
      · rw [if_pos c2, decide_eq_true (by omega), Bool.and_true]
      · obtain rfl : k = h := by omega
        rw [if_neg c2, Nat.testBit_lt_two_pow hm, decide_eq_false (by omega), Bool.and_false]
    · rw [if_neg c, if_neg c, decide_eq_true (by omega), Bool.and_true]
  · unfold clr
    rw [if_neg hb]
    by_cases c : k = h
    · rw [c, Bool.eq_false_iff.mpr hb, Bool.false_and]
    · rw [decide_eq_true c, Bool.and_true]
theorem clr_lt {S h : Nat} (hb : S.testBit h = true) : clr S h < S := by
  have := clr_add hb
  have hp : 0 < 2 ^ h := Nat.pow_pos (by decide)
  omega
theorem clr_le (S h : Nat) : clr S h ≤ S := by
  unfold clr
  split
  · exact Nat.sub_le _ _
  · exact Nat.le_refl _
theorem and_clr {S h : Nat} (hS : S < 2147483648) (hh : h < 32) : am_and (S : Nat) (am_xor (am_shl 1 (h : Nat)) (-1)) = ((clr S h : Nat) : Int) := by
  have := clr_le S h
  refine tb_ext (and_in _ _) (by unfold in32; omega) (fun i hi => ?_)
  rw [tb_and, tb_not hi, tb_bit hh hi, tb_nat hS hi, tb_nat (by omega) hi, clr_tb]
  by_cases c : i = h
  · rw [decide_eq_true c, decide_eq_false (by omega)]; rfl
  · rw [decide_eq_false c, decide_eq_true c]; rfl
theorem bit_nat {S h : Nat} (hS : S < 2147483648) (hh : h < 32) : am_and (am_shr (S : Nat) (h : Nat)) 1 = if S.testBit h then 1 else 0 := by
  rw [bit_shr hh, tb_nat hS hh]
theorem tb_out {S n k : Nat} (hS : S < 2 ^ n) (hk : n ≤ k) : S.testBit k = false := Nat.testBit_lt_two_pow (Nat.lt_of_lt_of_le hS (Nat.pow_le_pow_right (by decide) hk))
theorem ct_clr {S h n : Nat} (hb : S.testBit h = true) (hh : h < n) : fb_ct (clr S h).testBit n + 1 = fb_ct S.testBit n := by
  have e := fb_ct_upd S.testBit false hh
  have c : fb_ct (clr S h).testBit n = fb_ct (fun k => if k = h then false else S.testBit k) n := fb_ct_cong (fun k _ => by
    rw [clr_tb]
    by_cases c : k = h
    · rw [if_pos c, decide_eq_false (by omega), Bool.and_false]
    · rw [if_neg c, decide_eq_true c, Bool.and_true])
  rw [c]
  rw [if_pos hb, if_neg (by decide)] at e
  exact e
theorem some_bit {S n : Nat} (h0 : 0 < S) (hS : S < 2 ^ n) : ∃ h, h < n ∧ S.testBit h = true := by
  rcases Classical.em (∃ h, h < n ∧ S.testBit h = true) with h | h
  · exact h
  · have : S = 0 := by
      apply Nat.eq_of_testBit_eq
      intro i
      rw [Nat.zero_testBit]
      by_cases c : i < n
      · exact Bool.eq_false_iff.mpr (fun z => h ⟨i, c, z⟩)
      · exact tb_out hS (by omega)
    omega
/-! the most groups whose sums are 0 -/
def mxE (E : Nat → Nat) (S : Nat) : Nat → Nat
  | 0 => 0
  | h + 1 => if S.testBit h then (if mxE E S h < E (clr S h) then E (clr S h) else mxE E S h) else mxE E S h
def smE (f : Nat → Int) (S : Nat) : Nat → Int
  | 0 => 0
  | h + 1 => if S.testBit h then smE f S h + f h else smE f S h
theorem mxE_s (E : Nat → Nat) (S h : Nat) : mxE E S (h + 1) = if S.testBit h then (if mxE E S h < E (clr S h) then E (clr S h) else mxE E S h) else mxE E S h := rfl
theorem smE_s (f : Nat → Int) (S h : Nat) : smE f S (h + 1) = if S.testBit h then smE f S h + f h else smE f S h := rfl
/-- what a table holds up to a set -/
def isE (f : Nat → Int) (n : Nat) (E : Nat → Nat) (s : Nat) : Prop := E 0 = 0 ∧ ∀ S, 0 < S → S < s → E S = mxE E S n + (if smE f S n = 0 then 1 else 0)
theorem mxE_cg {E E' : Nat → Nat} {S : Nat} (h : ∀ t, t < S → E' t = E t) : ∀ n, mxE E' S n = mxE E S n
  | 0 => rfl
  | n + 1 => by
    rw [mxE_s, mxE_s, mxE_cg h n]
    by_cases c : S.testBit n = true
    · rw [if_pos c, if_pos c, h _ (clr_lt c)]
    · rw [if_neg c, if_neg c]
theorem mxE_le {E : Nat → Nat} {S B : Nat} : ∀ {n : Nat}, (∀ h, h < n → S.testBit h = true → E (clr S h) ≤ B) → mxE E S n ≤ B
  | 0, _ => Nat.zero_le _
  | n + 1, h => by
    have ih := mxE_le (n := n) (fun k hk => h k (by omega))
    rw [mxE_s]
    by_cases c : S.testBit n = true
    · have := h n (by omega) c
      rw [if_pos c]; split <;> omega
    · rw [if_neg c]; exact ih
theorem le_mxE {E : Nat → Nat} {S : Nat} : ∀ {n h : Nat}, h < n → S.testBit h = true → E (clr S h) ≤ mxE E S n
  | 0, h, hh, _ => absurd hh (Nat.not_lt_zero h)
  | n + 1, h, hh, hb => by
    rw [mxE_s]
    by_cases e : h = n
    · subst e
      rw [if_pos hb]; split <;> omega
    · have := le_mxE (E := E) (show h < n by omega) hb
      split
      · split <;> omega
      · exact this
theorem isE_step {f : Nat → Int} {n s : Nat} {E : Nat → Nat} (h : isE f n E s) (hs : 0 < s) {v : Nat} (hv : v = mxE E s n + (if smE f s n = 0 then 1 else 0)) : isE f n (fun t => if t = s then v else E t) (s + 1) := by
  refine ⟨by show (if 0 = s then v else E 0) = 0; rw [if_neg (by omega)]; exact h.1, fun S h1 h2 => ?_⟩
  have cg : mxE (fun t => if t = s then v else E t) S n = mxE E S n := mxE_cg (fun t ht => if_neg (by omega)) n
  rw [cg]
  by_cases c : S = s
  · subst c
    show (if S = S then v else E S) = _
    rw [if_pos rfl, hv]
  · show (if S = s then v else E S) = _
    rw [if_neg c]
    exact h.2 S h1 (by omega)
theorem isE_le {f : Nat → Int} {n s : Nat} {E : Nat → Nat} (h : isE f n E s) : ∀ b S, S < b → S < s → S < 2 ^ n → E S ≤ fb_ct S.testBit n
  | 0, S, hb, _, _ => absurd hb (Nat.not_lt_zero S)
  | b + 1, S, hb, hs, hn => by
    by_cases c : S = 0
    · rw [c, h.1]; exact Nat.zero_le _
    · rw [h.2 S (by omega) hs]
      obtain ⟨k, k1, k2⟩ := some_bit (show 0 < S by omega) hn
      have h1 := ct_clr k2 k1
      have h2 : mxE E S n ≤ fb_ct S.testBit n - 1 := mxE_le (fun g g1 g2 => by
        have q1 := isE_le h b (clr S g) (by have := clr_lt g2; omega) (by have := clr_lt g2; omega) (by have := clr_lt g2; omega)
        have q2 := ct_clr g2 g1
        omega)
      split <;> omega
theorem isE_12 {f : Nat → Int} {n s : Nat} {E : Nat → Nat} (h : isE f n E s) (hn : n ≤ 12) {S : Nat} (hs : S < s) (h2 : S < 2 ^ n) : E S ≤ 12 := Nat.le_trans (isE_le h (S + 1) S (by omega) hs h2) (Nat.le_trans (fb_ct_le _ _) hn)
theorem smE_bd {f : Nat → Int} {S : Nat} : ∀ {n : Nat}, (∀ k, k < n → -160000 ≤ f k ∧ f k ≤ 160000) → -(160000 * (n : Nat)) ≤ smE f S n ∧ smE f S n ≤ 160000 * ((n : Nat) : Int)
  | 0, _ => ⟨Int.le_refl _, Int.le_refl _⟩
  | n + 1, h => by
    have ih := smE_bd (S := S) (n := n) (fun k hk => h k (by omega))
    have := h n (by omega)
    rw [smE_s]
    split <;> omega
theorem smE_clr {f : Nat → Int} {S b : Nat} (hb : S.testBit b = true) : ∀ {n : Nat}, smE f (clr S b) n + (if b < n then f b else 0) = smE f S n
  | 0 => by rw [if_neg (Nat.not_lt_zero b)]; rfl
  | n + 1 => by
    have ih := smE_clr (f := f) hb (n := n)
    rw [smE_s, smE_s, clr_tb]
    by_cases c : n = b
    · subst c
      rw [if_neg (Nat.lt_irrefl n)] at ih
      rw [hb, decide_eq_false (by omega), if_pos (Nat.lt_succ_self n), if_pos rfl, Bool.and_false, if_neg (by decide)]
      omega
    · rw [decide_eq_true c, Bool.and_true]
      have : (if b < n + 1 then f b else 0) = (if b < n then f b else 0) := by
        by_cases q : b < n
        · rw [if_pos q, if_pos (by omega)]
        · rw [if_neg q, if_neg (by omega)]
      rw [this]
      split <;> omega
