/-! houses whose nets are 0 settle by themselves -/
theorem tb_eq {S T : Nat} (h : ∀ k, S.testBit k = T.testBit k) : S = T := Nat.eq_of_testBit_eq h
theorem clr_comm (S h z : Nat) : clr (clr S h) z = clr (clr S z) h := tb_eq (fun k => by
  rw [clr_tb, clr_tb, clr_tb, clr_tb, Bool.and_assoc, Bool.and_assoc, Bool.and_comm (decide (k ≠ h))])
theorem mxE_at {E : Nat → Nat} {S : Nat} : ∀ {n : Nat}, (∃ h, h < n ∧ S.testBit h = true) → ∃ h, h < n ∧ S.testBit h = true ∧ mxE E S n = E (clr S h)
  | 0, ⟨h, hh, _⟩ => absurd hh (Nat.not_lt_zero h)
  | n + 1, hx => by
    rw [mxE_s]
    by_cases c : S.testBit n = true
    · rw [if_pos c]
      by_cases q : mxE E S n < E (clr S n)
      · exact ⟨n, by omega, c, by rw [if_pos q]⟩
      · rw [if_neg q]
        rcases Classical.em (∃ h, h < n ∧ S.testBit h = true) with z | z
        · obtain ⟨h, h1, h2, h3⟩ := mxE_at (E := E) z
          exact ⟨h, by omega, h2, h3⟩
        · have e0 : mxE E S n ≤ 0 := mxE_le (fun h h1 h2 => absurd ⟨h, h1, h2⟩ z)
          exact ⟨n, by omega, c, by omega⟩
    · rw [if_neg c]
      obtain ⟨h, h1, h2⟩ := hx
      have : h ≠ n := fun e => c (by rw [← e]; exact h2)
      obtain ⟨g, g1, g2, g3⟩ := mxE_at (E := E) (n := n) ⟨h, by omega, h2⟩
      exact ⟨g, by omega, g2, g3⟩
theorem E_zero {f : Nat → Int} {n : Nat} {E : Nat → Nat} (h : isE f n E (2 ^ n)) {z : Nat} (hz : z < n) (h0 : f z = 0) : ∀ b S, S < b → S < 2 ^ n → S.testBit z = true → E S = E (clr S z) + 1
  | 0, S, hb, _, _ => absurd hb (Nat.not_lt_zero S)
  | b + 1, S, hb, hS, hbit => by
    have hlt := clr_lt hbit
    have sm : smE f (clr S z) n = smE f S n := by
      have := smE_clr (f := f) hbit (n := n)
      rw [if_pos hz, h0] at this
      omega
    have eS := h.2 S (by omega) hS
    by_cases c : clr S z = 0
    · have m0 : mxE E S n ≤ 0 := mxE_le (fun g g1 g2 => by
        have : g = z := by
          rcases Classical.em (g = z) with q | q
          · exact q
          · have := clr_tb S z g
            rw [c, Nat.zero_testBit, g2, decide_eq_true q] at this
            exact absurd this (by decide)
        rw [this, c, h.1]; exact Nat.le_refl 0)
      have z0 : ∀ k, smE f 0 k = 0 := fun k => by
        induction k with
        | zero => rfl
        | succ k ih => rw [smE_s, Nat.zero_testBit, if_neg (by decide)]; exact ih
      rw [eS, c, h.1, ← sm, c, if_pos (z0 n)]
      omega
    · have eT := h.2 (clr S z) (by omega) (by omega)
      rw [sm] at eT
      have up : mxE E S n ≤ mxE E (clr S z) n + 1 := mxE_le (fun g g1 g2 => by
        by_cases q : g = z
        · rw [q, eT]; split <;> omega
        · have gb : (clr S g).testBit z = true := by rw [clr_tb, hbit, decide_eq_true (show z ≠ g from fun e => q e.symm)]; rfl
          have gl := clr_lt g2
          rw [E_zero h hz h0 b (clr S g) (by omega) (by omega) gb, clr_comm]
          have := le_mxE (E := E) (S := clr S z) g1 (by rw [clr_tb, g2, decide_eq_true q]; rfl)
          omega)
      obtain ⟨g, g1, g2, g3⟩ := mxE_at (E := E) (some_bit (show 0 < clr S z by omega) (show clr S z < 2 ^ n by omega))
      have g2' := g2
      rw [clr_tb, Bool.and_eq_true, decide_eq_true_iff] at g2'
      have gb : (clr S g).testBit z = true := by rw [clr_tb, hbit, decide_eq_true (show z ≠ g from fun e => g2'.2 e.symm)]; rfl
      have gl := clr_lt g2'.1
      have e1 := E_zero h hz h0 b (clr S g) (by omega) (by omega) gb
      rw [clr_comm] at e1
      have dn := le_mxE (E := E) g1 g2'.1
      rw [eS, eT]
      omega
/-! sets of those with nets, told by their ranks -/
def nz (f : Nat → Int) (h : Nat) : Bool := f h != 0
def rkE (f : Nat → Int) (h : Nat) : Nat := fb_ct (nz f) h
def cmE (f : Nat → Int) (S : Nat) : Nat → Nat
  | 0 => 0
  | h + 1 => if nz f h && S.testBit h then cmE f S h + 2 ^ rkE f h else cmE f S h
theorem cmE_s (f : Nat → Int) (S h : Nat) : cmE f S (h + 1) = if nz f h && S.testBit h then cmE f S h + 2 ^ rkE f h else cmE f S h := rfl
theorem rkE_s (f : Nat → Int) (h : Nat) : rkE f (h + 1) = rkE f h + (if nz f h then 1 else 0) := rfl
theorem cmE_lt (f : Nat → Int) (S : Nat) : ∀ k, cmE f S k < 2 ^ rkE f k
  | 0 => by show 0 < 2 ^ 0; decide
  | k + 1 => by
    have ih := cmE_lt f S k
    rw [cmE_s, rkE_s]
    by_cases c : nz f k = true
    · rw [c, if_pos rfl, Nat.pow_succ]
      split <;> omega
    · rw [Bool.eq_false_iff.mpr c, Bool.false_and, if_neg (by decide), if_neg (by decide), Nat.add_zero]; exact ih
theorem cmE_mono (f : Nat → Int) (S k : Nat) : ∀ j, ∃ c, cmE f S (k + j) = 2 ^ rkE f k * c + cmE f S k
  | 0 => ⟨0, by rw [Nat.mul_zero, Nat.zero_add]; rfl⟩
  | j + 1 => by
    obtain ⟨c, hc⟩ := cmE_mono f S k j
    show ∃ c, cmE f S (k + j + 1) = _
    rw [cmE_s]
    split
    · have hr : rkE f k ≤ rkE f (k + j) := fb_ct_mono _ (by omega)
      refine ⟨c + 2 ^ (rkE f (k + j) - rkE f k), ?_⟩
      rw [hc, Nat.mul_add, ← Nat.pow_add, show rkE f k + (rkE f (k + j) - rkE f k) = rkE f (k + j) from by omega]
      omega
    · exact ⟨c, hc⟩
theorem cmE_bit {f : Nat → Int} {S n k : Nat} (hk : k < n) (hz : nz f k = true) : (cmE f S n).testBit (rkE f k) = S.testBit k := by
  obtain ⟨c, hc⟩ := cmE_mono f S (k + 1) (n - (k + 1))
  rw [show k + 1 + (n - (k + 1)) = n from by omega] at hc
  have h1 := cmE_lt f S (k + 1)
  have h2 := cmE_lt f S k
  rw [hc, Nat.testBit_two_pow_mul_add _ h1, rkE_s, if_pos hz, if_pos (Nat.lt_succ_self _), cmE_s, hz, Bool.true_and]
  by_cases q : S.testBit k = true
  · rw [if_pos q, q, show cmE f S k + 2 ^ rkE f k = 2 ^ rkE f k * 1 + cmE f S k from by omega, Nat.testBit_two_pow_mul_add _ h2, if_neg (Nat.lt_irrefl _), Nat.sub_self]
    rfl
  · rw [if_neg q, Bool.eq_false_iff.mpr q]
    exact Nat.testBit_lt_two_pow h2
theorem cmE_clr {f : Nat → Int} {S h : Nat} (hb : S.testBit h = true) (hz : nz f h = true) : ∀ j, cmE f (clr S h) j + (if h < j then 2 ^ rkE f h else 0) = cmE f S j
  | 0 => by rw [if_neg (Nat.not_lt_zero h)]; rfl
  | j + 1 => by
    have ih := cmE_clr hb hz j
    rw [cmE_s, cmE_s, clr_tb]
    by_cases c : j = h
    · subst c
      rw [if_neg (Nat.lt_irrefl j), Nat.add_zero] at ih
      rw [hb, hz, decide_eq_false (by omega), if_pos (Nat.lt_succ_self j), Bool.and_false, Bool.and_false, if_neg (by decide), if_pos (by decide), ih]
    · rw [decide_eq_true c, Bool.and_true]
      have e : (if h < j + 1 then 2 ^ rkE f h else 0) = (if h < j then 2 ^ rkE f h else 0) := by
        by_cases q : h < j
        · rw [if_pos q, if_pos (by omega)]
        · rw [if_neg q, if_neg (by omega)]
      rw [e]
      split <;> omega
theorem cmE_of {f : Nat → Int} {S h n : Nat} (hh : h < n) (hb : S.testBit h = true) (hz : nz f h = true) : cmE f (clr S h) n = clr (cmE f S n) (rkE f h) := by
  have e1 := cmE_clr hb hz n
  rw [if_pos hh] at e1
  have e2 := clr_add (show (cmE f S n).testBit (rkE f h) = true by rw [cmE_bit hh hz]; exact hb)
  omega
theorem smE_rk {f g : Nat → Int} {S n : Nat} (hg : ∀ h, h < n → nz f h = true → g (rkE f h) = f h) (hS : ∀ h, S.testBit h = true → nz f h = true) : ∀ k, k ≤ n → smE g (cmE f S n) (rkE f k) = smE f S k
  | 0, _ => rfl
  | k + 1, hk => by
    have ih := smE_rk hg hS k (by omega)
    rw [rkE_s, smE_s f]
    by_cases c : nz f k = true
    · rw [if_pos c, smE_s, cmE_bit (by omega) c, ih, hg k (by omega) c]
    · rw [if_neg c, Nat.add_zero, ih, if_neg (fun z => c (hS k z))]
theorem mxE_rk {f : Nat → Int} {E F : Nat → Nat} {S n : Nat} (hS : ∀ h, S.testBit h = true → nz f h = true) (hE : ∀ h, h < n → S.testBit h = true → F (clr (cmE f S n) (rkE f h)) = E (clr S h)) : ∀ k, k ≤ n → mxE F (cmE f S n) (rkE f k) = mxE E S k
  | 0, _ => rfl
  | k + 1, hk => by
    have ih := mxE_rk hS hE k (by omega)
    rw [rkE_s, mxE_s E]
    by_cases c : nz f k = true
    · rw [if_pos c, mxE_s, cmE_bit (by omega) c, ih]
      by_cases q : S.testBit k = true
      · rw [if_pos q, if_pos q, hE k (by omega) q]
      · rw [if_neg q, if_neg q]
    · rw [if_neg c, Nat.add_zero, ih, if_neg (fun z => c (hS k z))]
theorem E_rank {f g : Nat → Int} {n : Nat} {E F : Nat → Nat} (h : isE f n E (2 ^ n)) (hF : isE g (rkE f n) F (2 ^ rkE f n)) (hg : ∀ h, h < n → nz f h = true → g (rkE f h) = f h) : ∀ b S, S < b → S < 2 ^ n → (∀ h, S.testBit h = true → nz f h = true) → E S = F (cmE f S n)
  | 0, S, hb, _, _ => absurd hb (Nat.not_lt_zero S)
  | b + 1, S, hb, hS, hN => by
    by_cases c : S = 0
    · have z : ∀ k, cmE f 0 k = 0 := fun k => by
        induction k with
        | zero => rfl
        | succ k ih => rw [cmE_s, Nat.zero_testBit, Bool.and_false, if_neg (by decide)]; exact ih
      rw [c, z, h.1, hF.1]
    · obtain ⟨k, k1, k2⟩ := some_bit (show 0 < S by omega) hS
      have kb := cmE_bit (S := S) k1 (hN k k2)
      rw [k2] at kb
      have pos : 0 < cmE f S n := by
        rcases Nat.eq_zero_or_pos (cmE f S n) with q | q
        · rw [q, Nat.zero_testBit] at kb; exact absurd kb (by decide)
        · exact q
      rw [h.2 S (by omega) hS, hF.2 _ pos (cmE_lt f S n), smE_rk hg hN n (Nat.le_refl n), mxE_rk (E := E) hN (fun g g1 g2 => ?_) n (Nat.le_refl n)]
      have gl := clr_lt g2
      rw [← cmE_of g1 g2 (hN g g2)]
      exact (E_rank h hF hg b (clr S g) (by omega) (by omega) (fun q hq => hN q (by rw [clr_tb, Bool.and_eq_true] at hq; exact hq.1))).symm
/-- all but the first k that have no nets -/
def wE (f : Nat → Int) (n : Nat) : Nat → Nat
  | 0 => 2 ^ n - 1
  | k + 1 => if nz f k then wE f n k else clr (wE f n k) k
theorem wE_s (f : Nat → Int) (n k : Nat) : wE f n (k + 1) = if nz f k then wE f n k else clr (wE f n k) k := rfl
theorem wE_tb {f : Nat → Int} {n : Nat} : ∀ k, k ≤ n → ∀ h, (wE f n k).testBit h = (decide (h < n) && (nz f h || decide (k ≤ h)))
  | 0, _, h => by
    show (2 ^ n - 1).testBit h = _
    rw [Nat.testBit_two_pow_sub_one, decide_eq_true (Nat.zero_le h), Bool.or_true, Bool.and_true]
  | k + 1, hk, h => by
    have ih := wE_tb (f := f) (n := n) k (by omega) h
    rw [wE_s]
    by_cases c : nz f k = true
    · rw [if_pos c, ih]
      by_cases q : h = k
      · rw [q, c]; simp
      · congr 2; exact decide_eq_decide.mpr (by omega)
    · rw [if_neg c, clr_tb, ih]
      by_cases q : h = k
      · rw [q, Bool.eq_false_iff.mpr c, decide_eq_false (show ¬ k ≠ k by omega), decide_eq_false (show ¬ k + 1 ≤ k by omega)]; simp
      · rw [decide_eq_true q, Bool.and_true]
        congr 2; exact decide_eq_decide.mpr (by omega)
theorem wE_lt {f : Nat → Int} {n : Nat} : ∀ k, wE f n k < 2 ^ n
  | 0 => by
    have : 0 < 2 ^ n := Nat.pow_pos (by decide)
    show 2 ^ n - 1 < 2 ^ n
    omega
  | k + 1 => by
    have ih := wE_lt (f := f) (n := n) k
    rw [wE_s]
    split
    · exact ih
    · exact Nat.lt_of_le_of_lt (clr_le _ _) ih
theorem wE_E {f : Nat → Int} {n : Nat} {E : Nat → Nat} (h : isE f n E (2 ^ n)) : ∀ k, k ≤ n → E (2 ^ n - 1) + rkE f k = E (wE f n k) + k
  | 0, _ => rfl
  | k + 1, hk => by
    have ih := wE_E h k (by omega)
    rw [wE_s, rkE_s]
    by_cases c : nz f k = true
    · rw [if_pos c, if_pos c]; omega
    · have fz : f k = 0 := by
        unfold nz at c
        simpa using c
      have := E_zero h (show k < n by omega) fz (wE f n k + 1) (wE f n k) (by omega) (wE_lt k) (by
        rw [wE_tb k (by omega), decide_eq_true (show k < n by omega), decide_eq_true (Nat.le_refl k), Bool.or_true]; rfl)
      rw [if_neg c, if_neg c]
      omega
theorem wE_cm {f : Nat → Int} {n : Nat} : ∀ k, k ≤ n → cmE f (wE f n n) k + 1 = 2 ^ rkE f k
  | 0, _ => rfl
  | k + 1, hk => by
    have ih := wE_cm (f := f) (n := n) k (by omega)
    rw [cmE_s, rkE_s, wE_tb n (Nat.le_refl n), decide_eq_true (show k < n by omega), decide_eq_false (show ¬ n ≤ k by omega)]
    by_cases c : nz f k = true
    · rw [c, if_pos rfl, Nat.pow_succ, if_pos (by decide)]; omega
    · rw [Bool.eq_false_iff.mpr c, if_neg (by decide), if_neg (by decide), Nat.add_zero]; exact ih
/-- what is left to be paid is the same -/
theorem E_same {f g : Nat → Int} {n : Nat} {E F : Nat → Nat} (h : isE f n E (2 ^ n)) (hF : isE g (rkE f n) F (2 ^ rkE f n)) (hg : ∀ h, h < n → nz f h = true → g (rkE f h) = f h) : E (2 ^ n - 1) + rkE f n = F (2 ^ rkE f n - 1) + n := by
  have h1 := wE_E h n (Nat.le_refl n)
  have h2 := E_rank h hF hg (wE f n n + 1) (wE f n n) (by omega) (wE_lt n) (fun q hq => by
    rw [wE_tb n (Nat.le_refl n)] at hq
    by_cases c : nz f q = true
    · exact c
    · rw [Bool.eq_false_iff.mpr c, Bool.false_or, Bool.and_eq_true, decide_eq_true_iff, decide_eq_true_iff] at hq
      omega)
  have h3 := wE_cm (f := f) (n := n) n (Nat.le_refl n)
  rw [h2, show cmE f (wE f n n) n = 2 ^ rkE f n - 1 from by omega] at h1
  exact h1
