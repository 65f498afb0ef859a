/-! the reference counts couples of all sets -/
theorem and_bit0 {x : Int} {b : Nat} (hb : b < 32) : am_and x (am_shl 1 (b : Nat)) = 0 ↔ tb x b = false := by
  rw [r0_bits (and_in _ _)]
  refine ⟨fun h => ?_, fun h i hi => ?_⟩
  · have := h b hb
    rw [tb_and, tb_bit hb hb, decide_eq_true rfl, Bool.and_true] at this
    exact this
  · rw [tb_and, tb_bit hb hi]
    by_cases c : i = b
    · rw [c, h, Bool.false_and]
    · rw [decide_eq_false c, Bool.and_false]
theorem pow16 {n : Nat} (hn : n ≤ 16) : 2 ^ n ≤ 65536 := Nat.le_trans (Nat.pow_le_pow_right (by decide) hn) (by decide)
theorem ct_lowest {N : Nat} {X : Nat → Int} {d : Nat} {U : am_U} {S a : Nat} (hS : S < 65536) (ha : isLow S a) : EvK N X (M_lowest_s0 d (S : Nat) U) (rI ((a : Nat) : Int) U) := by
  have a16 : a < 16 := by
    rcases Nat.lt_or_ge a 16 with q | q
    · exact q
    · have := tb_out (n := 16) (show S < 2 ^ 16 from hS) q
      rw [ha.1] at this; exact absurd this (by decide)
  refine M_lowest_r0 ?_
  have loop : ∀ m i : Nat, i + m = a → EvK N X (M_lowest_s2 d (S : Nat) (i : Nat) U) (rI ((a : Nat) : Int) U) := by
    intro m
    induction m with
    | zero =>
      intro i hi
      obtain rfl : i = a := by omega
      refine M_lowest_r2 ?_
      rw [bit_nat (by omega) (by omega), ha.1]
      exact ⟨fun _ => rfl, fun z => absurd z (by decide)⟩
    | succ m ih =>
      intro i hi
      refine M_lowest_r2 ?_
      rw [bit_nat (by omega) (by omega), ha.2 i (by omega)]
      refine ⟨fun z => absurd rfl z, fun _ => ?_⟩
      rw [w32_succ (by omega)]
      exact ih (i + 1) (by omega)
  exact loop a 0 (by omega)
noncomputable def alW (U : am_U) (n x y : Nat) : Bool := pd (x < n ∧ y < n ∧ x ≠ y ∧ wdP U n x y)
theorem isM_8 {al : Nat → Nat → Bool} {n s : Nat} {E : Nat → Nat} (h : isM al n E s) (hn : n ≤ 16) {S : Nat} (h1 : S < s) (h2 : S < 2 ^ n) : E S ≤ 8 := by
  have a := isM_le h (S + 1) S (by omega) h1 h2
  have b := fb_ct_le S.testBit n
  omega
theorem isM_ex (al : Nat → Nat → Bool) (n : Nat) : ∃ E, isM al n E (2 ^ n) := by
  have go : ∀ k, k + 1 ≤ 2 ^ n → ∃ E, isM al n E (k + 1) := by
    intro k
    induction k with
    | zero =>
      intro _
      refine ⟨fun _ => 0, rfl, fun S a h1 h2 => ?_⟩
      obtain rfl : S = 0 := by omega
      have := h2.1
      rw [Nat.zero_testBit] at this; exact absurd this (by decide)
    | succ k ih =>
      intro hk
      obtain ⟨E, hE⟩ := ih (by omega)
      obtain ⟨a, a1, a2⟩ := low_ex (show 0 < k + 1 by omega) (show k + 1 < 2 ^ n by omega)
      exact ⟨_, isM_step hE (by omega) a2 rfl⟩
  have pp : 0 < 2 ^ n := Nat.pow_pos (by decide)
  obtain ⟨E, hE⟩ := go (2 ^ n - 1) (by omega)
  exact ⟨E, by rw [show 2 ^ n - 1 + 1 = 2 ^ n by omega] at hE; exact hE⟩
theorem low_skip {al : Nat → Nat → Bool} {E : Nat → Nat} {S a : Nat} (ha : isLow S a) : mM al E (clr S a) a (a + 1) = E (clr S a) := mM_skip (fun i hi => by
  rw [clr_tb]
  by_cases c : i = a
  · rw [decide_eq_false (by omega), Bool.and_false]
  · rw [ha.2 i (by omega), Bool.false_and])
theorem M_tab_in {N : Nat} {X : Nat → Int} {d n S a : Nat} {U U0 : am_U} {E : Nat → Nat} (hn : n ≤ 16) (hS : S < 2 ^ n) (ha : isLow S a) (han : a < n) (hE : isM (alW U0 n) n E (2 ^ n)) (h131 : ∀ t, t < S → U 131 t = (E t : Nat)) (h130 : mwR U U0 n n) : ∀ m b : Nat, b + m = n → ∀ {R}, EvK N X (M_couples_s92 (d + 1) (n : Nat) ((S + 1 : Nat) : Int) (am_upd U 131 S ((mM (alW U0 n) E (clr S a) a n : Nat) : Int))) R → EvK N X (M_couples_s127 (d + 1) (n : Nat) (S : Nat) (a : Nat) (clr S a : Nat) ((mM (alW U0 n) E (clr S a) a b : Nat) : Int) (b : Nat) U) R := by
  have p16 := pow16 hn
  have cl := clr_lt ha.1
  intro m
  induction m with
  | zero =>
    intro b hb R hR
    obtain rfl : b = n := by omega
    refine M_couples_r127 ⟨fun _ => ⟨by omega, ?_⟩, fun z => absurd z (by omega)⟩
    rw [w32_succ (i := S) (by omega), Int.toNat_natCast]
    exact hR
  | succ m ih =>
    intro b hb R hR
    have nx := ih (b + 1) (by omega) hR
    rw [mM_s] at nx
    have ebit : tb (am_and ((clr S a : Nat) : Int) (U 130 a)) b = ((clr S a).testBit b && alW U0 n a b) := by
      rw [tb_and, tb_nat (by omega) (by omega), (h130 a han).1 b (by omega)]
      congr 1
      exact pd_cg ⟨fun z => ⟨han, z⟩, fun z => z.2⟩
    refine M_couples_r127 ⟨fun z => absurd z (by omega), fun _ => ⟨by omega, ?_⟩⟩
    rw [w32_succ (i := b) (by omega), Int.toNat_natCast, and_clr (by omega) (by omega)]
    have e0 := and_bit0 (x := am_and ((clr S a : Nat) : Int) (U 130 a)) (show b < 32 by omega)
    rw [ebit] at e0
    have cl2 := clr_le (clr S a) b
    by_cases c : ((clr S a).testBit b && alW U0 n a b) = true
    · rw [if_pos c] at nx
      have e8 := isM_8 hE hn (S := clr (clr S a) b) (by omega) (by omega)
      have ev : U 131 (((clr (clr S a) b : Nat) : Int)).toNat = (E (clr (clr S a) b) : Nat) := by rw [Int.toNat_natCast]; exact h131 _ (by omega)
      refine ⟨fun _ => ⟨by omega, ?_⟩, fun z => absurd (e0.mp z) (by rw [c]; decide)⟩
      rw [ev, w32_eq (by omega) (by omega)]
      by_cases q : mM (alW U0 n) E (clr S a) a b < 1 + E (clr (clr S a) b)
      · rw [if_pos q] at nx
        refine ⟨fun z => absurd z (by omega), fun _ => ?_⟩
        rw [show (1 : Int) + ((E (clr (clr S a) b) : Nat) : Int) = ((1 + E (clr (clr S a) b) : Nat) : Int) by omega]
        exact nx
      · rw [if_neg q] at nx
        exact ⟨fun _ => nx, fun z => absurd z (by omega)⟩
    · rw [if_neg c] at nx
      exact ⟨fun z => absurd (e0.mpr (Bool.eq_false_iff.mpr c)) z, fun _ => nx⟩
/-- the table stands: what is left is to choose -/
theorem M_tab {N : Nat} {X : Nat → Int} {d n : Nat} {U0 U : am_U} {E : Nat → Nat} (hn : n ≤ 16) (hE : isM (alW U0 n) n E (2 ^ n)) (h0 : U 131 0 = 0) (h130 : mwR U U0 n n) : ∃ U' : am_U, (∀ t, t < 2 ^ n → U' 131 t = (E t : Nat)) ∧ (∀ r, r ≠ 131 → U' r = U r) ∧ ∀ R, EvK N X (M_couples_s213 (d + 1) (n : Nat) ((2 ^ n - 1 : Nat) : Int) U') R → EvK N X (M_couples_s92 (d + 1) (n : Nat) 1 U) R := by
  have p16 := pow16 hn
  have pp : 0 < 2 ^ n := Nat.pow_pos (by decide)
  have loop : ∀ m s : Nat, s + m = 2 ^ n → 0 < s → ∀ V : am_U, (∀ r, r ≠ 131 → V r = U r) → (∀ t, t < s → V 131 t = (E t : Nat)) → ∃ U' : am_U, (∀ t, t < 2 ^ n → U' 131 t = (E t : Nat)) ∧ (∀ r, r ≠ 131 → U' r = U r) ∧ ∀ R, EvK N X (M_couples_s213 (d + 1) (n : Nat) ((2 ^ n - 1 : Nat) : Int) U') R → EvK N X (M_couples_s92 (d + 1) (n : Nat) (s : Nat) V) R := by
    intro m
    induction m with
    | zero =>
      intro s hs _ V v1 v4
      obtain rfl : s = 2 ^ n := by omega
      refine ⟨V, v4, v1, fun R hR => M_couples_r92 ?_⟩
      rw [shl1 (n := n) (by omega), w32_eq (by omega) (by omega)]
      refine ⟨fun _ => ?_, fun z => absurd z (by omega)⟩
      rw [show ((2 ^ n : Nat) : Int) - 1 = ((2 ^ n - 1 : Nat) : Int) by omega]
      exact hR
    | succ m ih =>
      intro s hs hs0 V v1 v4
      obtain ⟨a, a1, a2⟩ := low_ex hs0 (show s < 2 ^ n by omega)
      have cl := clr_lt a2.1
      have h130V : mwR V U0 n n := fun x hx => by rw [v1 130 (by decide), v1 132 (by decide)]; exact h130 x hx
      obtain ⟨U', k2, k3, k5⟩ := ih (s + 1) (by omega) (by omega) (am_upd V 131 s ((mM (alW U0 n) E (clr s a) a n : Nat) : Int)) (fun r hr => by rw [upd_row hr]; exact v1 r hr) (fun t ht => by
        rw [upd_if]
        by_cases c : t = s
        · rw [if_pos c, c, hE.2 s a (by omega) a2]
        · rw [if_neg c]; exact v4 t (by omega))
      refine ⟨U', k2, k3, fun R hR => M_couples_r92 ?_⟩
      rw [shl1 (n := n) (by omega)]
      refine ⟨fun z => absurd z (by omega), fun _ => ⟨_, _, ct_lowest (show s < 65536 by omega) a2, ?_⟩⟩
      rw [and_clr (by omega) (show a < 32 by omega), w32_succ (i := a) (by omega), Int.toNat_natCast, v4 _ cl, ← low_skip (al := alW U0 n) (E := E) a2]
      exact ⟨by omega, M_tab_in hn (by omega) a2 a1 hE v4 h130V (n - (a + 1)) (a + 1) (by omega) (k5 R hR)⟩
  exact loop (2 ^ n - 1) 1 (by omega) (by decide) U (fun _ _ => rfl) (fun t ht => by
    obtain rfl : t = 0 := by omega
    rw [h0, hE.1]; rfl)
