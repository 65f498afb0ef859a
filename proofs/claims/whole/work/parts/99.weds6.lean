/-! the table of those behind the head -/
theorem pred_tb {S a : Nat} (h : isLow S a) (k : Nat) : (S - 1).testBit k = if k < a then true else if k = a then false else S.testBit k := by
  have m0 : S % 2 ^ a = 0 := tb_eq (fun i => by
    rw [Nat.testBit_mod_two_pow, Nat.zero_testBit]
    by_cases c : i < a
    · rw [h.2 i c, Bool.and_false]
    · rw [decide_eq_false c, Bool.false_and])
  have e := bit_split h.1
  rw [m0, Nat.mul_one, Nat.add_zero (2 ^ a)] at e
  have pp : 0 < 2 ^ a := Nat.pow_pos (by decide)
  have p2 : 2 ^ (a + 1) = 2 ^ a + 2 ^ a := by rw [Nat.pow_succ]; omega
  have e1 : S - 1 = 2 ^ (a + 1) * (S / 2 ^ (a + 1)) + (2 ^ a - 1) := by
    generalize 2 ^ (a + 1) * (S / 2 ^ (a + 1)) = x at e
    omega
  have t1 := Nat.testBit_two_pow_mul_add (i := a + 1) (b := 2 ^ a - 1) (S / 2 ^ (a + 1)) (by omega) k
  rw [← e1] at t1
  have t2 := Nat.testBit_two_pow_mul_add (i := a + 1) (b := 2 ^ a) (S / 2 ^ (a + 1)) (by omega) k
  rw [← e] at t2
  rw [t1]
  by_cases c : k < a
  · rw [if_pos c, if_pos (by omega), Nat.testBit_two_pow_sub_one, decide_eq_true c]
  · rw [if_neg c]
    by_cases c2 : k = a
    · rw [if_pos c2, if_pos (by omega), Nat.testBit_two_pow_sub_one, decide_eq_false c]
    · rw [if_neg c2, if_neg (by omega), t2, if_neg (by omega)]
theorem nat_in {S : Nat} (h : S < 2147483648) : in32 (S : Nat) := by unfold in32; omega
theorem and_pred {S a : Nat} (hS : S < 2147483648) (h0 : 0 < S) (h : isLow S a) : am_and (S : Nat) (w32 (((S : Nat) : Int) - 1)) = ((clr S a : Nat) : Int) := by
  rw [w32_eq (by omega) (by omega), show ((S : Nat) : Int) - 1 = ((S - 1 : Nat) : Int) by omega]
  have cl := clr_le S a
  refine tb_ext (and_in _ _) (nat_in (by omega)) (fun i hi => ?_)
  rw [tb_and, tb_nat hS hi, tb_nat (by omega) hi, tb_nat (by omega) hi, pred_tb h, clr_tb]
  by_cases c : i < a
  · rw [h.2 i c, Bool.false_and, Bool.false_and]
  · rw [if_neg c]
    by_cases c2 : i = a
    · rw [if_pos c2, decide_eq_false (by omega)]
    · rw [if_neg c2, decide_eq_true c2, Bool.and_true, Bool.and_self]
theorem ntz_x {S a : Nat} (hS : S < 4096) (h0 : 0 < S) (h : isLow S a) (ha : a < 12) : am_and (am_xor (S : Nat) (-1)) (w32 (((S : Nat) : Int) - 1)) = ((2 ^ a - 1 : Nat) : Int) := by
  have pl : 2 ^ a ≤ 2048 := Nat.le_trans (Nat.pow_le_pow_right (by decide) (show a ≤ 11 by omega)) (by decide)
  rw [w32_eq (by omega) (by omega), show ((S : Nat) : Int) - 1 = ((S - 1 : Nat) : Int) by omega]
  refine tb_ext (and_in _ _) (nat_in (by omega)) (fun i hi => ?_)
  rw [tb_and, tb_not hi, tb_nat (by omega) hi, tb_nat (by omega) hi, tb_nat (by omega) hi, pred_tb h, Nat.testBit_two_pow_sub_one]
  by_cases c : i < a
  · rw [h.2 i c, if_pos c, decide_eq_true c]; rfl
  · rw [if_neg c, decide_eq_false c]
    by_cases c2 : i = a
    · rw [if_pos c2, Bool.and_false]
    · rw [if_neg c2, Bool.not_and_self]
set_option maxRecDepth 4000 in
theorem ct_ntz {N : Nat} {X : Nat → Int} {d : Nat} {U : am_U} {S a : Nat} (hS : S < 4096) (h0 : 0 < S) (h : isLow S a) (ha : a < 12) : EvK N X (In_numberOfTrailingZeros_s0 d (S : Nat) U) (rI ((a : Nat) : Int) U) := by
  refine In_numberOfTrailingZeros_r0 ?_
  rw [ntz_x hS h0 h ha]
  clear h
  have : a = 0 ∨ a = 1 ∨ a = 2 ∨ a = 3 ∨ a = 4 ∨ a = 5 ∨ a = 6 ∨ a = 7 ∨ a = 8 ∨ a = 9 ∨ a = 10 ∨ a = 11 := by omega
  rcases this with rfl | rfl | rfl | rfl | rfl | rfl | rfl | rfl | rfl | rfl | rfl | rfl
  all_goals
    repeat' (first
      | apply And.intro
      | (intro z; exact absurd z (by decide +kernel))
      | (intro _))
  all_goals exact congrArg (fun x => rI x U) (by decide +kernel)
/-- rows that the class's search leaves alone -/
def fT (U U' : am_U) : Prop := ∀ r, r ≠ 44 → U' r = U r
def alRows (U W : am_U) (n : Nat) : Prop := ∀ x, x < 16 → ∀ i, i < 32 → tb (U 53 x) i = alW W n x i
theorem D_tab_in {N : Nat} {X : Nat → Int} {d n h m S a : Nat} {U W : am_U} {T : Nat → Nat} {wi : Int} (hn : n ≤ 16) (hh : h ≤ 4) (hnm : n = h + m) (hm : m ≤ 12) (hS : S < 2 ^ m) (ha : isLow S a) (ham : a < m) (hT : isM (fun i j => alW W n (h + i) (h + j)) m T (2 ^ m)) (h44 : ∀ t, t < S → U 44 t = (T t : Nat)) (hwi : ∀ i, i < m → tb wi i = ((clr S a).testBit i && alW W n (h + a) (h + i))) : ∀ k b : Nat, b + k = m → ∀ {R}, EvK N X (Cp_fillTable_s22 (d + 1) (m : Nat) ((S + 1 : Nat) : Int) (am_upd U 44 S (T S : Nat))) R → EvK N X (Cp_fillTable_s85 (d + 1) (m : Nat) (S : Nat) (a : Nat) (clr S a : Nat) wi ((mM (fun i j => alW W n (h + i) (h + j)) T (clr S a) a b : Nat) : Int) (b : Nat) U) R := by
  have p12 : 2 ^ m ≤ 4096 := Nat.le_trans (Nat.pow_le_pow_right (by decide) hm) (by decide)
  have cl := clr_lt ha.1
  intro k
  induction k with
  | zero =>
    intro b hb R hR
    obtain rfl : b = m := by omega
    refine Cp_fillTable_r85 ⟨fun _ => ⟨by omega, ?_⟩, fun z => absurd z (by omega)⟩
    rw [w32_succ (i := S) (by omega), Int.toNat_natCast, ← hT.2 S a hS ha]
    exact hR
  | succ k ih =>
    intro b hb R hR
    have nx := ih (b + 1) (by omega) hR
    rw [mM_s] at nx
    have cl2 := clr_le (clr S a) b
    have e8 := isM_8 hT (show m ≤ 16 by omega) (S := clr (clr S a) b) (by omega) (by omega)
    refine Cp_fillTable_r85 ⟨fun z => absurd z (by omega), fun _ => ?_⟩
    rw [bit_shr (show b < 32 by omega), hwi b (by omega), w32_succ (i := b) (by omega), and_clr (by omega) (by omega), Int.toNat_natCast, h44 _ (by omega), w32_eq (by omega) (by omega)]
    cases c : ((clr S a).testBit b && alW W n (h + a) (h + b)) with
    | false =>
      rw [c, if_neg (by decide)] at nx
      exact ⟨fun _ => nx, fun z => absurd z (by decide)⟩
    | true =>
      rw [c, if_pos rfl] at nx
      refine ⟨fun z => absurd rfl z, fun _ => ⟨by omega, ?_⟩⟩
      by_cases q : mM (fun i j => alW W n (h + i) (h + j)) T (clr S a) a b < 1 + T (clr (clr S a) b)
      · rw [if_pos q] at nx
        rw [if_pos (by omega), show (1 : Int) + ((T (clr (clr S a) b) : Nat) : Int) = ((1 + T (clr (clr S a) b) : Nat) : Int) by omega]
        exact nx
      · rw [if_neg q] at nx
        rw [if_neg (by omega)]
        exact nx
theorem ct_fillTable {N : Nat} {X : Nat → Int} {d n h m : Nat} {U W : am_U} {E : Nat → Nat} (hn : n ≤ 16) (hh : h ≤ 4) (hnm : n = h + m) (hm : m ≤ 12) (hE : isM (alW W n) n E (2 ^ n)) (h16 : U 16 0 = (n : Nat)) (h6 : U 52 6 = (h : Nat)) (hal : alRows U W n) : ∃ U', EvK N X (Cp_fillTable_s0 (d + 1) U) (rV U') ∧ fT U U' ∧ ∀ s, s < 2 ^ m → U' 44 s = (E (2 ^ h * s) : Nat) := by
  have p12 : 2 ^ m ≤ 4096 := Nat.le_trans (Nat.pow_le_pow_right (by decide) hm) (by decide)
  have pp : 0 < 2 ^ m := Nat.pow_pos (by decide)
  obtain ⟨T, hT⟩ := isM_ex (fun i j => alW W n (h + i) (h + j)) m
  have sh : ∀ s, s < 2 ^ m → E (2 ^ h * s) = T s := fun s hs => M_shift hnm hE hT (s + 1) s (by omega) hs
  have loop : ∀ k s : Nat, s + k = 2 ^ m → 0 < s → ∀ V : am_U, fT U V → (∀ t, t < s → V 44 t = (T t : Nat)) → ∃ U', EvK N X (Cp_fillTable_s22 (d + 1) (m : Nat) (s : Nat) V) (rV U') ∧ fT U U' ∧ ∀ s, s < 2 ^ m → U' 44 s = (T s : Nat) := by
    intro k
    induction k with
    | zero =>
      intro s hs _ V v1 v2
      obtain rfl : s = 2 ^ m := by omega
      refine ⟨V, Cp_fillTable_r22 ?_, v1, v2⟩
      rw [shl1 (n := m) (by omega)]
      exact ⟨fun _ => rfl, fun z => absurd z (by omega)⟩
    | succ k ih =>
      intro s hs hs0 V v1 v2
      obtain ⟨a, a1, a2⟩ := low_ex hs0 (show s < 2 ^ m by omega)
      have cl := clr_lt a2.1
      obtain ⟨U', k1, k2, k3⟩ := ih (s + 1) (by omega) (by omega) (am_upd V 44 s (T s : Nat)) (fun r hr => by rw [upd_row hr]; exact v1 r hr) (fun t ht => by
        rw [upd_if]
        by_cases c : t = s
        · rw [if_pos c, c]
        · rw [if_neg c]; exact v2 t (by omega))
      refine ⟨U', Cp_fillTable_r22 ?_, k2, k3⟩
      rw [shl1 (n := m) (by omega)]
      refine ⟨fun z => absurd z (by omega), fun _ => ⟨fun z => absurd z (by omega), fun _ => ⟨_, _, ct_ntz (show s < 4096 by omega) hs0 a2 (by omega), ?_⟩⟩⟩
      rw [v1 52 (by decide), h6, w32_eq (x := ((h : Nat) : Int) + ((a : Nat) : Int)) (by omega) (by omega), and_pred (by omega) hs0 a2, w32_succ (i := a) (by omega), show ((h : Nat) : Int) + ((a : Nat) : Int) = ((h + a : Nat) : Int) by omega, Int.toNat_natCast, Int.toNat_natCast, v2 _ cl, ← low_skip (al := fun i j => alW W n (h + i) (h + j)) (E := T) a2]
      refine ⟨by omega, by omega, D_tab_in hn hh hnm hm (by omega) a2 a1 hT v2 (fun i hi => ?_) (m - (a + 1)) (a + 1) (by omega) k1⟩
      rw [tb_and, tb_nat (by omega) (by omega), tb_shr (by omega) (by omega), if_pos (by omega), v1 53 (by decide), hal (h + a) (by omega) (h + i) (by omega)]
  obtain ⟨U', k1, k2, k3⟩ := loop (2 ^ m - 1) 1 (by omega) (by decide) (am_upd U 44 0 0) (fun r hr => by rw [upd_row hr]) (fun t ht => by
    obtain rfl : t = 0 := by omega
    rw [upd_at, hT.1]; rfl)
  refine ⟨U', Cp_fillTable_r0 ?_, k2, fun s hs => by rw [k3 s hs, sh s hs]⟩
  rw [h16, h6, w32_eq (by omega) (by omega), show ((n : Nat) : Int) - ((h : Nat) : Int) = ((m : Nat) : Int) by omega]
  exact k1
