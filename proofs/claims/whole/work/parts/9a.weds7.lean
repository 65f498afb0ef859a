/-! the head's people are tried one by one -/
/-- an equation that is to be looked at only where it is asked for -/
def eqI (a b : Int) : Prop := a = b
theorem eqI_o {a b : Int} (h : eqI a b) : a = b := h
theorem low_zero {S a : Nat} (h : ∀ i, i < a → S.testBit i = false) : S = 2 ^ a * (S / 2 ^ a) := by
  have m0 : S % 2 ^ a = 0 := tb_eq (fun i => by
    rw [Nat.testBit_mod_two_pow, Nat.zero_testBit]
    by_cases c : i < a
    · rw [h i c, Bool.and_false]
    · rw [decide_eq_false c, Bool.false_and])
  have := Nat.mod_add_div S (2 ^ a)
  omega
theorem ct_S {S n : Nat} (hn : n ≤ 16) (hS : S < 2 ^ n) : fb_ct (tb (S : Nat)) 32 = fb_ct S.testBit n := by
  have p16 := pow16 hn
  rw [fb_ct_cong (q := S.testBit) (fun i hi => tb_nat (by omega) hi)]
  exact ct_cut (by omega) (fun i h1 _ => tb_out hS h1)
theorem clr_ne {S a : Nat} : clr S a ≠ S ↔ S.testBit a = true := by
  constructor
  · intro h
    by_cases c : S.testBit a = true
    · exact c
    · exact absurd (by unfold clr; rw [if_neg c]) h
  · intro h e
    have := clr_lt h
    omega
theorem half_w {n S c : Nat} (hn : n ≤ 16) (hS : S < 2 ^ n) (hc : c ≤ 16) : w32 (((c : Nat) : Int) + w32 (Int.tdiv ((fb_ct (tb (S : Nat)) 32 : Nat) : Int) 2)) = ((c + fb_ct S.testBit n / 2 : Nat) : Int) := by
  have lc := fb_ct_le S.testBit n
  rw [ct_S hn hS, show (2 : Int) = ((2 : Nat) : Int) from rfl, tdiv_nat, w32_eq (x := ((fb_ct S.testBit n / 2 : Nat) : Int)) (by omega) (by omega), w32_eq (by omega) (by omega)]
  omega
def fH (U U' : am_U) : Prop := ∀ r j, r ≠ 54 → r ≠ 55 → ¬ (r = 52 ∧ j = 7) → U' r j = U r j
theorem fH_trans {U U1 U2 : am_U} (h1 : fH U U1) (h2 : fH U1 U2) : fH U U2 := fun r j a b c => by rw [h2 r j a b c, h1 r j a b c]
def pH (U U' : am_U) (v : Int) (P : Nat → Option Nat) : Prop := (U 52 7 < v ∧ U' 52 7 = v ∧ ∀ i, i < 16 → U' 55 i = vP 20 (P i)) ∨ (v ≤ U 52 7 ∧ U' 52 7 = U 52 7 ∧ U' 55 = U 55)
def rwP (U : am_U) (P : Nat → Option Nat) : Prop := ∀ i, i < 16 → U 54 i = vP 20 (P i)
/-- what the search stands on -/
def cpX (U W : am_U) (n h m : Nat) (E : Nat → Nat) : Prop := n ≤ 16 ∧ h ≤ 4 ∧ n = h + m ∧ m ≤ 12 ∧ isM (alW W n) n E (2 ^ n) ∧ U 16 0 = (n : Nat) ∧ U 52 6 = (h : Nat) ∧ alRows U W n ∧ ∀ s, s < 2 ^ m → U 44 s = (E (2 ^ h * s) : Nat)
theorem cpX_fH {U U' W : am_U} {n h m : Nat} {E : Nat → Nat} (f : fH U U') (hc : cpX U W n h m E) : cpX U' W n h m E := by
  obtain ⟨c1, c2, c3, c4, c5, c6, c7, c8, c9⟩ := hc
  refine ⟨c1, c2, c3, c4, c5, ?_, ?_, fun x hx i hi => ?_, fun s hs => ?_⟩
  · rw [f 16 0 (by decide) (by decide) (by decide)]; exact c6
  · rw [f 52 6 (by decide) (by decide) (by decide)]; exact c7
  · rw [f 53 x (by decide) (by decide) (by omega)]; exact c8 x hx i hi
  · rw [f 44 s (by decide) (by decide) (by omega)]; exact c9 s hs
theorem ct_keepIfMore {N : Nat} {X : Nat → Int} {d n h m S c : Nat} {U W : am_U} {E : Nat → Nat} {P : Nat → Option Nat} (hc : cpX U W n h m E) (hg : gI n h S P) (hc8 : c ≤ 8) (hP : rwP U P) : ∃ U', EvK N X (Cp_keepIfMore_s0 (d + 1) (S : Nat) (c : Nat) U) (rV U') ∧ fH U U' ∧ rwP U' P ∧ pH U U' ((c + E S : Nat) : Int) P := by
  obtain ⟨c1, c2, c3, c4, c5, c6, c7, c8, c9⟩ := hc
  have p16 := pow16 c1
  have hS := hg.1
  have p12 : 2 ^ m ≤ 4096 := Nat.le_trans (Nat.pow_le_pow_right (by decide) c4) (by decide)
  have ez := low_zero hg.2.1
  have pp : 0 < 2 ^ h := Nat.pow_pos (by decide)
  have hs : S / 2 ^ h < 2 ^ m := by
    rw [Nat.div_lt_iff_lt_mul pp, ← Nat.pow_add, show m + h = n by omega]; exact hS
  have esh : am_shr (S : Nat) ((h : Nat) : Int) = ((S / 2 ^ h : Nat) : Int) := by
    rw [shr_div (nat_in (by omega)) (by omega)]; exact (Int.natCast_ediv S (2 ^ h)).symm
  have e44 := c9 _ hs
  rw [← ez] at e44
  have e8 := isM_8 c5 c1 hS hS
  clear ez
  obtain ⟨s, es⟩ : ∃ s, s = S / 2 ^ h := ⟨_, rfl⟩
  rw [← es] at esh e44 hs
  clear es
  by_cases q : U 52 7 < ((c + E S : Nat) : Int)
  · refine ⟨am_cpy (am_upd U 52 7 ((c + E S : Nat) : Int)) 54 55 0 0 16, Cp_keepIfMore_r0 ?_, fun r j q1 q2 q3 => ?_, fun i hi => ?_, Or.inl ⟨q, ?_, fun i hi => ?_⟩⟩
    · rw [c7, esh, Int.toNat_natCast, e44, w32_eq (by omega) (by omega)]
      refine ⟨fun z => absurd z (by omega), fun _ => ⟨fun z => absurd z (by omega), fun _ => ⟨by omega, fun _ => ⟨by decide, ?_⟩, fun z => absurd z (by omega)⟩⟩⟩
      rw [show ((c : Nat) : Int) + ((E S : Nat) : Int) = ((c + E S : Nat) : Int) by omega]
    · unfold am_cpy
      rw [if_neg (fun z => q2 z.1)]
      exact if_neg (fun z => q3 z)
    · unfold am_cpy
      rw [if_neg (fun z => absurd z.1 (by decide)), upd_row (by decide)]
      exact hP i hi
    · unfold am_cpy
      rw [if_neg (fun z => absurd z.1 (by decide)), upd_at]
    · unfold am_cpy
      rw [if_pos ⟨rfl, by omega, by omega⟩, upd_row (by decide), show (((i : Nat) : Int) - 0 + 0).toNat = i by omega]
      exact hP i hi
  · refine ⟨U, Cp_keepIfMore_r0 ?_, fun _ _ _ _ _ => rfl, hP, Or.inr ⟨by omega, rfl, rfl⟩⟩
    rw [c7, esh, Int.toNat_natCast, e44, w32_eq (by omega) (by omega)]
    exact ⟨fun z => absurd z (by omega), fun _ => ⟨fun z => absurd z (by omega), fun _ => ⟨by omega, fun z => absurd z (by omega), fun _ => rfl⟩⟩⟩
theorem vP_lt {n : Nat} {P : Nat → Option Nat} {a b : Nat} (U : am_U) (ha : P a = none) (hb : P b = none) (hP : rwP U P) : rwP (am_upd (am_upd U 54 a 20) 54 b 20) P := fun i hi => by
  rw [upd_if]
  by_cases q : i = b
  · rw [if_pos q, q, hb]; rfl
  · rw [if_neg q, upd_if]
    by_cases q2 : i = a
    · rw [if_pos q2, q2, ha]; rfl
    · rw [if_neg q2]; exact hP i hi
/-- the contract of the search from person a on, k of the head being left -/
def phC (N : Nat) (X : Nat → Int) (W : am_U) (n h m : Nat) (E : Nat → Nat) (d k a : Nat) : Prop := ∀ (S c : Nat) (P : Nat → Option Nat) (U : am_U), cpX U W n h m E → gI n a S P → c ≤ a → -1 ≤ U 52 7 → U 52 7 ≤ 16 → rwP U P → ∃ U', EvK N X (Cp_pairHead_s0 d (a : Nat) (S : Nat) (c : Nat) U) (rV U') ∧ fH U U' ∧ rwP U' P ∧ pH U U' ((c + E S : Nat) : Int) (gq (alW W n) E n k a S P).2
theorem mM_max {al : Nat → Nat → Bool} {E : Nat → Nat} {R a : Nat} : ∀ {n : Nat}, mM al E R a n = E R ∨ ∃ b, b < n ∧ R.testBit b = true ∧ al a b = true ∧ mM al E R a n = 1 + E (clr R b)
  | 0 => Or.inl rfl
  | n + 1 => by
    rw [mM_s]
    by_cases c : (R.testBit n && al a n) = true
    · have c' := c
      rw [Bool.and_eq_true] at c'
      rw [if_pos c]
      by_cases q : mM al E R a n < 1 + E (clr R n)
      · rw [if_pos q]; exact Or.inr ⟨n, by omega, c'.1, c'.2, rfl⟩
      · rw [if_neg q]
        rcases mM_max (al := al) (E := E) (R := R) (a := a) (n := n) with z | ⟨b, b1, b2⟩
        · exact Or.inl z
        · exact Or.inr ⟨b, by omega, b2⟩
    · rw [if_neg c]
      rcases mM_max (al := al) (E := E) (R := R) (a := a) (n := n) with z | ⟨b, b1, b2⟩
      · exact Or.inl z
      · exact Or.inr ⟨b, by omega, b2⟩
theorem gI_two {n a b S : Nat} {P : Nat → Option Nat} (ha : a < n) (hb : a < b) (hbn : b < n) (h : gI n a S P) : gI n (a + 1) (clr (clr S a) b) (sP P a b) := by
  obtain ⟨h1, h2, h3, h4⟩ := h
  refine ⟨gI_clr_lt (gI_clr_lt h1), fun i hi => ?_, fun i hi hin => ?_, fun i b' hb' => ?_⟩
  · rw [clr_tb, clr_tb]
    by_cases q : i = a
    · rw [decide_eq_false (show ¬ i ≠ a by omega), Bool.and_false, Bool.false_and]
    · rw [h2 i (by omega), Bool.false_and, Bool.false_and]
  · rw [clr_tb, clr_tb, decide_eq_true (show i ≠ a by omega), Bool.and_true]
    unfold sP
    by_cases q : i = b
    · rw [if_pos q, decide_eq_false (show ¬ i ≠ b by omega), Bool.and_false]; simp
    · rw [if_neg q, if_neg (show i ≠ a by omega), decide_eq_true q, Bool.and_true]; exact h3 i (by omega) hin
  · unfold sP at hb'
    by_cases q : i = b
    · rw [if_pos q] at hb'; have := Option.some.inj hb'; omega
    · rw [if_neg q] at hb'
      by_cases q2 : i = a
      · rw [if_pos q2] at hb'; have := Option.some.inj hb'; omega
      · rw [if_neg q2] at hb'; exact h4 i b' hb'
theorem gI_one {n a S : Nat} {P : Nat → Option Nat} (h : gI n a S P) : gI n (a + 1) (clr S a) P := by
  obtain ⟨h1, h2, h3, h4⟩ := h
  refine ⟨gI_clr_lt h1, fun i hi => ?_, fun i hi hin => ?_, h4⟩
  · rw [clr_tb]
    by_cases q : i = a
    · rw [decide_eq_false (show ¬ i ≠ a by omega), Bool.and_false]
    · rw [h2 i (by omega), Bool.false_and]
  · rw [clr_tb, decide_eq_true (show i ≠ a by omega), Bool.and_true]; exact h3 i (by omega) hin
/-- partners of one are tried -/
theorem pH_loop {N : Nat} {X : Nat → Int} {d n h m k a S c : Nat} {W U0 : am_U} {E : Nat → Nat} {P : Nat → Option Nat} (hc0 : cpX U0 W n h m E) (hah : a < h) (hg : gI n a S P) (hab : S.testBit a = true) (hca : c ≤ a) (hB1 : -1 ≤ U0 52 7) (hB2 : U0 52 7 ≤ 16) (ih : phC N X W n h m E d k (a + 1)) : ∀ t b : Nat, b + t = n → a < b → ∀ U, fH U0 U → rwP U P → ((((c + E S : Nat) : Int) ≤ U0 52 7 ∧ U 52 7 = U0 52 7 ∧ U 55 = U0 55) ∨ (U0 52 7 < ((c + E S : Nat) : Int) ∧ U0 52 7 ≤ U 52 7 ∧ ((gfd (alW W n) E S a b = none ∧ U 52 7 < ((c + E S : Nat) : Int)) ∨ ∃ e, gfd (alW W n) E S a b = some e ∧ U 52 7 = ((c + E S : Nat) : Int) ∧ ∀ i, i < 16 → U 55 i = vP 20 ((gq (alW W n) E n k (a + 1) (clr (clr S a) e) (sP P a e)).2 i)))) → ∃ U', EvK N X (Cp_pairHead_s61 (d + 1) (a : Nat) (S : Nat) (c : Nat) (clr S a : Nat) (b : Nat) U) (rV U') ∧ fH U0 U' ∧ rwP U' P ∧ pH U0 U' ((c + E S : Nat) : Int) (gq (alW W n) E n (k + 1) a S P).2 := by
  obtain ⟨c1, c2, c3, c4, c5, c6, c7, c8, c9⟩ := hc0
  have hc0 : cpX U0 W n h m E := ⟨c1, c2, c3, c4, c5, c6, c7, c8, c9⟩
  have p16 := pow16 c1
  have hS := hg.1
  have cl := clr_lt hab
  have han : a < n := by omega
  have eS := c5.2 S a hS (low_of hg hab)
  have e8 := isM_8 c5 c1 hS hS
  have Pa : P a = none := (hg.2.2.1 a (Nat.le_refl a) han).mp hab
  intro t
  induction t with
  | zero =>
    intro b hb hlt U f1 f2 f3
    obtain rfl : b = n := by omega
    have e16 : U 16 0 = (b : Nat) := by rw [f1 16 0 (by decide) (by decide) (by decide)]; exact c6
    have ub : -1 ≤ U 52 7 ∧ U 52 7 ≤ 16 := by
      rcases f3 with ⟨z1, z2, z3⟩ | ⟨z1, z2, z3⟩
      · omega
      · rcases z3 with ⟨z4, z5⟩ | ⟨e, z4, z5, z6⟩ <;> omega
    obtain ⟨U', k1, k2, k3, k4⟩ := ih (clr S a) c P U (cpX_fH f1 hc0) (gI_one hg) (by omega) ub.1 ub.2 f2
    have er : E (clr S a) ≤ E S := by rw [eS]; exact le_mM0 b
    refine ⟨U', Cp_pairHead_r61 ⟨fun _ => ⟨U', ?_, rfl⟩, fun z => absurd z (by rw [e16]; omega)⟩, fH_trans f1 k2, k3, ?_⟩
    · rw [w32_succ (i := a) (by omega)]; exact k1
    · rcases f3 with ⟨z1, z2, z3⟩ | ⟨z1, z2, z3⟩
      · rcases k4 with ⟨y1, _⟩ | ⟨y1, y2, y3⟩
        · exact absurd y1 (by omega)
        · exact Or.inr ⟨z1, by rw [y2, z2], by rw [y3, z3]⟩
      · rcases z3 with ⟨z4, z5⟩ | ⟨e, z4, z5, z6⟩
        · have em : E (clr S a) = E S := by
            rcases mM_max (al := alW W b) (E := E) (R := clr S a) (a := a) (n := b) with y | ⟨g, g1, g2, g3, g4⟩
            · rw [eS]; exact y.symm
            · exfalso
              rw [← eS] at g4
              have ga : a < g := by
                have g2' := g2
                rw [clr_tb, Bool.and_eq_true, decide_eq_true_iff] at g2'
                rcases Nat.lt_or_ge a g with q | q
                · exact q
                · have := hg.2.1 g (by omega)
                  rw [g2'.1] at this; exact absurd this (by decide)
              have := gfd_no b z4 g ga g1
              unfold gok at this
              rw [g2, g3, decide_eq_true g4.symm] at this
              exact absurd this (by decide)
          rcases k4 with ⟨y1, y2, y3⟩ | ⟨y1, _⟩
          · refine Or.inl ⟨z1, by rw [y2, em], fun i hi => ?_⟩
            rw [y3 i hi, gq_s, gst_none hab z4]
          · exact absurd y1 (by rw [em]; omega)
        · rcases k4 with ⟨y1, _⟩ | ⟨y1, y2, y3⟩
          · exact absurd y1 (by rw [z5]; omega)
          · refine Or.inl ⟨z1, by rw [y2, z5], fun i hi => ?_⟩
            rw [y3, z6 i hi, gq_s, gst_some hab z4]
  | succ t iht =>
    intro b hb hlt U f1 f2 f3
    have e16 : U 16 0 = (n : Nat) := by rw [f1 16 0 (by decide) (by decide) (by decide)]; exact c6
    have e53 : tb (am_and ((clr S a : Nat) : Int) (U 53 a)) b = ((clr S a).testBit b && alW W n a b) := by
      rw [tb_and, tb_nat (by omega) (by omega), f1 53 a (by decide) (by decide) (by omega), c8 a (by omega) b (by omega)]
    cases q : ((clr S a).testBit b && alW W n a b) with
    | false =>
      have nk : gok (alW W n) E S a b = false := by unfold gok; rw [q, Bool.false_and]
      obtain ⟨U', k1, k2⟩ := iht (b + 1) (by omega) (by omega) U f1 f2 (by
        rcases f3 with z | ⟨z1, z2, z3⟩
        · exact Or.inl z
        · refine Or.inr ⟨z1, z2, ?_⟩
          rcases z3 with ⟨z4, z5⟩ | ⟨e, z4, z5⟩
          · left; refine ⟨?_, z5⟩; rw [gfd_none z4, nk, if_neg (by simp)]
          · right; exact ⟨e, gfd_some z4, z5⟩)
      refine ⟨U', Cp_pairHead_r61 ⟨fun z => absurd z (by rw [e16]; omega), fun _ => ⟨by omega, fun _ => ?_, fun z => absurd z ?_⟩⟩, k2⟩
      · rw [w32_succ (i := b) (by omega)]; exact k1
      · rw [Int.toNat_natCast, bit_shr (by omega), e53, q]; decide
    | true =>
      have q' := q
      rw [Bool.and_eq_true] at q'
      have sb : S.testBit b = true := by
        have := q'.1
        rw [clr_tb, Bool.and_eq_true] at this; exact this.1
      have Pb : P b = none := (hg.2.2.1 b (by omega) (by omega)).mp sb
      have cl2 := clr_le (clr S a) b
      have le1 : 1 + E (clr (clr S a) b) ≤ E S := by rw [eS]; exact le_mM (by omega) q'.1 q'.2
      have ub : -1 ≤ U 52 7 ∧ U 52 7 ≤ 16 := by
        rcases f3 with ⟨z1, z2, z3⟩ | ⟨z1, z2, z3⟩
        · omega
        · rcases z3 with ⟨z4, z5⟩ | ⟨e, z4, z5, z6⟩ <;> omega
      have fU : fH U (am_upd (am_upd U 54 a (b : Nat)) 54 b (a : Nat)) := fun r j q1 _ _ => by rw [upd_row q1, upd_row q1]
      have r52 : am_upd (am_upd U 54 a (b : Nat)) 54 b (a : Nat) 52 = U 52 := by rw [upd_row (by decide), upd_row (by decide)]
      have r55 : am_upd (am_upd U 54 a (b : Nat)) 54 b (a : Nat) 55 = U 55 := by rw [upd_row (by decide), upd_row (by decide)]
      obtain ⟨U2, k1, k2, k3, k4⟩ := ih (clr (clr S a) b) (c + 1) (sP P a b) (am_upd (am_upd U 54 a (b : Nat)) 54 b (a : Nat)) (cpX_fH (fH_trans f1 fU) hc0) (gI_two han hlt (by omega) hg) (by omega) (by rw [r52]; exact ub.1) (by rw [r52]; exact ub.2) (fun i hi => row_sP (n := 16) f2 i hi)
      unfold pH at k4
      rw [r52, r55] at k4
      have k3' : rwP (am_upd (am_upd U2 54 a 20) 54 b 20) P := fun i hi => by
        rw [upd_if]
        by_cases w : i = b
        · rw [if_pos w, w, Pb]; rfl
        · rw [if_neg w, upd_if]
          by_cases w2 : i = a
          · rw [if_pos w2, w2, Pa]; rfl
          · rw [if_neg w2, k3 i hi]; unfold sP; rw [if_neg w, if_neg w2]
      have s52 : am_upd (am_upd U2 54 a 20) 54 b 20 52 = U2 52 := by rw [upd_row (by decide), upd_row (by decide)]
      have s55 : am_upd (am_upd U2 54 a 20) 54 b 20 55 = U2 55 := by rw [upd_row (by decide), upd_row (by decide)]
      obtain ⟨U', l1, l2⟩ := iht (b + 1) (by omega) (by omega) (am_upd (am_upd U2 54 a 20) 54 b 20) (fH_trans (fH_trans f1 fU) (fH_trans k2 (fun r j q1 _ _ => by rw [upd_row q1, upd_row q1]))) k3' (by
        rw [s52, s55]
        rcases f3 with ⟨z1, z2, z3⟩ | ⟨z1, z2, z3⟩
        · rcases k4 with ⟨y1, _⟩ | ⟨y1, y2, y3⟩
          · exact absurd y1 (by omega)
          · exact Or.inl ⟨z1, by rw [y2, z2], by rw [y3, z3]⟩
        · rcases z3 with ⟨z4, z5⟩ | ⟨e, z4, z5, z6⟩
          · by_cases w : 1 + E (clr (clr S a) b) = E S
            · have gk : gok (alW W n) E S a b = true := by unfold gok; rw [q, decide_eq_true w]; rfl
              rcases k4 with ⟨y1, y2, y3⟩ | ⟨y1, _⟩
              · refine Or.inr ⟨z1, by rw [y2]; omega, Or.inr ⟨b, ?_, by rw [y2]; omega, y3⟩⟩
                rw [gfd_none z4, if_pos ⟨hlt, gk⟩]
              · exact absurd y1 (by omega)
            · have gk : gok (alW W n) E S a b = false := by unfold gok; rw [q, decide_eq_false w]; rfl
              have nx : gfd (alW W n) E S a (b + 1) = none := by rw [gfd_none z4, gk, if_neg (by simp)]
              rcases k4 with ⟨y1, y2, y3⟩ | ⟨y1, y2, y3⟩
              · exact Or.inr ⟨z1, by rw [y2]; omega, Or.inl ⟨nx, by rw [y2]; omega⟩⟩
              · exact Or.inr ⟨z1, by rw [y2]; omega, Or.inl ⟨nx, by rw [y2]; omega⟩⟩
          · rcases k4 with ⟨y1, _⟩ | ⟨y1, y2, y3⟩
            · exact absurd y1 (by rw [z5]; omega)
            · exact Or.inr ⟨z1, by rw [y2]; omega, Or.inr ⟨e, gfd_some z4, by rw [y2, z5], fun i hi => by rw [y3]; exact z6 i hi⟩⟩)
      refine ⟨U', Cp_pairHead_r61 ⟨fun z => absurd z (by rw [e16]; omega), fun _ => ⟨by omega, fun z => absurd ?_ z, fun _ => ⟨by omega, U2, ?_, ?_⟩⟩⟩, l2⟩
      · rw [Int.toNat_natCast, bit_shr (by omega), e53, q]; rfl
      · rw [w32_succ (i := a) (by omega), and_clr (by omega) (by omega), w32_succ (i := c) (by omega), Int.toNat_natCast, Int.toNat_natCast]; exact k1
      · rw [w32_succ (i := b) (by omega), Int.toNat_natCast, Int.toNat_natCast]; exact l1
theorem ct_pairHead {N : Nat} {X : Nat → Int} {d n h m : Nat} {W : am_U} {E : Nat → Nat} : ∀ k a : Nat, a + k = h → phC N X W n h m E (d + k + 2) k a := by
  intro k
  induction k with
  | zero =>
    intro a ha S c P U hc hg hca hB1 hB2 hP
    obtain rfl : a = h := by omega
    obtain ⟨c1, c2, c3, c4, c5, c6, c7, c8, c9⟩ := hc
    have hc : cpX U W n a m E := ⟨c1, c2, c3, c4, c5, c6, c7, c8, c9⟩
    have hS := hg.1
    have le := isM_le c5 (S + 1) S (by omega) hS hS
    have lc := fb_ct_le S.testBit n
    by_cases q : U 52 7 < ((c + fb_ct S.testBit n / 2 : Nat) : Int)
    · obtain ⟨U', k1, k2, k3, k4⟩ := ct_keepIfMore (N := N) (X := X) (d := d) (c := c) hc hg (by omega) hP
      refine ⟨U', Cp_pairHead_r0 ⟨_, U, ct_bitCount _, ?_⟩, k2, k3, k4⟩
      rw [half_w c1 hS (show c ≤ 16 by omega), c7]
      exact ⟨fun _ => ⟨fun z => absurd z (by omega), fun _ => ⟨U', k1, rfl⟩⟩, fun z => absurd z (by omega)⟩
    · refine ⟨U, Cp_pairHead_r0 ⟨_, U, ct_bitCount _, ?_⟩, fun _ _ _ _ _ => rfl, hP, Or.inr ⟨by omega, rfl, rfl⟩⟩
      rw [half_w c1 hS (show c ≤ 16 by omega)]
      exact ⟨fun z => absurd z q, fun _ => rfl⟩
  | succ k ih =>
    intro a ha S c P U hc hg hca hB1 hB2 hP
    obtain ⟨c1, c2, c3, c4, c5, c6, c7, c8, c9⟩ := hc
    have hc : cpX U W n h m E := ⟨c1, c2, c3, c4, c5, c6, c7, c8, c9⟩
    have ihc := ih (a + 1) (by omega)
    have p16 := pow16 c1
    have hS := hg.1
    have le := isM_le c5 (S + 1) S (by omega) hS hS
    have lc := fb_ct_le S.testBit n
    by_cases q : U 52 7 < ((c + fb_ct S.testBit n / 2 : Nat) : Int)
    · by_cases hb : S.testBit a = true
      · obtain ⟨U', k1, k2, k3, k4⟩ := pH_loop (N := N) (X := X) (d := d + k + 2) hc (by omega) hg hb hca hB1 hB2 ihc (n - (a + 1)) (a + 1) (by omega) (by omega) U (fun _ _ _ _ _ => rfl) hP (by
          rcases Int.lt_or_le (U 52 7) ((c + E S : Nat) : Int) with z | z
          · exact Or.inr ⟨z, by omega, Or.inl ⟨gfd_low _ (Nat.le_refl _), z⟩⟩
          · exact Or.inl ⟨z, rfl, rfl⟩)
        refine ⟨U', Cp_pairHead_r0 ⟨_, U, ct_bitCount _, ?_⟩, k2, k3, k4⟩
        rw [half_w c1 hS (show c ≤ 16 by omega), c7, and_clr (by omega) (by omega)]
        refine ⟨fun _ => ⟨fun _ => ⟨fun _ => ?_, fun z => absurd (Int.ofNat.inj z) (clr_ne.mpr hb)⟩, fun z => absurd z (by omega)⟩, fun z => absurd z (by omega)⟩
        rw [w32_succ (i := a) (by omega)]; exact k1
      · have gn := gI_next (al := alW W n) (E := E) (show a < n by omega) hg
        rw [gst_no (Bool.eq_false_iff.mpr hb)] at gn
        obtain ⟨U', k1, k2, k3, k4⟩ := ihc S c P U hc gn (by omega) hB1 hB2 hP
        refine ⟨U', Cp_pairHead_r0 ⟨_, U, ct_bitCount _, ?_⟩, k2, k3, ?_⟩
        · rw [half_w c1 hS (show c ≤ 16 by omega), c7, and_clr (by omega) (by omega)]
          have ne : clr S a = S := by
            rcases Nat.decEq (clr S a) S with z | z
            · exact absurd (clr_ne.mp z) hb
            · exact z
          rw [ne]
          refine ⟨fun _ => ⟨fun _ => ⟨fun z => absurd rfl z, fun _ => ⟨U', ?_, rfl⟩⟩, fun z => absurd z (by omega)⟩, fun z => absurd z (by omega)⟩
          rw [w32_succ (i := a) (by omega)]; exact k1
        · rw [gq_s, gst_no (Bool.eq_false_iff.mpr hb)]; exact k4
    · refine ⟨U, Cp_pairHead_r0 ⟨_, U, ct_bitCount _, ?_⟩, fun _ _ _ _ _ => rfl, hP, Or.inr ⟨by omega, rfl, rfl⟩⟩
      rw [half_w c1 hS (show c ≤ 16 by omega)]
      exact ⟨fun z => absurd z q, fun _ => rfl⟩
