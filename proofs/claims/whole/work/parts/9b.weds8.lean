/-! those behind the head choose; the whole search -/
def fP (U U' : am_U) : Prop := ∀ r, r ≠ 55 → U' r = U r
theorem cpX_fP {U U' W : am_U} {n h m : Nat} {E : Nat → Nat} (f : fP U U') (hc : cpX U W n h m E) : cpX U' W n h m E := cpX_fH (fun r j _ q _ => by rw [f r q]) hc
theorem pairOne_l {N : Nat} {X : Nat → Int} {d n h m s a : Nat} {W U : am_U} {E : Nat → Nat} (hc : cpX U W n h m E) (hha : h ≤ a) (han : a < n) (hs : 2 ^ h * s < 2 ^ n) (hab : s.testBit (a - h) = true) {R : Option am_V × am_M} (h1 : gfd (alW W n) E (2 ^ h * s) a n = none → R = rI ((clr s (a - h) : Nat) : Int) U) (h2 : ∀ c, gfd (alW W n) E (2 ^ h * s) a n = some c → R = rI ((clr (clr s (a - h)) (c - h) : Nat) : Int) (am_upd (am_upd U 55 a (c : Nat)) 55 c (a : Nat))) : ∀ t b : Nat, b + t = n → a < b → gfd (alW W n) E (2 ^ h * s) a b = none → EvK N X (Cp_pairOne_s5 d (a : Nat) (s : Nat) (clr s (a - h) : Nat) (b : Nat) U) R := by
  obtain ⟨c1, c2, c3, c4, c5, c6, c7, c8, c9⟩ := hc
  have p12 : 2 ^ m ≤ 4096 := Nat.le_trans (Nat.pow_le_pow_right (by decide) c4) (by decide)
  have pp : 0 < 2 ^ h := Nat.pow_pos (by decide)
  have hsm : s < 2 ^ m := by
    rw [c3, Nat.pow_add] at hs
    exact Nat.lt_of_mul_lt_mul_left hs
  have cl := clr_lt hab
  have ea : clr (2 ^ h * s) a = 2 ^ h * clr s (a - h) := by
    have := sh_clr h s (a - h)
    rw [show h + (a - h) = a by omega] at this; exact this
  intro t
  induction t with
  | zero =>
    intro b hb hlt e
    obtain rfl : b = n := by omega
    refine Cp_pairOne_r5 ⟨fun _ => h1 e, fun z => absurd z (by rw [c6]; omega)⟩
  | succ t ih =>
    intro b hb hlt e
    have cl2 := clr_le (clr s (a - h)) (b - h)
    have eb : clr (clr (2 ^ h * s) a) b = 2 ^ h * clr (clr s (a - h)) (b - h) := by
      have := sh_clr h (clr s (a - h)) (b - h)
      rw [show h + (b - h) = b by omega] at this; rw [ea]; exact this
    have tbb : (clr (2 ^ h * s) a).testBit b = (clr s (a - h)).testBit (b - h) := by
      rw [ea, sh_tb, decide_eq_true (show h ≤ b by omega), Bool.true_and]
    have go : gok (alW W n) E (2 ^ h * s) a b = false → EvK N X (Cp_pairOne_s5 d (a : Nat) (s : Nat) (clr s (a - h) : Nat) ((b + 1 : Nat) : Int) U) R := fun z => ih (b + 1) (by omega) (by omega) (by rw [gfd_none e, z, if_neg (by simp)])
    refine Cp_pairOne_r5 ⟨fun z => absurd z (by rw [c6]; omega), fun _ => ?_⟩
    rw [c7, w32_eq (x := ((b : Nat) : Int) - ((h : Nat) : Int)) (by omega) (by omega), show ((b : Nat) : Int) - ((h : Nat) : Int) = ((b - h : Nat) : Int) by omega, and_clr (by omega) (by omega), w32_succ (i := b) (by omega), Int.toNat_natCast, Int.toNat_natCast, Int.toNat_natCast, Int.toNat_natCast, bit_shr (show b < 32 by omega), c8 a (by omega) b (by omega)]
    by_cases q : (clr s (a - h)).testBit (b - h) = true
    · refine ⟨fun z => absurd (Int.ofNat.inj z) (clr_ne.mpr q), fun _ => ⟨by omega, ?_⟩⟩
      cases w : alW W n a b with
      | false =>
        refine ⟨fun _ => go (by unfold gok; rw [w, Bool.and_false, Bool.false_and]), fun z => absurd z (by decide)⟩
      | true =>
        have e1 := c9 _ (show clr (clr s (a - h)) (b - h) < 2 ^ m by omega)
        have e2 := c9 s hsm
        have lt2 : 2 ^ h * clr (clr s (a - h)) (b - h) < 2 ^ n := by rw [← eb]; exact gI_clr_lt (gI_clr_lt hs)
        have e8 := isM_8 c5 c1 lt2 lt2
        refine ⟨fun z => absurd rfl z, fun _ => ⟨fun z => absurd z (by omega), fun _ => ⟨by omega, by omega, ?_⟩⟩⟩
        rw [e1, e2, w32_eq (by omega) (by omega)]
        by_cases v : 1 + E (2 ^ h * clr (clr s (a - h)) (b - h)) = E (2 ^ h * s)
        · have gk : gok (alW W n) E (2 ^ h * s) a b = true := by unfold gok; rw [tbb, q, w, eb, decide_eq_true v]; rfl
          refine ⟨fun z => absurd (by omega) z, fun _ => ⟨by omega, h2 b ?_⟩⟩
          have := gfd_mono (show gfd (alW W n) E (2 ^ h * s) a (b + 1) = some b by rw [gfd_none e, if_pos ⟨hlt, gk⟩]) (n - (b + 1))
          rw [show b + 1 + (n - (b + 1)) = n by omega] at this; exact this
        · refine ⟨fun _ => go (by unfold gok; rw [eb, decide_eq_false v, Bool.and_false]), fun z => absurd z (by omega)⟩
    · have ne : clr (clr s (a - h)) (b - h) = clr s (a - h) := by
        rcases Nat.decEq (clr (clr s (a - h)) (b - h)) (clr s (a - h)) with z | z
        · exact absurd (clr_ne.mp z) q
        · exact z
      refine ⟨fun _ => go (by unfold gok; rw [tbb, Bool.eq_false_iff.mpr q, Bool.false_and, Bool.false_and]), fun z => absurd (by rw [ne]) z⟩
theorem pairTail_l {N : Nat} {X : Nat → Int} {d n h m : Nat} {W U0 : am_U} {E : Nat → Nat} (hc : cpX U0 W n h m E) : ∀ k a : Nat, a + k = n → h ≤ a → ∀ (s : Nat) (P : Nat → Option Nat) (U : am_U), fP U0 U → gI n a (2 ^ h * s) P → (∀ i, i < 16 → U 55 i = vP 20 (P i)) → ∃ U', EvK N X (Cp_pairTail_s55 (d + 1) (s : Nat) (a : Nat) U) (rV U') ∧ fP U0 U' ∧ ∀ i, i < 16 → U' 55 i = vP 20 ((gq (alW W n) E n k a (2 ^ h * s) P).2 i) := by
  intro k
  induction k with
  | zero =>
    intro a ha _ s P U f g v
    obtain rfl : a = n := by omega
    have e16 : U 16 0 = (a : Nat) := by rw [f 16 (by decide)]; exact hc.2.2.2.2.2.1
    exact ⟨U, Cp_pairTail_r55 ⟨fun _ => rfl, fun z => absurd z (by rw [e16]; omega)⟩, f, v⟩
  | succ k ih =>
    intro a ha hha s P U f g v
    have hcU := cpX_fP f hc
    have gn := gI_next (al := alW W n) (E := E) (show a < n by omega) g
    obtain ⟨c1, c2, c3, c4, c5, c6, c7, c8, c9⟩ := hcU
    have hcU : cpX U W n h m E := ⟨c1, c2, c3, c4, c5, c6, c7, c8, c9⟩
    have p12 : 2 ^ m ≤ 4096 := Nat.le_trans (Nat.pow_le_pow_right (by decide) c4) (by decide)
    have hsm : s < 2 ^ m := by
      have := g.1
      rw [c3, Nat.pow_add] at this
      exact Nat.lt_of_mul_lt_mul_left this
    have tba : (2 ^ h * s).testBit a = s.testBit (a - h) := by rw [sh_tb, decide_eq_true hha, Bool.true_and]
    have ea : clr (2 ^ h * s) a = 2 ^ h * clr s (a - h) := by
      have := sh_clr h s (a - h)
      rw [show h + (a - h) = a by omega] at this; exact this
    have ej : eqI (w32 (((a : Nat) : Int) - ((h : Nat) : Int))) ((a - h : Nat) : Int) := by show _ = _; rw [w32_eq (by omega) (by omega)]; omega
    rw [gq_s]
    by_cases q : s.testBit (a - h) = true
    · have q2 : (2 ^ h * s).testBit a = true := by rw [tba]; exact q
      have st : ∀ {r1 : Int} {U1 : am_U} {R}, EvK N X (Cp_pairOne_s0 d (a : Nat) (s : Nat) (clr s (a - h) : Nat) U) (rI r1 U1) → EvK N X (Cp_pairTail_s55 (d + 1) r1 ((a + 1 : Nat) : Int) U1) R → EvK N X (Cp_pairTail_s55 (d + 1) (s : Nat) (a : Nat) U) R := fun {r1 U1 R} e1 e2 => by
        refine Cp_pairTail_r55 ⟨fun z => absurd z (by rw [c6]; omega), fun _ => ?_⟩
        rw [c7, eqI_o ej, and_clr (by omega) (by omega), w32_succ (i := a) (by omega)]
        exact ⟨fun z => absurd (Int.ofNat.inj z) (clr_ne.mpr q), fun _ => ⟨r1, U1, e1, e2⟩⟩
      have one : ∀ {R : Option am_V × am_M}, (gfd (alW W n) E (2 ^ h * s) a n = none → R = rI ((clr s (a - h) : Nat) : Int) U) → (∀ c, gfd (alW W n) E (2 ^ h * s) a n = some c → R = rI ((clr (clr s (a - h)) (c - h) : Nat) : Int) (am_upd (am_upd U 55 a (c : Nat)) 55 c (a : Nat))) → EvK N X (Cp_pairOne_s0 d (a : Nat) (s : Nat) (clr s (a - h) : Nat) U) R := fun {R} e1 e2 => by
        refine Cp_pairOne_r0 ?_
        rw [w32_succ (i := a) (by omega)]
        exact pairOne_l hcU hha (by omega) g.1 q e1 e2 (n - (a + 1)) (a + 1) (by omega) (by omega) (gfd_low _ (Nat.le_refl _))
      cases e : gfd (alW W n) E (2 ^ h * s) a n with
      | none =>
        rw [gst_none q2 e] at gn ⊢
        have gn2 : gI n (a + 1) (2 ^ h * clr s (a - h)) P := by rw [← ea]; exact gn
        obtain ⟨U', k1, k2, k3⟩ := ih (a + 1) (by omega) (by omega) (clr s (a - h)) P U f gn2 v
        refine ⟨U', st (one (fun _ => rfl) (fun c hc' => by rw [e] at hc'; cases hc')) k1, k2, ?_⟩
        rw [← ea] at k3
        exact k3
      | some b =>
        rw [gst_some q2 e] at gn ⊢
        have gb := gfd_is n e
        have eb : clr (clr (2 ^ h * s) a) b = 2 ^ h * clr (clr s (a - h)) (b - h) := by
          have := sh_clr h (clr s (a - h)) (b - h)
          rw [show h + (b - h) = b by omega] at this; rw [ea]; exact this
        have gn2 : gI n (a + 1) (2 ^ h * clr (clr s (a - h)) (b - h)) (sP P a b) := by rw [← eb]; exact gn
        obtain ⟨U', k1, k2, k3⟩ := ih (a + 1) (by omega) (by omega) (clr (clr s (a - h)) (b - h)) (sP P a b) (am_upd (am_upd U 55 a (b : Nat)) 55 b (a : Nat)) (fun r hr => by rw [upd_row hr, upd_row hr]; exact f r hr) gn2 (row_sP v)
        refine ⟨U', st (one (fun z => by rw [e] at z; cases z) (fun c hc' => ?_)) k1, k2, ?_⟩
        · rw [e] at hc'
          obtain rfl : b = c := Option.some.inj hc'
          rfl
        · rw [← eb] at k3; exact k3
    · have q2 : (2 ^ h * s).testBit a = false := by rw [tba]; exact Bool.eq_false_iff.mpr q
      rw [gst_no q2] at gn ⊢
      obtain ⟨U', k1, k2, k3⟩ := ih (a + 1) (by omega) (by omega) s P U f gn v
      refine ⟨U', Cp_pairTail_r55 ⟨fun z => absurd z (by rw [c6]; omega), fun _ => ?_⟩, k2, k3⟩
      have ne : clr s (a - h) = s := by
        rcases Nat.decEq (clr s (a - h)) s with z | z
        · exact absurd (clr_ne.mp z) q
        · exact z
      rw [c7, eqI_o ej, and_clr (by omega) (by omega), ne, w32_succ (i := a) (by omega)]
      exact ⟨fun _ => k1, fun z => absurd rfl z⟩
theorem ct_pairTail {N : Nat} {X : Nat → Int} {d n h m S : Nat} {W U : am_U} {E : Nat → Nat} {P : Nat → Option Nat} (hc : cpX U W n h m E) (hg : gI n h S P) (hv : ∀ i, i < 16 → U 55 i = vP 20 (P i)) : ∃ U', EvK N X (Cp_pairTail_s0 (d + 1) U) (rV U') ∧ fP U U' ∧ ∀ i, i < 16 → U' 55 i = vP 20 ((gq (alW W n) E n m h S P).2 i) := by
  obtain ⟨c1, c2, c3, c4, c5, c6, c7, c8, c9⟩ := hc
  have hc : cpX U W n h m E := ⟨c1, c2, c3, c4, c5, c6, c7, c8, c9⟩
  have p12 : 2 ^ m ≤ 4096 := Nat.le_trans (Nat.pow_le_pow_right (by decide) c4) (by decide)
  have ez := low_zero hg.2.1
  have hsm : S / 2 ^ h < 2 ^ m := by
    rw [Nat.div_lt_iff_lt_mul (Nat.pow_pos (by decide)), ← Nat.pow_add, show m + h = n by omega]; exact hg.1
  have tbs : ∀ i, i < m → ((S / 2 ^ h).testBit i = true ↔ P (h + i) = none) := fun i hi => by
    rw [← hg.2.2.1 (h + i) (by omega) (by omega)]
    have := sh_tb h (S / 2 ^ h) (h + i)
    rw [← ez, decide_eq_true (Nat.le_add_right h i), Bool.true_and, Nat.add_sub_cancel_left] at this
    rw [this]
  have gS : gI n h (2 ^ h * (S / 2 ^ h)) P := by rw [← ez]; exact hg
  obtain ⟨U', k1, k2, k3⟩ := pairTail_l (N := N) (X := X) (d := d) hc m h (by omega) (Nat.le_refl h) (S / 2 ^ h) P U (fun _ _ => rfl) gS hv
  rw [← ez] at k3
  refine ⟨U', Cp_pairTail_r0 ?_, k2, k3⟩
  have loop : ∀ t j : Nat, j + t = m → ∀ F : Int, in32 F → (∀ i, i < 32 → tb F i = (decide (i < j) && (S / 2 ^ h).testBit i)) → EvK N X (Cp_pairTail_s7 (d + 1) F ((h + j : Nat) : Int) U) (rV U') := by
    intro t
    induction t with
    | zero =>
      intro j hj F f1 f2
      obtain rfl : j = m := by omega
      refine Cp_pairTail_r7 ⟨fun _ => ?_, fun z => absurd z (by rw [c6]; omega)⟩
      have eF : F = ((S / 2 ^ h : Nat) : Int) := tb_ext f1 (nat_in (by omega)) (fun i hi => by
        rw [f2 i hi, tb_nat (by omega) hi]
        by_cases c : i < j
        · rw [decide_eq_true c, Bool.true_and]
        · rw [decide_eq_false c, Bool.false_and, tb_out hsm (by omega)])
      rw [eF, c7]
      exact k1
    | succ t ih =>
      intro j hj F f1 f2
      refine Cp_pairTail_r7 ⟨fun z => absurd z (by rw [c6]; omega), fun _ => ⟨by omega, ?_⟩⟩
      rw [Int.toNat_natCast, hv (h + j) (by omega), c7, w32_eq (x := ((h + j : Nat) : Int) - ((h : Nat) : Int)) (by omega) (by omega), show ((h + j : Nat) : Int) - ((h : Nat) : Int) = ((j : Nat) : Int) by omega, w32_succ (i := h + j) (by omega)]
      have step : ∀ y : Int, (∀ i, i < 32 → tb y i = (decide (i = j) && (S / 2 ^ h).testBit i)) → EvK N X (Cp_pairTail_s7 (d + 1) (am_or F y) ((h + j + 1 : Nat) : Int) U) (rV U') := fun y hy => ih (j + 1) (by omega) _ (or_in _ _) (fun i hi => by
        rw [tb_or, f2 i hi, hy i hi, ← Bool.and_or_distrib_right]
        congr 1
        by_cases c : i = j
        · rw [decide_eq_true c, Bool.or_true, decide_eq_true (by omega)]
        · rw [decide_eq_false c, Bool.or_false]; exact decide_eq_decide.mpr (by omega))
      have tj := tbs j (by omega)
      cases e : P (h + j) with
      | none =>
        rw [e] at tj
        refine ⟨fun z => absurd rfl z, fun _ => step _ (fun i hi => ?_)⟩
        rw [tb_bit (by omega) hi]
        by_cases c : i = j
        · rw [decide_eq_true c, c, tj.mpr rfl]; rfl
        · rw [decide_eq_false c]; rfl
      | some b =>
        rw [e] at tj
        have bn := hg.2.2.2 (h + j) b e
        refine ⟨fun _ => step _ (fun i hi => ?_), fun z => absurd z (by show ¬ ((b : Nat) : Int) = 20; omega)⟩
        rw [tb_0]
        by_cases c : i = j
        · have : (S / 2 ^ h).testBit j = false := Bool.eq_false_iff.mpr (fun z => by have := tj.mp z; cases this)
          rw [c, this, Bool.and_false]
        · rw [decide_eq_false c, Bool.false_and]
  have := loop m 0 (by omega) 0 (by unfold in32; omega) (fun i hi => by rw [tb_0, decide_eq_false (by omega), Bool.false_and])
  rw [c7]
  exact this
/-- what may change in the search -/
def fW (U U' : am_U) : Prop := ∀ r j, r ≠ 44 → r ≠ 46 → (r = 45 → j ≠ 3) → (r = 52 → j ≠ 6 ∧ j ≠ 7 ∧ j ≠ 8) → r ≠ 53 → r ≠ 54 → r ≠ 55 → U' r j = U r j
theorem fW_trans {U U1 U2 : am_U} (h1 : fW U U1) (h2 : fW U1 U2) : fW U U2 := fun r j a b c e f g i => by rw [h2 r j a b c e f g i, h1 r j a b c e f g i]
theorem agrC_fW {U U' : am_U} (h : fW U U') : agrC U U' := fun r j e => h r j (fun q => by subst q; simp [scrC, scr] at e) (fun q => by subst q; simp [scrC, scr] at e) (fun q _ => by subst q; simp [scrC] at e) (fun q => by subst q; simp [scrC] at e) (fun q => by subst q; simp [scrC] at e) (fun q => by subst q; simp [scrC] at e) (fun q => by subst q; simp [scrC] at e)
theorem alW_cg {U U' : am_U} (h : agrC U U') (n : Nat) : alW U' n = alW U n := by
  funext x y
  have s := stq_agrC h
  have e18 : U' 18 = U 18 := agrC_row h (fun _ => rfl)
  unfold alW wdP
  rw [propext (wdT_cg s e18 n x y), propext (wdT_cg s e18 n y x)]
def cplR (V : am_U) (n : Nat) : Prop := V 52 8 = 1 ∧ ∃ E, isM (alW V n) n E (2 ^ n) ∧ V 52 7 = (E (2 ^ n - 1) : Nat) ∧ ∀ i, i < n → V 55 i = vP 20 ((gq (alW V n) E n n 0 (2 ^ n - 1) (fun _ => none)).2 i)
def iCpl (V : am_U) (n : Nat) : Prop := V 131 0 = 0 ∧ (V 52 8 = 0 ∨ cplR V n)
theorem ct_Cp_look {N : Nat} {X : Nat → Int} {d : Nat} {U : am_U} {b ns nh nl nw nd cl n : Nat} (ht : iTown U b ns nh nl nw nd cl) (hf : iFolk U n nh) (hk : iCpl U n) : ∃ U', EvK N X (Cp_look_s0 (d + 7) U) (rV U') ∧ fW U U' ∧ cplR U' n := by
  have hn := hf.1.2.2
  rcases hk.2 with h0 | h1
  · have p16 := pow16 hn
    have pp : 0 < 2 ^ n := Nat.pow_pos (by decide)
    obtain ⟨E, hE⟩ := isM_ex (alW U n) n
    -- who may
    have f0 : fW U (am_upd U 52 8 1) := fun r j _ _ _ q _ _ _ => by
      by_cases c : r = 52
      · subst c; rw [upd_ne (q rfl).2.2]
      · rw [upd_row c]
    have g0 := agrC_fW f0
    obtain ⟨U1, a1, a2, a3⟩ := ct_findAllowed (N := N) (X := X) (d := d + 2) (iTown_agrC g0 ht) (iFolk_agrC g0 hf)
    have f1 : fW U U1 := fW_trans f0 (fun r j _ q2 q3 _ q5 _ _ => a2 r j q5 q2 q3)
    have e16 : U1 16 0 = (n : Nat) := by rw [f1 16 0 (by decide) (by decide) (by decide) (by decide) (by decide) (by decide) (by decide)]; exact hf.1.1
    have e8 : U1 52 8 = 1 := by rw [a2 52 8 (by decide) (by decide) (by decide)]; exact upd_at _ _ _ _
    obtain ⟨h, m, hh, hnm, hm, hhd⟩ : ∃ h m : Nat, h ≤ 4 ∧ n = h + m ∧ m ≤ 12 ∧ eqI (if 0 < (w32 ((U1 16 0) - 12)) then (w32 ((U1 16 0) - 12)) else 0) ((h : Nat) : Int) := by
      unfold eqI
      rw [e16, w32_eq (by omega) (by omega)]
      by_cases c : n ≤ 12
      · exact ⟨0, n, by omega, by omega, c, by rw [if_neg (by omega)]; rfl⟩
      · exact ⟨n - 12, 12, by omega, by omega, by omega, by rw [if_pos (by omega)]; omega⟩
    have al1 : alRows U1 U n := fun x hx i hi => by
      rw [a3 x hx i hi, ← alW_cg g0]; rfl
    -- the table
    obtain ⟨U2, b1, b2, b3⟩ := ct_fillTable (N := N) (X := X) (d := d + 5) (U := am_upd U1 52 6 (h : Nat)) hn hh hnm hm hE (by rw [upd_row (by decide)]; exact e16) (upd_at _ _ _ _) (fun x hx i hi => by rw [upd_row (by decide)]; exact al1 x hx i hi)
    have r2 : ∀ r, r ≠ 44 → r ≠ 52 → U2 r = U1 r := fun r q1 q2 => by rw [b2 r q1, upd_row q2]
    have r2j : ∀ j, j ≠ 6 → U2 52 j = U1 52 j := fun j q => by rw [b2 52 (by decide), upd_ne q]
    have r26 : U2 52 6 = (h : Nat) := by rw [b2 52 (by decide), upd_at]
    -- nobody has anybody
    have r3 : ∀ r, r ≠ 44 → r ≠ 52 → r ≠ 54 → fil (am_upd U2 52 7 (-1)) 54 16 20 r = U1 r := fun r q1 q2 q3 => by rw [fil_row q3, upd_row q2, r2 r q1 q2]
    have c3 : cpX (fil (am_upd U2 52 7 (-1)) 54 16 20) U n h m E := by
      refine ⟨hn, hh, hnm, hm, hE, ?_, ?_, fun x hx i hi => ?_, fun s hs => ?_⟩
      · rw [r3 16 (by decide) (by decide) (by decide)]; exact e16
      · rw [fil_row (by decide), upd_ne (by decide)]; exact r26
      · rw [r3 53 (by decide) (by decide) (by decide)]; exact al1 x hx i hi
      · rw [fil_row (by decide), upd_row (by decide)]; exact b3 s hs
    have e7 : fil (am_upd U2 52 7 (-1)) 54 16 20 52 7 = -1 := by rw [fil_row (by decide), upd_at]
    obtain ⟨U4, k1, k2, k3, k4⟩ := ct_pairHead (N := N) (X := X) (d := d + (4 - h)) (n := n) (h := h) (m := m) (W := U) (E := E) h 0 (by omega) (2 ^ n - 1) 0 (fun _ => none) (fil (am_upd U2 52 7 (-1)) 54 16 20) c3 (gI_all n) (Nat.le_refl 0) (by rw [e7]; decide) (by rw [e7]; decide) (fun i hi => by rw [fil_in hi]; rfl)
    rw [show d + (4 - h) + h + 2 = d + 6 by omega] at k1
    unfold pH at k4
    rw [e7] at k4
    rcases k4 with ⟨y1, y2, y3⟩ | ⟨y1, _⟩
    · have gh := gI_gq (al := alW U n) (E := E) h 0 (2 ^ n - 1) (fun _ => none) (by omega) (gI_all n)
      rw [Nat.zero_add] at gh
      obtain ⟨U5, l1, l2, l3⟩ := ct_pairTail (N := N) (X := X) (d := d + 5) (cpX_fH k2 c3) gh y3
      have fz : fW U U5 := fW_trans f1 (fun r j q1 q2 q3 q4 q5 q6 q7 => by
        rw [l2 r q7, k2 r j q6 q7 (fun z => (q4 z.1).2.1 z.2)]
        by_cases c : r = 52
        · subst c
          rw [fil_row (by decide), upd_ne (q4 rfl).2.1, r2j j (q4 rfl).1]
        · rw [r3 r q1 c q6])
      refine ⟨U5, Cp_look_r0 ⟨fun _ => ⟨U1, a1, U2, ?_, _, ct_fill_54, U4, ?_, U5, l1, rfl⟩, fun z => absurd h0 z⟩, fz, ?_, E, ?_, ?_, fun i hi => ?_⟩
      · rw [eqI_o hhd]; exact b1
      · rw [r3 16 (by decide) (by decide) (by decide), e16, shl1 (n := n) (by omega), w32_eq (by omega) (by omega), show ((2 ^ n : Nat) : Int) - 1 = ((2 ^ n - 1 : Nat) : Int) by omega]
        exact k1
      · rw [l2 52 (by decide), k2 52 8 (by decide) (by decide) (by decide), fil_row (by decide), upd_ne (by decide), r2j 8 (by decide)]; exact e8
      · rw [alW_cg (agrC_fW fz)]; exact hE
      · rw [l2 52 (by decide), y2, Nat.zero_add]
      · have ga := gq_add (alW U n) E n h m 0 (2 ^ n - 1) (fun _ => none)
        rw [Nat.zero_add, ← hnm] at ga
        rw [l3 i (by omega), alW_cg (agrC_fW fz), ga]
    · exact absurd y1 (by omega)
  · exact ⟨U, Cp_look_r0 ⟨fun z => absurd z (by rw [h1.1]; decide), fun _ => rfl⟩, fun _ _ _ _ _ _ _ _ _ => rfl, h1⟩
theorem pair_weds {N : Nat} {X : Nat → Int} {d : Nat} {U : am_U} {b ns nh nl nw nd cl n : Nat} (ht : iTown U b ns nh nl nw nd cl) (hf : iFolk U n nh) (hk : iCpl U n) (x : Int) (hx : -2147483648 ≤ x ∧ x < 2147483648) : ask3 N X (fun V => iCpl V n ∧ fW U V) (D_weds_s0 (d + 9) x) (M_weds_s0 (d + 9) x) U := by
  have hn := hf.1.2.2
  have p16 := pow16 hn
  have pp : 0 < 2 ^ n := Nat.pow_pos (by decide)
  by_cases hx1 : x = -1 ∨ (0 ≤ x ∧ x < (n : Nat))
  · obtain ⟨U1, a1, a2, a3⟩ := ct_Cp_look (N := N) (X := X) (d := d) ht hf hk
    have g1 := agrC_fW a2
    have ht1 := iTown_agrC g1 ht
    have hf1 := iFolk_agrC g1 hf
    have h0 : U1 131 0 = 0 := by rw [a2 131 0 (by decide) (by decide) (by decide) (by decide) (by decide) (by decide) (by decide)]; exact hk.1
    obtain ⟨b1, E, b2, b3, b4⟩ := a3
    obtain ⟨U2, c1, c2, c3, c4, c5⟩ := ct_M_couples (N := N) (X := X) (d := d + 2) ht1 hf1 b2 h0
    have ag : agr U1 U2 := agr_fM c2 (by rw [c3, h0])
    have e16 : U 16 0 = (n : Nat) := hf.1.1
    have e122 : U2 122 0 = (n : Nat) := by rw [ag 122 0 rfl]; exact hf1.1.2.1
    have e122' : U1 122 0 = (n : Nat) := hf1.1.2.1
    rcases hx1 with rfl | hxp
    · refine ⟨((E (2 ^ n - 1) : Nat) : Int), U1, D_weds_r0 ⟨_, U1, Cp_tellOf_r0 ⟨fun _ => ⟨U1, a1, by rw [b3]⟩, fun z => absurd rfl z⟩, rfl⟩, g1, ⟨⟨h0, Or.inr ⟨b1, E, b2, b3, b4⟩⟩, a2⟩, U2, M_weds_r0 ⟨fun _ => ⟨U2, c1, ?_⟩, fun z => absurd rfl z⟩, ag⟩
      rw [e122, shl1 (n := n) (by omega), w32_eq (by omega) (by omega), show ((2 ^ n : Nat) : Int) - 1 = ((2 ^ n - 1 : Nat) : Int) by omega, Int.toNat_natCast]
      exact ⟨by omega, by rw [c4]⟩
    · obtain ⟨p, rfl⟩ : ∃ p : Nat, x = (p : Nat) := ⟨x.toNat, by omega⟩
      have hp : p < n := by omega
      have q1 := b4 p hp
      have q2 := c5 p hp
      have gq4 := (gI_gq (al := alW U1 n) (E := E) n 0 (2 ^ n - 1) (fun _ => none) (by omega) (gI_all n)).2.2.2 p
      refine ⟨U1 55 p, U1, D_weds_r0 ⟨_, U1, Cp_tellOf_r0 ⟨fun z => absurd z (by omega), fun _ => ⟨fun z => absurd z (by omega), fun _ => ⟨fun _ => ⟨U1, a1, by omega, by rw [Int.toNat_natCast]⟩, fun z => absurd z (by rw [e16]; omega)⟩⟩⟩, rfl⟩, g1, ⟨⟨h0, Or.inr ⟨b1, E, b2, b3, b4⟩⟩, a2⟩, U2, M_weds_r0 ⟨fun z => absurd z (by omega), fun _ => ⟨1, U1, ?_, fun _ => ⟨U2, c1, by omega, ?_⟩, fun z => absurd z (by decide)⟩⟩, ag⟩
      · have := ct_M_isPerson (N := N) (X := X) (d := d + 8) (U := U1) ((p : Nat) : Int)
        rw [b2i_t (by rw [e122']; omega)] at this; exact this
      · rw [Int.toNat_natCast, q1, q2]
        cases e : (gq (alW U1 n) E n n 0 (2 ^ n - 1) (fun _ => none)).2 p with
        | none => exact ⟨fun z => absurd rfl z, fun _ => rfl⟩
        | some c => exact ⟨fun _ => rfl, fun z => absurd z (by show ¬ ((c : Nat) : Int) = -1; omega)⟩
  · have e16 : U 16 0 = (n : Nat) := hf.1.1
    have e122 : U 122 0 = (n : Nat) := hf.1.2.1
    refine ⟨-1, U, D_weds_r0 ⟨_, U, Cp_tellOf_r0 ⟨fun z => absurd (Or.inl z) hx1, fun _ => ⟨fun _ => rfl, fun z => ⟨fun w => absurd (Or.inr ⟨z, by rw [← e16]; exact w⟩) hx1, fun _ => rfl⟩⟩⟩, rfl⟩, agrC_refl U, ⟨hk, fun _ _ _ _ _ _ _ _ _ => rfl⟩, U, M_weds_r0 ⟨fun z => absurd (Or.inl z) hx1, fun _ => ⟨0, U, ?_, fun z => absurd rfl z, fun _ => rfl⟩⟩, agr_refl U⟩
    have := ct_M_isPerson (N := N) (X := X) (d := d + 8) (U := U) x
    rw [b2i_f (by rw [e122]; exact fun z => hx1 (Or.inr z))] at this; exact this
