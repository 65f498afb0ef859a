/-! a way is kept when it is better and lawful -/
theorem ct_isLawful {N : Nat} {X : Nat → Int} {d : Nat} {U W : am_U} {b ns nh nl nw nd cl n m : Nat} {hm : Nat → Int} {as : Nat → Nat} {wm : Int} (hc : jCtx U b ns nh nl nw nd cl n) (hy : plY U hm n m as wm) (ht : tryOk n hm (U 18)) (hh : ∀ p, p < n → -1 ≤ hm p ∧ hm p < (nh : Nat)) (hs : stq W U) (hmd : mdOk U W b nl nw n nh hm) : ∃ U', EvK N X (Pl_isLawful_s0 (d + 6) U) (rI (cb (lawP W b nl nw n (U 18))) U') ∧ fL U U' ∧ mdOk U' W b nl nw n nh hm := by
  have hn := hc.2.2.1
  have hnh := hc.1.2.2.1.2.2.1
  have h31 := hc.1.2.2.1.1
  have hm3 := hy.1
  have iff := law_iff (U := W) (b := b) (nl := nl) (nw := nw) hn hy.2.1 ht hh
  -- those past the bridge
  have two : (∀ g, g < nh → ¬ torn W b nl nw n hm g (cmW n hm (U 18) g)) → ∀ k i : Nat, i + k = m → ∀ V, fL U V → mdOk V W b nl nw n nh hm → (∀ j, j < i → ¬ inBS W b nl nw n (U 18) (as j)) → ∃ U', EvK N X (Pl_isLawful_s31 (d + 6) (i : Nat) V) (rI (cb (lawP W b nl nw n (U 18))) U') ∧ fL U U' ∧ mdOk U' W b nl nw n nh hm := by
    intro ht1 k
    induction k with
    | zero =>
      intro i hi V v1 v2 v3
      obtain rfl : i = m := by omega
      have e6 := (plY_fL v1 hy).2.2.1
      refine ⟨V, Pl_isLawful_r31 ⟨fun _ => ?_, fun z => absurd z (by rw [e6]; omega)⟩, v1, v2⟩
      rw [cb_t (iff.mpr ⟨ht1, v3⟩)]
    | succ k ih =>
      intro i hi V v1 v2 v3
      have hyV := plY_fL v1 hy
      obtain ⟨a1, a2, a3⟩ := hy.2.1.2 i (by omega)
      have gC := agrC_fL v1
      have hcV := jCtx_agrC gC hc
      have e18 : V 18 = U 18 := fL_row v1 (by decide) (by decide) (by decide)
      obtain ⟨V1, k1, k2⟩ := ct_isInBreach (N := N) (X := X) (d := d) hcV a1
      have key : inB V b nl nw n (as i) ↔ inBS W b nl nw n (U 18) (as i) := by
        rw [inB_S hcV a1, e18, inBS_cg (stq_trans hs (stq_agrC gC))]
      rw [propext key] at k1
      have f1 : fL U V1 := fL_trans v1 (fun r j q1 q2 _ => k2 r j q1 q2)
      have m1 : mdOk V1 W b nl nw n nh hm := fun g hg c hc' => by rw [k2 51 _ (by decide) (by omega)]; exact v2 g hg c hc'
      have st : ∀ {R}, ((cb (inBS W b nl nw n (U 18) (as i)) = 0) → EvK N X (Pl_isLawful_s31 (d + 6) ((i + 1 : Nat) : Int) V1) R) ∧ ((cb (inBS W b nl nw n (U 18) (as i)) ≠ 0) → R = rI 0 V1) → EvK N X (Pl_isLawful_s31 (d + 6) (i : Nat) V) R := fun {R} q => by
        refine Pl_isLawful_r31 ⟨fun z => absurd z (by rw [hyV.2.2.1]; omega), fun _ => ⟨by omega, cb (inBS W b nl nw n (U 18) (as i)), V1, ?_, ?_⟩⟩
        · rw [Int.toNat_natCast, hyV.2.2.2.2.2 i (by omega)]; exact k1
        · rw [w32_succ (i := i) (by omega)]; exact q
      by_cases c : inBS W b nl nw n (U 18) (as i)
      · refine ⟨V1, st ⟨fun z => absurd c (cb_eq.mp z), fun _ => ?_⟩, f1, m1⟩
        rw [cb_f (fun z => (iff.mp z).2 i (by omega) c)]
      · obtain ⟨U', l1, l2⟩ := ih (i + 1) (by omega) V1 f1 m1 (fun j hj => by
          by_cases e : j = i
          · rw [e]; exact c
          · exact v3 j (by omega))
        exact ⟨U', st ⟨fun _ => l1, fun z => absurd (cb_ne.mp z) c⟩, l2⟩
  have one : ∀ k g : Nat, g + k = nh → ∀ V, fL U V → mdOk V W b nl nw n nh hm → (∀ j, j < g → ¬ torn W b nl nw n hm j (cmW n hm (U 18) j)) → ∃ U', EvK N X (Pl_isLawful_s2 (d + 6) (g : Nat) V) (rI (cb (lawP W b nl nw n (U 18))) U') ∧ fL U U' ∧ mdOk U' W b nl nw n nh hm := by
    intro k
    induction k with
    | zero =>
      intro g hg V v1 v2 v3
      obtain rfl : g = nh := by omega
      have e3 : V 3 1 = (g : Nat) := by rw [fL_row v1 (by decide) (by decide) (by decide)]; exact h31
      obtain ⟨U', k1, k2⟩ := two v3 m 0 (by omega) V v1 v2 (fun j hj => absurd hj (Nat.not_lt_zero j))
      exact ⟨U', Pl_isLawful_r2 ⟨fun _ => k1, fun z => absurd z (by rw [e3]; omega)⟩, k2⟩
    | succ k ih =>
      intro g hg V v1 v2 v3
      have e3 : V 3 1 = (nh : Nat) := by rw [fL_row v1 (by decide) (by decide) (by decide)]; exact h31
      have gC := agrC_fL v1
      have e18 : V 18 = U 18 := fL_row v1 (by decide) (by decide) (by decide)
      obtain ⟨V1, k1, k2, k3⟩ := ct_isTorn (N := N) (X := X) (d := d) (W := W) (jCtx_agrC gC hc) (plY_fL v1 hy) (by rw [e18]; exact ht) (stq_trans hs (stq_agrC gC)) v2 (show g < nh by omega)
      rw [e18] at k1
      by_cases c : torn W b nl nw n hm g (cmW n hm (U 18) g)
      · refine ⟨V1, Pl_isLawful_r2 ⟨fun z => absurd z (by rw [e3]; omega), fun _ => ⟨_, V1, k1, fun z => absurd c (cb_eq.mp z), fun _ => ?_⟩⟩, fL_trans v1 k2, k3⟩
        rw [cb_f (fun z => (iff.mp z).1 g (by omega) c)]
      · obtain ⟨U', l1, l2⟩ := ih (g + 1) (by omega) V1 (fL_trans v1 k2) k3 (fun j hj => by
          by_cases e : j = g
          · rw [e]; exact c
          · exact v3 j (by omega))
        refine ⟨U', Pl_isLawful_r2 ⟨fun z => absurd z (by rw [e3]; omega), fun _ => ⟨_, V1, k1, fun _ => ?_, fun z => absurd (cb_ne.mp z) c⟩⟩, l2⟩
        rw [w32_succ (i := g) (by omega)]; exact l1
  obtain ⟨U', k1, k2⟩ := one nh 0 (by omega) U (fun _ _ _ _ _ => rfl) hmd (fun j hj => absurd hj (Nat.not_lt_zero j))
  exact ⟨U', Pl_isLawful_r0 k1, k2⟩
theorem ct_Pl_keep {N : Nat} {X : Nat → Int} {d : Nat} {U : am_U} {n m : Nat} {hm : Nat → Int} {as : Nat → Nat} {wm x : Int} (hn : n ≤ 16) (hy : plY U hm n m as wm) : ∃ U', EvK N X (Pl_keep_s0 d x U) (rV U') ∧ (∀ r j, r ≠ 50 → ¬ (r = 48 ∧ j = 8) → U' r j = U r j) ∧ U' 48 8 = x ∧ ∀ i, i < m → U' 50 i = U 18 (as i) := by
  have hm3 := hy.1
  have loop : ∀ k i : Nat, i + k = m → ∀ V, (∀ r j, r ≠ 50 → ¬ (r = 48 ∧ j = 8) → V r j = U r j) → V 48 8 = x → (∀ j, j < i → V 50 j = U 18 (as j)) → ∃ U', EvK N X (Pl_keep_s7 d x (i : Nat) V) (rV U') ∧ (∀ r j, r ≠ 50 → ¬ (r = 48 ∧ j = 8) → U' r j = U r j) ∧ U' 48 8 = x ∧ ∀ i, i < m → U' 50 i = U 18 (as i) := by
    intro k
    induction k with
    | zero =>
      intro i hi V v1 v2 v3
      obtain rfl : i = m := by omega
      have e6 : V 48 6 = (i : Nat) := by rw [v1 48 6 (by decide) (by decide)]; exact hy.2.2.1
      exact ⟨V, Pl_keep_r7 ⟨fun _ => rfl, fun z => absurd z (by rw [e6]; omega)⟩, v1, v2, v3⟩
    | succ k ih =>
      intro i hi V v1 v2 v3
      have e6 : V 48 6 = (m : Nat) := by rw [v1 48 6 (by decide) (by decide)]; exact hy.2.2.1
      have e49 : V 49 i = (as i : Nat) := by rw [v1 49 i (by decide) (by omega)]; exact hy.2.2.2.2.2 i (by omega)
      have e18 : V 18 (as i) = U 18 (as i) := v1 18 _ (by decide) (by omega)
      have a1 := (hy.2.1.2 i (by omega)).1
      obtain ⟨U', k1, k2⟩ := ih (i + 1) (by omega) (am_upd V 50 i (U 18 (as i))) (fun r j q1 q2 => by rw [upd_row q1]; exact v1 r j q1 q2) (by rw [upd_row (by decide)]; exact v2) (fun j hj => by
        rw [upd_if]
        by_cases c : j = i
        · rw [if_pos c, c]
        · rw [if_neg c]; exact v3 j (by omega))
      refine ⟨U', Pl_keep_r7 ⟨fun z => absurd z (by rw [e6]; omega), fun _ => ⟨by omega, ?_⟩⟩, k2⟩
      rw [Int.toNat_natCast, e49, Int.toNat_natCast, e18, w32_succ (i := i) (by omega)]
      exact ⟨fun _ => ⟨by omega, k1⟩, fun z => absurd z (by omega)⟩
  obtain ⟨U', k1, k2⟩ := loop m 0 (by omega) (am_upd U 48 8 x) (fun r j q1 q2 => by
    by_cases c : r = 48
    · subst c; rw [upd_ne (fun e => q2 ⟨rfl, e⟩)]
    · rw [upd_row c]) (upd_at _ _ _ _) (fun j hj => absurd hj (Nat.not_lt_zero j))
  exact ⟨U', Pl_keep_r0 k1, k2⟩
/-- which ways are good ones -/
def okPl (U : am_U) (b nl nw n nh m : Nat) (hm : Nat → Int) (w : Nat) : Prop := rmOk (U 8) n nh (hJ n nh m hm w 0) ∧ lawP U b nl nw n (hJ n nh m hm w 0)
noncomputable def bsP (U : am_U) (b nl nw n nh m : Nat) (hm : Nat → Int) (w : Nat) : Int × Nat := bsW (fun w => plJ nh m w 0) (okPl U b nl nw n nh m hm) w
/-- what the search may change -/
def fPl (U U' : am_U) : Prop := ∀ r j, r ≠ 46 → (r = 45 → j ≠ 3) → r ≠ 50 → r ≠ 51 → ¬ (r = 48 ∧ j = 8) → U' r j = U r j
theorem fPl_trans {U U1 U2 : am_U} (h1 : fPl U U1) (h2 : fPl U1 U2) : fPl U U2 := fun r j a b c e f => by rw [h2 r j a b c e f, h1 r j a b c e f]
theorem agrC_fPl {U U' : am_U} (h : fPl U U') : agrC U U' := fun r j e => h r j (fun q => by subst q; simp [scrC, scr] at e) (fun q _ => by subst q; simp [scrC] at e) (fun q => by subst q; simp [scrC] at e) (fun q => by subst q; simp [scrC] at e) (fun q => by obtain ⟨rfl, rfl⟩ := q; simp [scrC] at e)
theorem fPl_row {U U' : am_U} (h : fPl U U') {r : Nat} (h1 : r ≠ 46) (h2 : r ≠ 45) (h3 : r ≠ 50) (h4 : r ≠ 51) (h5 : r ≠ 48) : U' r = U r := funext fun j => h r j h1 (fun e => absurd e h2) h3 h4 (fun e => absurd e.1 h5)
theorem plY_fPl {U U' : am_U} {hm : Nat → Int} {n m : Nat} {as : Nat → Nat} {wm : Int} (h : fPl U U') (hy : plY U hm n m as wm) : plY U' hm n m as wm := plY_cg (h 48 6 (by decide) (by decide) (by decide) (by decide) (by decide)) (h 48 7 (by decide) (by decide) (by decide) (by decide) (by decide)) (fPl_row h (by decide) (by decide) (by decide) (by decide) (by decide)) hy
/-- what stands after w ways -/
def plS (V W : am_U) (b nl nw n nh m : Nat) (hm : Nat → Int) (as : Nat → Nat) (w : Nat) : Prop := V 48 8 = (bsP W b nl nw n nh m hm w).1 ∧ (0 ≤ (bsP W b nl nw n nh m hm w).1 → ∀ i, i < m → V 50 i = hJ n nh m hm (bsP W b nl nw n nh m hm w).2 0 (as i))
theorem plWay {N : Nat} {X : Nat → Int} {d : Nat} {V W : am_U} {b ns nh nl nw nd cl n m w ways : Nat} {as : Nat → Nat} {wm : Int} (hc : jCtx W b ns nh nl nw nd cl n) (hy : plY W (W 18) n m as wm) (hw : w < 100000) (hlt : w < ways) (hways : ways < 100000) (f : fPl W V) (hmd : mdOk V W b nl nw n nh (W 18)) (hS : plS V W b nl nw n nh m (W 18) as w) (hb : V 48 8 < (m : Nat)) : ∃ V', fPl W V' ∧ mdOk V' W b nl nw n nh (W 18) ∧ plS V' W b nl nw n nh m (W 18) as (w + 1) ∧ ∀ R, EvK N X (Pl_look_s103 (d + 7) (ways : Nat) ((w + 1 : Nat) : Int) V') R → EvK N X (Pl_look_s103 (d + 7) (ways : Nat) (w : Nat) V) R := by
  have hn := hc.2.2.1
  have hnh := hc.1.2.2.1.2.2.1
  have hcV := jCtx_agrC (agrC_fPl f) hc
  have hyV := plY_fPl f hy
  have e18 : V 18 = W 18 := fPl_row f (by decide) (by decide) (by decide) (by decide) (by decide)
  have e19 : V 19 = W 19 := fPl_row f (by decide) (by decide) (by decide) (by decide) (by decide)
  have e17 : V 17 = W 17 := fPl_row f (by decide) (by decide) (by decide) (by decide) (by decide)
  have e8 : V 8 = W 8 := fPl_row f (by decide) (by decide) (by decide) (by decide) (by decide)
  have bin := bsW_in (pl := fun w => plJ nh m w 0) (ok := okPl W b nl nw n nh m (W 18)) (m := m) (fun w => plJ_le nh m w 0) w
  obtain ⟨r, U1, j', a1, a2, a3, a4, a5, a6, a7⟩ := ct_settleAll (N := N) (X := X) (d := d + 4) (w := w) hcV (by rw [e18]; exact hyV) hw
  rw [e18, e8] at a7
  rw [e17, e8] at a6
  rw [e18] at a3
  have hy1 : plY U1 (W 18) n m as wm := plY_cg (by rw [a2 48 (by decide) (by decide)]) (by rw [a2 48 (by decide) (by decide)]) (a2 49 (by decide) (by decide)) hyV
  have ht1 : tryOk n (W 18) (U1 18) := by rw [a3]; exact tryOk_hJ n nh m (W 18) w j'
  have hdw0 : DwOk n (W 18) (W 19) := hc.2.2.2.2
  have r1 : ∀ p, p < n → -1 ≤ U1 18 p ∧ U1 18 p < 12 := fun p hp => by have := (a6.1 p hp).2.2; omega
  have e8b : U1 48 8 = V 48 8 := by rw [a2 48 (by decide) (by decide)]
  have st : ∀ {R}, ((r ≤ U1 48 8) → ∃ U2 : am_U, EvK N X (Pl_sendBack_s0 (d + 6) U1) (rV U2) ∧ EvK N X (Pl_look_s103 (d + 7) (ways : Nat) ((w + 1 : Nat) : Int) U2) R) ∧ (((U1 48 8) < r) → ∃ (r3 : Int) (U3 : am_U), EvK N X (Pl_isLawful_s0 (d + 6) U1) (rI r3 U3) ∧ ((r3 = 0) → ∃ U4 : am_U, EvK N X (Pl_sendBack_s0 (d + 6) U3) (rV U4) ∧ EvK N X (Pl_look_s103 (d + 7) (ways : Nat) ((w + 1 : Nat) : Int) U4) R) ∧ ((r3 ≠ 0) → ∃ U5 : am_U, EvK N X (Pl_keep_s0 (d + 6) r U3) (rV U5) ∧ ∃ U6 : am_U, EvK N X (Pl_sendBack_s0 (d + 6) U5) (rV U6) ∧ EvK N X (Pl_look_s103 (d + 7) (ways : Nat) ((w + 1 : Nat) : Int) U6) R)) → EvK N X (Pl_look_s103 (d + 7) (ways : Nat) (w : Nat) V) R := fun {R} q => by
    refine Pl_look_r103 ⟨fun z => absurd z (by omega), fun _ => ⟨fun z => absurd z (by rw [hyV.2.2.1]; omega), fun _ => ⟨r, U1, a1, ?_⟩⟩⟩
    rw [w32_succ (i := w) (by omega)]
    exact q
  -- the way isn't taken
  have skip : ∀ V', fPl W V' → mdOk V' W b nl nw n nh (W 18) → V' 48 8 = V 48 8 → V' 50 = V 50 → ¬ ((bsP W b nl nw n nh m (W 18) w).1 < (plJ nh m w 0 : Nat) ∧ okPl W b nl nw n nh m (W 18) w) → plS V' W b nl nw n nh m (W 18) as (w + 1) := fun V' _ _ h8 h50 hno => by
    have e : bsP W b nl nw n nh m (W 18) (w + 1) = bsP W b nl nw n nh m (W 18) w := bsW_f hno
    unfold plS
    rw [e, h8, h50]; exact hS
  by_cases c1 : r ≤ U1 48 8
  · obtain ⟨U2, k1, k2, k3, k4⟩ := ct_sendBack (N := N) (X := X) (d := d + 5) hn hdw0 hy1 ht1 r1 a4 (fun h hh => by rw [a5 h hh, e19])
    have f2 : fPl W U2 := fun r j q1 q2 q3 q4 q5 => by
      by_cases z1 : r = 18
      · rw [z1, k3]
      · by_cases z2 : r = 19
        · rw [z2, k4]
        · rw [k2 r z1 z2, a2 r z1 z2]; exact f r j q1 q2 q3 q4 q5
    have m2 : mdOk U2 W b nl nw n nh (W 18) := fun g hg c hc' => by rw [k2 51 (by decide) (by decide), a2 51 (by decide) (by decide)]; exact hmd g hg c hc'
    refine ⟨U2, f2, m2, skip U2 f2 m2 (by rw [k2 48 (by decide) (by decide), e8b]) (by rw [k2 50 (by decide) (by decide), a2 50 (by decide) (by decide)]) (fun z => ?_), fun R hR => st ⟨fun _ => ⟨U2, k1, hR⟩, fun z => absurd z (by omega)⟩⟩
    rcases a7 with ⟨b1, b2⟩ | ⟨b1, b2⟩
    · rw [e8b, hS.1, b2] at c1
      have := z.1
      omega
    · exact b2 z.2.1
  · rcases a7 with ⟨b1, b2⟩ | ⟨b1, b2⟩
    · subst b1
      have hc1 : jCtx U1 b ns nh nl nw nd cl n := by
        refine ⟨iTown_rows a2 hcV.1, ?_, hn, ?_, a4⟩
        · rw [a2 16 (by decide) (by decide)]; exact hcV.2.1
        · rw [a2 17 (by decide) (by decide), a2 8 (by decide) (by decide), e17, e8]; exact a6
      have s1' : stq W U1 := stq_trans (stq_agrC (agrC_fPl f)) (stq_rows a2)
      obtain ⟨U3, l1, l2, l3⟩ := ct_isLawful (N := N) (X := X) (d := d) (W := W) hc1 hy1 ht1 (fun p hp => (hc.2.2.2.1.1 p hp).2.2) s1' (fun g hg c hc' => by rw [a2 51 (by decide) (by decide)]; exact hmd g hg c hc')
      rw [a3] at l1
      have hy3 := plY_fL l2 hy1
      have e18b : U3 18 = U1 18 := fL_row l2 (by decide) (by decide) (by decide)
      have e19b : U3 19 = U1 19 := fL_row l2 (by decide) (by decide) (by decide)
      have rm : rmOk (W 8) n nh (hJ n nh m (W 18) w 0) := by
        have := a6.2.2
        rw [a3] at this; exact this
      by_cases c2 : lawP W b nl nw n (hJ n nh m (W 18) w 0)
      · obtain ⟨U5, p1, p2, p3, p4⟩ := ct_Pl_keep (N := N) (X := X) (d := d + 6) (x := r) hn hy3
        have hy5 : plY U5 (W 18) n m as wm := plY_cg (p2 48 6 (by decide) (by decide)) (p2 48 7 (by decide) (by decide)) (funext fun j => p2 49 j (by decide) (by omega)) hy3
        have e18c : U5 18 = U1 18 := by rw [← e18b]; exact funext fun j => p2 18 j (by decide) (by omega)
        have e19c : U5 19 = U1 19 := by rw [← e19b]; exact funext fun j => p2 19 j (by decide) (by omega)
        obtain ⟨U6, k1, k2, k3, k4⟩ := ct_sendBack (N := N) (X := X) (d := d + 5) hn hdw0 hy5 (by rw [e18c]; exact ht1) (by rw [e18c]; exact r1) (by rw [e18c, e19c]; exact a4) (fun h hh => by rw [e19c, a5 h hh, e19])
        have f2 : fPl W U6 := fun r j q1 q2 q3 q4 q5 => by
          by_cases z1 : r = 18
          · rw [z1, k3]
          · by_cases z2 : r = 19
            · rw [z2, k4]
            · rw [k2 r z1 z2, p2 r j q3 q5, l2 r j q1 q2 q4, a2 r z1 z2]; exact f r j q1 q2 q3 q4 q5
        have m2 : mdOk U6 W b nl nw n nh (W 18) := fun g hg c hc' => by rw [k2 51 (by decide) (by decide), p2 51 _ (by decide) (by omega)]; exact l3 g hg c hc'
        have e : bsP W b nl nw n nh m (W 18) (w + 1) = (((plJ nh m w 0 : Nat) : Int), w) := bsW_t ⟨by
          show (bsP W b nl nw n nh m (W 18) w).1 < _
          rw [← hS.1, ← e8b]; omega, rm, c2⟩
        refine ⟨U6, f2, m2, ?_, fun R hR => st ⟨fun z => absurd z c1, fun _ => ⟨_, U3, l1, fun z => absurd c2 (cb_eq.mp z), fun _ => ⟨U5, p1, U6, k1, hR⟩⟩⟩⟩
        unfold plS
        rw [e]
        refine ⟨?_, fun _ i hi => ?_⟩
        · show U6 48 8 = _
          rw [k2 48 (by decide) (by decide), p3, b2]
        · show U6 50 i = hJ n nh m (W 18) w 0 (as i)
          rw [k2 50 (by decide) (by decide), p4 i hi, e18b, a3]
      · obtain ⟨U4, k1, k2, k3, k4⟩ := ct_sendBack (N := N) (X := X) (d := d + 5) hn hdw0 hy3 (by rw [e18b]; exact ht1) (by rw [e18b]; exact r1) (by rw [e18b, e19b]; exact a4) (fun h hh => by rw [e19b, a5 h hh, e19])
        have f2 : fPl W U4 := fun r j q1 q2 q3 q4 q5 => by
          by_cases z1 : r = 18
          · rw [z1, k3]
          · by_cases z2 : r = 19
            · rw [z2, k4]
            · rw [k2 r z1 z2, l2 r j q1 q2 q4, a2 r z1 z2]; exact f r j q1 q2 q3 q4 q5
        have m2 : mdOk U4 W b nl nw n nh (W 18) := fun g hg c hc' => by rw [k2 51 (by decide) (by decide)]; exact l3 g hg c hc'
        refine ⟨U4, f2, m2, skip U4 f2 m2 (by rw [k2 48 (by decide) (by decide), l2 48 8 (by decide) (by decide) (by decide), e8b]) (by rw [k2 50 (by decide) (by decide), fL_row l2 (by decide) (by decide) (by decide), a2 50 (by decide) (by decide)]) (fun z => c2 z.2.2), fun R hR => st ⟨fun z => absurd z c1, fun _ => ⟨_, U3, l1, fun _ => ⟨U4, k1, hR⟩, fun z => absurd (cb_ne.mp z) c2⟩⟩⟩
    · have := hS.1
      have b1' : (bsP W b nl nw n nh m (W 18) w).1 = (bsW (fun w => plJ nh m w 0) (okPl W b nl nw n nh m (W 18)) w).1 := rfl
      omega
theorem plWays {N : Nat} {X : Nat → Int} {d : Nat} {W : am_U} {b ns nh nl nw nd cl n m ways : Nat} {as : Nat → Nat} {wm : Int} (hc : jCtx W b ns nh nl nw nd cl n) (hy : plY W (W 18) n m as wm) (hways : ways < 100000) : ∀ k w : Nat, w + k = ways → ∀ V, fPl W V → mdOk V W b nl nw n nh (W 18) → plS V W b nl nw n nh m (W 18) as w → ∃ U', EvK N X (Pl_look_s103 (d + 7) (ways : Nat) (w : Nat) V) (rV U') ∧ fPl W U' ∧ plS U' W b nl nw n nh m (W 18) as ways := by
  intro k
  induction k with
  | zero =>
    intro w hw V f hmd hS
    obtain rfl : w = ways := by omega
    exact ⟨V, Pl_look_r103 ⟨fun _ => rfl, fun z => absurd z (by omega)⟩, f, hS⟩
  | succ k ih =>
    intro w hw V f hmd hS
    have e6 := (plY_fPl f hy).2.2.1
    by_cases c : (m : Int) ≤ V 48 8
    · refine ⟨V, Pl_look_r103 ⟨fun z => absurd z (by omega), fun _ => ⟨fun _ => rfl, fun z => absurd z (by rw [e6]; omega)⟩⟩, f, ?_⟩
      have e : bsP W b nl nw n nh m (W 18) ways = bsP W b nl nw n nh m (W 18) w := by
        have := bsW_stop (pl := fun w => plJ nh m w 0) (ok := okPl W b nl nw n nh m (W 18)) (m := m) (w := w) (fun w => plJ_le nh m w 0) (by rw [hS.1] at c; exact c) (k + 1)
        rw [hw] at this; exact this
      unfold plS
      rw [e]; exact hS
    · obtain ⟨V', k1, k2, k3, k4⟩ := plWay (N := N) (X := X) (d := d) hc hy (by omega) (by omega) hways f hmd hS (by omega)
      obtain ⟨U', l1, l2⟩ := ih (w + 1) (by omega) V' k1 k2 k3
      exact ⟨U', k4 _ l1, l2⟩
