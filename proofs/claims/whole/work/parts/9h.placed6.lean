/-! both tell the same houses -/
theorem lawP_cg {U U' : am_U} (h : stq U U') (b nl nw n : Nat) (H : Nat → Int) : lawP U' b nl nw n H ↔ lawP U b nl nw n H := by
  unfold lawP
  simp only [brS_cg h]
theorem bsP_cg {U U' : am_U} (h : stq U U') (b nl nw n nh m : Nat) (hm : Nat → Int) (w : Nat) : bsP U' b nl nw n nh m hm w = bsP U b nl nw n nh m hm w := by
  have e : okPl U' b nl nw n nh m hm = okPl U b nl nw n nh m hm := funext fun w => by
    unfold okPl
    rw [propext (lawP_cg h b nl nw n _), h.2.1]
  unfold bsP
  rw [e]
theorem bsP_0 (U : am_U) (b nl nw n nh m : Nat) (hm : Nat → Int) : (bsP U b nl nw n nh m hm 0).1 = -1 := rfl
theorem pow13 {nh m : Nat} (h1 : nh ≤ 12) (h2 : m ≤ 3) : (nh + 1) ^ m ≤ 2197 := by
  have a : (nh + 1) ^ m ≤ 13 ^ m := Nat.pow_le_pow_left (by omega) m
  have b : 13 ^ m ≤ 13 ^ 3 := Nat.pow_le_pow_right (Nat.succ_pos 12) h2
  exact Nat.le_trans a b
theorem M_ways {N : Nat} {X : Nat → Int} {d : Nat} {B : am_U} {b ns nh nl nw nd cl n m ways : Nat} {hm : Nat → Int} {as : Nat → Nat} (hB : mB B b ns nh nl nw nd cl n m hm as) (hways : ways < 100000) : ∀ k w : Nat, w + k = ways → ∀ V, mS V B b nl nw n nh m hm as w → ∃ U', EvK N X (M_places_s46 (d + 9) (ways : Nat) (bsP B b nl nw n nh m hm w).1 (w : Nat) V) (rI (bsP B b nl nw n nh m hm ways).1 U') ∧ mS U' B b nl nw n nh m hm as ways := by
  intro k
  induction k with
  | zero =>
    intro w hw V hS
    obtain rfl : w = ways := by omega
    exact ⟨V, M_places_r46 ⟨fun _ => rfl, fun z => absurd z (by omega)⟩, hS⟩
  | succ k ih =>
    intro w hw V hS
    obtain ⟨V', k1, k2⟩ := M_way (N := N) (X := X) (d := d) hB (by omega) hways hS
    obtain ⟨U', l1, l2⟩ := ih (w + 1) (by omega) V' k1
    exact ⟨U', k2 _ l1, l2⟩
theorem ct_places {N : Nat} {X : Nat → Int} {d : Nat} {U : am_U} {b ns nh nl nw nd cl n m : Nat} {as : Nat → Nat} (ht : iTown U b ns nh nl nw nd cl) (hf : iFolk U n nh) (hm3 : m ≤ 3) (ha : isAs (U 18) n m as) (h70 : U 86 70 = (m : Nat)) (h126 : ∀ i, i < m → U 126 i = (as i : Nat)) : ∃ U', EvK N X (M_places_s0 (d + 9) U) (rI (bsP U b nl nw n nh m (U 18) ((nh + 1) ^ m)).1 U') ∧ agr U U' ∧ (0 ≤ (bsP U b nl nw n nh m (U 18) ((nh + 1) ^ m)).1 → ∀ i, i < m → U' 127 (as i) = hJ n nh m (U 18) (bsP U b nl nw n nh m (U 18) ((nh + 1) ^ m)).2 0 (as i)) := by
  have hn := hf.1.2.2
  have hnh := ht.2.2.1.2.2.1
  have p13 := pow13 hnh hm3
  obtain ⟨U1, a1, a2, a3, a4, a5, a6, a7⟩ := ct_copies (N := N) (X := X) (d := d + 8) (a := 1) (c := 0) (by decide) (by decide) (by decide) (U := U)
  have ag1 : agr U U1 := fun r j e => by
    by_cases c0 : r = 120
    · subst c0; rw [a3, if_neg (fun z => by subst z; simp [scr] at e)]
    · by_cases c1 : r = 121
      · subst c1; rw [a4, if_neg (fun z => by subst z; simp [scr] at e)]
      · by_cases c2 : r = 122
        · subst c2; rw [a5, if_neg (fun z => by subst z; simp [scr] at e)]
        · by_cases c3 : r = 123
          · subst c3; rw [a6, if_neg (fun z => by simp [scr] at e; omega)]
          · by_cases c4 : r = 124
            · subst c4; rw [a7, if_neg (fun z => by simp [scr] at e; omega)]
            · rw [a2 r c0 c1 c2 c3 c4]
  have ht1 := iTown_agr ag1 ht
  obtain ⟨B, b1, b2, b3, b4⟩ := ct_forgetsAnswers (N := N) (X := X) (d := d + 6) ht1
  have agB : agr U1 B := fun r j e => by rw [b2 r (fun z => by subst z; simp [scr] at e) (fun z => by subst z; simp [scr] at e)]
  have ag := agr_trans ag1 agB
  have htB := iTown_agr agB ht1
  have qB : stq U B := stq_agrC (agrC_of ag)
  have q1B : stq U1 B := stq_agrC (agrC_of agB)
  have row : ∀ r, ¬ (120 ≤ r ∧ r ≤ 124) → r ≠ 128 → r ≠ 129 → B r = U r := fun r q1 q2 q3 => by rw [b2 r q2 q3, a2 r (by omega) (by omega) (by omega) (by omega) (by omega)]
  have hB : mB B b ns nh nl nw nd cl n m (U 18) as := by
    refine ⟨htB, hn, ?_, fun p hp => ?_, hm3, ha, ?_, fun i hi => ?_, fun x hx y hy => ?_⟩
    · rw [b2 122 (by decide) (by decide), a5, if_pos rfl]; exact hf.1.2.1
    · have q := hf.2.2.2.2.1.1 p hp
      rw [b2 123 (by decide) (by decide), a6, if_pos (by omega), qB.1, show 16 * 0 + (16 + p - 16 * 1) = p by omega]
      exact ⟨(hf.2.2.2.1 p hp).1, q.2.2, q.2.1⟩
    · rw [row 86 (by decide) (by decide) (by decide)]; exact h70
    · rw [row 126 (by decide) (by decide) (by decide)]; exact h126 i hi
    · rw [b4 x hx y hy]
      have : nbU U1 b nl x y ↔ nbU B b nl x y := by
        unfold nbU
        rw [q1B.2.2.1, q1B.2.2.2.2.2.2.2.1, q1B.2.2.2.2.2.2.2.2]
      rw [propext this]
  have hw8 := ht.2.2.2.2.2.2.1.2.2.1
  have hS : mS B B b nl nw n nh m (U 18) as 0 := by
    refine ⟨fun _ _ _ _ _ _ _ => rfl, fun l hl me hme o ho g hg v hv => Or.inl (b3 _ (ixA_lt (by omega) (by omega) (by omega) (by omega) hv)), fun p hp z => ?_, fun z => ?_⟩
    · rw [b2 124 (by decide) (by decide), a7, if_pos (by omega), show 16 * 0 + (16 + p - 16 * 1) = p by omega]
      exact (hf.2.2.2.1 p hp).2
    · exact absurd z (by rw [bsP_0]; decide)
  obtain ⟨U', k1, k2⟩ := M_ways (N := N) (X := X) (d := d) hB (show (nh + 1) ^ m < 100000 by omega) ((nh + 1) ^ m) 0 (by omega) B hS
  obtain ⟨w1, w2, w3, w4⟩ := k2
  rw [bsP_cg qB] at w4
  rw [bsP_cg qB, bsP_cg qB, bsP_0] at k1
  refine ⟨U', M_places_r0 ⟨U1, a1, B, b1, ?_⟩, agr_trans ag (agr_fK w1), w4⟩
  have loop : ∀ k i : Nat, i + k = m → EvK N X (M_places_s14 (d + 9) (((nh + 1) ^ i : Nat) : Int) (i : Nat) B) (rI (bsP U b nl nw n nh m (U 18) ((nh + 1) ^ m)).1 U') := by
    intro k
    induction k with
    | zero =>
      intro i hi
      obtain rfl : i = m := by omega
      exact M_places_r14 ⟨fun _ => k1, fun z => absurd z (by rw [hB.2.2.2.2.2.2.1]; omega)⟩
    | succ k ih =>
      intro i hi
      have pi := pow13 hnh (show i + 1 ≤ 3 by omega)
      have ep : (nh + 1) ^ (i + 1) = (nh + 1) ^ i * (nh + 1) := Nat.pow_succ _ _
      refine M_places_r14 ⟨fun z => absurd z (by rw [hB.2.2.2.2.2.2.1]; omega), fun _ => ?_⟩
      have hb2 := ht.1.2
      rw [htB.1.1, Int.toNat_natCast, htB.2.2.1.2.1, w32_succ (i := nh) (by omega), w32_succ (i := i) (by omega)]
      refine ⟨by omega, ?_⟩
      rw [show (((nh + 1) ^ i : Nat) : Int) * ((nh + 1 : Nat) : Int) = (((nh + 1) ^ (i + 1) : Nat) : Int) by rw [ep]; exact (Int.natCast_mul _ _).symm, w32_eq (by omega) (by omega)]
      exact ih (i + 1) (by omega)
  have l0 := loop m 0 (by omega)
  rw [Nat.pow_zero] at l0
  exact l0
/-! the search kept -/
def plcR (V : am_U) (b nl nw n nh : Nat) : Prop := V 48 9 = 1 ∧ V 48 6 = (fb_ct (wtg (V 18)) n : Nat) ∧ ((3 < fb_ct (wtg (V 18)) n ∧ V 48 8 = -1) ∨ (fb_ct (wtg (V 18)) n ≤ 3 ∧ (∀ i, i < fb_ct (wtg (V 18)) n → V 49 i = (asW (V 18) n i : Nat)) ∧ plS V V b nl nw n nh (fb_ct (wtg (V 18)) n) (V 18) (asW (V 18) n) ((nh + 1) ^ fb_ct (wtg (V 18)) n)))
def iPlc (V : am_U) (b nl nw n nh : Nat) : Prop := V 48 9 = 0 ∨ plcR V b nl nw n nh
def fQ (U U' : am_U) : Prop := ∀ r j, r ≠ 46 → (r = 45 → j ≠ 3) → r ≠ 48 → r ≠ 49 → r ≠ 50 → r ≠ 51 → U' r j = U r j
theorem agrC_fQ {U U' : am_U} (h : fQ U U') : agrC U U' := fun r j e => h r j (fun q => by subst q; simp [scrC, scr] at e) (fun q _ => by subst q; simp [scrC] at e) (fun q => by subst q; simp [scrC] at e) (fun q => by subst q; simp [scrC] at e) (fun q => by subst q; simp [scrC] at e) (fun q => by subst q; simp [scrC] at e)
theorem ct_Pl_look {N : Nat} {X : Nat → Int} {d : Nat} {U : am_U} {b ns nh nl nw nd cl n : Nat} (ht : iTown U b ns nh nl nw nd cl) (hf : iFolk U n nh) (hk : iPlc U b nl nw n nh) : ∃ U', EvK N X (Pl_look_s0 (d + 7) U) (rV U') ∧ fQ U U' ∧ plcR U' b nl nw n nh := by
  have hn := hf.1.2.2
  have hnh := ht.2.2.1.2.2.1
  rcases hk with h0 | h1
  · -- who waits
    have r1 : ∀ r, r ≠ 48 → am_upd (am_upd U 48 9 1) 48 8 (-1) r = U r := fun r hr => by rw [upd_row hr, upd_row hr]
    obtain ⟨wm, a1, a2, a3⟩ := ct_waiting (N := N) (X := X) (d := d + 6) (U := am_upd (am_upd U 48 9 1) 48 8 (-1)) (n := n) (by rw [r1 16 (by decide)]; exact hf.1.1) hn
    rw [r1 18 (by decide)] at a3
    have ect : fb_ct (tb wm) 32 = fb_ct (wtg (U 18)) n := by
      rw [ct_cut (m := n) (show n ≤ 32 by omega) (fun i h1 h2 => by rw [a3 i h2, decide_eq_false (fun z => by omega)])]
      exact fb_ct_cong (fun k hk => by
        rw [a3 k (by omega)]
        unfold wtg
        by_cases c : U 18 k = -1
        · rw [decide_eq_true ⟨hk, c⟩, c]; rfl
        · rw [decide_eq_false (fun z => c z.2)]; exact (beq_eq_false_iff_ne.mpr c).symm)
    obtain ⟨m, hm⟩ : ∃ m, m = fb_ct (wtg (U 18)) n := ⟨_, rfl⟩
    have hma := asW_is (U 18) n
    rw [← hm] at hma
    have m16 : m ≤ 16 := by rw [hm]; exact Nat.le_trans (fb_ct_le _ _) hn
    obtain ⟨U2, hU2⟩ : ∃ U2, U2 = am_upd (am_upd (am_upd (am_upd U 48 9 1) 48 8 (-1)) 48 7 wm) 48 6 (m : Nat) := ⟨_, rfl⟩
    have rU2 : ∀ r, r ≠ 48 → U2 r = U r := fun r hr => by rw [hU2, upd_row hr, upd_row hr, r1 r hr]
    have u6 : U2 48 6 = (m : Nat) := by rw [hU2, upd_at]
    have u7 : U2 48 7 = wm := by rw [hU2, upd_ne (by decide), upd_at]
    have u8 : U2 48 8 = -1 := by rw [hU2, upd_ne (by decide), upd_ne (by decide), upd_at]
    have u9 : U2 48 9 = 1 := by rw [hU2, upd_ne (by decide), upd_ne (by decide), upd_ne (by decide), upd_at]
    have st : ∀ {R}, ((((m : Nat) : Int) ≤ 3) → EvK N X (Pl_look_s53 (d + 7) 1 0 U2) R) ∧ ((3 < ((m : Nat) : Int)) → R = rV U2) → EvK N X (Pl_look_s0 (d + 7) U) R := fun {R} q => by
      refine Pl_look_r0 ⟨fun _ => ⟨wm, _, a1, _, _, ct_bitCount _, ?_⟩, fun z => absurd h0 z⟩
      rw [ect, ← hm, ← hU2]; exact q
    by_cases c : m ≤ 3
    · -- asked ones
      have stA : ∀ k i : Nat, i + k = m → ∀ V : am_U, (∀ r, r ≠ 49 → V r = U2 r) → (∀ t, t < i → V 49 t = (asW (U 18) n t : Nat)) → ∃ V' : am_U, (∀ r, r ≠ 49 → V' r = U2 r) ∧ (∀ t, t < m → V' 49 t = (asW (U 18) n t : Nat)) ∧ ∀ R, EvK N X (Pl_look_s103 (d + 7) (((nh + 1) ^ m : Nat) : Int) 0 (fil V' 51 48 0)) R → EvK N X (Pl_look_s53 (d + 7) (((nh + 1) ^ i : Nat) : Int) (i : Nat) V) R := by
        intro k
        induction k with
        | zero =>
          intro i hi V v1 v2
          obtain rfl : i = m := by omega
          refine ⟨V, v1, v2, fun R hR => Pl_look_r53 ⟨fun _ => ⟨_, ct_fill_51, hR⟩, fun z => absurd z (by rw [v1 48 (by decide), u6]; omega)⟩⟩
        | succ k ih =>
          intro i hi V v1 v2
          obtain ⟨s1', s2, s3⟩ := hma.2 i (by omega)
          have ekt : kth (tb wm) ((i : Nat) : Int) 32 = ((asW (U 18) n i : Nat) : Int) := by
            have q := kth_in (p := tb wm) (k := ((i : Nat) : Int)) (i := asW (U 18) n i) (n := 32) (by rw [a3 _ (by omega)]; exact decide_eq_true ⟨s1', s2⟩) (by
              have : fb_ct (tb wm) (asW (U 18) n i) = fb_ct (wtg (U 18)) (asW (U 18) n i) := fb_ct_cong (fun k hk => by
                rw [a3 k (by omega)]
                unfold wtg
                by_cases c : U 18 k = -1
                · rw [decide_eq_true ⟨by omega, c⟩, c]; rfl
                · rw [decide_eq_false (fun z => c z.2)]; exact (beq_eq_false_iff_ne.mpr c).symm)
              rw [this]
              unfold rkW at s3
              omega) (by omega)
            exact q
          obtain ⟨V', k1, k2, k3⟩ := ih (i + 1) (by omega) (am_upd V 49 i (asW (U 18) n i : Nat)) (fun r hr => by rw [upd_row hr]; exact v1 r hr) (fun t ht' => by
            rw [upd_if]
            by_cases e : t = i
            · rw [if_pos e, e]
            · rw [if_neg e]; exact v2 t (by omega))
          refine ⟨V', k1, k2, fun R hR => Pl_look_r53 ⟨fun z => absurd z (by rw [v1 48 (by decide), u6]; omega), fun _ => ⟨_, V, ct_bitAt _ _ (by omega), by omega, ?_⟩⟩⟩
          have pi := pow13 hnh (show i + 1 ≤ 3 by omega)
          have ep : (nh + 1) ^ (i + 1) = (nh + 1) ^ i * (nh + 1) := Nat.pow_succ _ _
          rw [v1 48 (by decide), u7, ekt, v1 3 (by decide), rU2 3 (by decide), ht.2.2.1.1, w32_succ (i := nh) (by omega), w32_succ (i := i) (by omega), Int.toNat_natCast, show (((nh + 1) ^ i : Nat) : Int) * ((nh + 1 : Nat) : Int) = (((nh + 1) ^ (i + 1) : Nat) : Int) by rw [ep]; exact (Int.natCast_mul _ _).symm, w32_eq (by omega) (by omega)]
          exact k3 R hR
      obtain ⟨V', k1, k2, k3⟩ := stA m 0 (by omega) U2 (fun _ _ => rfl) (fun t ht' => absurd ht' (Nat.not_lt_zero t))
      obtain ⟨W, hW⟩ : ∃ W, W = fil V' 51 48 0 := ⟨_, rfl⟩
      have rW : ∀ r, r ≠ 48 → r ≠ 49 → r ≠ 51 → W r = U r := fun r q1 q2 q3 => by rw [hW, fil_row q3, k1 r q2, rU2 r q1]
      have w48 : W 48 = U2 48 := by rw [hW, fil_row (by decide), k1 48 (by decide)]
      have fW : fQ U W := fun r j _ _ q1 q2 _ q4 => by rw [rW r q1 q2 q4]
      have gW := agrC_fQ fW
      have e18 : W 18 = U 18 := rW 18 (by decide) (by decide) (by decide)
      have hcW := jCtx_agrC gW (jCtx_of ht hf)
      have hyW : plY W (W 18) n m (asW (U 18) n) wm := by
        rw [e18]
        refine ⟨c, hma, by rw [w48]; exact u6, by rw [w48]; exact u7, a3, fun i hi => ?_⟩
        rw [hW, fil_row (by decide)]; exact k2 i hi
      have p13 := pow13 hnh c
      obtain ⟨U', l1, l2, l3⟩ := plWays (N := N) (X := X) (d := d) hcW hyW (show (nh + 1) ^ m < 100000 by omega) ((nh + 1) ^ m) 0 (by omega) W (fun _ _ _ _ _ _ _ => rfl) (fun g hg c' hc' => by
        left
        rw [hW, fil_in (by omega)]) ⟨by rw [w48, u8, bsP_0], fun z => absurd z (by rw [bsP_0]; decide)⟩
      have e18' : U' 18 = U 18 := by rw [fPl_row l2 (by decide) (by decide) (by decide) (by decide) (by decide), e18]
      have q' : stq W U' := stq_agrC (agrC_fPl l2)
      refine ⟨U', st ⟨fun _ => k3 _ (by rw [← hW]; exact l1), fun z => absurd z (by omega)⟩, fun r j q1 q2 q3 q4 q5 q6 => ?_, ?_, ?_, Or.inr ⟨?_, fun i hi => ?_, ?_⟩⟩
      · rw [l2 r j q1 q2 q5 q6 (fun z => q3 z.1), rW r q3 q4 q6]
      · rw [l2 48 9 (by decide) (by decide) (by decide) (by decide) (by decide), w48, u9]
      · rw [l2 48 6 (by decide) (by decide) (by decide) (by decide) (by decide), w48, u6, e18', hm]
      · rw [e18', ← hm]; exact c
      · rw [e18'] at hi ⊢
        rw [fPl_row l2 (by decide) (by decide) (by decide) (by decide) (by decide), hW, fil_row (by decide)]
        exact k2 i (by omega)
      · rw [e18', ← hm]
        unfold plS at l3 ⊢
        rw [e18] at l3
        rw [bsP_cg q']; exact l3
    · refine ⟨U2, st ⟨fun z => absurd z (by omega), fun _ => rfl⟩, fun r j _ _ q3 _ _ _ => by rw [rU2 r q3], u9, ?_, Or.inl ⟨?_, u8⟩⟩
      · rw [u6, rU2 18 (by decide), hm]
      · rw [rU2 18 (by decide), ← hm]; omega
  · exact ⟨U, Pl_look_r0 ⟨fun z => absurd z (by rw [h1.1]; decide), fun _ => rfl⟩, fun _ _ _ _ _ _ _ _ => rfl, h1⟩
theorem pair_placed {N : Nat} {X : Nat → Int} {d : Nat} {U : am_U} {b ns nh nl nw nd cl n : Nat} (ht : iTown U b ns nh nl nw nd cl) (hf : iFolk U n nh) (hk : iPlc U b nl nw n nh) (x : Int) : ask3 N X (fun V => iPlc V b nl nw n nh ∧ fQ U V) (D_placed_s0 (d + 10) x) (M_placed_s0 (d + 10) x) U := by
  have hn := hf.1.2.2
  have hnh := ht.2.2.1.2.2.1
  obtain ⟨U1, a1, a2, a3⟩ := ct_Pl_look (N := N) (X := X) (d := d + 2) ht hf hk
  have g1 := agrC_fQ a2
  have ht1 := iTown_agrC g1 ht
  have hf1 := iFolk_agrC g1 hf
  obtain ⟨b1, b6, b8⟩ := a3
  have hma := asW_is (U1 18) n
  obtain ⟨m, hm⟩ : ∃ m, m = fb_ct (wtg (U1 18)) n := ⟨_, rfl⟩
  rw [← hm] at b6 b8 hma
  have m16 : m ≤ 16 := by rw [hm]; exact Nat.le_trans (fb_ct_le _ _) hn
  have h124 : ∀ p, p < n → U1 124 p = U1 18 p := fun p hp => (hf1.2.2.2.1 p hp).2
  have e122 := hf1.1.2.1
  -- the reference's row of those past the bridge
  have pstA : ∀ k p : Nat, p + k = n → ∀ V : am_U, (∀ r j, r ≠ 126 → ¬ (r = 86 ∧ j = 70) → V r j = U1 r j) → V 86 70 = (rkW (U1 18) p : Nat) → (∀ i, i < rkW (U1 18) p → V 126 i = (asW (U1 18) n i : Nat)) → ∃ V' : am_U, (∀ r j, r ≠ 126 → ¬ (r = 86 ∧ j = 70) → V' r j = U1 r j) ∧ V' 86 70 = (m : Nat) ∧ (∀ i, i < m → V' 126 i = (asW (U1 18) n i : Nat)) ∧ ∀ R, EvK N X (M_placed_s7 (d + 10) x (n : Nat) V') R → EvK N X (M_placed_s7 (d + 10) x (p : Nat) V) R := by
    intro k
    induction k with
    | zero =>
      intro p hp V v1 v2 v3
      obtain rfl : p = n := by omega
      have : rkW (U1 18) p = m := by rw [hm]; rfl
      rw [this] at v2 v3
      exact ⟨V, v1, v2, v3, fun R hR => hR⟩
    | succ k ih =>
      intro p hp V v1 v2 v3
      have e122V : V 122 0 = (n : Nat) := by rw [v1 122 0 (by decide) (by decide)]; exact e122
      have e124V : V 124 p = U1 18 p := by rw [v1 124 p (by decide) (by omega)]; exact h124 p (by omega)
      have rs : rkW (U1 18) (p + 1) = rkW (U1 18) p + (if wtg (U1 18) p then 1 else 0) := fb_ct_succ _ _
      have rl : rkW (U1 18) p ≤ p := fb_ct_le _ _
      by_cases c : U1 18 p = -1
      · have o := as_one hma (show p < n by omega) c
        rw [if_pos (wtg_iff.mpr c)] at rs
        obtain ⟨V', k1, k2, k3, k4⟩ := ih (p + 1) (by omega) (am_upd (am_upd V 126 (rkW (U1 18) p) (p : Nat)) 86 70 ((rkW (U1 18) p + 1 : Nat) : Int)) (fun r j q1 q2 => by
            by_cases z : r = 86
            · subst z; rw [upd_ne (fun e => q2 ⟨rfl, e⟩), upd_row (by decide)]; exact v1 86 j q1 q2
            · rw [upd_row z, upd_row q1]; exact v1 r j q1 q2) (by rw [upd_at, rs]) (fun i hi => by
            rw [upd_row (by decide), upd_if]
            by_cases e : i = rkW (U1 18) p
            · rw [if_pos e, e, o.2]
            · rw [if_neg e]; exact v3 i (by omega))
        refine ⟨V', k1, k2, k3, fun R hR => M_placed_r7 ⟨fun z => absurd z (by rw [e122V]; omega), fun _ => ⟨by omega, ?_⟩⟩⟩
        rw [Int.toNat_natCast, e124V, v2, Int.toNat_natCast, w32_succ (i := p) (by omega), w32_succ (i := rkW (U1 18) p) (by omega)]
        exact ⟨fun _ => ⟨by omega, k4 R hR⟩, fun z => absurd c z⟩
      · rw [if_neg (fun z => c (wtg_iff.mp z)), Nat.add_zero] at rs
        obtain ⟨V', k1, k2, k3, k4⟩ := ih (p + 1) (by omega) V v1 (by rw [rs]; exact v2) (by rw [rs]; exact v3)
        refine ⟨V', k1, k2, k3, fun R hR => M_placed_r7 ⟨fun z => absurd z (by rw [e122V]; omega), fun _ => ⟨by omega, ?_⟩⟩⟩
        rw [Int.toNat_natCast, e124V, w32_succ (i := p) (by omega)]
        exact ⟨fun z => absurd z c, fun _ => k4 R hR⟩
  obtain ⟨V, p1, p2, p3, p4⟩ := pstA n 0 (by omega) (am_upd U1 86 70 0) (fun r j _ q2 => by
    by_cases z : r = 86
    · subst z; rw [upd_ne (fun e => q2 ⟨rfl, e⟩)]
    · rw [upd_row z]) (upd_at _ _ _ _) (fun i hi => absurd hi (Nat.not_lt_zero i))
  have agV : agr U1 V := fun r j e => p1 r j (fun q => by subst q; simp [scr] at e) (fun q => by obtain ⟨rfl, rfl⟩ := q; simp [scr] at e)
  have htV := iTown_agr agV ht1
  have hfV := iFolk_agr agV hf1
  have e18V : V 18 = U1 18 := funext fun j => agV 18 j rfl
  have qV : stq U1 V := stq_agrC (agrC_of agV)
  have e122V : V 122 0 = (n : Nat) := hfV.1.2.1
  have e124V : ∀ p, p < n → V 124 p = U1 18 p := fun p hp => by rw [(hfV.2.2.2.1 p hp).2, e18V]
  have K1 : iPlc U1 b nl nw n nh ∧ fQ U U1 := ⟨Or.inr ⟨b1, by rw [← hm]; exact b6, by rw [← hm]; exact b8⟩, a2⟩
  have sM : ∀ {R}, EvK N X (M_placed_s7 (d + 10) x (n : Nat) V) R → EvK N X (M_placed_s0 (d + 10) x U1) R := fun {R} hR => M_placed_r0 (p4 R hR)
  have sD : ∀ {r : Int}, EvK N X (Pl_tellOf_s0 (d + 9) x U1) (rI r U1) → EvK N X (D_placed_s0 (d + 10) x U) (rI r U1) := fun {r} h => D_placed_r0 ⟨U1, a1, r, U1, h, rfl⟩
  rcases b8 with ⟨c1, c2⟩ | ⟨c1, c2, c3⟩
  · -- too many wait
    refine ⟨-1, U1, sD (Pl_tellOf_r0 ⟨fun _ => by rw [c2], fun _ => ⟨fun z => absurd c2 z, fun _ => by rw [c2]⟩⟩), g1, K1, V, sM (M_placed_r7 ⟨fun _ => ⟨fun _ => ⟨fun z => absurd z (by rw [p2]; omega), fun _ => rfl⟩, fun z => ?_⟩, fun z => absurd z (by rw [e122V]; omega)⟩), agV⟩
    refine ⟨_, V, ct_M_isPerson x, fun _ => rfl, fun y => ?_⟩
    have y' := b2i_ne.mp y
    rw [e122V] at y'
    exact ⟨by omega, fun _ => rfl, fun _ => ⟨fun w => absurd w (by rw [p2]; omega), fun _ => rfl⟩⟩
  · obtain ⟨W, w1, w2, w3⟩ := ct_places (N := N) (X := X) (d := d) (m := m) (as := asW (U1 18) n) htV hfV c1 (by rw [e18V]; exact hma) p2 p3
    rw [e18V, bsP_cg qV] at w1 w3
    have ag2 := agr_trans agV w2
    have c31 : U1 48 8 = (bsP U1 b nl nw n nh m (U1 18) ((nh + 1) ^ m)).1 := c3.1
    have bin := bsW_in (pl := fun w => plJ nh m w 0) (ok := okPl U1 b nl nw n nh m (U1 18)) (m := m) (fun w => plJ_le nh m w 0) ((nh + 1) ^ m)
    have bin' : -1 ≤ (bsP U1 b nl nw n nh m (U1 18) ((nh + 1) ^ m)).1 ∧ (bsP U1 b nl nw n nh m (U1 18) ((nh + 1) ^ m)).1 ≤ (m : Nat) := bin
    obtain ⟨B, hB⟩ : ∃ B, B = (bsP U1 b nl nw n nh m (U1 18) ((nh + 1) ^ m)).1 := ⟨_, rfl⟩
    rw [← hB] at w1 c31 bin'
    by_cases hx1 : x = -1
    · subst hx1
      refine ⟨B, U1, sD (Pl_tellOf_r0 ⟨fun _ => by rw [c31], fun z => absurd rfl z⟩), g1, K1, W, sM (M_placed_r7 ⟨fun _ => ⟨fun _ => ⟨fun _ => ⟨B, W, w1, fun _ => rfl, fun _ => rfl⟩, fun z => absurd z (by rw [p2]; omega)⟩, fun z => absurd rfl z⟩, fun z => absurd z (by rw [e122V]; omega)⟩), ag2⟩
    · by_cases hw : 0 ≤ x ∧ x < (n : Nat) ∧ U1 18 x.toNat = -1
      · obtain ⟨h1, h2, h3⟩ := hw
        obtain ⟨p, rfl⟩ : ∃ p : Nat, x = (p : Nat) := ⟨x.toNat, by omega⟩
        rw [Int.toNat_natCast] at h3
        have hp : p < n := by omega
        obtain ⟨o1, o2⟩ := as_one hma hp h3
        have isP : EvK N X (M_isPerson_s0 (d + 9) ((p : Nat) : Int) V) (rI 1 V) := M_p1 (by rw [e122V]; omega)
        have fM' : ∀ {R}, ((B = (-1)) → R = rI B W) ∧ ((B ≠ (-1)) → (0 ≤ ((p : Nat) : Int) ∧ ((p : Nat) : Int) < 16) ∧ (((W 127 p) ≠ (-1)) → R = rI (W 127 p) W) ∧ (((W 127 p) = (-1)) → R = rI 20 W)) → EvK N X (M_placed_s0 (d + 10) ((p : Nat) : Int) U1) R := fun {R} y => by
          refine sM (M_placed_r7 ⟨fun _ => ⟨fun z => absurd z (by omega), fun _ => ⟨1, V, isP, fun z => absurd z (by decide), fun _ => ?_⟩⟩, fun z => absurd z (by rw [e122V]; omega)⟩)
          rw [Int.toNat_natCast, e124V p hp, p2]
          exact ⟨by omega, fun z => absurd h3 z, fun _ => ⟨fun _ => ⟨B, W, w1, y⟩, fun z => absurd z (by omega)⟩⟩
        by_cases cB : B = -1
        · refine ⟨-1, U1, sD (Pl_tellOf_r0 ⟨fun z => absurd z (by omega), fun _ => ⟨fun z => absurd (by rw [c31]; exact cB) z, fun _ => by rw [c31, cB]⟩⟩), g1, K1, W, fM' ⟨fun _ => by rw [cB], fun z => absurd cB z⟩, ag2⟩
        · have q1 := c3.2 (by rw [← hB]; omega) (rkW (U1 18) p) o1
          have q2 := w3 (by rw [← hB]; omega) (rkW (U1 18) p) o1
          rw [o2] at q1 q2
          -- the class looks for it
          have loop : ∀ k i : Nat, i + k = rkW (U1 18) p → EvK N X (Pl_tellOf_s20 (d + 9) ((p : Nat) : Int) (i : Nat) U1) (rI (if U1 50 (rkW (U1 18) p) = -1 then 20 else U1 50 (rkW (U1 18) p)) U1) := by
            intro k
            induction k with
            | zero =>
              intro i hi
              obtain rfl : i = rkW (U1 18) p := by omega
              refine Pl_tellOf_r20 ⟨fun z => absurd z (by rw [b6]; omega), fun _ => ⟨by omega, ?_⟩⟩
              rw [Int.toNat_natCast, c2 _ o1, o2]
              refine ⟨fun z => absurd rfl z, fun _ => ⟨fun z => ?_, fun z => ?_⟩⟩
              · rw [if_neg z]
              · rw [if_pos z]
            | succ k ih =>
              intro i hi
              refine Pl_tellOf_r20 ⟨fun z => absurd z (by rw [b6]; omega), fun _ => ⟨by omega, ?_⟩⟩
              rw [Int.toNat_natCast, c2 i (by omega), w32_succ (i := i) (by omega)]
              refine ⟨fun _ => ih (i + 1) (by omega), fun z => ?_⟩
              have e : asW (U1 18) n i = asW (U1 18) n (rkW (U1 18) p) := by rw [o2]; omega
              have := as_inj hma (show i < m by omega) o1 e
              omega
          refine ⟨_, U1, sD (Pl_tellOf_r0 ⟨fun z => absurd z (by omega), fun _ => ⟨fun _ => loop (rkW (U1 18) p) 0 (by omega), fun z => absurd z (by rw [c31]; exact cB)⟩⟩), g1, K1, W, fM' ⟨fun z => absurd z cB, fun _ => ⟨by omega, fun z => ?_, fun z => ?_⟩⟩, ag2⟩
          · rw [q1, ← q2, if_neg z]
          · rw [q1, ← q2, if_pos z]
      · -- nobody such
        refine ⟨-1, U1, sD (Pl_tellOf_r0 ⟨fun z => absurd z hx1, fun _ => ⟨fun _ => ?_, fun z => by rw [z]⟩⟩), g1, K1, V, sM (M_placed_r7 ⟨fun _ => ⟨fun z => absurd z hx1, fun _ => ⟨_, V, ct_M_isPerson x, fun _ => rfl, fun y => ?_⟩⟩, fun z => absurd z (by rw [e122V]; omega)⟩), agV⟩
        · have loop : ∀ k i : Nat, i + k = m → EvK N X (Pl_tellOf_s20 (d + 9) x (i : Nat) U1) (rI (-1) U1) := by
            intro k
            induction k with
            | zero =>
              intro i hi
              obtain rfl : i = m := by omega
              exact Pl_tellOf_r20 ⟨fun _ => rfl, fun z => absurd z (by rw [b6]; omega)⟩
            | succ k ih =>
              intro i hi
              obtain ⟨t1, t2, t3⟩ := hma.2 i (by omega)
              refine Pl_tellOf_r20 ⟨fun z => absurd z (by rw [b6]; omega), fun _ => ⟨by omega, ?_⟩⟩
              rw [Int.toNat_natCast, c2 i (by omega), w32_succ (i := i) (by omega)]
              refine ⟨fun _ => ih (i + 1) (by omega), fun z => ?_⟩
              exact absurd ⟨by omega, by omega, by rw [← z, Int.toNat_natCast]; exact t2⟩ hw
          exact loop m 0 (by omega)
        · have y' := b2i_ne.mp y
          rw [e122V] at y'
          refine ⟨by omega, fun _ => rfl, fun z => ?_⟩
          rw [e124V _ (by omega)] at z
          exact absurd ⟨y'.1, y'.2, z⟩ hw
