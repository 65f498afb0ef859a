/-! hidden ones: the class searches -/
def frS (U U' : am_U) : Prop := ∀ r j, r ≠ 80 → r ≠ 81 → ¬ (r = 78 ∧ j = 5) → U' r j = U r j
theorem frS_trans {U U1 U2 : am_U} (h1 : frS U U1) (h2 : frS U1 U2) : frS U U2 := fun r j a b c => by rw [h2 r j a b c, h1 r j a b c]
theorem rdS_blk {ok : Nat → Bool} {mo k x y : Nat} {c : Int} {row : Nat → Int} (hxy : x ≤ y) (h : rdS ok mo k x c row) (hn : ∀ v, x ≤ v → v < y → ok v = false) : rdS ok mo k y c row := by
  have e : fb_ct ok y = fb_ct ok x := ct_cut hxy hn
  exact rdS_ext hxy h (by rw [e]; exact h.1) (fun _ _ _ => rfl) (fun z1 z2 => absurd z2 (by omega))
theorem foX_fr {U U' : am_U} (h : frS U U') (hf : foX U) : foX U' := fun a a1 a2 i i1 i2 => by rw [h 79 a (by decide) (by decide) (by omega)]; exact hf a a1 a2 i i1 i2
/-- the last one is counted by sets -/
theorem D_leaf {N : Nat} {X : Nat → Int} {d k mo j w : Nat} {t : Nat → Int} {U : am_U} {F : Int} (hk : j + 1 = k) (hk4 : k ≤ 4) (hmo : 1 ≤ mo ∧ mo ≤ 24) (hw : w * mo + mo ≤ 331776) (h783 : U 78 3 = (k : Nat)) (hr : ∀ i, i < j → U 80 i = (dgW mo j w i : Nat)) (hok : okP t k (dgW mo j w) j) (hF : ∀ v, v < 32 → tb F v = pd (fitP t k mo (dgW mo j w) j j v)) (hS : rdS (okW t k mo) mo k (w * mo) (U 78 5) (U 81)) : ∃ U', EvK N X (Rl_search_s8 (d + 2) (j : Nat) F (j : Nat) U) (rV U') ∧ frS U U' ∧ (∀ i, i < j → U' 80 i = U 80 i) ∧ rdS (okW t k mo) mo k (w * mo + mo) (U' 78 5) (U' 81) := by
  subst hk
  have okE : ∀ v, v < mo → okW t (j + 1) mo (w * mo + v) = tb F (1 + v) := fun v hv => by
    rw [hF (1 + v) (by omega)]
    refine pd_cg ?_
    have e1 : ∀ i, i < j → dgW mo (j + 1) (w * mo + v) i = dgW mo j w i := fun i hi => by
      have := dgW_pre (mo := mo) (k := j + 1) (j := j) (g := 1) (W := w) (y := v) (by omega) rfl (by rw [Nat.pow_one]; exact hv) hi
      rwa [Nat.pow_one] at this
    rw [okP_s, okP_cg e1, dgW_last hv]
    constructor
    · intro o; exact ⟨by omega, fun b hb => by rw [← e1 b hb]; exact o.2 b hb⟩
    · intro o; exact ⟨hok, fun b hb => by rw [e1 b hb]; exact o.2 b hb⟩
  have f0 : tb F 0 = false := by rw [hF 0 (by decide)]; exact pd_f (fun z => absurd z.1 (by omega))
  have fcut : ∀ i, mo < i → i < 32 → tb F i = false := fun i h1 h2 => by rw [hF i h2]; exact pd_f (fun z => absurd z.1 (by omega))
  have cF : fb_ct (tb F) 32 = fb_ct (fun v => tb F (1 + v)) mo := by
    rw [show (32 : Nat) = 1 + 31 from rfl, fb_ct_split (tb F) 1 31, ct_cut (m := mo) (show mo ≤ 31 by omega) (fun i h1 h2 => fcut (1 + i) (by omega) (by omega)), fb_ct_succ, f0]
    show 0 + 0 + _ = _
    omega
  have cOk : fb_ct (okW t (j + 1) mo) (w * mo + mo) = fb_ct (okW t (j + 1) mo) (w * mo) + fb_ct (tb F) 32 := by
    rw [fb_ct_split, cF, fb_ct_cong okE]
  have c1 : fb_ct (okW t (j + 1) mo) (w * mo) ≤ w * mo := fb_ct_le _ _
  have c2 : fb_ct (tb F) 32 ≤ 32 := fb_ct_le _ _
  obtain ⟨s1', s2'⟩ := hS
  have kf : ∃ U1, EvK N X (Rl_keepFirst_s0 (d + 1) (j : Nat) F U) (rV U1) ∧ (∀ r i, r ≠ 80 → r ≠ 81 → U1 r i = U r i) ∧ (∀ i, i < j → U1 80 i = U 80 i) ∧ (0 < fb_ct (okW t (j + 1) mo) (w * mo) → U1 81 = U 81) ∧ (fb_ct (okW t (j + 1) mo) (w * mo) = 0 → 0 < fb_ct (okW t (j + 1) mo) (w * mo + mo) → ∃ x, w * mo ≤ x ∧ x < w * mo + mo ∧ okW t (j + 1) mo x = true ∧ (∀ v, w * mo ≤ v → v < x → okW t (j + 1) mo v = false) ∧ ∀ i, i < j + 1 → U1 81 i = (dgW mo (j + 1) x i : Nat)) := by
    by_cases z : fb_ct (okW t (j + 1) mo) (w * mo) = 0
    · have u0 : U 78 5 = 0 := by rw [s1', z]; rfl
      by_cases zF : F = 0
      · refine ⟨U, Rl_keepFirst_r0 ⟨fun q => absurd u0 q, fun _ => ⟨fun _ => rfl, fun q => absurd zF q⟩⟩, fun _ _ _ _ => rfl, fun _ _ => rfl, fun _ => rfl, fun _ q => ?_⟩
        have : fb_ct (tb F) 32 = 0 := fb_ct_zero.mpr (fun i _ => by rw [zF, tb_0])
        omega
      · refine ⟨am_cpy (am_upd U 80 j (kth (tb F) 0 32)) 80 81 0 0 4, Rl_keepFirst_r0 ⟨fun q => absurd u0 q, fun _ => ⟨fun q => absurd q zF, fun _ => ⟨_, _, ct_bitAt F 0 (by decide), by omega, by decide, by rw [Int.toNat_natCast]⟩⟩⟩, fun r i q1 q2 => ?_, fun i hi => ?_, fun q => absurd q (by omega), fun _ q => ?_⟩
        · unfold am_cpy
          rw [if_neg (fun e => q2 e.1), upd_row q1]
        · unfold am_cpy
          rw [if_neg (fun e => absurd e.1 (by decide)), upd_ne (by omega)]
        · obtain ⟨i, i1, i2, i3⟩ := fb_ct_kth (p := tb F) (k := 0) (n := 32) (by omega)
          have hki : kth (tb F) 0 32 = (i : Nat) := kth_in i2 (by rw [i3]; rfl) i1
          have hi0 : 1 ≤ i ∧ i ≤ mo := by
            rw [hF i i1, pd_iff] at i2
            exact i2.1
          refine ⟨w * mo + (i - 1), by omega, by omega, ?_, fun v v1 v2 => ?_, fun n hn => ?_⟩
          · rw [okE (i - 1) (by omega), show 1 + (i - 1) = i from by omega]; exact i2
          · have := okE (v - w * mo) (by omega)
            rw [show w * mo + (v - w * mo) = v from by omega] at this
            rw [this]
            exact fb_ct_zero.mp i3 _ (by omega)
          · unfold am_cpy
            rw [if_pos ⟨rfl, by omega, by omega⟩, show (((n : Nat) : Int) - 0 + 0).toNat = n from by omega, upd_if, hki]
            by_cases e : n = j
            · rw [if_pos e, e, dgW_last (by omega)]; omega
            · have := dgW_pre (mo := mo) (k := j + 1) (j := j) (g := 1) (W := w) (y := i - 1) (i := n) (by omega) rfl (by rw [Nat.pow_one]; omega) (by omega)
              rw [Nat.pow_one] at this
              rw [if_neg e, this]; exact hr n (by omega)
    · exact ⟨U, Rl_keepFirst_r0 ⟨fun _ => rfl, fun q => absurd q (by rw [s1']; omega)⟩, fun _ _ _ _ => rfl, fun _ _ => rfl, fun _ => rfl, fun q => absurd q z⟩
  obtain ⟨U1, k1, k2, k3, k4, k5⟩ := kf
  have v785 : U1 78 5 = ((fb_ct (okW t (j + 1) mo) (w * mo) : Nat) : Int) := by rw [k2 78 5 (by decide) (by decide)]; exact s1'
  refine ⟨am_upd U1 78 5 ((fb_ct (okW t (j + 1) mo) (w * mo + mo) : Nat) : Int), Rl_search_r8 ⟨fun _ => ⟨fun _ => ⟨U1, k1, _, _, ct_bitCount F, ?_⟩, fun q => absurd q ?_⟩, fun q => absurd q (by omega)⟩, fun r i q1 q2 q3 => by rw [upd_if2 q3]; exact k2 r i q1 q2, fun i hi => by rw [upd_row (by decide)]; exact k3 i hi, ?_⟩
  · rw [v785, cOk, w32_na (by omega)]
  · rw [h783, w32_succ (i := j) (by omega)]; omega
  · rw [upd_at, upd_row (by decide)]
    exact rdS_ext (Nat.le_add_right _ _) ⟨s1', s2'⟩ rfl (fun q i _ => by rw [k4 q]) k5
theorem D_search {N : Nat} {X : Nat → Int} {d k mo : Nat} {t : Nat → Int} {U0 : am_U} (hk4 : k ≤ 4) (hmo : 1 ≤ mo ∧ mo ≤ 24) (h783 : U0 78 3 = (k : Nat)) (hA : ∀ i, i < 32 → tb (U0 78 4) i = decide (1 ≤ i ∧ i ≤ mo)) (h2t : ∀ a b, a < b → b < k → U0 2 (2 + pix k a b) = t (pix k a b)) (hfo : foX U0) : ∀ f j : Nat, j + (f + 1) = k → ∀ w, (w + 1) * mo ^ (f + 1) ≤ 331776 → ∀ U, frS U0 U → (∀ i, i < j → U 80 i = (dgW mo j w i : Nat)) → okP t k (dgW mo j w) j → rdS (okW t k mo) mo k (w * mo ^ (f + 1)) (U 78 5) (U 81) → ∃ U', EvK N X (Rl_search_s0 (d + f + 2) (j : Nat) U) (rV U') ∧ frS U0 U' ∧ (∀ i, i < j → U' 80 i = U 80 i) ∧ rdS (okW t k mo) mo k ((w + 1) * mo ^ (f + 1)) (U' 78 5) (U' 81) := by
  have fitA : ∀ r j v, v < 32 → tb (U0 78 4) v = pd (fitP t k mo r j 0 v) := fun r j v hv => by
    rw [hA v hv]
    by_cases c : 1 ≤ v ∧ v ≤ mo
    · rw [decide_eq_true c]; exact (pd_t ⟨c, fun b hb => absurd hb (Nat.not_lt_zero b)⟩).symm
    · rw [decide_eq_false c]; exact (pd_f (fun z => c z.1)).symm
  intro f
  induction f with
  | zero =>
    intro j hj w hb U h1 h2 h3 h4
    rw [Nat.zero_add, Nat.pow_one] at hb h4 ⊢
    have u783 : U 78 3 = (k : Nat) := by rw [h1 78 3 (by decide) (by decide) (by decide)]; exact h783
    obtain ⟨F, f1, f2⟩ := ct_fit (N := N) (X := X) (d := d + 1) (k := k) (mo := mo) (j := j) (U := U) (t := t) (r := dgW mo j w) (by omega) hmo.2 (by omega) u783 (fun b hb' => by rw [h1 2 _ (by decide) (by decide) (by omega)]; exact h2t b j hb' (by omega)) (fun b hb' => ⟨h2 b hb', by have := dgW_le (mo := mo) (k := j) (w := w) (i := b) hmo.1; omega⟩) (foX_fr h1 hfo) j 0 (by omega) (U 78 4) (fun v hv => by rw [h1 78 4 (by decide) (by decide) (by decide)]; exact fitA _ _ v hv)
    rw [Nat.succ_mul] at hb
    obtain ⟨U', k1, k2, k3, k4⟩ := D_leaf (N := N) (X := X) (d := d) (k := k) (t := t) hj hk4 hmo hb u783 h2 h3 f1 h4
    refine ⟨U', Rl_search_r0 (f2 _ k1), frS_trans h1 k2, k3, ?_⟩
    rw [Nat.succ_mul]; exact k4
  | succ g ih =>
    intro j hj w hb U h1 h2 h3 h4
    have u783 : U 78 3 = (k : Nat) := by rw [h1 78 3 (by decide) (by decide) (by decide)]; exact h783
    obtain ⟨F, f1, f2⟩ := ct_fit (N := N) (X := X) (d := d + (g + 1) + 1) (k := k) (mo := mo) (j := j) (U := U) (t := t) (r := dgW mo j w) (by omega) hmo.2 (by omega) u783 (fun b hb' => by rw [h1 2 _ (by decide) (by decide) (by omega)]; exact h2t b j hb' (by omega)) (fun b hb' => ⟨h2 b hb', by have := dgW_le (mo := mo) (k := j) (w := w) (i := b) hmo.1; omega⟩) (foX_fr h1 hfo) j 0 (by omega) (U 78 4) (fun v hv => by rw [h1 78 4 (by decide) (by decide) (by decide)]; exact fitA _ _ v hv)
    have blk : ∀ x, (w * mo + x) * mo ^ (g + 1) = w * mo ^ (g + 1 + 1) + x * mo ^ (g + 1) := fun x => by
      rw [Nat.add_mul, Nat.mul_assoc, Nat.pow_succ mo (g + 1), Nat.mul_comm mo]
    have blk1 : (w * mo + mo) * mo ^ (g + 1) = (w + 1) * mo ^ (g + 1 + 1) := by
      rw [blk, Nat.succ_mul, Nat.pow_succ mo (g + 1), Nat.mul_comm mo]
    have pp : 0 < mo ^ (g + 1) := Nat.pow_pos (by omega)
    have loop : ∀ m v : Nat, v + m = 25 → 1 ≤ v → ∀ V, frS U0 V → (∀ i, i < j → V 80 i = (dgW mo j w i : Nat)) → rdS (okW t k mo) mo k ((w * mo + min (v - 1) mo) * mo ^ (g + 1)) (V 78 5) (V 81) → ∃ U', EvK N X (Rl_search_s119 (d + (g + 1) + 1 + 1) (j : Nat) F (v : Nat) V) (rV U') ∧ frS U0 U' ∧ (∀ i, i < j → U' 80 i = (dgW mo j w i : Nat)) ∧ rdS (okW t k mo) mo k ((w * mo + mo) * mo ^ (g + 1)) (U' 78 5) (U' 81) := by
      intro m
      induction m with
      | zero =>
        intro v hv _ V g1 g2 g3
        obtain rfl : v = 25 := by omega
        rw [show min (25 - 1) mo = mo from by omega] at g3
        exact ⟨V, Rl_search_r119 ⟨fun _ => rfl, fun q => absurd q (by decide)⟩, g1, g2, g3⟩
      | succ m ihm =>
        intro v hv hv1 V g1 g2 g3
        have bt : am_and (am_shr F ((v : Nat) : Int)) 1 = if tb F v then 1 else 0 := bit_shr (by omega)
        by_cases c : tb F v = true
        · have fit := c
          rw [f1 v (by omega), pd_iff] at fit
          have hvm := fit.1
          rw [show min (v - 1) mo = v - 1 from by omega] at g3
          have last : dgW mo (j + 1) (w * mo + (v - 1)) j = v := by rw [dgW_last (by omega)]; omega
          have pre : ∀ i, i < j → dgW mo (j + 1) (w * mo + (v - 1)) i = dgW mo j w i := fun i hi => by
            have := dgW_pre (mo := mo) (k := j + 1) (j := j) (g := 1) (W := w) (y := v - 1) (i := i) (by omega) rfl (by rw [Nat.pow_one]; omega) hi
            rwa [Nat.pow_one] at this
          obtain ⟨V1, a1, a2, a3, a4⟩ := ih (j + 1) (by omega) (w * mo + (v - 1)) (by
            have q : (w * mo + (v - 1) + 1) * mo ^ (g + 1) ≤ (w * mo + mo) * mo ^ (g + 1) := Nat.mul_le_mul_right _ (by omega)
            rw [blk1] at q
            exact Nat.le_trans q hb) (am_upd V 80 j ((v : Nat) : Int)) (frS_trans g1 (fun r i q1 _ _ => by rw [upd_row q1])) (fun i hi => by
            rw [upd_if]
            by_cases e : i = j
            · rw [if_pos e, e, last]
            · rw [if_neg e, pre i (by omega)]; exact g2 i (by omega)) (by
            rw [okP_s, okP_cg pre, last]
            exact ⟨h3, fun b hb' => by rw [pre b hb']; exact fit.2 b hb'⟩) (by rw [upd_row (by decide), upd_row (by decide)]; exact g3)
          obtain ⟨U', b1, b2⟩ := ihm (v + 1) (by omega) (by omega) V1 a2 (fun i hi => by rw [a3 i (by omega), upd_ne (by omega)]; exact g2 i hi) (by
            rw [show min (v + 1 - 1) mo = v - 1 + 1 from by omega, ← Nat.add_assoc]; exact a4)
          refine ⟨U', Rl_search_r119 ⟨fun q => absurd q (by omega), fun _ => ?_⟩, b2⟩
          rw [bt, if_pos c, Int.toNat_natCast, w32_succ (i := j) (by omega), w32_succ (i := v) (by omega)]
          exact ⟨fun q => absurd rfl q, fun _ => ⟨by omega, V1, a1, b1⟩⟩
        · obtain ⟨U', b1, b2⟩ := ihm (v + 1) (by omega) (by omega) V g1 g2 (by
            by_cases cm : v ≤ mo
            · rw [show min (v + 1 - 1) mo = v from by omega]
              rw [show min (v - 1) mo = v - 1 from by omega] at g3
              refine rdS_blk (Nat.mul_le_mul_right _ (by omega)) g3 (fun y y1 y2 => ?_)
              refine Bool.eq_false_iff.mpr (fun z => c ?_)
              have e2 : (w * mo + v) * mo ^ (g + 1) = (w * mo + (v - 1)) * mo ^ (g + 1) + mo ^ (g + 1) := by
                rw [← Nat.succ_mul]; congr 1; omega
              have yd : y = (w * mo + (v - 1)) * mo ^ (g + 1) + (y - (w * mo + (v - 1)) * mo ^ (g + 1)) := by omega
              have o : okP t k (dgW mo k y) k := pd_iff.mp z
              have o1 := okP_le o (show j + 1 ≤ k by omega)
              rw [yd, okP_cg (r := dgW mo (j + 1) (w * mo + (v - 1))) (fun i hi => dgW_pre (by omega) (by omega) (by omega) hi), okP_s, dgW_last (by omega)] at o1
              rw [f1 v (by omega), pd_iff]
              refine ⟨by omega, fun b hb' => ?_⟩
              have o2 := o1.2 b hb'
              have pr := dgW_pre (mo := mo) (k := j + 1) (j := j) (g := 1) (W := w) (y := v - 1) (i := b) (by omega) rfl (by rw [Nat.pow_one]; omega) hb'
              rw [Nat.pow_one] at pr
              rw [pr, show 1 + (v - 1) = v from by omega] at o2
              exact o2
            · rw [show min (v + 1 - 1) mo = mo from by omega]
              rw [show min (v - 1) mo = mo from by omega] at g3
              exact g3)
          refine ⟨U', Rl_search_r119 ⟨fun q => absurd q (by omega), fun _ => ?_⟩, b2⟩
          rw [bt, if_neg c, w32_succ (i := v) (by omega)]
          exact ⟨fun _ => b1, fun q => absurd q (by decide)⟩
    obtain ⟨U', k1, k2, k3, k4⟩ := loop 24 1 (by omega) (by omega) U h1 h2 (by
      rw [show min (1 - 1) mo = 0 from by omega, Nat.add_zero, Nat.mul_assoc, Nat.mul_comm mo, ← Nat.pow_succ]; exact h4)
    rw [blk1] at k4
    refine ⟨U', Rl_search_r0 (f2 _ (Rl_search_r8 ⟨fun _ => ⟨fun q => absurd q ?_, fun _ => ⟨fun _ => k1, fun q => absurd q ?_⟩⟩, fun q => absurd q (by omega)⟩)), k2, fun i hi => by rw [k3 i hi, h2 i hi], k4⟩
    · rw [u783, w32_succ (i := j) (by omega)]; omega
    · rw [w32_succ (i := j) (by omega)]; omega
