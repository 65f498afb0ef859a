/-! a year: reference -/
def RM (U U0 : am_U) (y : Int) (f : FS) (s : Nat) : Prop := U 122 0 = (f.1 : Nat) ∧ (∀ p, p < f.1 → U 123 p = f.2.1 p ∧ U 124 p = f.2.2 p) ∧ (U 86 59 = (s : Nat) ∧ s < 2147483648) ∧ (∀ r j, ¬ (r = 122 ∧ j = 0) → ¬ (r = 123 ∧ j < 16) → ¬ (r = 124 ∧ j < 16) → ¬ (r = 86 ∧ j = 59) → ¬ (r = 120 ∧ j = 0) → U r j = U0 r j) ∧ U 120 0 = y
theorem RM_draw {U U0 : am_U} {y : Int} {f : FS} {s : Nat} (h : RM U U0 y f s) : RM (am_upd U 86 59 ((drS s : Nat) : Int)) U0 y f (drS s) := by
  obtain ⟨h1, h2, h3, h4, h5⟩ := h
  refine ⟨by rw [upd_row (by decide)]; exact h1, by rw [upd_row (by decide), upd_row (by decide)]; exact h2, ⟨upd_at _ _ _ _, drS_lt s⟩, fun r j q1 q2 q3 q4 q5 => by rw [upd_if2 q4]; exact h4 r j q1 q2 q3 q4 q5, by rw [upd_row (by decide)]; exact h5⟩
theorem ct_M_comes_l {N : Nat} {X : Nat → Int} {d : Nat} {U : am_U} {f : FS} {v x : Int} {R : Option am_V × am_M} (hf : f.1 ≤ 16) (h1 : U 122 0 = (f.1 : Nat)) (h2 : ∀ p, p < f.1 → U 123 p = f.2.1 p) (hT : (v ≠ 0 ∧ v ≤ 999999999 ∧ f.1 < 16 ∧ ∀ p, p < f.1 → f.2.1 p ≠ v) → R = rI 1 (am_upd (am_upd (am_upd U 123 f.1 v) 124 f.1 x) 122 0 ((f.1 + 1 : Nat) : Int))) (hF : ¬ (v ≠ 0 ∧ v ≤ 999999999 ∧ f.1 < 16 ∧ ∀ p, p < f.1 → f.2.1 p ≠ v) → R = rI 0 U) : ∀ m i : Nat, i + m = f.1 → EvK N X (M_comes_s31 d v x (cb (v ≠ 0 ∧ v ≤ 999999999 ∧ f.1 < 16 ∧ ∀ p, p < i → f.2.1 p ≠ v)) (i : Nat) U) R := by
  intro m
  induction m with
  | zero =>
    intro i hi
    obtain rfl : i = f.1 := by omega
    refine M_comes_r31 ⟨fun _ => ⟨fun c => ?_, fun c => hF (cb_eq.mp c)⟩, fun z => absurd z (by rw [h1]; omega)⟩
    rw [h1, Int.toNat_natCast, w32_succ (i := f.1) (by omega)]
    exact ⟨by omega, hT (cb_ne.mp c)⟩
  | succ m ih =>
    intro i hi
    have nx := ih (i + 1) (by omega)
    have e := h2 i (by omega)
    refine M_comes_r31 ⟨fun z => absurd z (by rw [h1]; omega), fun _ => ⟨fun c => ?_, fun c => ⟨by omega, ?_⟩⟩⟩
    · rw [w32_succ (i := i) (by omega)]
      rwa [cb_f (fun z => cb_eq.mp c ⟨z.1, z.2.1, z.2.2.1, fun p hp => z.2.2.2 p (by omega)⟩)] at nx
    · have c' := cb_ne.mp c
      rw [Int.toNat_natCast, e, w32_succ (i := i) (by omega)]
      refine ⟨fun z => ?_, fun z => ?_⟩
      · rwa [cb_f (fun q => q.2.2.2 i (by omega) z)] at nx
      · rwa [cb_t ⟨c'.1, c'.2.1, c'.2.2.1, fun p hp => by
          by_cases q : p = i
          · rw [q]; exact z
          · exact c'.2.2.2 p (by omega)⟩] at nx
theorem ct_M_comes {N : Nat} {X : Nat → Int} {d : Nat} {U U0 : am_U} {y : Int} {f : FS} {s : Nat} {v x : Int} (h : RM U U0 y f s) (hf : f.1 ≤ 16) : ∃ U', EvK N X (M_comes_s0 d v x U) (rI (((cmF f v x).2 : Nat) : Int) U') ∧ RM U' U0 y (cmF f v x).1 s := by
  have h' := h
  obtain ⟨h1, h2, h3, h4, h5⟩ := h'
  have go : ∀ R, ((v ≠ 0 ∧ v ≤ 999999999 ∧ f.1 < 16 ∧ ∀ p, p < f.1 → f.2.1 p ≠ v) → R = rI 1 (am_upd (am_upd (am_upd U 123 f.1 v) 124 f.1 x) 122 0 ((f.1 + 1 : Nat) : Int))) → (¬ (v ≠ 0 ∧ v ≤ 999999999 ∧ f.1 < 16 ∧ ∀ p, p < f.1 → f.2.1 p ≠ v) → R = rI 0 U) → EvK N X (M_comes_s0 d v x U) R := fun R a b => by
    have l := ct_M_comes_l (N := N) (X := X) (d := d) (U := U) (f := f) hf h1 (fun p hp => (h2 p hp).1) a b f.1 0 (by omega)
    refine M_comes_r0 ⟨fun c => ?_, fun c1 => ⟨fun c => ?_, fun c2 => ⟨fun c => ?_, fun c3 => ?_⟩⟩⟩
    · rwa [cb_f (fun z => z.1 c)] at l
    · rwa [cb_f (fun z => absurd z.2.1 (by omega))] at l
    · rw [h1] at c
      rwa [cb_f (fun z => absurd z.2.2.1 (by omega))] at l
    · rw [h1] at c3
      rwa [cb_t ⟨c1, c2, by omega, fun p hp => absurd hp (Nat.not_lt_zero p)⟩] at l
  by_cases c : v ≠ 0 ∧ v ≤ 999999999 ∧ f.1 < 16 ∧ ∀ p, p < f.1 → f.2.1 p ≠ v
  · have hlt := c.2.2.1
    refine ⟨_, go _ (fun _ => by rw [cmF_t c]; rfl) (fun z => absurd c z), ?_⟩
    rw [cmF_t c]
    refine ⟨upd_at _ _ _ _, fun p hp => ?_, ?_, fun r j q1 q2 q3 q4 q5 => ?_, ?_⟩
    · have hp' : p < f.1 + 1 := hp
      show _ = s1 f.2.1 f.1 v p ∧ _ = s1 f.2.2 f.1 x p
      rw [upd_row (show 123 ≠ 122 by decide), upd_row (show 123 ≠ 124 by decide), upd_row (show 124 ≠ 122 by decide), upd_if, upd_if, upd_row (show 124 ≠ 123 by decide)]
      unfold s1
      by_cases e : p = f.1
      · rw [if_pos e, if_pos e, if_pos e, if_pos e]; exact ⟨rfl, rfl⟩
      · rw [if_neg e, if_neg e, if_neg e, if_neg e]; exact h2 p (by omega)
    · rw [upd_row (show 86 ≠ 122 by decide), upd_row (show 86 ≠ 124 by decide), upd_row (show 86 ≠ 123 by decide)]; exact h3
    · rw [upd_if2 q1, upd_if2 (by omega), upd_if2 (by omega)]; exact h4 r j q1 q2 q3 q4 q5
    · rw [upd_row (show 120 ≠ 122 by decide), upd_row (show 120 ≠ 124 by decide), upd_row (show 120 ≠ 123 by decide)]; exact h5
  · exact ⟨U, go _ (fun z => absurd z c) (fun _ => by rw [cmF_f c]; rfl), by rw [cmF_f c]; exact h⟩
theorem ct_M_burns_l {N : Nat} {X : Nat → Int} {d h : Nat} {U0 : am_U} {y : Int} {f : FS} {s : Nat} (hf : f.1 ≤ 16) : ∀ m i : Nat, i + m = f.1 → ∀ U, RM U U0 y (f.1, f.2.1, fun p => if p < i ∧ f.2.2 p = (h : Nat) then -1 else f.2.2 p) s → ∃ U', EvK N X (M_burns_s2 d (h : Nat) (i : Nat) U) (rV U') ∧ RM U' U0 y (bnF f h) s := by
  intro m
  induction m with
  | zero =>
    intro i hi U hr
    obtain rfl : i = f.1 := by omega
    exact ⟨U, M_burns_r2 ⟨fun _ => rfl, fun z => absurd z (by rw [hr.1]; omega)⟩, hr⟩
  | succ m ih =>
    intro i hi U hr
    have hi2 : i < f.1 := by omega
    have u18 : U 124 i = f.2.2 i := (hr.2.1 i hi2).2.trans (if_neg (by omega))
    have e16 : U 122 0 = (f.1 : Nat) := hr.1
    have nx : ∀ z : Int, z = (if f.2.2 i = (h : Nat) then -1 else f.2.2 i) → RM (am_upd U 124 i z) U0 y (f.1, f.2.1, fun p => if p < i + 1 ∧ f.2.2 p = (h : Nat) then -1 else f.2.2 p) s := fun z hz => by
      obtain ⟨h1, h2, h3, h4, h5⟩ := hr
      refine ⟨by rw [upd_row (by decide)]; exact h1, fun p hp => ⟨by rw [upd_row (by decide)]; exact (h2 p hp).1, ?_⟩, by rw [upd_row (by decide)]; exact h3, fun r j q1 q2 q3 q4 q5 => by rw [upd_if2 (by omega)]; exact h4 r j q1 q2 q3 q4 q5, by rw [upd_row (by decide)]; exact h5⟩
      rw [upd_if]
      show _ = if p < i + 1 ∧ f.2.2 p = (h : Nat) then (-1 : Int) else f.2.2 p
      by_cases e : p = i
      · rw [if_pos e, hz, e]
        by_cases e2 : f.2.2 i = (h : Nat)
        · rw [if_pos e2, if_pos ⟨by omega, e2⟩]
        · rw [if_neg e2, if_neg (fun q => e2 q.2)]
      · rw [if_neg e, (h2 p hp).2]
        show (if p < i ∧ f.2.2 p = (h : Nat) then (-1 : Int) else f.2.2 p) = _
        by_cases e2 : p < i ∧ f.2.2 p = (h : Nat)
        · rw [if_pos e2, if_pos (by omega)]
        · rw [if_neg e2, if_neg (by omega)]
    by_cases c : f.2.2 i = (h : Nat)
    · obtain ⟨U', k1, k2⟩ := ih (i + 1) (by omega) _ (nx (-1) (by rw [if_pos c]))
      refine ⟨U', M_burns_r2 ⟨fun z => absurd z (by rw [e16]; omega), fun _ => ⟨by omega, ?_⟩⟩, k2⟩
      rw [Int.toNat_natCast, u18, w32_succ (i := i) (by omega)]
      exact ⟨fun z => absurd c z, fun _ => k1⟩
    · obtain ⟨U', k1, k2⟩ := ih (i + 1) (by omega) _ (nx (f.2.2 i) (by rw [if_neg c]))
      refine ⟨U', M_burns_r2 ⟨fun z => absurd z (by rw [e16]; omega), fun _ => ⟨by omega, ?_⟩⟩, k2⟩
      rw [Int.toNat_natCast, u18, w32_succ (i := i) (by omega)]
      exact ⟨fun _ => k1, fun z => absurd z c⟩
theorem ct_M_burns {N : Nat} {X : Nat → Int} {d h : Nat} {U U0 : am_U} {y : Int} {f : FS} {s : Nat} (hr : RM U U0 y f s) (hf : f.1 ≤ 16) : ∃ U', EvK N X (M_burns_s0 d (h : Nat) U) (rV U') ∧ RM U' U0 y (bnF f h) s := by
  obtain ⟨U', k1, k2⟩ := ct_M_burns_l (N := N) (X := X) (d := d) (h := h) hf f.1 0 (by omega) U (by rw [bnF_0]; exact hr)
  exact ⟨U', M_burns_r0 k1, k2⟩
theorem ct_M_bears {N : Nat} {X : Nat → Int} {d nh b g : Nat} {U U0 : am_U} {y : Int} {f : FS} {s : Nat} {rm : Nat → Int} (h : RM U U0 y f s) (hf : FOk rm nh f) (hb : U0 86 13 = (b : Nat)) (hb2 : b < 2) (h90 : U0 90 b = (nh : Nat)) (hnh2 : nh ≤ 12) (hg : g < nh) (h93 : U0 93 (12 * b + g) = rm g) : ∃ U', EvK N X (M_bears_s0 (d + 2) (g : Nat) U) (rI (((brF rm f g).2 : Nat) : Int) U') ∧ RM U' U0 y (brF rm f g).1 s := by
  have e13 : U 86 13 = (b : Nat) := by rw [h.2.2.2.1 86 13 (by decide) (by decide) (by decide) (by decide) (by decide)]; exact hb
  have e90 : U 90 b = (nh : Nat) := by rw [h.2.2.2.1 90 b (by omega) (by omega) (by omega) (by omega) (by omega)]; exact h90
  have e93 : U 93 (12 * b + g) = rm g := by rw [h.2.2.2.1 93 (12 * b + g) (by omega) (by omega) (by omega) (by omega) (by omega)]; exact h93
  have lv := ct_M_living (N := N) (X := X) (d := d) (U := U) 0 ((g : Nat) : Int) (by decide) h.1 hf.1
  have lc : fb_ct (fun p => U 124 (16 * 0 + p) == ((g : Nat) : Int)) f.1 = ctF f g := fb_ct_cong (fun p hp => by rw [Nat.mul_zero, Nat.zero_add, (h.2.1 p hp).2])
  rw [lc] at lv
  have rm' := ct_M_roomsOf (N := N) (X := X) (d := d + 1) (U := U) g e13 hb2 (by omega)
  rw [e93] at rm'
  have kk : ∀ k : Int, kth (fun p => U 124 p == ((g : Nat) : Int)) k f.1 = kthF f g k := fun k => kth_cong (fun p hp => by rw [(h.2.1 p hp).2])
  have hs10 : EvK N X (M_house_s0 (d + 1) ((g : Nat) : Int) 10 U) (rI (kthF f g 0) U) := by
    have l := M_house_kth (N := N) (X := X) (d := d) (U := U) (h := g) (w := 10) (by decide) h.1 hf.1 f.1 0 (by omega) (by simp [fb_ct])
    rw [kk] at l
    exact M_house_r0 ⟨1, U, M_h1 e13 hb2 (by rw [e90]; omega), fun _ => ⟨fun z => absurd z (by decide), fun _ => l⟩, fun z => absurd z (by decide)⟩
  have hs11 : EvK N X (M_house_s0 (d + 1) ((g : Nat) : Int) 11 U) (rI (kthF f g 1) U) := by
    have l := M_house_kth (N := N) (X := X) (d := d) (U := U) (h := g) (w := 11) (by decide) h.1 hf.1 f.1 0 (by omega) (by simp [fb_ct])
    rw [kk] at l
    exact M_house_r0 ⟨1, U, M_h1 e13 hb2 (by rw [e90]; omega), fun _ => ⟨fun z => absurd z (by decide), fun _ => l⟩, fun z => absurd z (by decide)⟩
  have hle : ((ctF f g : Nat) : Int) ≤ rm g := hf.2.2.2 g hg
  have hF := hf.1
  by_cases c : 2 ≤ ctF f g ∧ ((ctF f g : Nat) : Int) < rm g
  · obtain ⟨i0, p0, p1, p2⟩ := kth_ex (p := fun p => f.2.2 p == ((g : Nat) : Int)) (k := 0) (by decide) (n := f.1) (show (0 : Int) < ((ctF f g : Nat) : Int) by omega)
    obtain ⟨i1, q0, q1, q2⟩ := kth_ex (p := fun p => f.2.2 p == ((g : Nat) : Int)) (k := 1) (by decide) (n := f.1) (show (1 : Int) < ((ctF f g : Nat) : Int) by omega)
    have p0' : kthF f g 0 = (i0 : Nat) := p0
    have q0' : kthF f g 1 = (i1 : Nat) := q0
    obtain ⟨U', m1, m2⟩ := ct_M_comes (N := N) (X := X) (d := d + 1) (v := absI (f.2.1 i0 - f.2.1 i1)) (x := ((g : Nat) : Int)) h hf.1
    have eb : brF rm f g = cmF f (absI (f.2.1 i0 - f.2.1 i1)) ((g : Nat) : Int) := by
      unfold brF; rw [if_pos c, p0', q0', Int.toNat_natCast, Int.toNat_natCast]
    rw [eb]
    have aw := abs_w (hf.2.1 i0 p1).2.1 (hf.2.1 i1 q1).2.1
    rw [p0'] at hs10
    rw [q0'] at hs11
    refine ⟨U', M_bears_r0 ⟨_, _, lv, fun z => absurd z (by clear aw; omega), fun _ => ⟨_, _, rm', fun _ => ⟨_, _, hs10, by clear aw; omega, _, _, hs11, by clear aw; omega, ?_⟩, fun z => absurd c.2 (by rw [z]; clear aw; omega)⟩⟩, m2⟩
    rw [Int.toNat_natCast, Int.toNat_natCast, (h.2.1 i0 p1).1, (h.2.1 i1 q1).1]
    refine ⟨fun z => ?_, fun z => ?_⟩
    · rw [if_pos z] at aw; rw [aw]; exact ⟨_, _, m1, rfl⟩
    · rw [if_neg (Int.not_le.mpr z)] at aw; rw [aw]; exact ⟨_, _, m1, rfl⟩
  · have eb : brF rm f g = (f, 0) := by unfold brF; rw [if_neg c]
    rw [eb]
    exact ⟨U, M_bears_r0 ⟨_, _, lv, fun _ => rfl, fun z => ⟨_, _, rm', fun q => absurd ⟨by omega, by omega⟩ c, fun _ => rfl⟩⟩, h⟩
