/-! years -/
theorem RM_year {U U0 : am_U} {y : Int} {f : FS} {s : Nat} (h : RM U U0 y f s) (hy : 0 ≤ y ∧ y ≤ 9999) : RM (am_upd U 120 0 (w32 (U 120 0 + 1))) U0 (y + 1) f s := by
  obtain ⟨h1, h2, h3, h4, h5⟩ := h
  refine ⟨by rw [upd_row (by decide)]; exact h1, by rw [upd_row (by decide), upd_row (by decide)]; exact h2, by rw [upd_row (by decide)]; exact h3, fun r j q1 q2 q3 q4 q5 => by rw [upd_if2 q5]; exact h4 r j q1 q2 q3 q4 q5, by rw [upd_at, h5, w32_eq (by omega) (by omega)]⟩
theorem ct_M_yearGoes {N : Nat} {X : Nat → Int} {d nh b : Nat} {U U0 : am_U} {y F : Int} {f : FS} {s : Nat} {rm : Nat → Int} (h : RM U U0 y f s) (hf : FOk rm nh f) (hb : U0 86 13 = (b : Nat)) (hb2 : b < 2) (h90 : U0 90 b = (nh : Nat)) (hnh2 : nh ≤ 12) (h110 : U0 110 b = F) (h93 : ∀ g, g < nh → U0 93 (12 * b + g) = rm g) (hy : 0 ≤ y ∧ y ≤ 9999) : ∃ U', EvK N X (M_yearGoes_s0 (d + 3) U) (rI (((yrF rm nh F f s).2.2 : Nat) : Int) U') ∧ RM U' U0 (y + 1) (yrF rm nh F f s).1 (yrF rm nh F f s).2.1 := by
  have fr : ∀ {V : am_U} {f' : FS} {s' : Nat}, RM V U0 y f' s' → V 86 13 = (b : Nat) ∧ V 90 b = (nh : Nat) ∧ V 110 b = F := fun z => ⟨by rw [z.2.2.2.1 86 13 (by decide) (by decide) (by decide) (by decide) (by decide)]; exact hb, by rw [z.2.2.2.1 90 b (by omega) (by omega) (by omega) (by omega) (by omega)]; exact h90, by rw [z.2.2.2.1 110 b (by omega) (by omega) (by omega) (by omega) (by omega)]; exact h110⟩
  obtain ⟨e13, e90, _⟩ := fr h
  by_cases c : nh = 0
  · have d1 := ct_M_draw (N := N) (X := X) (d := d + 2) (U := U) (m := 1000) h.2.2.1.1 h.2.2.1.2 (by decide)
    have rd1 := RM_draw h
    have hlt := drV_lt (s := s) (m := 1000) (by decide)
    obtain ⟨U2, k1, k2⟩ := ct_M_comes (N := N) (X := X) (d := d + 2) (v := ((drV s 1000 + 1 : Nat) : Int)) (x := -1) rd1 hf.1
    have ey : yrF rm nh F f s = ((cmF f ((drV s 1000 + 1 : Nat) : Int) (-1)).1, drS s, (cmF f ((drV s 1000 + 1 : Nat) : Int) (-1)).2) := by unfold yrF; rw [if_pos c]
    rw [ey]
    have hle := cmF_le f ((drV s 1000 + 1 : Nat) : Int) (-1)
    refine ⟨am_upd U2 120 0 (w32 (U2 120 0 + 1)), M_yearGoes_r0 ?_, RM_year k2 hy⟩
    rw [e13, Int.toNat_natCast, e90]
    refine ⟨by omega, fun _ => ⟨_, _, d1, ?_⟩, fun z => absurd z (by omega)⟩
    rw [w32_succ (i := drV s 1000) (by omega)]
    refine ⟨_, _, k1, ?_⟩
    rw [Int.zero_add, w32_eq (x := (((cmF f ((drV s 1000 + 1 : Nat) : Int) (-1)).2 : Nat) : Int)) (by omega) (by omega)]
  · have d1 := ct_M_draw (N := N) (X := X) (d := d + 2) (U := U) (m := nh) h.2.2.1.1 h.2.2.1.2 (by omega)
    have rd1 := RM_draw h
    have d2 := ct_M_draw (N := N) (X := X) (d := d + 2) (m := 100) rd1.2.2.1.1 rd1.2.2.1.2 (by decide)
    have rd2 := RM_draw rd1
    generalize am_upd (am_upd U 86 59 ((drS s : Nat) : Int)) 86 59 ((drS (drS s) : Nat) : Int) = U4 at d2 rd2
    obtain ⟨e13', e90', e110'⟩ := fr rd2
    have ey : yrF rm nh F f s = ((cmF (brF rm (buF nh F f s) (drV (drS (drS s)) nh)).1 ((drV (drS (drS (drS s))) 1000 + 1 : Nat) : Int) (-1)).1, drS (drS (drS (drS s))), (brF rm (buF nh F f s) (drV (drS (drS s)) nh)).2 + (cmF (brF rm (buF nh F f s) (drV (drS (drS s)) nh)).1 ((drV (drS (drS (drS s))) 1000 + 1 : Nat) : Int) (-1)).2) := by unfold yrF; rw [if_neg c]
    rw [ey]
    have fb := FOk_bu (F := F) (s := s) hf
    have hlt3 := drV_lt (s := drS (drS s)) (m := nh) (by omega)
    have f4 := FOk_br fb hlt3
    have l1 := brF_le rm (buF nh F f s) (drV (drS (drS s)) nh)
    have hlt := drV_lt (s := drS (drS (drS s))) (m := 1000) (by decide)
    -- what is left after the fire
    have rest : ∀ V, RM V U0 y (buF nh F f s) (drS (drS s)) → ∃ U', RM U' U0 (y + 1) (cmF (brF rm (buF nh F f s) (drV (drS (drS s)) nh)).1 ((drV (drS (drS (drS s))) 1000 + 1 : Nat) : Int) (-1)).1 (drS (drS (drS (drS s)))) ∧ (0 ≤ V 86 13 ∧ V 86 13 < 2) ∧ ∃ (r5 : Int) (U5 : am_U), EvK N X (M_draw_s0 (d + 2) (V 90 ((V 86 13).toNat)) V) (rI r5 U5) ∧ ∃ (r6 : Int) (U6 : am_U), EvK N X (M_bears_s0 (d + 2) r5 U5) (rI r6 U6) ∧ ∃ (r7 : Int) (U7 : am_U), EvK N X (M_draw_s0 (d + 2) 1000 U6) (rI r7 U7) ∧ ∃ (r8 : Int) (U8 : am_U), EvK N X (M_comes_s0 (d + 2) (w32 (r7 + 1)) (-1) U7) (rI r8 U8) ∧ rI (((brF rm (buF nh F f s) (drV (drS (drS s)) nh)).2 + (cmF (brF rm (buF nh F f s) (drV (drS (drS s)) nh)).1 ((drV (drS (drS (drS s))) 1000 + 1 : Nat) : Int) (-1)).2 : Nat) : Int) U' = rI (w32 ((w32 (0 + r6)) + r8)) (am_upd U8 120 0 (w32 ((U8 120 0) + 1))) := fun V rv => by
      obtain ⟨v13, v90, _⟩ := fr rv
      have dd := ct_M_draw (N := N) (X := X) (d := d + 2) (U := V) (m := nh) rv.2.2.1.1 rv.2.2.1.2 (by omega)
      have rd3 := RM_draw rv
      obtain ⟨U6, k1, k2⟩ := ct_M_bears (N := N) (X := X) (d := d) (g := drV (drS (drS s)) nh) rd3 fb hb hb2 h90 hnh2 hlt3 (h93 _ hlt3)
      generalize brF rm (buF nh F f s) (drV (drS (drS s)) nh) = fc at k1 k2 f4 l1
      have dd2 := ct_M_draw (N := N) (X := X) (d := d + 2) (U := U6) (m := 1000) k2.2.2.1.1 k2.2.2.1.2 (by decide)
      have rd4 := RM_draw k2
      generalize drV (drS (drS (drS s))) 1000 = v at dd2 hlt
      obtain ⟨U8, m1, m2⟩ := ct_M_comes (N := N) (X := X) (d := d + 2) (v := ((v + 1 : Nat) : Int)) (x := -1) rd4 f4.1
      have hle := cmF_le fc.1 ((v + 1 : Nat) : Int) (-1)
      refine ⟨am_upd U8 120 0 (w32 (U8 120 0 + 1)), RM_year m2 hy, ?_⟩
      rw [v13, Int.toNat_natCast, v90]
      refine ⟨by omega, _, _, dd, _, _, k1, _, _, dd2, ?_⟩
      rw [w32_succ (i := v) (by omega)]
      refine ⟨_, _, m1, ?_⟩
      rw [Int.zero_add, w32_eq (x := ((fc.2 : Nat) : Int)) (by omega) (by omega), w32_eq (x := ((fc.2 : Nat) : Int) + (((cmF fc.1 ((v + 1 : Nat) : Int) (-1)).2 : Nat) : Int)) (by omega) (by omega)]
      rfl
    by_cases c2 : ((drV (drS s) 100 : Nat) : Int) < F
    · obtain ⟨U9, b1, b2⟩ := ct_M_burns (N := N) (X := X) (d := d + 2) (h := drV s nh) rd2 hf.1
      have eb : buF nh F f s = bnF f (drV s nh) := by unfold buF; rw [if_pos c2]
      obtain ⟨U', r1, r2⟩ := rest U9 (by rw [eb]; exact b2)
      refine ⟨U', M_yearGoes_r0 ?_, r1⟩
      rw [e13, Int.toNat_natCast, e90]
      refine ⟨by omega, fun z => absurd z (by omega), fun _ => ⟨_, _, d1, _, _, d2, ?_⟩⟩
      rw [e13', Int.toNat_natCast, e110', e90']
      exact ⟨by omega, fun z => absurd c2 (by omega), fun _ => ⟨U9, b1, r2⟩⟩
    · have eb : buF nh F f s = f := by unfold buF; rw [if_neg c2]
      obtain ⟨U', r1, r2⟩ := rest U4 (by rw [eb]; exact rd2)
      refine ⟨U', M_yearGoes_r0 ?_, r1⟩
      rw [e13, Int.toNat_natCast, e90]
      refine ⟨by omega, fun z => absurd z (by omega), fun _ => ⟨_, _, d1, _, _, d2, ?_⟩⟩
      rw [e13', Int.toNat_natCast, e90'] at r2
      rw [e13', Int.toNat_natCast, e110', e90']
      exact ⟨by omega, fun _ => r2.2, fun z => absurd z c2⟩
noncomputable def ysF (rm : Nat → Int) (nh : Nat) (F : Int) : Nat → FS → Nat → Nat → FS × Nat × Nat
  | 0, f, s, c => (f, s, c)
  | t + 1, f, s, c => ysF rm nh F t (yrF rm nh F f s).1 (yrF rm nh F f s).2.1 (c + (yrF rm nh F f s).2.2)
theorem yrF_le (rm : Nat → Int) (nh : Nat) (F : Int) (f : FS) (s : Nat) : (yrF rm nh F f s).2.2 ≤ 2 := by
  unfold yrF
  split
  · exact Nat.le_trans (cmF_le _ _ _) (by decide)
  · exact Nat.add_le_add (brF_le _ _ _) (cmF_le _ _ _)
theorem FOk_ys {rm : Nat → Int} {nh : Nat} {F : Int} : ∀ (t : Nat) (f : FS) (s c : Nat), FOk rm nh f → FOk rm nh (ysF rm nh F t f s c).1 := by
  intro t
  induction t with
  | zero => intro f s c h; exact h
  | succ t ih => intro f s c h; exact ih _ _ _ (FOk_yr h)
theorem D_years_l {N : Nat} {X : Nat → Int} {d nh m : Nat} {U0 : am_U} {F : Int} (hm : m ≤ 50) (h31 : U0 3 1 = (nh : Nat)) (hnh2 : nh ≤ 12) (h35 : U0 3 5 = F) : ∀ t i : Nat, i + t = m → ∀ (U : am_U) (y : Int) (f : FS) (s c : Nat), RD U U0 y f s → FOk (U0 8) nh f → c ≤ 2 * i → (0 ≤ y ∧ y + t ≤ 9999) → ∃ U', EvK N X (D_years_s49 (d + 5) (m : Nat) (c : Nat) (i : Nat) U) (rI (((ysF (U0 8) nh F t f s c).2.2 : Nat) : Int) (am_upd (am_upd (am_upd U' 45 5 0) 48 9 0) 52 8 0)) ∧ RD U' U0 (y + t) (ysF (U0 8) nh F t f s c).1 (ysF (U0 8) nh F t f s c).2.1 := by
  intro t
  induction t with
  | zero =>
    intro i hi U y f s c h hf hc hy
    obtain rfl : i = m := by omega
    exact ⟨U, D_years_r49 ⟨fun _ => ⟨_, ct_forget U, rfl⟩, fun z => absurd z (by omega)⟩, by rw [Int.natCast_zero, Int.add_zero]; exact h⟩
  | succ t ih =>
    intro i hi U y f s c h hf hc hy
    obtain ⟨U1, k1, k2⟩ := ct_passYear (N := N) (X := X) (d := d) h hf h31 hnh2 h35 (by omega)
    have hle := yrF_le (U0 8) nh F f s
    have hf2 := FOk_yr (F := F) (s := s) hf
    obtain ⟨U', m1, m2⟩ := ih (i + 1) (by omega) U1 (y + 1) _ _ (c + (yrF (U0 8) nh F f s).2.2) k2 hf2 (by omega) (by omega)
    refine ⟨U', D_years_r49 ⟨fun z => absurd z (by omega), fun _ => ⟨_, _, k1, ?_⟩⟩, by rw [show y + ((t + 1 : Nat) : Int) = y + 1 + ((t : Nat) : Int) from by omega]; exact m2⟩
    rw [w32_succ (i := i) (by omega), w32_eq (x := ((c : Nat) : Int) + (((yrF (U0 8) nh F f s).2.2 : Nat) : Int)) (by omega) (by omega)]
    exact m1
theorem M_years_l {N : Nat} {X : Nat → Int} {d nh m b : Nat} {U0 : am_U} {F : Int} {rm : Nat → Int} (hm : m ≤ 50) (hb : U0 86 13 = (b : Nat)) (hb2 : b < 2) (h90 : U0 90 b = (nh : Nat)) (hnh2 : nh ≤ 12) (h110 : U0 110 b = F) (h93 : ∀ g, g < nh → U0 93 (12 * b + g) = rm g) : ∀ t i : Nat, i + t = m → ∀ (U : am_U) (y : Int) (f : FS) (s c : Nat), RM U U0 y f s → FOk rm nh f → c ≤ 2 * i → (0 ≤ y ∧ y + t ≤ 9999) → ∃ U', EvK N X (M_years_s38 (d + 4) (m : Nat) (c : Nat) (i : Nat) U) (rI (((ysF rm nh F t f s c).2.2 : Nat) : Int) U') ∧ RM U' U0 (y + t) (ysF rm nh F t f s c).1 (ysF rm nh F t f s c).2.1 := by
  intro t
  induction t with
  | zero =>
    intro i hi U y f s c h hf hc hy
    obtain rfl : i = m := by omega
    exact ⟨U, M_years_r38 ⟨fun _ => rfl, fun z => absurd z (by omega)⟩, by rw [Int.natCast_zero, Int.add_zero]; exact h⟩
  | succ t ih =>
    intro i hi U y f s c h hf hc hy
    obtain ⟨U1, k1, k2⟩ := ct_M_yearGoes (N := N) (X := X) (d := d) h hf hb hb2 h90 hnh2 h110 h93 (by omega)
    have hle := yrF_le rm nh F f s
    have hf2 := FOk_yr (F := F) (s := s) hf
    obtain ⟨U', m1, m2⟩ := ih (i + 1) (by omega) U1 (y + 1) _ _ (c + (yrF rm nh F f s).2.2) k2 hf2 (by omega) (by omega)
    refine ⟨U', M_years_r38 ⟨fun z => absurd z (by omega), fun _ => ⟨_, _, k1, ?_⟩⟩, by rw [show y + ((t + 1 : Nat) : Int) = y + 1 + ((t : Nat) : Int) from by omega]; exact m2⟩
    rw [w32_succ (i := i) (by omega), w32_eq (x := ((c : Nat) : Int) + (((yrF rm nh F f s).2.2 : Nat) : Int)) (by omega) (by omega)]
    exact m1
