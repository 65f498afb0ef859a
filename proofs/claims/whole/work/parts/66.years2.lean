/-! a year: class -/
noncomputable def buF (nh : Nat) (F : Int) (f : FS) (s : Nat) : FS := if ((drV (drS s) 100 : Nat) : Int) < F then bnF f (drV s nh) else f
theorem drV_lt {s m : Nat} (h : 1 ≤ m) : drV s m < m := Nat.mod_lt _ (by omega)
theorem bnF_0 (f : FS) (h : Nat) : (f.1, f.2.1, fun p => if p < 0 ∧ f.2.2 p = ((h : Nat) : Int) then (-1 : Int) else f.2.2 p) = f := by
  have : (fun p => if p < 0 ∧ f.2.2 p = ((h : Nat) : Int) then (-1 : Int) else f.2.2 p) = f.2.2 := funext fun p => if_neg (by omega)
  rw [this]
theorem ct_burn {N : Nat} {X : Nat → Int} {d nh : Nat} {U U0 : am_U} {y F : Int} {f : FS} {s : Nat} (h : RD U U0 y f s) (hf : f.1 ≤ 16) (hh : ∀ p, p < f.1 → -1 ≤ f.2.2 p ∧ f.2.2 p < 12) (h31 : U0 3 1 = (nh : Nat)) (hnh : 1 ≤ nh) (h35 : U0 3 5 = F) : ∃ U', EvK N X (D_burn_s0 (d + 2) U) (rV U') ∧ RD U' U0 y (buF nh F f s) (drS (drS s)) := by
  have e31 : U 3 1 = (nh : Nat) := by rw [h.2.2.2.2.2.2.1 3 1 (by decide) (by decide)]; exact h31
  have d1 := ct_draw (N := N) (X := X) (d := d) (U := U) h.2.2.2.2.2.1.1 h.2.2.2.2.2.1.2 hnh
  have rd1 := RD_draw h
  have d2 := ct_draw (N := N) (X := X) (d := d) (m := 100) rd1.2.2.2.2.2.1.1 rd1.2.2.2.2.2.1.2 (by decide)
  have rd2 := RD_draw rd1
  generalize am_upd (am_upd U 1 18 ((drS s : Nat) : Int)) 1 18 ((drS (drS s) : Nat) : Int) = U2 at d2 rd2
  have e35 : U2 3 5 = F := by rw [rd2.2.2.2.2.2.2.1 3 5 (by decide) (by decide)]; exact h35
  by_cases c : ((drV (drS s) 100 : Nat) : Int) < F
  · obtain ⟨U', k1, k2⟩ := ct_burn_l (N := N) (X := X) (d := d + 1) (h := drV s nh) hf hh f.1 0 (by omega) U2 (by rw [bnF_0]; exact rd2)
    refine ⟨U', D_burn_r0 ⟨_, _, by rw [e31]; exact d1, _, _, d2, fun _ => k1, fun z => absurd c (by rw [e35] at z; omega)⟩, ?_⟩
    unfold buF; rw [if_pos c]; exact k2
  · refine ⟨U2, D_burn_r0 ⟨_, _, by rw [e31]; exact d1, _, _, d2, fun z => absurd z (by rw [e35]; exact c), fun _ => rfl⟩, ?_⟩
    unfold buF; rw [if_neg c]; exact rd2
theorem abs_w {a b : Int} (ha : -999999999 ≤ a ∧ a ≤ 999999999) (hb : -999999999 ≤ b ∧ b ≤ 999999999) : (if 0 ≤ w32 (a - b) then w32 (a - b) else w32 (-(w32 (a - b)))) = absI (a - b) := by
  unfold absI
  rw [w32_eq (x := a - b) (by omega) (by omega)]
  split
  · rfl
  · rw [w32_eq (by omega) (by omega)]
theorem ct_bear {N : Nat} {X : Nat → Int} {d nh : Nat} {U U0 : am_U} {y : Int} {f : FS} {s : Nat} (h : RD U U0 y f s) (hf : FOk (U0 8) nh f) (h31 : U0 3 1 = (nh : Nat)) (hnh : 1 ≤ nh) (hnh2 : nh ≤ 12) : ∃ U', EvK N X (D_bear_s0 (d + 3) U) (rI (((brF (U0 8) f (drV s nh)).2 : Nat) : Int) U') ∧ RD U' U0 y (brF (U0 8) f (drV s nh)).1 (drS s) := by
  have e31 : U 3 1 = (nh : Nat) := by rw [h.2.2.2.2.2.2.1 3 1 (by decide) (by decide)]; exact h31
  have d1 := ct_draw (N := N) (X := X) (d := d + 1) (U := U) h.2.2.2.2.2.1.1 h.2.2.2.2.2.1.2 hnh
  have rd1 := RD_draw h
  have hlt := drV_lt (s := s) hnh
  generalize am_upd U 1 18 ((drS s : Nat) : Int) = U1 at d1 rd1
  generalize drV s nh = g at d1 hlt
  have e31' : U1 3 1 = (nh : Nat) := by rw [rd1.2.2.2.2.2.2.1 3 1 (by decide) (by decide)]; exact h31
  have e8 : U1 8 = U0 8 := funext fun j => rd1.2.2.2.2.2.2.1 8 j (by decide) (by omega)
  have e16 : U1 16 0 = (f.1 : Nat) := rd1.1
  have k0 : kth (tb (U1 19 g)) 0 32 = kthF f g 0 := dw_kth rd1.2.2.2.1 hf.1 (by omega) 0
  have k1 : kth (tb (U1 19 g)) 1 32 = kthF f g 1 := dw_kth rd1.2.2.2.1 hf.1 (by omega) 1
  have kc : fb_ct (tb (U1 19 g)) 32 = ctF f g := dw_ct rd1.2.2.2.1 hf.1 (by omega)
  have b0 := ct_bitAt (N := N) (X := X) (d := d + 2) (U := U1) (U1 19 g) 0 (by decide)
  have b1 := ct_bitAt (N := N) (X := X) (d := d + 2) (U := U1) (U1 19 g) 1 (by decide)
  rw [k0] at b0
  rw [k1] at b1
  have lv := ct_Fk_living_16 (N := N) (X := X) (d := d + 1) (U := U1) g (by omega)
  rw [kc] at lv
  have hs : EvK N X (D_isHouse_s0 (d + 2) ((g : Nat) : Int) U1) (rI 1 U1) := D_h1 (by rw [e31']; omega)
  have hF := hf.1
  have st : ∀ R, (∃ (r5 : Int) (U5 : am_U), EvK N X (D_isPerson_s0 (d + 2) (kthF f g 0) U1) (rI r5 U5) ∧ ((r5 = 0) → R = rI 0 U5) ∧ ((r5 ≠ 0) → ∃ (r6 : Int) (U6 : am_U), EvK N X (D_isPerson_s0 (d + 2) (kthF f g 1) U5) (rI r6 U6) ∧ ((r6 = 0) → R = rI 0 U6) ∧ ((r6 ≠ 0) → ∃ (r7 : Int) (U7 : am_U), EvK N X (Fk_living_16_s0 (d + 2) ((g : Nat) : Int) U6) (rI r7 U7) ∧ ((r7 < (U7 8 g)) → (0 ≤ kthF f g 0 ∧ kthF f g 0 < 16) ∧ (0 ≤ kthF f g 1 ∧ kthF f g 1 < 16) ∧ ∃ (r8 : Int) (U8 : am_U), EvK N X (D_comeIn_s0 (d + 2) (if 0 ≤ (w32 ((U7 17 (kthF f g 0).toNat) - (U7 17 (kthF f g 1).toNat))) then (w32 ((U7 17 (kthF f g 0).toNat) - (U7 17 (kthF f g 1).toNat))) else w32 (-(w32 ((U7 17 (kthF f g 0).toNat) - (U7 17 (kthF f g 1).toNat))))) ((g : Nat) : Int) U7) (rI r8 U8) ∧ R = rI r8 U8) ∧ (((U7 8 g) ≤ r7) → R = rI 0 U7)))) → EvK N X (D_bear_s0 (d + 3) U) R := fun R z => by
    refine D_bear_r0 ⟨_, _, by rw [e31]; exact d1, 1, U1, hs, fun _ => ⟨by omega, ?_⟩, fun q => absurd q (by decide)⟩
    rw [Int.toNat_natCast]
    exact ⟨_, _, b0, _, _, b1, z⟩
  by_cases c : 2 ≤ ctF f g ∧ ((ctF f g : Nat) : Int) < U0 8 g
  · obtain ⟨i0, p0, p1, p2⟩ := kth_ex (p := fun p => f.2.2 p == ((g : Nat) : Int)) (k := 0) (by decide) (n := f.1) (show (0 : Int) < ((ctF f g : Nat) : Int) by omega)
    obtain ⟨i1, q0, q1, q2⟩ := kth_ex (p := fun p => f.2.2 p == ((g : Nat) : Int)) (k := 1) (by decide) (n := f.1) (show (1 : Int) < ((ctF f g : Nat) : Int) by omega)
    have p0' : kthF f g 0 = (i0 : Nat) := p0
    have q0' : kthF f g 1 = (i1 : Nat) := q0
    obtain ⟨U', m1, m2⟩ := ct_comeIn (N := N) (X := X) (d := d) (v := absI (f.2.1 i0 - f.2.1 i1)) (x := ((g : Nat) : Int)) rd1 hf.1 (by omega)
    have eb : brF (U0 8) f g = cmF f (absI (f.2.1 i0 - f.2.1 i1)) ((g : Nat) : Int) := by
      unfold brF; rw [if_pos c, p0', q0', Int.toNat_natCast, Int.toNat_natCast]
    rw [eb]
    refine ⟨U', st _ ⟨1, U1, D_p1 (by rw [p0', e16]; omega), fun q => absurd q (by decide), fun _ => ⟨1, U1, D_p1 (by rw [q0', e16]; omega), fun q => absurd q (by decide), fun _ => ⟨_, _, lv, fun _ => ?_, fun z => absurd c.2 (by rw [e8] at z; omega)⟩⟩⟩, m2⟩
    rw [p0', q0', Int.toNat_natCast, Int.toNat_natCast, rd1.2.1, abs_w (hf.2.1 i0 p1).2.1 (hf.2.1 i1 q1).2.1]
    exact ⟨by omega, by omega, _, _, m1, rfl⟩
  · have eb : brF (U0 8) f g = (f, 0) := by unfold brF; rw [if_neg c]
    rw [eb]
    refine ⟨U1, st _ ?_, rd1⟩
    by_cases c0 : ctF f g = 0
    · have : kthF f g 0 = -1 := kth_m1 (show ((ctF f g : Nat) : Int) ≤ 0 by omega)
      exact ⟨0, U1, D_p0 (by rw [this]; omega), fun _ => rfl, fun q => absurd rfl q⟩
    · obtain ⟨i0, p0, p1, p2⟩ := kth_ex (p := fun p => f.2.2 p == ((g : Nat) : Int)) (k := 0) (by decide) (n := f.1) (show (0 : Int) < ((ctF f g : Nat) : Int) by omega)
      have p0' : kthF f g 0 = (i0 : Nat) := p0
      refine ⟨1, U1, D_p1 (by rw [p0', e16]; omega), fun q => absurd q (by decide), fun _ => ?_⟩
      by_cases c1 : ctF f g = 1
      · have : kthF f g 1 = -1 := kth_m1 (show ((ctF f g : Nat) : Int) ≤ 1 by omega)
        exact ⟨0, U1, D_p0 (by rw [this]; omega), fun _ => rfl, fun q => absurd rfl q⟩
      · obtain ⟨i1, q0, q1, q2⟩ := kth_ex (p := fun p => f.2.2 p == ((g : Nat) : Int)) (k := 1) (by decide) (n := f.1) (show (1 : Int) < ((ctF f g : Nat) : Int) by omega)
        have q0' : kthF f g 1 = (i1 : Nat) := q0
        refine ⟨1, U1, D_p1 (by rw [q0', e16]; omega), fun q => absurd q (by decide), fun _ => ⟨_, _, lv, fun z => absurd z ?_, fun _ => rfl⟩⟩
        rw [e8]; omega
noncomputable def yrF (rm : Nat → Int) (nh : Nat) (F : Int) (f : FS) (s : Nat) : FS × Nat × Nat :=
  if nh = 0 then ((cmF f ((drV s 1000 + 1 : Nat) : Int) (-1)).1, drS s, (cmF f ((drV s 1000 + 1 : Nat) : Int) (-1)).2)
  else ((cmF (brF rm (buF nh F f s) (drV (drS (drS s)) nh)).1 ((drV (drS (drS (drS s))) 1000 + 1 : Nat) : Int) (-1)).1, drS (drS (drS (drS s))), (brF rm (buF nh F f s) (drV (drS (drS s)) nh)).2 + (cmF (brF rm (buF nh F f s) (drV (drS (drS s)) nh)).1 ((drV (drS (drS (drS s))) 1000 + 1 : Nat) : Int) (-1)).2)
theorem cmF_le (f : FS) (v h : Int) : (cmF f v h).2 ≤ 1 := by
  by_cases c : v ≠ 0 ∧ v ≤ 999999999 ∧ f.1 < 16 ∧ ∀ p, p < f.1 → f.2.1 p ≠ v
  · rw [cmF_t c]; exact Nat.le_refl 1
  · rw [cmF_f c]; exact Nat.zero_le 1
theorem brF_le (rm : Nat → Int) (f : FS) (h : Nat) : (brF rm f h).2 ≤ 1 := by
  unfold brF; split
  · exact cmF_le _ _ _
  · exact Nat.zero_le 1
theorem FOk_bu {rm : Nat → Int} {nh : Nat} {F : Int} {f : FS} {s : Nat} (hf : FOk rm nh f) : FOk rm nh (buF nh F f s) := by
  unfold buF; split
  · exact FOk_bn hf
  · exact hf
theorem FOk_yr {rm : Nat → Int} {nh : Nat} {F : Int} {f : FS} {s : Nat} (hf : FOk rm nh f) : FOk rm nh (yrF rm nh F f s).1 := by
  unfold yrF
  split
  · exact FOk_cm hf (by omega) (by omega) (fun g e => by omega)
  · exact FOk_cm (FOk_br (FOk_bu hf) (drV_lt (by omega))) (by omega) (by omega) (fun g e => by omega)
theorem RD_year {U U0 : am_U} {y : Int} {f : FS} {s : Nat} (h : RD U U0 y f s) (hy : 0 ≤ y ∧ y ≤ 9999) : RD (am_upd U 16 1 (w32 (U 16 1 + 1))) U0 (y + 1) f s := by
  obtain ⟨h1, h2, h3, h4, h5, h6, h7, h8, h9⟩ := h
  refine ⟨by rw [upd_ne (by decide)]; exact h1, by rw [upd_row (by decide)]; exact h2, by rw [upd_row (by decide)]; exact h3, by rw [upd_row (by decide)]; exact h4, by unfold iPrt; rw [upd_row (by decide), upd_row (by decide)]; exact h5, by rw [upd_row (by decide)]; exact h6, fun r j q1 q2 => by rw [upd_row (by omega)]; exact h7 r j q1 q2, by rw [upd_ne (by decide)]; exact h8, by rw [upd_at, h9, w32_eq (by omega) (by omega)]⟩
theorem ct_passYear {N : Nat} {X : Nat → Int} {d nh : Nat} {U U0 : am_U} {y F : Int} {f : FS} {s : Nat} (h : RD U U0 y f s) (hf : FOk (U0 8) nh f) (h31 : U0 3 1 = (nh : Nat)) (hnh2 : nh ≤ 12) (h35 : U0 3 5 = F) (hy : 0 ≤ y ∧ y ≤ 9999) : ∃ U', EvK N X (D_passYear_s0 (d + 4) U) (rI (((yrF (U0 8) nh F f s).2.2 : Nat) : Int) U') ∧ RD U' U0 (y + 1) (yrF (U0 8) nh F f s).1 (yrF (U0 8) nh F f s).2.1 := by
  have e31 : U 3 1 = (nh : Nat) := by rw [h.2.2.2.2.2.2.1 3 1 (by decide) (by decide)]; exact h31
  by_cases c : nh = 0
  · have d1 := ct_draw (N := N) (X := X) (d := d + 2) (U := U) (m := 1000) h.2.2.2.2.2.1.1 h.2.2.2.2.2.1.2 (by decide)
    have rd1 := RD_draw h
    have hlt := drV_lt (s := s) (m := 1000) (by decide)
    obtain ⟨U2, k1, k2⟩ := ct_comeIn (N := N) (X := X) (d := d + 1) (v := ((drV s 1000 + 1 : Nat) : Int)) (x := -1) rd1 hf.1 (by decide)
    have ey : yrF (U0 8) nh F f s = ((cmF f ((drV s 1000 + 1 : Nat) : Int) (-1)).1, drS s, (cmF f ((drV s 1000 + 1 : Nat) : Int) (-1)).2) := by unfold yrF; rw [if_pos c]
    rw [ey]
    have hle := cmF_le f ((drV s 1000 + 1 : Nat) : Int) (-1)
    refine ⟨am_upd U2 16 1 (w32 (U2 16 1 + 1)), D_passYear_r0 ⟨fun _ => ⟨_, _, d1, ?_⟩, fun z => absurd z (by rw [e31]; omega)⟩, RD_year k2 hy⟩
    rw [w32_succ (i := drV s 1000) (by omega)]
    refine ⟨_, _, k1, ?_⟩
    rw [Int.zero_add, w32_eq (x := (((cmF f ((drV s 1000 + 1 : Nat) : Int) (-1)).2 : Nat) : Int)) (by omega) (by omega)]
  · obtain ⟨U3, b1, b2⟩ := ct_burn (N := N) (X := X) (d := d + 1) h hf.1 (fun p hp => by have := (hf.2.1 p hp).2.2; omega) h31 (by omega) h35
    obtain ⟨U4, k1, k2⟩ := ct_bear (N := N) (X := X) (d := d) b2 (FOk_bu hf) h31 (by omega) hnh2
    have f4 := FOk_br (FOk_bu (F := F) (s := s) hf) (drV_lt (s := drS (drS s)) (m := nh) (by omega))
    have ey : yrF (U0 8) nh F f s = ((cmF (brF (U0 8) (buF nh F f s) (drV (drS (drS s)) nh)).1 ((drV (drS (drS (drS s))) 1000 + 1 : Nat) : Int) (-1)).1, drS (drS (drS (drS s))), (brF (U0 8) (buF nh F f s) (drV (drS (drS s)) nh)).2 + (cmF (brF (U0 8) (buF nh F f s) (drV (drS (drS s)) nh)).1 ((drV (drS (drS (drS s))) 1000 + 1 : Nat) : Int) (-1)).2) := by unfold yrF; rw [if_neg c]
    rw [ey]
    have l1 := brF_le (U0 8) (buF nh F f s) (drV (drS (drS s)) nh)
    generalize brF (U0 8) (buF nh F f s) (drV (drS (drS s)) nh) = fc at k1 k2 f4 l1
    have d1 := ct_draw (N := N) (X := X) (d := d + 2) (U := U4) (m := 1000) k2.2.2.2.2.2.1.1 k2.2.2.2.2.2.1.2 (by decide)
    have rd1 := RD_draw k2
    have hlt := drV_lt (s := drS (drS (drS s))) (m := 1000) (by decide)
    generalize drV (drS (drS (drS s))) 1000 = v at d1 hlt
    obtain ⟨U6, m1, m2⟩ := ct_comeIn (N := N) (X := X) (d := d + 1) (v := ((v + 1 : Nat) : Int)) (x := -1) rd1 f4.1 (by decide)
    have hle := cmF_le fc.1 ((v + 1 : Nat) : Int) (-1)
    refine ⟨am_upd U6 16 1 (w32 (U6 16 1 + 1)), D_passYear_r0 ⟨fun z => absurd z (by rw [e31]; omega), fun _ => ⟨_, b1, _, _, k1, _, _, d1, ?_⟩⟩, RD_year m2 hy⟩
    rw [w32_succ (i := v) (by omega)]
    refine ⟨_, _, m1, ?_⟩
    rw [w32_eq (x := ((fc.2 : Nat) : Int) + (((cmF fc.1 ((v + 1 : Nat) : Int) (-1)).2 : Nat) : Int)) (by omega) (by omega)]
    rfl
