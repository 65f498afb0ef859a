/-! rent: both answer alike -/
def liv (U : am_U) (h : Nat) : Nat → Bool := fun p => U 18 p == (h : Nat)
def siz (U : am_U) : Nat → Nat := fun p => (U 17 p).natAbs
theorem siz_b {U : am_U} {n nh p : Nat} (hf : iFolk U n nh) (hp : p < n) : 1 ≤ siz U p ∧ siz U p ≤ 999999999 := by
  obtain ⟨h0, h1, -⟩ := hf.2.2.2.2.1.1 p hp
  unfold siz
  omega
theorem siz_b2 {U : am_U} {n nh : Nat} (hf : iFolk U n nh) : ∀ p, p < n → siz U p ≤ 1000000000 := fun p hp => by have := siz_b hf hp; omega
theorem rnt_next {U : am_U} {n nh h s i : Nat} (hf : iFolk U n nh) (hs : s ≤ 1) (hc : fb_ct (liv U h) n ≤ 6) (hi : i ≤ n) : rnt (liv U h) (siz U) s i < 10 ^ 60 := rnt_60 hs (fun p hp => siz_b2 hf p (by omega)) (Nat.le_trans (fb_ct_mono _ hi) hc)
theorem D_rent_l {N : Nat} {X : Nat → Int} {d : Nat} {U0 : am_U} {n nh h s : Nat} {y : Int} (hf : iFolk U0 n nh) (hs : s ≤ 1) (hc : fb_ct (liv U0 h) n ≤ 6) : ∀ m i : Nat, i + m = n → ∀ U L, dgk U0 U → dgS U (rnt (liv U0 h) (siz U0) s i) L → ∃ U' L', EvK N X (D_rent_s35 (d + 1) (h : Nat) y (i : Nat) U) (rI (tellS (rnt (liv U0 h) (siz U0) s n) L' y) U') ∧ dgk U0 U' ∧ isLen (rnt (liv U0 h) (siz U0) s n) L' := by
  have hn := hf.1.2.2
  intro m
  induction m with
  | zero =>
    intro i hi U L hk hS
    obtain rfl : i = n := by omega
    have e16 : U 16 0 = (i : Nat) := by rw [hk 16 (by decide) (by decide)]; exact hf.1.1
    exact ⟨U, L, D_rent_r35 ⟨fun _ => ⟨_, _, ct_tellOf hS y, rfl⟩, fun q => absurd q (by rw [e16]; omega)⟩, hk, hS.2.1⟩
  | succ m ih =>
    intro i hi U L hk hS
    have e16 : U 16 0 = (n : Nat) := by rw [hk 16 (by decide) (by decide)]; exact hf.1.1
    have e17 : U 17 = U0 17 := hk 17 (by decide) (by decide)
    have e18 : U 18 = U0 18 := hk 18 (by decide) (by decide)
    by_cases c : U0 18 i = (h : Nat)
    · have cl : liv U0 h i = true := by unfold liv; rw [c]; exact beq_self_eq_true _
      have ev : rnt (liv U0 h) (siz U0) s (i + 1) = rnt (liv U0 h) (siz U0) s i * siz U0 i := by rw [rnt, if_pos cl]
      have hv := rnt_next hf hs hc (i := i + 1) (by omega)
      rw [ev] at hv
      obtain ⟨U1, L1, t1, t2, t3⟩ := ct_times (N := N) (X := X) (d := d) (siz_b hf (by omega : i < n)) hv hS
      rw [← ev] at t2
      obtain ⟨U', L', k1, k2, k3⟩ := ih (i + 1) (by omega) U1 L1 (fun r a b => by rw [t3 r a b, hk r a b]) t2
      refine ⟨U', L', D_rent_r35 ⟨fun q => absurd q (by rw [e16]; omega), fun _ => ⟨by omega, fun q => absurd ?_ q, fun _ => ⟨U1, ?_, ?_⟩⟩⟩, k2, k3⟩
      · rw [Int.toNat_natCast, e18]; exact c
      · rw [Int.toNat_natCast, e17, abs_nat (hf.2.2.2.2.1.1 i (by omega)).2.1]; exact t1
      · rw [w32_succ (i := i) (by omega)]; exact k1
    · have cl : ¬ liv U0 h i = true := by unfold liv; rw [beq_iff_eq]; exact c
      have ev : rnt (liv U0 h) (siz U0) s (i + 1) = rnt (liv U0 h) (siz U0) s i := by rw [rnt, if_neg cl]
      rw [← ev] at hS
      obtain ⟨U', L', k1, k2, k3⟩ := ih (i + 1) (by omega) U L hk hS
      refine ⟨U', L', D_rent_r35 ⟨fun q => absurd q (by rw [e16]; omega), fun _ => ⟨by omega, fun _ => ?_, fun q => absurd ?_ c⟩⟩, k2, k3⟩
      · rw [w32_succ (i := i) (by omega)]; exact k1
      · rw [Int.toNat_natCast, e18] at q; exact q
theorem M_rent_l {N : Nat} {X : Nat → Int} {d : Nat} {U0 : am_U} {n nh h s : Nat} {y : Int} (hf : iFolk U0 n nh) (hs : s ≤ 1) (hc : fb_ct (liv U0 h) n ≤ 6) : ∀ m i : Nat, i + m = n → ∀ U L, dgm U0 U → dgM U (rnt (liv U0 h) (siz U0) s i) L → ∃ U' L', EvK N X (M_rent_s37 (d + 2) (h : Nat) y (i : Nat) U) (rI (tellS (rnt (liv U0 h) (siz U0) s n) L' y) U') ∧ dgm U0 U' ∧ isLen (rnt (liv U0 h) (siz U0) s n) L' := by
  have hn := hf.1.2.2
  intro m
  induction m with
  | zero =>
    intro i hi U L hk hS
    obtain rfl : i = n := by omega
    have e16 : U 122 0 = (i : Nat) := by rw [hk 122 0 (by decide) (by decide)]; exact hf.1.2.1
    obtain ⟨s1, s2, s3⟩ := hS
    have hL := isLen_60 s2 (rnt_next hf hs hc (Nat.le_refl i))
    refine ⟨U, L, M_rent_r37 ⟨fun _ => ⟨fun c => ?_, fun c => ?_⟩, fun q => absurd q (by rw [e16]; omega)⟩, hk, s2⟩
    · rw [s1, w32_eq (x := ((L : Nat) : Int) - 1) (by omega) (by omega)]
      unfold tellS
      rw [if_neg c]
      by_cases c2 : 0 ≤ y ∧ y < (L : Nat)
      · refine ⟨_, _, M_is1 (by omega), fun q => absurd q (by decide), fun _ => ⟨by omega, ?_⟩⟩
        rw [if_pos c2, s3 y.toNat (by omega)]
      · refine ⟨_, _, M_is0 (by omega), fun _ => ?_, fun q => absurd rfl q⟩
        rw [if_neg c2]
    · unfold tellS
      rw [if_pos c, s1]
  | succ m ih =>
    intro i hi U L hk hS
    have e16 : U 122 0 = (n : Nat) := by rw [hk 122 0 (by decide) (by decide)]; exact hf.1.2.1
    have hf1 : iFolk U n nh := iFolk_agr (agr_dgm hk) hf
    have e17 : U 17 i = U0 17 i := hk 17 i (by decide) (by omega)
    have e18 : U 124 i = U0 18 i := by rw [(hf1.2.2.2.1 i (by omega)).2]; exact hk 18 i (by decide) (by omega)
    by_cases c : U0 18 i = (h : Nat)
    · have cl : liv U0 h i = true := by unfold liv; rw [c]; exact beq_self_eq_true _
      have ev : rnt (liv U0 h) (siz U0) s (i + 1) = rnt (liv U0 h) (siz U0) s i * siz U0 i := by rw [rnt, if_pos cl]
      have hv := rnt_next hf hs hc (i := i + 1) (by omega)
      rw [ev] at hv
      obtain ⟨U1, L1, t1, t2, t3⟩ := ct_timesBig (N := N) (X := X) (d := d + 1) (siz_b hf (by omega : i < n)) hv hS
      rw [← ev] at t2
      obtain ⟨U', L', k1, k2, k3⟩ := ih (i + 1) (by omega) U1 L1 (dgm_trans hk t3) t2
      refine ⟨U', L', M_rent_r37 ⟨fun q => absurd q (by rw [e16]; omega), fun _ => ⟨by omega, fun q => absurd ?_ q, fun _ => ⟨_, _, ct_sizeOf hf1 (by omega), U1, ?_, ?_⟩⟩⟩, k2, k3⟩
      · rw [Int.toNat_natCast, e18]; exact c
      · rw [e17]; exact t1
      · rw [w32_succ (i := i) (by omega)]; exact k1
    · have cl : ¬ liv U0 h i = true := by unfold liv; rw [beq_iff_eq]; exact c
      have ev : rnt (liv U0 h) (siz U0) s (i + 1) = rnt (liv U0 h) (siz U0) s i := by rw [rnt, if_neg cl]
      rw [← ev] at hS
      obtain ⟨U', L', k1, k2, k3⟩ := ih (i + 1) (by omega) U L hk hS
      refine ⟨U', L', M_rent_r37 ⟨fun q => absurd q (by rw [e16]; omega), fun _ => ⟨by omega, fun _ => ?_, fun q => absurd ?_ c⟩⟩, k2, k3⟩
      · rw [w32_succ (i := i) (by omega)]; exact k1
      · rw [Int.toNat_natCast, e18] at q; exact q
theorem pair_rent {N : Nat} {X : Nat → Int} {d : Nat} {U : am_U} {b ns nh nl nw nd cl n : Nat} (ht : iTown U b ns nh nl nw nd cl) (hf : iFolk U n nh) (x y : Int) : ask2 N X (D_rent_s0 (d + 2) x y) (M_rent_s0 (d + 2) x y) U := by
  have e31 := ht.2.2.1.1
  have e90 := ht.2.2.1.2.1
  have h12 := ht.2.2.1.2.2.1
  have hn := hf.1.2.2
  by_cases c : 0 ≤ x ∧ x < (nh : Nat)
  · obtain ⟨h, rfl⟩ : ∃ h : Nat, x = h := ⟨x.toNat, by omega⟩
    have hh : h < nh := by omega
    have rm := (ht.2.2.1.2.2.2 h hh).2.2.1
    have c6 : fb_ct (liv U h) n ≤ 6 := by
      have := hf.2.2.2.2.1.2.2 h hh
      have e : fb_ct (fun p => U 18 p == (h : Nat)) n = fb_ct (liv U h) n := rfl
      rw [e] at this
      omega
    have dc : fb_ct (tb (U 19 h)) 32 = fb_ct (liv U h) n := dw_ct hf.2.2.2.2.2 hn (by omega)
    obtain ⟨s, hs1, hs2⟩ : ∃ s : Nat, s ≤ 1 ∧ ((s = 0 ∧ fb_ct (liv U h) n = 0) ∨ (s = 1 ∧ fb_ct (liv U h) n ≠ 0)) := by
      by_cases z : fb_ct (liv U h) n = 0
      · exact ⟨0, by decide, Or.inl ⟨rfl, z⟩⟩
      · exact ⟨1, by decide, Or.inr ⟨rfl, z⟩⟩
    obtain ⟨U3, L3, g1, g2, g3, -, -⟩ := ct_set (N := N) (X := X) (d := d) (U := U) s (by omega)
    obtain ⟨U4, L4, k1, k2, k3⟩ := D_rent_l (N := N) (X := X) (d := d + 1) (y := y) hf hs1 c6 n 0 (by omega) U3 L3 g3 g2
    have a1 : EvK N X (D_rent_s0 (d + 2) (h : Nat) y U) (rI (tellS (rnt (liv U h) (siz U) s n) L4 y) U4) := by
      refine D_rent_r0 ⟨_, _, D_h1 (by rw [e31]; exact c), fun _ => ⟨_, _, ct_Fk_living_16 h (by omega), fun q => ?_, fun q => ?_⟩, fun q => absurd q (by decide)⟩
      · rw [dc] at q
        rcases hs2 with ⟨-, z⟩ | ⟨z, -⟩
        · rw [z] at q; exact absurd rfl q
        · subst z; exact ⟨U3, g1, k1⟩
      · rw [dc] at q
        rcases hs2 with ⟨z, -⟩ | ⟨-, z⟩
        · subst z; exact ⟨U3, g1, k1⟩
        · exact absurd q (by omega)
    have ag := agr_dgk k2
    have ht4 : iTown U4 b ns nh nl nw nd cl := iTown_agr ag ht
    have hf4 : iFolk U4 n nh := iFolk_agr ag hf
    have el : liv U4 h = liv U h := by unfold liv; rw [k2 18 (by decide) (by decide)]
    have es : siz U4 = siz U := by unfold siz; rw [k2 17 (by decide) (by decide)]
    have lv := ct_M_living (N := N) (X := X) (d := d) (U := U4) 0 (h : Nat) (by decide) hf4.1.2.1 hn
    have le : fb_ct (fun p => U4 124 (16 * 0 + p) == (h : Nat)) n = fb_ct (liv U h) n := by
      rw [← el]
      refine fb_ct_cong (fun p hp => ?_)
      show (U4 124 (16 * 0 + p) == ((h : Nat) : Int)) = (U4 18 p == ((h : Nat) : Int))
      rw [Nat.mul_zero, Nat.zero_add, (hf4.2.2.2.1 p hp).2]
    rw [le] at lv
    obtain ⟨U5, L5, j1, j2, j3⟩ := M_rent_l (N := N) (X := X) (d := d) (y := y) hf4 hs1 (by rw [el]; exact c6) n 0 (by omega) (am_upd (am_upd U4 133 0 (s : Nat)) 86 80 1) 1 (dgm_upd _ _ _ _) ⟨upd_at _ _ _ _, ⟨by decide, by show s < 10 ^ 1; omega, Or.inl rfl⟩, fun k hk => by
      obtain rfl : k = 0 := by omega
      rw [upd_row (by decide), upd_at]
      show ((s : Nat) : Int) = ((s / 10 ^ 0 % 10 : Nat) : Int)
      rw [Nat.pow_zero, Nat.div_one, Nat.mod_eq_of_lt (by omega)]⟩
    rw [el, es] at j1 j3
    have eL := isLen_one k3 j3
    subst eL
    refine ⟨_, U4, a1, ag, U5, M_rent_r0 ⟨_, _, M_h1 ht4.1.1 ht4.1.2 (by rw [ht4.2.2.1.2.1]; exact c), fun _ => ⟨_, _, lv, fun q => ?_, fun q => ?_⟩, fun q => absurd q (by decide)⟩, agr_dgm j2⟩
    · rcases hs2 with ⟨-, z⟩ | ⟨z, -⟩
      · rw [z] at q; exact absurd rfl q
      · subst z; exact j1
    · rcases hs2 with ⟨z, -⟩ | ⟨-, z⟩
      · subst z; exact j1
      · exact absurd q (by omega)
  · exact ask2_of (r := -1) (D_rent_r0 ⟨_, _, D_h0 (by rw [e31]; exact c), fun h => absurd rfl h, fun _ => rfl⟩) (M_rent_r0 ⟨_, _, M_h0 ht.1.1 ht.1.2 (by rw [e90]; exact c), fun h => absurd rfl h, fun _ => rfl⟩)
