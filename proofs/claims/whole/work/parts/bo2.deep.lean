/-! the same, both sides at one depth -/
theorem pair_status1 {N : Nat} {X : Nat → Int} {d : Nat} {U : am_U} (hm : iMisc U) (x : Int) : ask2 N X (D_status_s0 (d + 1) x) (M_status_s0 (d + 1) x) U := by
  by_cases c : 0 ≤ x ∧ x ≤ 5
  · obtain ⟨k, rfl⟩ : ∃ k : Nat, x = k := ⟨x.toNat, by omega⟩
    refine ask2_of (r := U 85 k) (D_status_r0 ⟨fun h => absurd h (by omega), fun _ => ⟨fun h => absurd h (by omega), fun _ => ⟨by omega, by rw [Int.toNat_natCast]⟩⟩⟩) (M_status_r0 ⟨_, _, M_is1 c, fun h => absurd h (by decide), fun _ => ⟨by omega, ?_⟩⟩)
    rw [Int.toNat_natCast, hm.2.1 k (by omega)]
  · exact ask2_of (r := -1) (D_status_r0 ⟨fun _ => rfl, fun _ => ⟨fun _ => rfl, fun _ => absurd c (by omega)⟩⟩) (M_status_r0 ⟨_, _, M_is0 c, fun _ => rfl, fun h => absurd rfl h⟩)
theorem pair_octet1 {N : Nat} {X : Nat → Int} {d : Nat} {U : am_U} (hm : iMisc U) (x : Int) : ask2 N X (D_octet_s0 (d + 1) x) (M_octet_s0 (d + 1) x) U := by
  obtain ⟨h1, h2, h3, h4⟩ := hm.2.2.2
  have e : w32 (U 86 89 - 1) = U 1 16 - 1 := by rw [h1]; exact w32_eq (by omega) (by omega)
  have a2 : ∀ r, (¬ (0 ≤ x ∧ x ≤ U 1 16 - 1) → rI r U = rI (-1) U) → ((0 ≤ x ∧ x ≤ U 1 16 - 1) → rI r U = rI (U 138 x.toNat) U) → EvK N X (M_octet_s0 (d + 1) x U) (rI r U) := by
    intro r q1 q2
    refine M_octet_r0 ?_
    rw [e]; clear e
    by_cases c : 0 ≤ x ∧ x ≤ U 1 16 - 1
    · exact ⟨_, _, M_is1 c, fun h => absurd h (by decide), fun _ => ⟨by omega, q2 c⟩⟩
    · exact ⟨_, _, M_is0 c, fun _ => q1 c, fun h => absurd rfl h⟩
  clear e
  by_cases c : 0 ≤ x ∧ x < U 1 16
  · refine ask2_of (r := U 84 x.toNat) (D_octet_r0 ⟨fun h => absurd h (by omega), fun _ => ⟨fun h => absurd h (by omega), fun _ => ⟨by omega, rfl⟩⟩⟩) (a2 _ (fun q => absurd c (by omega)) (fun _ => ?_))
    rw [h4 x.toNat (by omega)]
  · exact ask2_of (r := -1) (D_octet_r0 ⟨fun _ => rfl, fun _ => ⟨fun _ => rfl, fun _ => absurd c (by omega)⟩⟩) (a2 _ (fun _ => rfl) (fun q => absurd c (by omega)))
theorem pair_sum1 {N : Nat} {X : Nat → Int} {d : Nat} {U : am_U} {b ns nh nl nw nd cl n : Nat} (hT : iTown U b ns nh nl nw nd cl) (hf : iFolk U n nh) (x y : Int) : ask2 N X (D_sum_s0 (d + 3) x y) (M_sum_s0 (d + 3) x y) U := by
  have e30 := hT.2.1.1
  have e88 := hT.2.1.2.1
  have h4 := hT.2.1.2.2.1
  have h12 := hT.2.2.1.2.2.1
  by_cases c : 0 ≤ x ∧ x < (ns : Nat)
  · obtain ⟨s, rfl⟩ : ∃ s : Nat, x = s := ⟨x.toNat, by omega⟩
    obtain ⟨U3, L3, g1, g2, g3, g4, g5⟩ := ct_set (N := N) (X := X) (d := d + 1) (U := U) 0 (by decide)
    obtain ⟨U4, L4, k1, k2, k3⟩ := D_sum_l (N := N) (X := X) (d := d) (s := s) (y := y) hT hf nh 0 (by omega) U3 L3 g3 ⟨g2, g4, g5⟩
    have a1 : EvK N X (D_sum_s0 (d + 3) (s : Nat) y U) (rI (smT (stF U s n nh) L4 y) U4) := D_sum_r0 ⟨fun q => absurd q (by omega), fun _ => ⟨fun _ => ⟨U3, g1, k1⟩, fun q => absurd q (by rw [e30]; omega)⟩⟩
    have ag := agr_dgk k2
    have hT4 : iTown U4 b ns nh nl nw nd cl := iTown_agr ag hT
    have hf4 : iFolk U4 n nh := iFolk_agr ag hf
    have ec := stF_cong (k2 6 (by decide) (by decide)) (k2 17 (by decide) (by decide)) (k2 18 (by decide) (by decide)) s n nh
    have is1 : EvK N X (M_isStreet_s0 (d + 2) (s : Nat) U4) (rI 1 U4) := by
      have := ct_M_isStreet (N := N) (X := X) (d := d + 2) (U := U4) (s : Nat) hT4.1.1 hT4.1.2
      rwa [hT4.2.1.2.1, b2i_t c] at this
    by_cases c2 : -1 ≤ y ∧ y ≤ 21
    · obtain ⟨U5, j1, j2⟩ := M_sum_l (N := N) (X := X) (d := d + 1) (s := s) (L := L4) (y := y) hT4 hf4 (by rw [ec]; exact k3) nh 0 (by omega) (am_upd (am_upd (am_upd U4 86 76 0) 86 77 0) 86 78 0) (adm_trans (adm_upd _ (Or.inl rfl) _) (adm_trans (adm_upd _ (Or.inr (Or.inl rfl)) _) (adm_upd _ (Or.inr (Or.inr rfl)) _))) ⟨by rw [upd_ne (by decide), upd_ne (by decide), upd_at]; rfl, by rw [upd_ne (by decide), upd_at]; rfl, by rw [upd_at]; rfl⟩
      rw [ec] at j1
      exact ⟨_, U4, a1, ag, U5, M_sum_r0 ⟨_, _, is1, fun q => absurd q (by decide), fun _ => ⟨_, _, M_is1 c2, fun _ => j1, fun q => absurd q (by decide)⟩⟩, agr_adm j2⟩
    · have hL := isLen_12 k3 (smB_b (stF_B (s := s) hf nh) (by omega)).1
      have e : smT (stF U s n nh) L4 y = -1 := by
        unfold smT tellS
        rw [if_neg (by omega), if_neg (by omega), if_neg (by omega), if_neg (by omega)]
      rw [e] at a1
      exact ⟨_, U4, a1, ag, U4, M_sum_r0 ⟨_, _, is1, fun q => absurd q (by decide), fun _ => ⟨_, _, M_is0 c2, fun q => absurd rfl q, fun _ => rfl⟩⟩, agr_refl _⟩
  · have is0 : EvK N X (M_isStreet_s0 (d + 2) x U) (rI 0 U) := by
      have := ct_M_isStreet (N := N) (X := X) (d := d + 2) (U := U) x hT.1.1 hT.1.2
      rwa [e88, b2i_f c] at this
    refine ask2_of (r := -1) (D_sum_r0 ⟨fun _ => rfl, fun q => ⟨fun q2 => absurd c ?_, fun _ => rfl⟩⟩) (M_sum_r0 ⟨_, _, is0, fun _ => rfl, fun q => absurd rfl q⟩)
    rw [e30] at q2
    omega

theorem pair_struck1 {N : Nat} {X : Nat → Int} {d : Nat} {U : am_U} {b ns nh nl nw nd cl : Nat} (ht : iTown U b ns nh nl nw nd cl) : ask2 N X (D_struck_s0 (d + 3)) (M_struck_s0 (d + 3)) U := by
  have e31 := ht.2.2.1.1
  have e90 := ht.2.2.1.2.1
  have hn := ht.2.2.1.2.2.1
  obtain ⟨d1, d2, d3, d4, d5⟩ := ht.2.2.2.2.1
  have hb : ∀ k, k < nh → -160000 ≤ U 10 k ∧ U 10 k ≤ 160000 := fun k hk => by
    rw [d5 k hk]
    have := fb_si_bound (f := fun i => (if U 108 (16 * b + i) = (k : Nat) then U 109 (16 * b + i) else 0) - (if U 107 (16 * b + i) = (k : Nat) then U 109 (16 * b + i) else 0)) (c := 9999) (by decide) (n := nd) (fun i hi => by
      have := (d4 i hi).1
      show -9999 ≤ (if U 108 (16 * b + i) = (k : Nat) then U 109 (16 * b + i) else 0) - (if U 107 (16 * b + i) = (k : Nat) then U 109 (16 * b + i) else 0) ∧ (if U 108 (16 * b + i) = (k : Nat) then U 109 (16 * b + i) else 0) - (if U 107 (16 * b + i) = (k : Nat) then U 109 (16 * b + i) else 0) ≤ 9999
      (repeat' split) <;> omega)
    omega
  have rl : rkE (U 10) nh ≤ nh := fb_ct_le _ nh
  obtain ⟨U1, a1, a2, a3⟩ := D_str_first (N := N) (X := X) (d := d + 1) (U0 := U) (f := U 10) hn e31 (fun _ _ => rfl) nh 0 (by omega) U (fun _ _ => rfl) (fun k hk => absurd hk (Nat.not_lt_zero k))
  -- what the class counts with
  have gb : ∀ k, k < rkE (U 10) nh → -160000 ≤ U1 11 k ∧ U1 11 k ≤ 160000 := fun k hk => by
    obtain ⟨i, i1, i2, i3⟩ := fb_ct_kth hk
    have := a2 i i1 i2
    have e : rkE (U 10) i = k := i3
    rw [e] at this
    rw [this]; exact hb i i1
  have p0 : 0 < 2 ^ rkE (U 10) nh := Nat.pow_pos (by decide)
  obtain ⟨U2, F, b1, b2, b3⟩ := D_str_out (N := N) (X := X) (d := d) (U0 := am_upd U1 44 0 0) (f := U1 11) (by omega) gb (fun k _ => by rw [upd_row (by decide)]) (2 ^ rkE (U 10) nh - 1) 1 (by omega) (by decide) (am_upd U1 44 0 0) (fun _ => 0) (fun _ _ => rfl) ⟨rfl, fun S h1 h2 => absurd h2 (by omega)⟩ (fun t ht => by
    obtain rfl : t = 0 := by omega
    have z : ∀ k, smE (U1 11) 0 k = 0 := fun k => by
      induction k with
      | zero => rfl
      | succ k ih => rw [smE_s, Nat.zero_testBit, if_neg (by decide)]; exact ih
    rw [upd_at]
    unfold tbE
    rw [z]; rfl)
  have dU : EvK N X (D_struck_s0 (d + 3) U) (rI (((rkE (U 10) nh : Nat) : Int) - ((F (2 ^ rkE (U 10) nh - 1) : Nat) : Int)) U2) := D_struck_r0 ⟨_, _, Tw_fewestPayments_r0 (a3 _ b1), rfl⟩
  have ag : agr U U2 := fun r j e => by
    have q1 : r ≠ 44 := fun q => by subst q; simp [scr] at e
    have q2 : r ≠ 11 := fun q => by subst q; simp [scr] at e
    rw [b2 r q1, upd_row q1, a1 r q2]
  have ht2 : iTown U2 b ns nh nl nw nd cl := iTown_agr ag ht
  have e10 : U2 10 = U 10 := funext fun j => ag 10 j rfl
  obtain ⟨U3, E, c1, c2, c3⟩ := M_str_out (N := N) (X := X) (d := d + 2) (U0 := U2) (f := U 10) hn hb (fun V hV h hh => by
    have htV : iTown V b ns nh nl nw nd cl := iTown_agr (agr_134 hV) ht2
    have := ct_M_netOf (N := N) (X := X) (d := d + 2) htV hh
    rwa [hV 10 (by decide), e10] at this) (2 ^ nh - 1) 1 (by have : 0 < 2 ^ nh := Nat.pow_pos (by decide); omega) (by decide) (am_upd U2 134 0 0) (fun _ => 0) (fun r q => upd_row q) ⟨rfl, fun S h1 h2 => absurd h2 (by omega)⟩ (fun t ht => by
    obtain rfl : t = 0 := by omega
    rw [upd_at]; rfl)
  have same := E_same c3 b3 (fun h hh hz => a2 h hh hz)
  have eq : ((rkE (U 10) nh : Nat) : Int) - ((F (2 ^ rkE (U 10) nh - 1) : Nat) : Int) = ((nh : Nat) : Int) - ((E (2 ^ nh - 1) : Nat) : Int) := by omega
  rw [eq] at dU
  refine ⟨_, U2, dU, ag, U3, M_struck_r0 ?_, agr_134 c2⟩
  rw [ht2.1.1, Int.toNat_natCast, ht2.2.2.1.2.1]
  have := ht2.1.2
  exact ⟨by omega, c1⟩

theorem pair_tell1 {N : Nat} {X : Nat → Int} {d : Nat} {U : am_U} (htp : iTape U) (hr : iR2 U) (hs : ∀ k, k < 6 → U 119 k = U 85 k) : ∃ r U1 U2, EvK N X (D_tell_s0 (d + 8) U) (rI r U1) ∧ EvK N X (M_tell_s0 (d + 8) U1) (rI r U2) ∧ kR (am_upd (am_upd U 1 1 0) 86 1 0) U2 ∧ iR2 U2 ∧ ∀ k, k < 6 → U2 119 k = U2 85 k := by
  obtain ⟨⟨t1, t2, t3⟩, t4⟩ := htp
  obtain ⟨L, hL⟩ : ∃ L : Nat, U 1 1 = L := ⟨(U 1 1).toNat, by omega⟩
  have hTb : ∀ j, j < 1600 → 0 ≤ U 2 j ∧ U 2 j ≤ 255 := fun j hj => (t4 j hj).2
  generalize hW : am_upd U 1 1 0 = W
  have wr : ∀ r, r ≠ 1 → W r = U r := fun r q => by rw [← hW, upd_row q]
  obtain ⟨r, a1, a2⟩ := ct_isTold (N := N) (X := X) (d := d + 7) (L := L) (U := W) (T := U 2) (wr 2 (by decide)) hTb (by omega)
  obtain ⟨h1, h2, h3, h4⟩ := hr
  rcases a2 with ⟨rfl, k, mo, o⟩ | ⟨rfl, no⟩
  · have o' := o
    obtain ⟨⟨o1, o1a, o1b⟩, ⟨o2, o2a, o2b⟩, o3, o4⟩ := o'
    have h6 := tri_6 k (by omega)
    have w2 : W 2 = U 2 := wr 2 (by decide)
    generalize hV0 : am_upd (am_upd (am_upd W 78 3 ((k : Nat) : Int)) 78 4 (w32 (am_shl 2 ((mo : Nat) : Int) - 2))) 78 5 0 = V0
    have v0 : ∀ r, r ≠ 78 → V0 r = W r := fun r q => by rw [← hV0, upd_row q, upd_row q, upd_row q]
    have v783 : V0 78 3 = (k : Nat) := by rw [← hV0, upd_ne (by decide), upd_ne (by decide), upd_at]
    have v784 : V0 78 4 = w32 (am_shl 2 ((mo : Nat) : Int) - 2) := by rw [← hV0, upd_ne (by decide), upd_at]
    have v785 : V0 78 5 = 0 := by rw [← hV0, upd_at]
    obtain ⟨V1, b1, b2, b3⟩ := ct_findFoes (N := N) (X := X) (d := d + 5) (U := V0) (fun a a1 a2 i i1 i2 q => h2 a a1 a2 i i1 i2 (by rw [v0 79 (by decide), wr 79 (by decide)] at q; exact q))
    have pw := mo_pow o2b o1b
    obtain ⟨V2, c1, c2, -, c4⟩ := D_search (N := N) (X := X) (d := d + 5 - k + 0) (k := k) (mo := mo) (t := fun i => U 2 (2 + i)) (U0 := V1) o1b ⟨o2a, o2b⟩ (by rw [b2 78 (by decide)]; exact v783) (fun i hi => by rw [b2 78 (by decide), v784]; exact all_tb mo (by omega) i hi) (fun a b ab bk => by rw [b2 2 (by decide), v0 2 (by decide), w2]) b3 (k - 1) 0 (by omega) 0 (by rw [Nat.zero_add, Nat.one_mul, show k - 1 + 1 = k from by omega]; exact pw) V1 (fun _ _ _ _ _ => rfl) (fun i hi => absurd hi (Nat.not_lt_zero i)) (fun a b _ hb => absurd hb (Nat.not_lt_zero b)) (by
      rw [Nat.zero_mul, b2 78 (by decide), v785]
      exact ⟨rfl, fun q => absurd q (Nat.lt_irrefl 0)⟩)
    rw [Nat.zero_add, Nat.one_mul, show k - 1 + 1 = k from by omega] at c4
    rw [show d + 5 - k + 0 + (k - 1) + 2 = d + 6 from by omega] at c1
    have dU : EvK N X (D_tell_s0 (d + 8) U) (rI (V2 78 5) V2) := by
      refine D_tell_r0 ⟨1, W, by rw [hL, hW]; exact a1, fun _ => ⟨V2, Rl_solve_r0 ⟨V1, ?_, V2, c1, rfl⟩, rfl⟩, fun z => absurd z (by decide)⟩
      rw [w2, o1, o2, hV0]; exact b1
    have vr : ∀ r j, r ≠ 78 → r ≠ 79 → r ≠ 80 → r ≠ 81 → V2 r j = W r j := fun r j q1 q2 q3 q4 => by rw [c2 r j q3 q4 (fun z => q1 z.1), b2 r q2, v0 r q1]
    obtain ⟨-, mt⟩ := ct_M_tell (N := N) (X := X) (d := d + 4) (L := L) (U := V2) (T := U 2) (fun j hj => by rw [vr 87 j (by decide) (by decide) (by decide) (by decide), wr 87 (by decide)]; exact (t4 j hj).1) hTb (by rw [vr 86 1 (by decide) (by decide) (by decide) (by decide), wr 86 (by decide), t1]; exact hL) (by omega)
    obtain ⟨V3, m1, m2, m3, m4⟩ := mt k mo o
    obtain ⟨s1', s2'⟩ := rdS_one c4 m4
    have z785 : V3 78 5 = V2 78 5 := by rw [m2 78 5 (by decide) (by decide) (by decide) (by decide), upd_row (by decide)]
    have z783 : V3 78 3 = (k : Nat) := by rw [m2 78 3 (by decide) (by decide) (by decide) (by decide), upd_row (by decide), c2 78 3 (by decide) (by decide) (by decide), b2 78 (by decide)]; exact v783
    refine ⟨V2 78 5, V2, V3, dU, by rw [s1']; exact m1, fun r j e q1 q2 q3 q4 q5 q6 q7 => ?_, ⟨?_, ?_, by rw [m3]; omega, by rw [m3]; omega⟩, fun i hi => ?_⟩
    · have q80 : r ≠ 80 := fun q => by subst q; simp [scr] at e
      have q135 : r ≠ 135 := fun q => by subst q; simp [scr] at e
      have q136 : r ≠ 136 := fun q => by subst q; simp [scr] at e
      have q83 : ¬ (r = 86 ∧ j = 83) := fun q => by obtain ⟨rfl, rfl⟩ := q; simp [scr] at e
      rw [m2 r j q135 q136 q6 (by omega)]
      by_cases c : r = 86 ∧ j = 1
      · obtain ⟨rfl, rfl⟩ := c
        rw [upd_at, upd_at]
      · rw [upd_if2 c, upd_if2 c]; exact vr r j q1 q2 q80 q3
    · have hc : 0 ≤ V2 78 5 := by rw [c4.1]; omega
      by_cases z : V2 78 5 = 0
      · exact Or.inl ⟨by rw [z785]; exact z, Or.inr (by rw [← s1']; exact z)⟩
      · refine Or.inr ⟨by rw [z785]; omega, by rw [← s1']; omega, by rw [z783, m3], by rw [m3]; omega, fun i hi => ?_⟩
        rw [m3] at hi
        rw [m2 81 i (by decide) (by decide) (by decide) (by omega), upd_row (by decide)]
        exact s2' (by omega) i (by omega)
    · have fo : foX V2 := foX_fr c2 b3
      refine iFoe_of (fun a a1 a2 i i1 i2 => ?_)
      rw [m2 79 a (by decide) (by decide) (by decide) (by omega), upd_row (by decide)]
      exact fo a a1 a2 i i1 i2
    · rw [m2 119 i (by decide) (by decide) (by decide) (by omega), m2 85 i (by decide) (by decide) (by decide) (by omega), upd_row (by decide), upd_row (by decide), vr 119 i (by decide) (by decide) (by decide) (by decide), vr 85 i (by decide) (by decide) (by decide) (by decide), wr 119 (by decide), wr 85 (by decide)]
      exact hs i hi
  · have dU : EvK N X (D_tell_s0 (d + 8) U) (rI (-1) (am_upd W 85 5 (w32 (U 85 5 + 1)))) := by
      refine D_tell_r0 ⟨0, W, by rw [hL, hW]; exact a1, fun z => absurd rfl z, fun _ => ⟨0, _, ct_D_refuse 5 (by decide), by rw [wr 85 (by decide)]⟩⟩
    generalize hV : am_upd W 85 5 (w32 (U 85 5 + 1)) = V at dU
    have vr : ∀ r j, ¬ (r = 85 ∧ j = 5) → V r j = W r j := fun r j q => by rw [← hV, upd_if2 q]
    have v85 : V 85 5 = w32 (U 85 5 + 1) := by rw [← hV, upd_at]
    clear hV
    obtain ⟨mt, -⟩ := ct_M_tell (N := N) (X := X) (d := d + 4) (L := L) (U := V) (T := U 2) (fun j hj => by rw [vr 87 j (by clear v85; omega), wr 87 (by decide)]; exact (t4 j hj).1) hTb (by rw [vr 86 1 (by decide), wr 86 (by decide), t1]; exact hL) (by clear v85; omega)
    have e119 : (am_upd V 86 1 0) 119 5 = U 119 5 := by rw [upd_row (by decide), vr 119 5 (by decide), wr 119 (by decide)]
    have mU := mt no
    rw [e119] at mU
    generalize hV3 : am_upd (am_upd V 86 1 0) 119 5 (w32 (U 119 5 + 1)) = V3 at mU
    have v3 : ∀ r j, ¬ (r = 85 ∧ j = 5) → ¬ (r = 119 ∧ j = 5) → ¬ (r = 86 ∧ j = 1) → V3 r j = W r j := fun r j q1 q2 q3 => by rw [← hV3, upd_if2 q2, upd_if2 q3, vr r j q1]
    have v861 : V3 86 1 = 0 := by rw [← hV3, upd_row (by decide), upd_at]
    have x119 : V3 119 5 = w32 (U 119 5 + 1) := by rw [← hV3, upd_at]
    have x85 : V3 85 5 = w32 (U 85 5 + 1) := by rw [← hV3, upd_row (by decide), upd_row (by decide)]; exact v85
    clear hV3 v85 e119
    refine ⟨-1, V, V3, dU, mU, fun r j e q1 q2 q3 q4 q5 q6 q7 => ?_, ⟨?_, ?_, ?_, ?_⟩, fun i hi => ?_⟩
    · by_cases c : r = 86 ∧ j = 1
      · obtain ⟨rfl, rfl⟩ := c
        rw [v861, upd_at]
      · rw [v3 r j (fun z => q4 z.1) (fun z => q5 z.1) c, upd_if2 c]
    · unfold iRid
      rw [v3 78 5 (by decide) (by decide) (by decide), v3 86 82 (by decide) (by decide) (by decide), v3 86 84 (by decide) (by decide) (by decide), v3 78 3 (by decide) (by decide) (by decide), wr 78 (by decide), wr 86 (by decide)]
      rcases h1 with q | ⟨p1, p2, p3, p4, p5⟩
      · exact Or.inl q
      · refine Or.inr ⟨p1, p2, p3, p4, fun i hi => ?_⟩
        rw [v3 81 i (by simp) (by simp) (by simp), v3 137 i (by simp) (by simp) (by simp), wr 81 (by decide), wr 137 (by decide)]
        exact p5 i hi
    · intro a a1 a2 i i1 i2 q
      rw [v3 79 a (by simp) (by simp) (by simp), wr 79 (by decide)] at q
      exact h2 a a1 a2 i i1 i2 q
    · rw [v3 86 82 (by decide) (by decide) (by decide), wr 86 (by decide)]; exact h3
    · rw [v3 86 82 (by decide) (by decide) (by decide), wr 86 (by decide)]; exact h4
    · by_cases e : i = 5
      · rw [e, x119, x85, hs 5 (by decide)]
      · rw [v3 119 i (by simp) (by simp [e]) (by simp), v3 85 i (by simp [e]) (by simp) (by simp), wr 119 (by decide), wr 85 (by decide)]
        exact hs i hi

