/-! a house is told: both sides -/
section HS2
variable {N : Nat} {X : Nat → Int} {T : Nat → Int} {L K : Nat} {kk vv : Nat → Int} {bp : Int} {i b ns nh nl nw nd cl n : Nat} {W : am_U}
theorem st_house (hk : tkS T L K kk vv bp) (hi : i < K) (hG : gIn W b ns nh nl nw nd cl n) (hcl : cl ≤ i) (hnh : nh < 12) : StS N X T L K kk vv bp Rd_readHouse_s0 3 M_housing_s0 4 i b W := by
  have hK : K ≤ 1600 := Nat.le_trans hk.2.1 hk.1
  obtain ⟨hb, h18, hS, hH, hL, hD, hF, hLw, hWd, hP⟩ := hG
  obtain ⟨r0, f0⟩ := fdR_ex (W 4) (vv (i + 1)) ns
  obtain ⟨r1, f1⟩ := fdR_ex (W 5) (vv (i + 1)) nh
  obtain ⟨rs, fs⟩ := fdR_ex (W 4) (vv (i + 3)) ns
  have bd0 := fdR_bd f0
  have bd1 := fdR_bd f1
  have bds := fdR_bd fs
  obtain ⟨bf, lb⟩ := lsR_ex (W 6) rs nh
  obtain ⟨Z, hZ⟩ : ∃ Z, Z = am_upd (am_upd (am_upd (am_upd W 91 (12 * b + nh) (wn T L (i + 1))) 92 (12 * b + nh) rs) 93 (12 * b + nh) (vv (i + 5))) 90 b ((nh + 1 : Nat) : Int) := ⟨_, rfl⟩
  have zr : ∀ q, ¬ (90 ≤ q ∧ q ≤ 93) → Z q = W q := fun q hq => by rw [hZ, upd_row (by omega), upd_row (by omega), upd_row (by omega), upd_row (by omega)]
  obtain ⟨W', p1, p2, p3, p4, p5, p6, p7, p8⟩ := add_house (N := N) (X := X) (b := b) (W := Z) (nh := nh) (x := vv (i + 1)) (r := rs) (v := vv (i + 5)) (bf := bf) (by rw [zr 3 (by omega)]; exact hH.1) hnh (fun h hh => by rw [zr 7 (by omega), (hH.2.2.2 h hh).2.2.2.1]; have := plc_le (W 6) h; omega) (by rw [zr 6 (by omega)]; exact lb)
  rw [zr 5 (by omega), zr 6 (by omega), zr 8 (by omega), zr 10 (by omega), zr 7 (by omega)] at p4
  rw [zr 9 (by omega)] at p5
  rw [zr 3 (by omega)] at p2
  have wr : ∀ r, r ≠ 3 → ¬ (5 ≤ r ∧ r ≤ 10) → ¬ (90 ≤ r ∧ r ≤ 93) → W' r = W r := fun r q1 q2 q3 => by rw [p1 r q1 q2, zr r q3]
  have z9 : ∀ h, W' 91 (12 * b + h) = (if h = nh then wn T L (i + 1) else W 91 (12 * b + h)) ∧ W' 92 (12 * b + h) = (if h = nh then rs else W 92 (12 * b + h)) ∧ W' 93 (12 * b + h) = (if h = nh then vv (i + 5) else W 93 (12 * b + h)) := fun h => by
    rw [p1 91 (by omega) (by omega), p1 92 (by omega) (by omega), p1 93 (by omega) (by omega), hZ]
    refine ⟨?_, ?_, ?_⟩
    · rw [upd_row (by omega), upd_row (by omega), upd_row (by omega), upd_if]
      by_cases c : h = nh
      · rw [if_pos c, if_pos (by omega)]
      · rw [if_neg c, if_neg (by omega)]
    · rw [upd_row (by omega), upd_row (by omega), upd_if, upd_row (by omega)]
      by_cases c : h = nh
      · rw [if_pos c, if_pos (by omega)]
      · rw [if_neg c, if_neg (by omega)]
    · rw [upd_row (by omega), upd_if, upd_row (by omega), upd_row (by omega)]
      by_cases c : h = nh
      · rw [if_pos c, if_pos (by omega)]
      · rw [if_neg c, if_neg (by omega)]
  have l1 : kk (i + 1) = 2 → i + 1 < K := fun h => tk_lt hk (by omega) (by omega)
  have l2 : i + 1 < K → kk (i + 2) = 1 → i + 2 < K := fun h0 h => tk_lt hk (by omega) (by omega)
  have l3 : i + 2 < K → kk (i + 3) = 2 → i + 3 < K := fun h0 h => tk_lt hk (by omega) (by omega)
  have l4 : i + 3 < K → kk (i + 4) = 1 → i + 4 < K := fun h0 h => tk_lt hk (by omega) (by omega)
  have l5 : i + 4 < K → kk (i + 5) = 3 → i + 5 < K := fun h0 h => tk_lt hk (by omega) (by omega)
  refine ⟨oc (kk (i + 1) = 2 ∧ r0 = -1 ∧ r1 = -1) (if kk (i + 1) = 2 then 2 else 1) (fpl T L kk bp (i + 1)) (oc (kk (i + 2) = 1 ∧ vv (i + 2) = 2) 1 (fpl T L kk bp (i + 2)) (oc (kk (i + 3) = 2 ∧ rs ≠ -1) (if kk (i + 3) = 2 then 3 else 1) (fpl T L kk bp (i + 3)) (oc (kk (i + 4) = 1 ∧ vv (i + 4) = 3) 1 (fpl T L kk bp (i + 4)) (oc (nuOk kk vv (i + 5) 1 6) (if kk (i + 5) = 3 then 4 else 1) (fpl T L kk bp (i + 5)) (some (i + 6, W'), 0, 0))))), oc_pos (by split <;> decide) (oc_pos (by decide) (oc_pos (by split <;> decide) (oc_pos (by decide) (oc_pos (by split <;> decide) (fun e => by cases e))))), fun i' W2 e => ?_, fun d0 U hc hU => ?_, fun d V hr hV => ?_⟩
  · obtain ⟨ok1, e⟩ := oc_some e
    obtain ⟨ok2, e⟩ := oc_some e
    obtain ⟨ok3, e⟩ := oc_some e
    obtain ⟨ok4, e⟩ := oc_some e
    obtain ⟨ok5, e⟩ := oc_some e
    have k5 := l5 (l4 (l3 (l2 (l1 ok1.1) ok2.1) ok3.1) ok4.1) ok5.1
    obtain ⟨rfl, rfl⟩ : i + 6 = i' ∧ W' = W2 := by simpa using e
    have w3 : ∀ j, j ≠ 1 → W' 3 j = W 3 j := p2
    have rsb : 0 ≤ rs ∧ rs < (ns : Nat) := ⟨bds.2.2 ok3.2, bds.2.1⟩
    refine ⟨by omega, by omega, ns, nh + 1, nl, nw, nd, cl, n, ⟨hb, by rw [w3 18 (by decide)]; exact h18, gSt_k hS (w3 0 (by decide)) (fun r hr => wr r (by omega) (by omega) (by omega)), gHs_new hH hL hnh lb rsb ok5.2 (wn_ok hk (by omega) ok1.1) (fun h => (z9 h).1) (fun h => (z9 h).2.1) (fun h => (z9 h).2.2) ?_ (wr 95 (by omega) (by omega) (by omega)) (wr 96 (by omega) (by omega) (by omega)) p3 p4 p5 p6, gLn_k hL (by omega) (w3 2 (by decide)) (fun r hr => wr r (by omega) (by omega) (by omega)), gDb_new hD (w3 3 (by decide)) (fun h => (p4 h).2.2.2.1) (fun r q1 q2 => wr r (by omega) (by omega) (by omega)), gFr_k hF (w3 5 (by decide)) (wr 110 (by decide) (by decide) (by decide)), gLw_k hLw (w3 4 (by decide)) (fun r hr => wr r (by omega) (by omega) (by omega)), gWd_k hWd (fun r hr => wr r (by omega) (by omega) (by omega)), gPp_new hP ok5.2.1 (fun h => (p4 h).2.2.1) (fun r hr => wr r (by omega) (by omega) (by omega))⟩, by omega⟩
    rw [p1 90 (by omega) (by omega), hZ, upd_at]
  · obtain ⟨d, hd⟩ : ∃ d, d = d0 + 1 := ⟨_, rfl⟩
    rw [show d0 + 3 = d + 2 by omega]
    obtain ⟨U1, n1, n2, n3⟩ := ct_Rd_next (N := N) (X := X) (d := d + 1) (by omega) hK hc hi
    have w1 := cW_fN hU n2
    have e8' : U1 26 8 = vv (i + 1) := n3.2.2.2.2.2.2.1
    obtain ⟨tA, tB⟩ := ct_takeNewName (N := N) (X := X) (d := d) (by omega) hk n3 (fdC0 w1 hS f0) (fdC1 w1 hH f1) bd0.2.2 bd1.2.2
    rcases Classical.em (kk (i + 1) = 2 ∧ r0 = -1 ∧ r1 = -1) with ok1 | ok1
    · obtain ⟨U2, t1, t2, t3⟩ := tA ok1
      have w2 := cW_fN w1 t2
      have c2 := fCz_trans (fCz_N n2) (fCz_N t2)
      obtain ⟨sA, sB⟩ := ct_takeWord (N := N) (X := X) (d := d) (by omega) hk t3 2
      rcases Classical.em (kk (i + 2) = 1 ∧ vv (i + 2) = 2) with ok2 | ok2
      · obtain ⟨U3, s1', s2, s3⟩ := sA ok2
        have w3 := cW_fN w2 s2
        have c3 := fCz_trans c2 (fCz_N s2)
        obtain ⟨uA, uB⟩ := ct_takeStreet (N := N) (X := X) (d := d) (by omega) hk s3 (fdC0 w3 hS fs) bds.2.2
        rcases Classical.em (kk (i + 3) = 2 ∧ rs ≠ -1) with ok3 | ok3
        · obtain ⟨U4, u1, u2, u3⟩ := uA ok3
          have w4 := cW_fN w3 u2
          have c4 := fCz_trans c3 (fCz_N u2)
          have rp := bds.2.2 ok3.2
          obtain ⟨vA, vB⟩ := ct_takeWord (N := N) (X := X) (d := d) (by omega) hk u3 3
          rcases Classical.em (kk (i + 4) = 1 ∧ vv (i + 4) = 3) with ok4 | ok4
          · obtain ⟨U5, v1, v2, v3⟩ := vA ok4
            have w5' := cW_fN w4 v2
            have c5 := fCz_trans c4 (fCz_N v2)
            obtain ⟨xA, xB⟩ := ct_takeNumber (N := N) (X := X) (d := d) (by omega) hk v3 1 6
            rcases Classical.em (nuOk kk vv (i + 5) 1 6) with ok5 | ok5
            · obtain ⟨U6, x1, x2, x3⟩ := xA ok5
              have w6 := cW_fN w5' x2
              have c6 := fCz_trans c5 (fCz_N x2)
              have wZ : cW U6 Z := by rw [hZ]; exact cW_gh1 (cW_gh1 (cW_gh1 (cW_gh1 w6 (by omega)) (by omega)) (by omega)) (by omega)
              obtain ⟨U7, y1, y2, y3⟩ := p7 d U6 wZ
              have ok52 := ok5.2.1
              refine ⟨U7, 1, Rd_readHouse_r0 ⟨U1, n1, 1, U2, t1, fun z => absurd z (by decide), fun _ => ⟨1, U3, s1', fun _ => ⟨rs, U4, u1, fun z => absurd z (by omega), fun _ => ⟨1, U5, v1, fun _ => ⟨_, U6, x1, fun _ => ⟨U7, by rw [e8']; exact y1, rfl⟩, fun z => absurd (show vv (i + 5) < 0 from z) (by omega)⟩, fun z => absurd z (by decide)⟩⟩, fun z => absurd z (by decide)⟩⟩, fCz_trans c6 ⟨fun r hr => y3 r (by omega) (by omega), by rw [y3 26 (by omega) (by omega)]⟩, ?_⟩
              rw [oc_t ok1, oc_t ok2, oc_t ok3, oc_t ok4, oc_t ok5]
              refine ⟨fun i' W2 e => ?_, (fun e => by cases e)⟩
              obtain ⟨rfl, rfl⟩ : i + 6 = i' ∧ W' = W2 := by simpa using e
              exact ⟨rfl, cS_row x3 (fun r a1 a2 => y3 r (by omega) (by omega)), y2⟩
            · obtain ⟨U6, x1, x2, x3, x4⟩ := xB ok5
              refine ⟨U6, 0, Rd_readHouse_r0 ⟨U1, n1, 1, U2, t1, fun z => absurd z (by decide), fun _ => ⟨1, U3, s1', fun _ => ⟨rs, U4, u1, fun z => absurd z (by omega), fun _ => ⟨1, U5, v1, fun _ => ⟨_, U6, x1, fun z => absurd z (by decide), fun _ => rfl⟩, fun z => absurd z (by decide)⟩⟩, fun z => absurd z (by decide)⟩⟩, fCz_trans c5 (fCz_N x2), ?_⟩
              rw [oc_t ok1, oc_t ok2, oc_t ok3, oc_t ok4, oc_f ok5]
              exact ⟨(fun i' W2 e => by cases e), fun _ => ⟨rfl, x3, x4⟩⟩
          · obtain ⟨U5, v1, v2, v3, v4⟩ := vB ok4
            refine ⟨U5, 0, Rd_readHouse_r0 ⟨U1, n1, 1, U2, t1, fun z => absurd z (by decide), fun _ => ⟨1, U3, s1', fun _ => ⟨rs, U4, u1, fun z => absurd z (by omega), fun _ => ⟨0, U5, v1, fun z => absurd rfl z, fun _ => rfl⟩⟩, fun z => absurd z (by decide)⟩⟩, fCz_trans c4 (fCz_N v2), ?_⟩
            rw [oc_t ok1, oc_t ok2, oc_t ok3, oc_f ok4]
            exact ⟨(fun i' W2 e => by cases e), fun _ => ⟨rfl, v3, v4⟩⟩
        · obtain ⟨U4, u1, u2, u3, u4⟩ := uB ok3
          refine ⟨U4, 0, Rd_readHouse_r0 ⟨U1, n1, 1, U2, t1, fun z => absurd z (by decide), fun _ => ⟨1, U3, s1', fun _ => ⟨-1, U4, u1, fun _ => rfl, fun z => absurd z (by decide)⟩, fun z => absurd z (by decide)⟩⟩, fCz_trans c3 (fCz_N u2), ?_⟩
          rw [oc_t ok1, oc_t ok2, oc_f ok3]
          exact ⟨(fun i' W2 e => by cases e), fun _ => ⟨rfl, u3, u4⟩⟩
      · obtain ⟨U3, s1', s2, s3, s4⟩ := sB ok2
        refine ⟨U3, 0, Rd_readHouse_r0 ⟨U1, n1, 1, U2, t1, fun z => absurd z (by decide), fun _ => ⟨0, U3, s1', fun z => absurd rfl z, fun _ => rfl⟩⟩, fCz_trans c2 (fCz_N s2), ?_⟩
        rw [oc_t ok1, oc_f ok2]
        exact ⟨(fun i' W2 e => by cases e), fun _ => ⟨rfl, s3, s4⟩⟩
    · obtain ⟨U2, t1, t2, t3, t4⟩ := tB ok1
      refine ⟨U2, 0, Rd_readHouse_r0 ⟨U1, n1, 0, U2, t1, fun _ => rfl, fun z => absurd rfl z⟩, fCz_trans (fCz_N n2) (fCz_N t2), ?_⟩
      rw [oc_f ok1]
      exact ⟨(fun i' W2 e => by cases e), fun _ => ⟨rfl, t3, t4⟩⟩
  · obtain ⟨V1, a1, a2, a3⟩ := ct_counts0 (N := N) (X := X) (d := d + 1) hk hr
    have v1 := rW_A6 hV a2
    have h90 : ∀ A : am_U, rW A W b → A 90 b = (nh : Nat) := fun A hA => by rw [hA.2.1 90 (by decide) (by decide)]; exact hH.2.1
    obtain ⟨k, hk'⟩ : ∃ k : Nat, k = 12 * b + nh := ⟨_, rfl⟩
    have x0 : eqI (w32 (w32 (12 * ((b : Nat) : Int)) + ((nh : Nat) : Int))) ((k : Nat) : Int) := by show _ = _; rw [w32_eq (x := 12 * ((b : Nat) : Int)) (by omega) (by omega), w32_eq (by omega) (by omega)]; omega
    have core : ∀ R, (∃ (r2 : Int) (U2 : am_U), EvK N X (M_fresh_s0 (d + 3) V1) (rJ r2 U2) ∧ ∃ U3 : am_U, EvK N X (M_must_J_s0 (d + 3) 28518 (am_upd U2 91 k r2)) (rV U3) ∧ ∃ (r4 : Int) (U4 : am_U), EvK N X (M_asked_s0 (d + 3) 0 U3) (rI r4 U4) ∧ ∃ U5 : am_U, EvK N X (M_must_J_s0 (d + 3) 491495845235 (am_upd U4 92 k r4)) (rV U5) ∧ ∃ (r6 : Int) (U6 : am_U), EvK N X (M_numeral_s0 (d + 3) 1 6 U5) (rI r6 U6) ∧ (((U6 86 8) ≠ 0) → R = rV (am_upd U6 93 k r6)) ∧ (((U6 86 8) = 0) → U6 86 40 = (b : Nat) ∧ U6 90 b = (nh : Nat) ∧ R = rV (am_upd (am_upd U6 93 k r6) 90 b ((nh + 1 : Nat) : Int)))) → EvK N X (M_housing_s0 (d + 4) V) R := fun R hR => by
      obtain ⟨r2, U2, c1, U3, c2, r4, U4, c3, U5, c4, r6, U6, c5, c6, c7⟩ := hR
      refine M_housing_r0 ?_
      rw [hV.1, Int.toNat_natCast, h90 V hV]
      refine ⟨by omega, fun _ => ⟨1, V1, a1, fun _ => ?_, fun z => absurd z (by decide)⟩, fun z => absurd z (by omega)⟩
      rw [v1.1, Int.toNat_natCast, h90 V1 v1, eqI_o x0, Int.toNat_natCast]
      refine ⟨by omega, r2, U2, c1, by omega, U3, c2, r4, U4, c3, U5, c4, r6, U6, c5, c6, fun z => ?_⟩
      obtain ⟨c8, c9, c10⟩ := c7 z
      rw [c8, Int.toNat_natCast, c9, w32_succ (i := nh) (by omega)]
      exact ⟨by omega, c10⟩
    have jb : ∀ r, r = 91 ∨ r = 92 ∨ r = 93 → wdt r * b ≤ k ∧ k < wdt r * b + wdt r := fun r hr => by
      rcases hr with rfl | rfl | rfl
      · show 12 * b ≤ k ∧ k < 12 * b + 12; omega
      · show 12 * b ≤ k ∧ k < 12 * b + 12; omega
      · show 12 * b ≤ k ∧ k < 12 * b + 12; omega
    have y1 : fY b V V1 := fY_A6 a2
    obtain ⟨tA, tB⟩ := ct_fresh (N := N) (X := X) (d := d + 1) (r0 := r0) (r1 := r1) hk (by omega) a3 (fun h => fdM0 v1 hb hS (wn_ok hk (by omega) h) f0) (fun h => fdM1 v1 hb hH (wn_ok hk (by omega) h) f1)
    rcases Classical.em (kk (i + 1) = 2 ∧ r0 = -1 ∧ r1 = -1) with ok1 | ok1
    · have k1 := l1 ok1.1
      obtain ⟨V2, b1, b2, b3⟩ := tA ok1
      have v2 := rW_A6 v1 b2
      obtain ⟨A2, hA2⟩ : ∃ A2, A2 = am_upd V2 91 k (wn T L (i + 1)) := ⟨_, rfl⟩
      have g2 : rT A2 T L (i + 1 + 1) := by rw [hA2]; exact rT_row b3 (upd_row (by decide)) (upd_row (by decide))
      have q2 : rW A2 (am_upd W 91 k (wn T L (i + 1))) b := by rw [hA2]; exact rW_up v2 (by decide)
      have y2 : fY b V A2 := by rw [hA2]; exact fY_up (fY_trans y1 (fY_A6 b2)) (by decide) (jb 91 (by omega))
      obtain ⟨sA, sB⟩ := ct_mustJ (N := N) (X := X) (d := d + 1) hk (by omega) g2 2 (by decide)
      rcases Classical.em (kk (i + 2) = 1 ∧ vv (i + 2) = 2) with ok2 | ok2
      · have k2 := l2 k1 ok2.1
        obtain ⟨V3, e1, e2, e3⟩ := sA ok2
        have q3 := rW_A6 q2 e2
        have y3 : fY b V V3 := fY_trans y2 (fY_A6 e2)
        have hS3 : gSt (am_upd W 91 k (wn T L (i + 1))) b ns := gSt_k hS (by rw [upd_row (by decide)]) (fun r hr => upd_row (by omega))
        have fs3 : fdR ((am_upd W 91 k (wn T L (i + 1))) 4) (vv (i + 3)) ns rs := by rw [upd_row (by decide)]; exact fs
        obtain ⟨uA, uB⟩ := ct_asked (N := N) (X := X) (d := d) (q := 0) (r := rs) hk (by omega) e3 (fun h V9 hV9 => by rw [hV9]; exact fdM0 q3 hb hS3 (wn_ok hk (by omega) h) fs3)
        rcases Classical.em (kk (i + 3) = 2 ∧ rs ≠ -1) with ok3 | ok3
        · have k3 := l3 k2 ok3.1
          obtain ⟨V4, j1, j2, j3⟩ := uA ok3
          obtain ⟨A4, hA4⟩ : ∃ A4, A4 = am_upd V4 92 k rs := ⟨_, rfl⟩
          have g4 : rT A4 T L (i + 3 + 1) := by rw [hA4]; exact rT_row j3 (upd_row (by decide)) (upd_row (by decide))
          have q4 : rW A4 (am_upd (am_upd W 91 k (wn T L (i + 1))) 92 k rs) b := by rw [hA4]; exact rW_up (rW_A6 q3 j2) (by decide)
          have y4 : fY b V A4 := by rw [hA4]; exact fY_up (fY_trans y3 (fY_A6 j2)) (by decide) (jb 92 (by omega))
          obtain ⟨vA, vB⟩ := ct_mustJ (N := N) (X := X) (d := d + 1) hk (by omega) g4 3 (by decide)
          rcases Classical.em (kk (i + 4) = 1 ∧ vv (i + 4) = 3) with ok4 | ok4
          · have k4 := l4 k3 ok4.1
            obtain ⟨V5, m1, m2, m3⟩ := vA ok4
            have q5 := rW_A6 q4 m2
            have y5 : fY b V V5 := fY_trans y4 (fY_A6 m2)
            obtain ⟨xA, xB⟩ := ct_numeral (N := N) (X := X) (d := d + 1) hk (by omega) m3 1 6
            rcases Classical.em (nuOk kk vv (i + 5) 1 6) with ok5 | ok5
            · obtain ⟨V6, o1, o2, o3⟩ := xA ok5
              have q6 := rW_A6 q5 o2
              have y6 : fY b V V6 := fY_trans y5 (fY_A6 o2)
              refine ⟨am_upd (am_upd V6 93 k (vv (i + 5))) 90 b ((nh + 1 : Nat) : Int), core _ ⟨_, V2, b1, V3, by rw [← hA2]; exact e1, _, V4, j1, V5, by rw [← hA4]; exact m1, _, V6, o1, fun z => absurd o3.2.2 z, fun _ => ⟨q6.1, ?_, rfl⟩⟩, fY_up (fY_up y6 (by decide) (jb 93 (by omega))) (by decide) (by show 1 * b ≤ b ∧ b < 1 * b + 1; omega), ?_⟩
              · rw [q6.2.1 90 (by decide) (by decide), upd_row (by decide), upd_row (by decide)]; exact hH.2.1
              · rw [oc_t ok1, oc_t ok2, oc_t ok3, oc_t ok4, oc_t ok5]
                refine ⟨fun i' W2 e => Or.inl ?_, (fun e => by cases e)⟩
                obtain ⟨rfl, rfl⟩ : i + 6 = i' ∧ W' = W2 := by simpa using e
                refine ⟨rT_row o3 (by rw [upd_row (by decide), upd_row (by decide)]) (by rw [upd_row (by decide), upd_row (by decide)]), p8 _ ?_⟩
                rw [hZ, ← hk']
                exact rW_up (rW_up q6 (by decide)) (by decide)
            · obtain ⟨r6, V6, o1, o2, o3, o4⟩ := xB ok5
              refine ⟨am_upd V6 93 k r6, core _ ⟨_, V2, b1, V3, by rw [← hA2]; exact e1, _, V4, j1, V5, by rw [← hA4]; exact m1, _, V6, o1, fun _ => rfl, fun z => absurd z (by rw [o3]; split <;> decide)⟩, fY_up (fY_trans y5 (fY_89 o2)) (by decide) (jb 93 (by omega)), ?_⟩
              rw [oc_t ok1, oc_t ok2, oc_t ok3, oc_t ok4, oc_f ok5, upd_row (by decide)]
              exact ⟨(fun i' W2 e => by cases e), fun _ => ⟨o3, o4⟩⟩
          · obtain ⟨V5, m1, m2, m3, m4⟩ := vB ok4
            have p : 0 < V5 86 8 := by rw [m3]; decide
            refine ⟨am_upd V5 93 k 0, core _ ⟨_, V2, b1, V3, by rw [← hA2]; exact e1, _, V4, j1, V5, by rw [← hA4]; exact m1, 0, V5, numeral_F p 1 6, fun _ => rfl, fun z => absurd z (by omega)⟩, fY_up (fY_trans y4 (fY_89 m2)) (by decide) (jb 93 (by omega)), ?_⟩
            rw [oc_t ok1, oc_t ok2, oc_t ok3, oc_f ok4, upd_row (by decide)]
            exact ⟨(fun i' W2 e => by cases e), fun _ => ⟨m3, m4⟩⟩
        · obtain ⟨V4, j1, j2, j3, j4⟩ := uB ok3
          have p : 0 < V4 86 8 := by rw [j3]; split <;> decide
          have p' : 0 < (am_upd V4 92 k 0) 86 8 := by rw [upd_row (by decide)]; exact p
          refine ⟨am_upd (am_upd V4 92 k 0) 93 k 0, core _ ⟨_, V2, b1, V3, by rw [← hA2]; exact e1, 0, V4, j1, _, mustJ_F p' _, 0, _, numeral_F p' 1 6, fun _ => rfl, fun z => absurd z (by omega)⟩, fY_up (fY_up (fY_trans y3 (fY_89 j2)) (by decide) (jb 92 (by omega))) (by decide) (jb 93 (by omega)), ?_⟩
          rw [oc_t ok1, oc_t ok2, oc_f ok3, upd_row (by decide), upd_row (by decide)]
          exact ⟨(fun i' W2 e => by cases e), fun _ => ⟨j3, j4⟩⟩
      · obtain ⟨V3, e1, e2, e3, e4⟩ := sB ok2
        have p : 0 < V3 86 8 := by rw [e3]; decide
        have p' : 0 < (am_upd V3 92 k 0) 86 8 := by rw [upd_row (by decide)]; exact p
        refine ⟨am_upd (am_upd V3 92 k 0) 93 k 0, core _ ⟨_, V2, b1, V3, by rw [← hA2]; exact e1, 0, V3, asked_F p 0, _, mustJ_F p' _, 0, _, numeral_F p' 1 6, fun _ => rfl, fun z => absurd z (by omega)⟩, fY_up (fY_up (fY_trans y2 (fY_89 e2)) (by decide) (jb 92 (by omega))) (by decide) (jb 93 (by omega)), ?_⟩
        rw [oc_t ok1, oc_f ok2, upd_row (by decide), upd_row (by decide)]
        exact ⟨(fun i' W2 e => by cases e), fun _ => ⟨e3, e4⟩⟩
    · obtain ⟨r2, V2, b1, b2, b3, b4⟩ := tB ok1
      have p : 0 < (am_upd V2 91 k r2) 86 8 := by rw [upd_row (by decide), b3]; split <;> decide
      have p' : 0 < (am_upd (am_upd V2 91 k r2) 92 k 0) 86 8 := by rw [upd_row (by decide)]; exact p
      refine ⟨am_upd (am_upd (am_upd V2 91 k r2) 92 k 0) 93 k 0, core _ ⟨r2, V2, b1, _, mustJ_F p _, 0, _, asked_F p 0, _, mustJ_F p' _, 0, _, numeral_F p' 1 6, fun _ => rfl, fun z => absurd z (by omega)⟩, fY_up (fY_up (fY_up (fY_trans y1 (fY_89 b2)) (by decide) (jb 91 (by omega))) (by decide) (jb 92 (by omega))) (by decide) (jb 93 (by omega)), ?_⟩
      rw [oc_f ok1, upd_row (by decide), upd_row (by decide), upd_row (by decide)]
      exact ⟨(fun i' W2 e => by cases e), fun _ => ⟨b3, b4⟩⟩
end HS2
