/-! a debt is told -/
section DBT
variable {N : Nat} {X : Nat → Int} {T : Nat → Int} {L K : Nat} {kk vv : Nat → Int} {bp : Int} {i b ns nh nl nw nd cl n : Nat} {W : am_U}
theorem db_bd (hD : gDb W b nh nd) {h : Nat} (hh : h < nh) : -160000 ≤ W 10 h ∧ W 10 h ≤ 160000 := by
  obtain ⟨a1, a2, a3, a4, a5⟩ := hD
  rw [a5 h hh]
  have q := fb_si_bound (f := dbF W b h) (c := 9999) (by decide) (n := nd) (fun k hk => by
    obtain ⟨⟨b1, b2⟩, -⟩ := a4 k hk
    unfold dbF
    split <;> split <;> omega)
  have : ((nd : Nat) : Int) * 9999 ≤ 160000 := by omega
  omega
theorem st_debt (hk : tkS T L K kk vv bp) (hi : i < K) (hG : gIn W b ns nh nl nw nd cl n) (hcl : cl ≤ i) (hnd : nd < 16) : StS N X T L K kk vv bp Rd_readDebt_s0 3 M_owing_s0 4 i b W := by
  have hK : K ≤ 1600 := Nat.le_trans hk.2.1 hk.1
  obtain ⟨hb, h18, hS, hH, hL, hD, hF, hLw, hWd, hP⟩ := hG
  obtain ⟨rx, fx⟩ := fdR_ex (W 5) (vv (i + 1)) nh
  obtain ⟨ry, fy⟩ := fdR_ex (W 5) (vv (i + 2)) nh
  have bdx := fdR_bd fx
  have bdy := fdR_bd fy
  have hnh := hH.2.2.1
  obtain ⟨x, hx⟩ : ∃ x : Nat, x = rx.toNat := ⟨_, rfl⟩
  obtain ⟨y, hy⟩ : ∃ y : Nat, y = ry.toNat := ⟨_, rfl⟩
  obtain ⟨k, hk'⟩ : ∃ k : Nat, k = 16 * b + nd := ⟨_, rfl⟩
  obtain ⟨m, hm⟩ : ∃ m : Int, m = vv (i + 3) := ⟨_, rfl⟩
  obtain ⟨W', hW'⟩ : ∃ W', W' = am_upd (am_upd (am_upd (am_upd (am_upd (am_upd (am_upd W 10 x (W 10 x - m)) 10 y (W 10 y + m)) 3 3 ((nd + 1 : Nat) : Int)) 107 k rx) 108 k ry) 109 k m) 106 b ((nd + 1 : Nat) : Int) := ⟨_, rfl⟩
  have wr : ∀ r, r ≠ 3 → r ≠ 10 → ¬ (106 ≤ r ∧ r ≤ 109) → W' r = W r := fun r q1 q2 q3 => by rw [hW', upd_row (by omega), upd_row (by omega), upd_row (by omega), upd_row (by omega), upd_row q1, upd_row q2, upd_row q2]
  have w3 : ∀ j, j ≠ 3 → W' 3 j = W 3 j := fun j q => by rw [hW', upd_row (by decide), upd_row (by decide), upd_row (by decide), upd_row (by decide), upd_ne q, upd_row (by decide), upd_row (by decide)]
  have l1 : kk (i + 1) = 2 → i + 1 < K := fun h => tk_lt hk (by omega) (by omega)
  have l2 : i + 1 < K → kk (i + 2) = 2 → i + 2 < K := fun h0 h => tk_lt hk (by omega) (by omega)
  have l3 : i + 2 < K → kk (i + 3) = 3 → i + 3 < K := fun h0 h => tk_lt hk (by omega) (by omega)
  refine ⟨oc (kk (i + 1) = 2 ∧ rx ≠ -1) (if kk (i + 1) = 2 then 3 else 1) (fpl T L kk bp (i + 1)) (oc ((kk (i + 2) = 2 ∧ ry ≠ -1) ∧ rx ≠ ry) (if kk (i + 2) = 2 then 3 else 1) (fpl T L kk bp (i + 2)) (oc (nuOk kk vv (i + 3) 1 9999) (if kk (i + 3) = 3 then 4 else 1) (fpl T L kk bp (i + 3)) (some (i + 4, W'), 0, 0))), oc_pos (by split <;> decide) (oc_pos (by split <;> decide) (oc_pos (by split <;> decide) (fun e => by cases e))), fun i' W2 e => ?_, fun d0 U hc hU => ?_, fun d V hr hV => ?_⟩
  · obtain ⟨ok1, e⟩ := oc_some e
    obtain ⟨ok2, e⟩ := oc_some e
    obtain ⟨ok3, e⟩ := oc_some e
    have k3 := l3 (l2 (l1 ok1.1) ok2.1.1) ok3.1
    have px := bdx.2.2 ok1.2
    have py := bdy.2.2 ok2.1.2
    have okm := ok3.2
    obtain ⟨rfl, rfl⟩ : i + 4 = i' ∧ W' = W2 := by simpa using e
    have nexy : x ≠ y := by have := ok2.2; omega
    have e107 : ∀ j, W' 107 (16 * b + j) = if j = nd then rx else W 107 (16 * b + j) := fun j => by
      rw [hW', upd_row (by decide), upd_row (by decide), upd_row (by decide), upd_if, upd_row (by decide), upd_row (by decide), upd_row (by decide)]
      by_cases c : j = nd
      · rw [if_pos c, if_pos (by omega)]
      · rw [if_neg c, if_neg (by omega)]
    have e108 : ∀ j, W' 108 (16 * b + j) = if j = nd then ry else W 108 (16 * b + j) := fun j => by
      rw [hW', upd_row (by decide), upd_row (by decide), upd_if, upd_row (by decide), upd_row (by decide), upd_row (by decide), upd_row (by decide)]
      by_cases c : j = nd
      · rw [if_pos c, if_pos (by omega)]
      · rw [if_neg c, if_neg (by omega)]
    have e109 : ∀ j, W' 109 (16 * b + j) = if j = nd then m else W 109 (16 * b + j) := fun j => by
      rw [hW', upd_row (by decide), upd_if, upd_row (by decide), upd_row (by decide), upd_row (by decide), upd_row (by decide), upd_row (by decide)]
      by_cases c : j = nd
      · rw [if_pos c, if_pos (by omega)]
      · rw [if_neg c, if_neg (by omega)]
    have e10 : ∀ h, W' 10 h = if h = y then W 10 y + m else if h = x then W 10 x - m else W 10 h := fun h => by
      rw [hW', upd_row (by decide), upd_row (by decide), upd_row (by decide), upd_row (by decide), upd_row (by decide), upd_if, upd_if]
    refine ⟨by omega, by omega, ns, nh, nl, nw, nd + 1, cl, n, ⟨hb, by rw [w3 18 (by decide)]; exact h18, gSt_k hS (w3 0 (by decide)) (fun r hr => wr r (by omega) (by omega) (by omega)), gHs_k hH (Nat.le_refl _) (w3 1 (by decide)) (fun r hr => wr r (by omega) (by omega) (by omega)), gLn_k hL (Nat.le_refl _) (w3 2 (by decide)) (fun r hr => wr r (by omega) (by omega) (by omega)), ?_, gFr_k hF (w3 5 (by decide)) (wr 110 (by decide) (by decide) (by decide)), gLw_k hLw (w3 4 (by decide)) (fun r hr => wr r (by omega) (by omega) (by omega)), gWd_k hWd (fun r hr => wr r (by omega) (by omega) (by omega)), gPp_k hP (fun r hr => wr r (by omega) (by omega) (by omega))⟩, by omega⟩
    obtain ⟨a1, a2, a3, a4, a5⟩ := hD
    refine ⟨?_, ?_, by omega, fun j hj => ?_, fun h hh => ?_⟩
    · rw [hW', upd_row (by decide), upd_row (by decide), upd_row (by decide), upd_row (by decide), upd_at]
    · rw [hW', upd_at]
    · rw [e107, e108, e109]
      by_cases c : j = nd
      · rw [if_pos c, if_pos c, if_pos c, hm]; omega
      · rw [if_neg c, if_neg c, if_neg c]; exact a4 j (by omega)
    · have ef : ∀ j, j < nd → dbF W' b h j = dbF W b h j := fun j hj => by
        unfold dbF
        have ne : ¬ j = nd := by omega
        rw [e107, e108, e109, if_neg ne, if_neg ne, if_neg ne]
      have en : dbF W' b h nd = (if h = y then m else 0) - (if h = x then m else 0) := by
        unfold dbF
        rw [e107, e108, e109, if_pos rfl, if_pos rfl, if_pos rfl]
        by_cases c1 : h = y
        · rw [if_pos c1, if_pos (by omega)]
          rw [if_neg (by omega), if_neg (by omega)]
        · rw [if_neg c1, if_neg (by omega)]
          by_cases c2 : h = x
          · rw [if_pos c2, if_pos (by omega)]
          · rw [if_neg c2, if_neg (by omega)]
      rw [fb_si_succ, fb_si_cong ef, ← a5 h hh, en, e10]
      by_cases c1 : h = y
      · rw [if_pos c1, if_pos c1, if_neg (by omega), c1]; omega
      · rw [if_neg c1, if_neg c1]
        by_cases c2 : h = x
        · rw [if_pos c2, if_pos c2, c2]; omega
        · rw [if_neg c2, if_neg c2]; omega
  · obtain ⟨d, hd⟩ : ∃ d, d = d0 + 1 := ⟨_, rfl⟩
    rw [show d0 + 3 = d + 2 by omega]
    obtain ⟨U1, n1, n2, n3⟩ := ct_Rd_next (N := N) (X := X) (d := d + 1) (by omega) hK hc hi
    have w1 := cW_fN hU n2
    obtain ⟨tA, tB⟩ := ct_takeHouse (N := N) (X := X) (d := d) (m := 0) (by omega) hk n3 (fdC1 w1 hH fx) bdx.2.2 (by omega)
    rw [hsOk_0] at tA tB
    rcases Classical.em (kk (i + 1) = 2 ∧ rx ≠ -1) with ok1 | ok1
    · have px := bdx.2.2 ok1.2
      obtain ⟨U2, t1, t2, t3⟩ := tA ok1
      clear tA tB
      have w2 := cW_fN w1 t2
      have c2 := fCz_trans (fCz_N n2) (fCz_N t2)
      have exx : rx = ((x : Nat) : Int) := by omega
      have eqk : hsOk kk (i + 2) ry (am_shl 1 ((x : Nat) : Int)) ↔ ((kk (i + 2) = 2 ∧ ry ≠ -1) ∧ rx ≠ ry) := by
        unfold hsOk
        rw [← hy]
        constructor
        · rintro ⟨z1, z2, z3⟩
          have py := bdy.2.2 z2
          rw [tb_bit (by omega) (by omega)] at z3
          refine ⟨⟨z1, z2⟩, fun e => ?_⟩
          have : y = x := by omega
          rw [decide_eq_true this] at z3
          cases z3
        · rintro ⟨⟨z1, z2⟩, z3⟩
          have py := bdy.2.2 z2
          refine ⟨z1, z2, ?_⟩
          rw [tb_bit (by omega) (by omega), decide_eq_false (by omega)]
      obtain ⟨sA, sB⟩ := ct_takeHouse (N := N) (X := X) (d := d) (m := am_shl 1 ((x : Nat) : Int)) (by omega) hk t3 (fdC1 w2 hH fy) bdy.2.2 (by omega)
      rw [show i + 1 + 1 = i + 2 from rfl, eqk] at sA sB
      rcases Classical.em ((kk (i + 2) = 2 ∧ ry ≠ -1) ∧ rx ≠ ry) with ok2 | ok2
      · have py := bdy.2.2 ok2.1.2
        obtain ⟨U3, s1', s2, s3⟩ := sA ok2
        clear sA sB
        have nexy : x ≠ y := by have := ok2.2; omega
        have eyy : ry = ((y : Nat) : Int) := by omega
        have w3' := cW_fN w2 s2
        have c3 := fCz_trans c2 (fCz_N s2)
        obtain ⟨xA, xB⟩ := ct_takeNumber (N := N) (X := X) (d := d) (by omega) hk s3 1 9999
        rw [show i + 2 + 1 = i + 3 from rfl] at xA xB
        rcases Classical.em (nuOk kk vv (i + 3) 1 9999) with ok3 | ok3
        · obtain ⟨U4, x1, x2, x3⟩ := xA ok3
          clear xA xB
          have w4 := cW_fN w3' x2
          have c4 := fCz_trans c3 (fCz_N x2)
          have okm := ok3.2
          have e38 : U4 38 = W 10 := w4.1 38 (by decide) (by decide) (by decide)
          have e31 : U4 31 3 = (nd : Nat) := by rw [w4.1 31 (by decide) (by decide) (by decide)]; exact hD.1
          have bx := db_bd hD (h := x) (by omega)
          have by' := db_bd hD (h := y) (by omega)
          have z1 : eqI (w32 (W 10 x - m)) (W 10 x - m) := by show _ = _; rw [w32_eq (by omega) (by omega)]
          have z2 : eqI (w32 (W 10 y + m)) (W 10 y + m) := by show _ = _; rw [w32_eq (by omega) (by omega)]
          refine ⟨am_upd (am_upd (am_upd U4 38 x (W 10 x - m)) 38 y (W 10 y + m)) 31 3 ((nd + 1 : Nat) : Int), 1, Rd_readDebt_r0 ⟨U1, n1, rx, U2, t1, fun _ => ⟨ry, U3, by rw [exx]; exact s1', fun _ => ⟨_, U4, x1, fun _ => ⟨_, Tw_addDebt_r0 ⟨by omega, by omega, ?_⟩, rfl⟩, fun z => absurd (show vv (i + 3) < 0 from z) (by omega)⟩, fun z => absurd z (by omega)⟩, fun z => absurd z (by omega)⟩, fCz_up (fCz_up (fCz_up c4 (by omega) (by omega)) (by omega) (by omega)) (by omega) (by omega), ?_⟩
          · rw [exx, eyy, Int.toNat_natCast, Int.toNat_natCast, ← hm, upd_ne (fun e => nexy e.symm), e38, eqI_o z1, eqI_o z2, e31, w32_succ (i := nd) (by omega)]
          · rw [oc_t ok1, oc_t ok2, oc_t ok3]
            refine ⟨fun i' W2 e => ?_, (fun e => by cases e)⟩
            obtain ⟨rfl, rfl⟩ : i + 4 = i' ∧ W' = W2 := by simpa using e
            refine ⟨rfl, cS_row x3 (fun r a1 a2 => by rw [upd_row (by omega), upd_row (by omega), upd_row (by omega)]), ?_⟩
            rw [hW']
            exact cW_gh1 (cW_gh1 (cW_gh1 (cW_gh1 (cW_up (cW_up (cW_up w4 38 (by omega) (by omega)) 38 (by omega) (by omega)) 31 (by omega) (by omega)) (by omega)) (by omega)) (by omega)) (by omega)
        · obtain ⟨U4, x1, x2, x3, x4⟩ := xB ok3
          clear xA xB
          refine ⟨U4, 0, Rd_readDebt_r0 ⟨U1, n1, rx, U2, t1, fun _ => ⟨ry, U3, by rw [exx]; exact s1', fun _ => ⟨_, U4, x1, fun z => absurd z (by decide), fun _ => rfl⟩, fun z => absurd z (by omega)⟩, fun z => absurd z (by omega)⟩, fCz_trans c3 (fCz_N x2), ?_⟩
          rw [oc_t ok1, oc_t ok2, oc_f ok3]
          exact ⟨(fun i' W2 e => by cases e), fun _ => ⟨rfl, x3, x4⟩⟩
      · obtain ⟨U3, s1', s2, s3, s4⟩ := sB ok2
        clear sA sB
        refine ⟨U3, 0, Rd_readDebt_r0 ⟨U1, n1, rx, U2, t1, fun _ => ⟨-1, U3, by rw [exx]; exact s1', fun z => absurd z (by decide), fun _ => rfl⟩, fun z => absurd z (by omega)⟩, fCz_trans c2 (fCz_N s2), ?_⟩
        rw [oc_t ok1, oc_f ok2]
        exact ⟨(fun i' W2 e => by cases e), fun _ => ⟨rfl, s3, s4⟩⟩
    · obtain ⟨U2, t1, t2, t3, t4⟩ := tB ok1
      refine ⟨U2, 0, Rd_readDebt_r0 ⟨U1, n1, -1, U2, t1, fun z => absurd z (by decide), fun _ => rfl⟩, fCz_trans (fCz_N n2) (fCz_N t2), ?_⟩
      rw [oc_f ok1]
      exact ⟨(fun i' W2 e => by cases e), fun _ => ⟨rfl, t3, t4⟩⟩
  · obtain ⟨V1, a1, a2, a3⟩ := ct_counts0 (N := N) (X := X) (d := d + 1) hk hr
    have v1 := rW_A6 hV a2
    have h106 : ∀ A : am_U, rW A W b → A 106 b = (nd : Nat) := fun A hA => by rw [hA.2.1 106 (by decide) (by decide)]; exact hD.2.1
    have x0 : eqI (w32 (w32 (16 * ((b : Nat) : Int)) + ((nd : Nat) : Int))) ((k : Nat) : Int) := by show _ = _; rw [w32_eq (x := 16 * ((b : Nat) : Int)) (by omega) (by omega), w32_eq (by omega) (by omega)]; omega
    have core : ∀ R, (∃ (r2 : Int) (U2 : am_U), EvK N X (M_asked_s0 (d + 3) 1 V1) (rI r2 U2) ∧ ∃ (r3 : Int) (U3 : am_U), EvK N X (M_looked_s0 (d + 3) 1 (am_upd U2 107 k r2)) (rI r3 U3) ∧ (((U3 86 8) ≠ 0) → 0 < U3 86 8 ∧ R = rV (am_upd U3 108 k r3)) ∧ (((U3 86 8) = 0) → ((U3 107 k ≠ r3) → ∃ U6 : am_U, EvK N X (M_ahead_s0 (d + 3) (am_upd U3 108 k r3)) (rV U6) ∧ ∃ (r7 : Int) (U7 : am_U), EvK N X (M_numeral_s0 (d + 3) 1 9999 U6) (rI r7 U7) ∧ (((U7 86 8) ≠ 0) → R = rV (am_upd U7 109 k r7)) ∧ (((U7 86 8) = 0) → U7 86 40 = (b : Nat) ∧ U7 106 b = (nd : Nat) ∧ R = rV (am_upd (am_upd U7 109 k r7) 106 b ((nd + 1 : Nat) : Int)))) ∧ ((U3 107 k = r3) → ∃ U8 : am_U, EvK N X (M_blame_s0 (d + 3) 3 (U3 86 4) (am_upd U3 108 k r3)) (rV U8) ∧ 0 < U8 86 8 ∧ R = rV U8))) → EvK N X (M_owing_s0 (d + 4) V) R := fun R hR => by
      obtain ⟨r2, U2, c1, r3, U3, c2, c3, c4⟩ := hR
      refine M_owing_r0 ?_
      rw [hV.1, Int.toNat_natCast, h106 V hV]
      refine ⟨by omega, fun _ => ⟨1, V1, a1, fun _ => ?_, fun z => absurd z (by decide)⟩, fun z => absurd z (by omega)⟩
      rw [v1.1, Int.toNat_natCast, h106 V1 v1, eqI_o x0, Int.toNat_natCast]
      refine ⟨by omega, r2, U2, c1, by omega, r3, U3, c2, fun z => ⟨fun z2 => absurd (c3 z).1 (by omega), fun _ => (c3 z).2⟩, fun z => ?_⟩
      rw [upd_at]
      refine ⟨fun z2 => ⟨fun _ => ?_, fun z3 => absurd z3 (by omega)⟩, fun z2 => ?_⟩
      · obtain ⟨U6, e1, r7, U7, e2, e3, e4⟩ := (c4 z).1 z2
        refine ⟨U6, e1, r7, U7, e2, e3, fun z3 => ?_⟩
        obtain ⟨g1, g2, g3⟩ := e4 z3
        rw [g1, Int.toNat_natCast, g2, w32_succ (i := nd) (by omega)]
        exact ⟨by omega, g3⟩
      · obtain ⟨U8, e1, e2, e3⟩ := (c4 z).2 z2
        exact ⟨U8, e1, fun z3 => absurd z3 (by omega), fun _ => e3⟩
    have jb : ∀ r, r = 107 ∨ r = 108 ∨ r = 109 → wdt r * b ≤ k ∧ k < wdt r * b + wdt r := fun r hr => by
      rcases hr with rfl | rfl | rfl
      · show 16 * b ≤ k ∧ k < 16 * b + 16; omega
      · show 16 * b ≤ k ∧ k < 16 * b + 16; omega
      · show 16 * b ≤ k ∧ k < 16 * b + 16; omega
    have y1 : fY b V V1 := fY_A6 a2
    obtain ⟨uA, uB⟩ := ct_asked (N := N) (X := X) (d := d) (q := 1) (r := rx) hk (by omega) a3 (fun h V9 hV9 => by rw [hV9]; exact fdM1 v1 hb hH (wn_ok hk (by omega) h) fx)
    rcases Classical.em (kk (i + 1) = 2 ∧ rx ≠ -1) with ok1 | ok1
    · have k1 := l1 ok1.1
      obtain ⟨V2, b1, b2, b3⟩ := uA ok1
      clear uA uB
      obtain ⟨A2, hA2⟩ : ∃ A2, A2 = am_upd V2 107 k rx := ⟨_, rfl⟩
      have g2 : rT A2 T L (i + 1 + 1) := by rw [hA2]; exact rT_row b3 (upd_row (by decide)) (upd_row (by decide))
      have q2 : rW A2 (am_upd W 107 k rx) b := by rw [hA2]; exact rW_up (rW_A6 v1 b2) (by decide)
      have y2 : fY b V A2 := by rw [hA2]; exact fY_up (fY_trans y1 (fY_A6 b2)) (by decide) (jb 107 (by omega))
      have hH2 : gHs (am_upd W 107 k rx) b ns nh nl := gHs_k hH (Nat.le_refl _) (by rw [upd_row (by decide)]) (fun r hr => upd_row (by omega))
      have fy2 : fdR ((am_upd W 107 k rx) 5) (vv (i + 2)) nh ry := by rw [upd_row (by decide)]; exact fy
      have z8 : A2 86 8 = 0 := g2.2.2
      have a107 : A2 107 k = rx := by rw [hA2, upd_at]
      obtain ⟨sA, sB⟩ := ct_looked (N := N) (X := X) (d := d + 1) (q := 1) (r := ry) hk (by omega) g2 (fun h V9 hV9 => by rw [hV9]; exact fdM1 q2 hb hH2 (wn_ok hk (by omega) h) fy2)
      rcases Classical.em (kk (i + 2) = 2 ∧ ry ≠ -1) with ok2 | ok2
      · have k2 := l2 k1 ok2.1
        have lk := sA ok2
        clear sA sB
        have hx12 : A2 86 12 = -1 := (wn_V hk g2 (by omega) ok2.1).2.2.1
        have ok12 := ok2.1
        obtain ⟨A3, hA3⟩ : ∃ A3, A3 = am_upd A2 108 k ry := ⟨_, rfl⟩
        have g3 : rT A3 T L (i + 1 + 1) := by rw [hA3]; exact rT_row g2 (upd_row (by decide)) (upd_row (by decide))
        have q3 : rW A3 (am_upd (am_upd W 107 k rx) 108 k ry) b := by rw [hA3]; exact rW_up q2 (by decide)
        have y3 : fY b V A3 := by rw [hA3]; exact fY_up y2 (by decide) (jb 108 (by omega))
        by_cases c : rx = ry
        · have h3x : A3 86 12 = -1 := by rw [hA3, upd_row (by decide)]; exact hx12
          obtain ⟨V9, f1, f2, f3, f4⟩ := blame_at (N := N) (X := X) (d := d + 3) hk g3 (by omega) h3x 3
          refine ⟨V9, core _ ⟨rx, V2, b1, ry, A2, by rw [← hA2]; exact lk, fun z => absurd z8 z, fun _ => ⟨fun z => absurd (by rw [a107]; exact c) z, fun _ => ⟨V9, by rw [← hA3, show A2 86 4 = A3 86 4 by rw [hA3, upd_row (by decide)]]; exact f1, by omega, rfl⟩⟩⟩, fY_trans y3 (fY_89 f2), ?_⟩
          rw [oc_t ok1, oc_f (fun z => z.2 c), if_pos ok12]
          exact ⟨(fun i' W2 e => by cases e), fun _ => ⟨f3, f4⟩⟩
        · obtain ⟨V3, m1, m2, m3⟩ := ct_ahead1 (N := N) (X := X) (d := d + 2) hk g3
          have v3 := rW_A6 q3 m2
          have y4 := fY_trans y3 (fY_A6 (b := b) m2)
          obtain ⟨xA, xB⟩ := ct_numeral (N := N) (X := X) (d := d + 1) hk (by omega) m3 1 9999
          rw [show i + 1 + 1 + 1 = i + 3 from rfl] at xA xB
          rcases Classical.em (nuOk kk vv (i + 3) 1 9999) with ok3 | ok3
          · obtain ⟨V4, o1, o2, o3⟩ := xA ok3
            clear xA xB
            have v4 := rW_A6 v3 o2
            refine ⟨am_upd (am_upd V4 109 k m) 106 b ((nd + 1 : Nat) : Int), core _ ⟨rx, V2, b1, ry, A2, by rw [← hA2]; exact lk, fun z => absurd z8 z, fun _ => ⟨fun _ => ⟨V3, by rw [← hA3]; exact m1, _, V4, o1, fun z => absurd o3.2.2 z, fun _ => ⟨v4.1, ?_, by rw [hm]⟩⟩, fun z => absurd (by rw [← a107]; exact z) c⟩⟩, fY_up (fY_up (fY_trans y4 (fY_A6 o2)) (by decide) (jb 109 (by omega))) (by decide) (by show 1 * b ≤ b ∧ b < 1 * b + 1; omega), ?_⟩
            · rw [v4.2.1 106 (by decide) (by decide), upd_row (by decide), upd_row (by decide)]; exact hD.2.1
            · rw [oc_t ok1, oc_t ⟨ok2, c⟩, oc_t ok3]
              refine ⟨fun i' W2 e => Or.inl ?_, (fun e => by cases e)⟩
              obtain ⟨rfl, rfl⟩ : i + 4 = i' ∧ W' = W2 := by simpa using e
              refine ⟨rT_row o3 (by rw [upd_row (by decide), upd_row (by decide)]) (by rw [upd_row (by decide), upd_row (by decide)]), ?_⟩
              have base : rW (am_upd (am_upd V4 109 k m) 106 b ((nd + 1 : Nat) : Int)) (am_upd (am_upd (am_upd (am_upd W 107 k rx) 108 k ry) 109 k m) 106 b ((nd + 1 : Nat) : Int)) b := rW_up (rW_up v4 (by decide)) (by decide)
              obtain ⟨c1, c2, c3, c4⟩ := base
              refine ⟨c1, fun r q1 q2 => ?_, ?_, ?_⟩
              · rw [c2 r q1 q2]
                funext j
                rw [hW']
                unfold am_upd
                have n10 : ∀ j', ¬ (r = 10 ∧ j = j') := fun j' z => by omega
                have n3 : ∀ j', ¬ (r = 3 ∧ j = j') := fun j' z => by omega
                rw [if_neg (n3 3), if_neg (n10 y), if_neg (n10 x)]
              · rw [c3, w3 18 (by decide), upd_row (by decide), upd_row (by decide), upd_row (by decide), upd_row (by decide)]
              · rw [upd_row (show (3 : Nat) ≠ 106 by decide), upd_row (show (3 : Nat) ≠ 109 by decide), upd_row (show (3 : Nat) ≠ 108 by decide), upd_row (show (3 : Nat) ≠ 107 by decide), upd_row (show (15 : Nat) ≠ 106 by decide), upd_row (show (15 : Nat) ≠ 109 by decide), upd_row (show (15 : Nat) ≠ 108 by decide), upd_row (show (15 : Nat) ≠ 107 by decide)] at c4
                rw [w3 18 (by decide), wr 15 (by decide) (by decide) (by decide)]; exact c4
          · obtain ⟨r4, V4, o1, o2, o3, o4⟩ := xB ok3
            clear xA xB
            refine ⟨am_upd V4 109 k r4, core _ ⟨rx, V2, b1, ry, A2, by rw [← hA2]; exact lk, fun z => absurd z8 z, fun _ => ⟨fun _ => ⟨V3, by rw [← hA3]; exact m1, _, V4, o1, fun _ => rfl, fun z => absurd z (by rw [o3]; split <;> decide)⟩, fun z => absurd (by rw [← a107]; exact z) c⟩⟩, fY_up (fY_trans y4 (fY_89 o2)) (by decide) (jb 109 (by omega)), ?_⟩
            rw [oc_t ok1, oc_t ⟨ok2, c⟩, oc_f ok3, upd_row (by decide)]
            exact ⟨(fun i' W2 e => by cases e), fun _ => ⟨o3, o4⟩⟩
      · obtain ⟨V3, m1, m2, m3, m4⟩ := sB ok2
        clear sA sB
        have p : 0 < V3 86 8 := by rw [m3]; split <;> decide
        refine ⟨am_upd V3 108 k 0, core _ ⟨rx, V2, b1, 0, V3, by rw [← hA2]; exact m1, fun _ => ⟨p, rfl⟩, fun z => absurd z (by omega)⟩, fY_up (fY_trans y2 (fY_89 m2)) (by decide) (jb 108 (by omega)), ?_⟩
        rw [oc_t ok1, oc_f (fun z => ok2 z.1), upd_row (by decide)]
        exact ⟨(fun i' W2 e => by cases e), fun _ => ⟨m3, m4⟩⟩
    · obtain ⟨V2, b1, b2, b3, b4⟩ := uB ok1
      clear uA uB
      have p : 0 < (am_upd V2 107 k 0) 86 8 := by rw [upd_row (by decide), b3]; split <;> decide
      refine ⟨am_upd (am_upd V2 107 k 0) 108 k 0, core _ ⟨0, V2, b1, 0, _, looked_F p 1, fun _ => ⟨p, rfl⟩, fun z => absurd z (by omega)⟩, fY_up (fY_up (fY_trans y1 (fY_89 b2)) (by decide) (jb 107 (by omega))) (by decide) (jb 108 (by omega)), ?_⟩
      rw [oc_f ok1, upd_row (by decide), upd_row (by decide)]
      exact ⟨(fun i' W2 e => by cases e), fun _ => ⟨b3, b4⟩⟩
end DBT
