/-! a lane is told -/
theorem nb_lane {st lf lt lf' lt' : Nat → Int} {nl x y : Nat} (hne : x ≠ y) (hl : ∀ k, k < nl → lf' k = lf k ∧ lt' k = lt k) (h1 : lf' nl = (x : Nat)) (h2 : lt' nl = (y : Nat)) (h i : Nat) : nbP st lf' lt' (nl + 1) h i ↔ (nbP st lf lt nl h i ∨ (h = y ∧ i = x) ∨ (h = x ∧ i = y)) := by
  constructor
  · rintro ⟨ne, a | ⟨k, hk, q⟩⟩
    · exact Or.inl ⟨ne, Or.inl a⟩
    · by_cases e : k = nl
      · subst e
        rw [h1, h2] at q
        right; omega
      · obtain ⟨z1, z2⟩ := hl k (by omega)
        rw [z1, z2] at q
        exact Or.inl ⟨ne, Or.inr ⟨k, by omega, q⟩⟩
  · rintro (⟨ne, a | ⟨k, hk, q⟩⟩ | ⟨rfl, rfl⟩ | ⟨rfl, rfl⟩)
    · exact ⟨ne, Or.inl a⟩
    · obtain ⟨z1, z2⟩ := hl k hk
      exact ⟨ne, Or.inr ⟨k, by omega, by rw [z1, z2]; exact q⟩⟩
    · exact ⟨fun e => hne e.symm, Or.inr ⟨nl, by omega, by rw [h1, h2]; exact Or.inr ⟨rfl, rfl⟩⟩⟩
    · exact ⟨hne, Or.inr ⟨nl, by omega, by rw [h1, h2]; exact Or.inl ⟨rfl, rfl⟩⟩⟩
section LNE
variable {N : Nat} {X : Nat → Int} {T : Nat → Int} {L K : Nat} {kk vv : Nat → Int} {bp : Int} {i b ns nh nl nw nd cl n : Nat} {W : am_U}
theorem hsOk_0 {r : Int} {j : Nat} : hsOk kk j r 0 ↔ kk j = 2 ∧ r ≠ -1 := by
  unfold hsOk
  rw [tb_0]
  exact ⟨fun z => ⟨z.1, z.2.1⟩, fun z => ⟨z.1, z.2, rfl⟩⟩
theorem st_lane (hk : tkS T L K kk vv bp) (hi : i < K) (hG : gIn W b ns nh nl nw nd cl n) (hcl : cl ≤ i) (hnl : nl < 10) : StS N X T L K kk vv bp Rd_readLane_s0 3 M_laning_s0 4 i b W := by
  have hK : K ≤ 1600 := Nat.le_trans hk.2.1 hk.1
  obtain ⟨hb, h18, hS, hH, hL, hD, hF, hLw, hWd, hP⟩ := hG
  obtain ⟨rx, fx⟩ := fdR_ex (W 5) (vv (i + 1)) nh
  obtain ⟨ry, fy⟩ := fdR_ex (W 5) (vv (i + 2)) nh
  have bdx := fdR_bd fx
  have bdy := fdR_bd fy
  have hnh := hH.2.2.1
  obtain ⟨x, hx⟩ : ∃ x : Nat, x = rx.toNat := ⟨_, rfl⟩
  obtain ⟨y, hy⟩ : ∃ y : Nat, y = ry.toNat := ⟨_, rfl⟩
  obtain ⟨k, hk'⟩ : ∃ k : Nat, k = 10 * b + nl := ⟨_, rfl⟩
  obtain ⟨nb, hnb⟩ : ∃ nb : Prop, nb = nbP (W 6) (fun k => W 95 (10 * b + k)) (fun k => W 96 (10 * b + k)) nl x y := ⟨_, rfl⟩
  obtain ⟨W', hW'⟩ : ∃ W', W' = am_upd (am_upd (am_upd (am_upd (jnG W 9 x y) 3 2 ((nl + 1 : Nat) : Int)) 95 k rx) 96 k ry) 94 b ((nl + 1 : Nat) : Int) := ⟨_, rfl⟩
  have wr : ∀ r, r ≠ 3 → r ≠ 9 → ¬ (94 ≤ r ∧ r ≤ 96) → W' r = W r := fun r q1 q2 q3 => by rw [hW', upd_row (by omega), upd_row (by omega), upd_row (by omega), upd_row q1, jnG_row q2]
  have w3 : ∀ j, j ≠ 2 → W' 3 j = W 3 j := fun j q => by rw [hW', upd_row (by decide), upd_row (by decide), upd_row (by decide), upd_ne q, jnG_row (by decide)]
  have l1 : kk (i + 1) = 2 → i + 1 < K := fun h => tk_lt hk (by omega) (by omega)
  have l2 : i + 1 < K → kk (i + 2) = 2 → i + 2 < K := fun h0 h => tk_lt hk (by omega) (by omega)
  refine ⟨oc (kk (i + 1) = 2 ∧ rx ≠ -1) (if kk (i + 1) = 2 then 3 else 1) (fpl T L kk bp (i + 1)) (oc ((kk (i + 2) = 2 ∧ ry ≠ -1) ∧ rx ≠ ry ∧ ¬ nb) (if kk (i + 2) = 2 then 3 else 1) (fpl T L kk bp (i + 2)) (some (i + 3, W'), 0, 0)), oc_pos (by split <;> decide) (oc_pos (by split <;> decide) (fun e => by cases e)), fun i' W2 e => ?_, fun d0 U hc hU => ?_, fun d V hr hV => ?_⟩
  · obtain ⟨ok1, e⟩ := oc_some e
    obtain ⟨ok2, e⟩ := oc_some e
    have k2 := l2 (l1 ok1.1) ok2.1.1
    have px := bdx.2.2 ok1.2
    have py := bdy.2.2 ok2.1.2
    obtain ⟨rfl, rfl⟩ : i + 3 = i' ∧ W' = W2 := by simpa using e
    have nexy : x ≠ y := by have := ok2.2.1; omega
    have e9 : W' 9 = jnG W 9 x y 9 := by rw [hW', upd_row (by decide), upd_row (by decide), upd_row (by decide), upd_row (by decide)]
    have e95 : ∀ j, W' 95 (10 * b + j) = if j = nl then rx else W 95 (10 * b + j) := fun j => by
      rw [hW', upd_row (by decide), upd_row (by decide), upd_if, upd_row (by decide), jnG_row (by decide)]
      by_cases c : j = nl
      · rw [if_pos c, if_pos (by omega)]
      · rw [if_neg c, if_neg (by omega)]
    have e96 : ∀ j, W' 96 (10 * b + j) = if j = nl then ry else W 96 (10 * b + j) := fun j => by
      rw [hW', upd_row (by decide), upd_if, upd_row (by decide), upd_row (by decide), jnG_row (by decide)]
      by_cases c : j = nl
      · rw [if_pos c, if_pos (by omega)]
      · rw [if_neg c, if_neg (by omega)]
    have nbk := nb_lane (st := W 6) (lf := fun k => W 95 (10 * b + k)) (lt := fun k => W 96 (10 * b + k)) (lf' := fun k => W' 95 (10 * b + k)) (lt' := fun k => W' 96 (10 * b + k)) (nl := nl) (x := x) (y := y) nexy (fun j hj => by
      show W' 95 (10 * b + j) = W 95 (10 * b + j) ∧ W' 96 (10 * b + j) = W 96 (10 * b + j)
      rw [e95, e96, if_neg (by omega), if_neg (by omega)]; exact ⟨rfl, rfl⟩) (by show W' 95 (10 * b + nl) = _; rw [e95, if_pos rfl]; omega) (by show W' 96 (10 * b + nl) = _; rw [e96, if_pos rfl]; omega)
    refine ⟨by omega, by omega, ns, nh, nl + 1, nw, nd, cl, n, ⟨hb, by rw [w3 18 (by decide)]; exact h18, gSt_k hS (w3 0 (by decide)) (fun r hr => wr r (by omega) (by omega) (by omega)), ?_, ?_, gDb_k hD (w3 3 (by decide)) (fun r hr => wr r (by omega) (by omega) (by omega)), gFr_k hF (w3 5 (by decide)) (wr 110 (by decide) (by decide) (by decide)), gLw_k hLw (w3 4 (by decide)) (fun r hr => wr r (by omega) (by omega) (by omega)), gWd_k hWd (fun r hr => wr r (by omega) (by omega) (by omega)), gPp_k hP (fun r hr => wr r (by omega) (by omega) (by omega))⟩, by omega⟩
    · obtain ⟨a1, a2, a3, a4⟩ := hH
      unfold gHs
      rw [w3 1 (by decide), wr 90 (by decide) (by decide) (by decide), wr 5 (by decide) (by decide) (by decide), wr 91 (by decide) (by decide) (by decide), wr 92 (by decide) (by decide) (by decide), wr 6 (by decide) (by decide) (by decide), wr 93 (by decide) (by decide) (by decide), wr 8 (by decide) (by decide) (by decide), wr 7 (by decide) (by decide) (by decide), e9]
      refine ⟨a1, a2, a3, fun h hh => ?_⟩
      obtain ⟨b1, b2, b3, b4, b5, b6⟩ := a4 h hh
      refine ⟨b1, b2, b3, b4, jnG_in b5, fun i' hi' => ?_⟩
      rw [jnG_tb nexy (by omega) (by omega) hi', b6 i' hi']
      have eq : (i' < nh ∧ nbP (W 6) (fun k => W' 95 (10 * b + k)) (fun k => W' 96 (10 * b + k)) (nl + 1) h i') ↔ ((i' < nh ∧ nbP (W 6) (fun k => W 95 (10 * b + k)) (fun k => W 96 (10 * b + k)) nl h i') ∨ ((h = y ∧ i' = x) ∨ (h = x ∧ i' = y))) := by
        rw [nbk h i']
        constructor
        · rintro ⟨z1, z2 | z2⟩
          · exact Or.inl ⟨z1, z2⟩
          · exact Or.inr z2
        · rintro (⟨z1, z2⟩ | z2)
          · exact ⟨z1, Or.inl z2⟩
          · exact ⟨by omega, Or.inr z2⟩
      rw [pd_cg eq]
      by_cases c1 : i' < nh ∧ nbP (W 6) (fun k => W 95 (10 * b + k)) (fun k => W 96 (10 * b + k)) nl h i'
      · rw [pd_t c1, pd_t (Or.inl c1), Bool.true_or]
      · rw [pd_f c1, Bool.false_or]
        by_cases c2 : h = y ∧ i' = x
        · rw [decide_eq_true c2, Bool.true_or, pd_t (Or.inr (Or.inl c2))]
        · rw [decide_eq_false c2, Bool.false_or]
          by_cases c3 : h = x ∧ i' = y
          · rw [decide_eq_true c3, pd_t (Or.inr (Or.inr c3))]
          · rw [decide_eq_false c3, pd_f]
            rintro (z | z | z)
            · exact c1 z
            · exact c2 z
            · exact c3 z
    · obtain ⟨a1, a2, a3, a4⟩ := hL
      refine ⟨?_, ?_, by omega, fun j hj => ?_⟩
      · rw [hW', upd_row (by decide), upd_row (by decide), upd_row (by decide), upd_at]
      · rw [hW', upd_at]
      · rw [e95, e96]
        by_cases c : j = nl
        · rw [if_pos c, if_pos c]; omega
        · rw [if_neg c, if_neg c]; exact a4 j (by omega)
  · obtain ⟨d, hd⟩ : ∃ d, d = d0 + 1 := ⟨_, rfl⟩
    rw [show d0 + 3 = d + 2 by omega]
    obtain ⟨U1, n1, n2, n3⟩ := ct_Rd_next (N := N) (X := X) (d := d + 1) (by omega) hK hc hi
    have w1 := cW_fN hU n2
    obtain ⟨tA, tB⟩ := ct_takeHouse (N := N) (X := X) (d := d) (m := 0) (by omega) hk n3 (fdC1 w1 hH fx) bdx.2.2 (by omega)
    rw [hsOk_0] at tA tB
    rcases Classical.em (kk (i + 1) = 2 ∧ rx ≠ -1) with ok1 | ok1
    · have px := bdx.2.2 ok1.2
      obtain ⟨U2, t1, t2, t3⟩ := tA ok1
      clear tA tB
      have w2 := cW_fN w1 t2
      have c2 := fCz_trans (fCz_N n2) (fCz_N t2)
      have e37 : U2 37 x = W 9 x := by rw [w2.1 37 (by decide) (by decide) (by decide)]
      have exx : rx = ((x : Nat) : Int) := by omega
      have bits := (hH.2.2.2 x (by omega)).2.2.2.2.2
      have eqk : hsOk kk (i + 2) ry (am_or (U2 37 x) (am_shl 1 ((x : Nat) : Int))) ↔ ((kk (i + 2) = 2 ∧ ry ≠ -1) ∧ rx ≠ ry ∧ ¬ nb) := by
        unfold hsOk
        rw [e37, ← hy]
        constructor
        · rintro ⟨z1, z2, z3⟩
          have py := bdy.2.2 z2
          rw [tb_or, bits y (by omega), tb_bit (by omega) (by omega)] at z3
          refine ⟨⟨z1, z2⟩, fun e => ?_, fun e => ?_⟩
          · have : y = x := by omega
            rw [decide_eq_true this, Bool.or_true] at z3
            cases z3
          · rw [hnb] at e
            rw [pd_t ⟨by omega, e⟩, Bool.true_or] at z3
            cases z3
        · rintro ⟨⟨z1, z2⟩, z3, z4⟩
          have py := bdy.2.2 z2
          refine ⟨z1, z2, ?_⟩
          rw [hnb] at z4
          rw [tb_or, bits y (by omega), tb_bit (by omega) (by omega), pd_f (fun z => z4 z.2), decide_eq_false (by omega)]
          rfl
      obtain ⟨sA, sB⟩ := ct_takeHouse (N := N) (X := X) (d := d) (m := am_or (U2 37 x) (am_shl 1 ((x : Nat) : Int))) (by omega) hk t3 (fdC1 w2 hH fy) bdy.2.2 (by omega)
      rw [show i + 1 + 1 = i + 2 from rfl, eqk] at sA sB
      rcases Classical.em ((kk (i + 2) = 2 ∧ ry ≠ -1) ∧ rx ≠ ry ∧ ¬ nb) with ok2 | ok2
      · have py := bdy.2.2 ok2.1.2
        obtain ⟨U3, s1', s2, s3⟩ := sA ok2
        clear sA sB
        have nexy : x ≠ y := by have := ok2.2.1; omega
        have eyy : ry = ((y : Nat) : Int) := by omega
        have w3' := cW_fN w2 s2
        have c3 := fCz_trans c2 (fCz_N s2)
        have e31 : jnG U3 37 x y 31 2 = (nl : Nat) := by rw [jnG_row (by decide), w3'.1 31 (by decide) (by decide) (by decide)]; exact hL.1
        refine ⟨am_upd (jnG U3 37 x y) 31 2 ((nl + 1 : Nat) : Int), 1, Rd_readLane_r0 ⟨U1, n1, rx, U2, t1, fun _ => ⟨by omega, ry, U3, by rw [exx, Int.toNat_natCast]; exact s1', fun _ => ⟨_, Tw_addLane_r0 ⟨_, by rw [exx, eyy]; exact ct_join (by omega) (by omega) nexy, ?_⟩, rfl⟩, fun z => absurd z (by omega)⟩, fun z => absurd z (by omega)⟩, fCz_up (fCz_trans c3 ⟨fun r hr => by rw [jnG_row (by omega)], by rw [jnG_row (by omega)]⟩) (by omega) (by omega), ?_⟩
        · rw [e31, w32_succ (i := nl) (by omega)]
        · rw [oc_t ok1, oc_t ok2]
          refine ⟨fun i' W2 e => ?_, (fun e => by cases e)⟩
          obtain ⟨rfl, rfl⟩ : i + 3 = i' ∧ W' = W2 := by simpa using e
          refine ⟨rfl, cS_row s3 (fun r a1 a2 => by rw [upd_row (by omega), jnG_row (by omega)]), ?_⟩
          rw [hW']
          exact cW_gh1 (cW_gh1 (cW_gh1 (cW_up (cW_jn w3') 31 (by omega) (by omega)) (by omega)) (by omega)) (by omega)
      · obtain ⟨U3, s1', s2, s3, s4⟩ := sB ok2
        clear sA sB
        refine ⟨U3, 0, Rd_readLane_r0 ⟨U1, n1, rx, U2, t1, fun _ => ⟨by omega, -1, U3, by rw [exx, Int.toNat_natCast]; exact s1', fun z => absurd z (by decide), fun _ => rfl⟩, fun z => absurd z (by omega)⟩, fCz_trans c2 (fCz_N s2), ?_⟩
        rw [oc_t ok1, oc_f ok2]
        exact ⟨(fun i' W2 e => by cases e), fun _ => ⟨rfl, s3, s4⟩⟩
    · obtain ⟨U2, t1, t2, t3, t4⟩ := tB ok1
      clear tA tB
      refine ⟨U2, 0, Rd_readLane_r0 ⟨U1, n1, -1, U2, t1, fun z => absurd z (by decide), fun _ => rfl⟩, fCz_trans (fCz_N n2) (fCz_N t2), ?_⟩
      rw [oc_f ok1]
      exact ⟨(fun i' W2 e => by cases e), fun _ => ⟨rfl, t3, t4⟩⟩
  · obtain ⟨V1, a1, a2, a3⟩ := ct_counts0 (N := N) (X := X) (d := d + 1) hk hr
    have v1 := rW_A6 hV a2
    have h94 : ∀ A : am_U, rW A W b → A 94 b = (nl : Nat) := fun A hA => by rw [hA.2.1 94 (by decide) (by decide)]; exact hL.2.1
    have x0 : eqI (w32 (w32 (10 * ((b : Nat) : Int)) + ((nl : Nat) : Int))) ((k : Nat) : Int) := by show _ = _; rw [w32_eq (x := 10 * ((b : Nat) : Int)) (by omega) (by omega), w32_eq (by omega) (by omega)]; omega
    have core : ∀ R, (∃ (r2 : Int) (U2 : am_U), EvK N X (M_asked_s0 (d + 3) 1 V1) (rI r2 U2) ∧ ∃ (r3 : Int) (U3 : am_U), EvK N X (M_looked_s0 (d + 3) 1 U2) (rI r3 U3) ∧ (((U3 86 8) ≠ 0) → 0 < U3 86 8 ∧ R = rV U3) ∧ (((U3 86 8) = 0) → ((r2 = r3) → ∃ U5 : am_U, EvK N X (M_blame_s0 (d + 3) 3 (U3 86 4) U3) (rV U5) ∧ 0 < U5 86 8 ∧ R = rV U5) ∧ ((r2 ≠ r3) → ∃ (r7 : Int) (U7 : am_U), EvK N X (M_areNeighbours_s0 (d + 3) (U3 86 40) r2 r3 U3) (rI r7 U7) ∧ ((r7 = 0) → U7 86 8 = 0 ∧ ∃ U8 : am_U, EvK N X (M_ahead_s0 (d + 3) U7) (rV U8) ∧ U8 86 40 = (b : Nat) ∧ U8 94 b = (nl : Nat) ∧ R = rV (am_upd (am_upd (am_upd U8 95 k r2) 96 k r3) 94 b ((nl + 1 : Nat) : Int))) ∧ ((r7 ≠ 0) → ∃ U9 : am_U, EvK N X (M_blame_s0 (d + 3) 3 (U7 86 4) U7) (rV U9) ∧ 0 < U9 86 8 ∧ R = rV U9)))) → EvK N X (M_laning_s0 (d + 4) V) R := fun R hR => by
      obtain ⟨r2, U2, c1, r3, U3, c2, c3, c4⟩ := hR
      refine M_laning_r0 ?_
      rw [hV.1, Int.toNat_natCast, h94 V hV]
      refine ⟨by omega, fun _ => ⟨1, V1, a1, fun _ => ?_, fun z => absurd z (by decide)⟩, fun z => absurd z (by omega)⟩
      rw [v1.1, Int.toNat_natCast, h94 V1 v1, eqI_o x0, Int.toNat_natCast]
      refine ⟨by omega, r2, U2, c1, r3, U3, c2, fun z => ⟨fun z2 => absurd (c3 z).1 (by omega), fun _ => (c3 z).2⟩, fun z => ⟨fun z2 => ?_, fun z2 => ?_⟩⟩
      · obtain ⟨U5, e1, e2, e3⟩ := (c4 z).1 z2
        exact ⟨U5, e1, fun z3 => absurd z3 (by omega), fun _ => e3⟩
      · obtain ⟨r7, U7, e1, e2, e3⟩ := (c4 z).2 z2
        refine ⟨r7, U7, e1, fun z3 => ⟨fun _ => ?_, fun z4 => ?_⟩, fun z3 => ?_⟩
        · obtain ⟨-, U8, g1, g2, g3, g4⟩ := e2 z3
          refine ⟨U8, g1, by omega, ?_⟩
          rw [g2, Int.toNat_natCast, g3, w32_succ (i := nl) (by omega)]
          exact ⟨by omega, g4⟩
        · have := (e2 z3).1; omega
        · obtain ⟨U9, g1, g2, g3⟩ := e3 z3
          exact ⟨U9, g1, fun z4 => absurd z4 (by omega), fun _ => g3⟩
    have y1 : fY b V V1 := fY_A6 a2
    obtain ⟨uA, uB⟩ := ct_asked (N := N) (X := X) (d := d) (q := 1) (r := rx) hk (by omega) a3 (fun h V9 hV9 => by rw [hV9]; exact fdM1 v1 hb hH (wn_ok hk (by omega) h) fx)
    rcases Classical.em (kk (i + 1) = 2 ∧ rx ≠ -1) with ok1 | ok1
    · have k1 := l1 ok1.1
      have px := bdx.2.2 ok1.2
      obtain ⟨V2, b1, b2, b3⟩ := uA ok1
      clear uA uB
      have exx : rx = ((x : Nat) : Int) := by omega
      have v2 := rW_A6 v1 b2
      have y2 : fY b V V2 := fY_trans y1 (fY_A6 b2)
      have z8 : V2 86 8 = 0 := b3.2.2
      obtain ⟨sA, sB⟩ := ct_looked (N := N) (X := X) (d := d + 1) (q := 1) (r := ry) hk (by omega) b3 (fun h V9 hV9 => by rw [hV9]; exact fdM1 v2 hb hH (wn_ok hk (by omega) h) fy)
      rcases Classical.em (kk (i + 2) = 2 ∧ ry ≠ -1) with ok2 | ok2
      · have k2 := l2 k1 ok2.1
        have py := bdy.2.2 ok2.2
        have lk := sA ok2
        clear sA sB
        have eyy : ry = ((y : Nat) : Int) := by omega
        have hx12 : V2 86 12 = -1 := (wn_V hk b3 (by omega) ok2.1).2.2.1
        obtain ⟨V9, f1, f2, f3, f4⟩ := blame_at (N := N) (X := X) (d := d + 3) hk b3 (by omega) hx12 3
        have ok12 := ok2.1
        by_cases c : rx = ry
        · refine ⟨V9, core _ ⟨rx, V2, b1, ry, V2, lk, fun z => absurd z8 z, fun _ => ⟨fun _ => ⟨V9, f1, by omega, rfl⟩, fun z => absurd c z⟩⟩, fY_trans y2 (fY_89 f2), ?_⟩
          rw [oc_t ok1, oc_f (fun z => z.2.1 c), if_pos ok12]
          exact ⟨(fun i' W2 e => by cases e), fun _ => ⟨f3, f4⟩⟩
        · have nbv := ct_M_nb (N := N) (X := X) (d := d + 2) (U := V2) (b := b) (nl := nl) (x := x) (y := y) hb (h94 V2 v2) hL.2.2.1 (by omega) (by omega)
          have enb : nbP (fun k => V2 92 (12 * b + k)) (fun k => V2 95 (10 * b + k)) (fun k => V2 96 (10 * b + k)) nl x y ↔ nb := by
            rw [hnb, v2.2.1 92 (by decide) (by decide), v2.2.1 95 (by decide) (by decide), v2.2.1 96 (by decide) (by decide)]
            have st : ∀ h, h < nh → (fun k => W 92 (12 * b + k)) h = W 6 h := fun h hh => (hH.2.2.2 h hh).2.1.1
            unfold nbP
            rw [st x (by omega), st y (by omega), plc_cg st (by omega), plc_cg st (by omega)]
          by_cases c2 : nb
          · rw [cb_t (enb.mpr c2)] at nbv
            refine ⟨V9, core _ ⟨rx, V2, b1, ry, V2, lk, fun z => absurd z8 z, fun _ => ⟨fun z => absurd z c, fun _ => ⟨1, V2, by rw [v2.1, exx, eyy]; exact nbv, fun z => absurd z (by decide), fun _ => ⟨V9, f1, by omega, rfl⟩⟩⟩⟩, fY_trans y2 (fY_89 f2), ?_⟩
            rw [oc_t ok1, oc_f (fun z => z.2.2 c2), if_pos ok12]
            exact ⟨(fun i' W2 e => by cases e), fun _ => ⟨f3, f4⟩⟩
          · rw [cb_f (fun z => c2 (enb.mp z))] at nbv
            obtain ⟨V3, m1, m2, m3⟩ := ct_ahead1 (N := N) (X := X) (d := d + 2) hk b3
            have v3 := rW_A6 v2 m2
            refine ⟨am_upd (am_upd (am_upd V3 95 k rx) 96 k ry) 94 b ((nl + 1 : Nat) : Int), core _ ⟨rx, V2, b1, ry, V2, lk, fun z => absurd z8 z, fun _ => ⟨fun z => absurd z c, fun _ => ⟨0, V2, by rw [v2.1, exx, eyy]; exact nbv, fun _ => ⟨z8, V3, m1, v3.1, h94 V3 v3, rfl⟩, fun z => absurd rfl z⟩⟩⟩, fY_up (fY_up (fY_up (fY_trans y2 (fY_A6 m2)) (by decide) (by show 10 * b ≤ k ∧ k < 10 * b + 10; omega)) (by decide) (by show 10 * b ≤ k ∧ k < 10 * b + 10; omega)) (by decide) (by show 1 * b ≤ b ∧ b < 1 * b + 1; omega), ?_⟩
            rw [oc_t ok1, oc_t ⟨ok2, c, c2⟩]
            refine ⟨fun i' W2 e => Or.inl ?_, (fun e => by cases e)⟩
            obtain ⟨rfl, rfl⟩ : i + 3 = i' ∧ W' = W2 := by simpa using e
            refine ⟨rT_row m3 (by rw [upd_row (by decide), upd_row (by decide), upd_row (by decide)]) (by rw [upd_row (by decide), upd_row (by decide), upd_row (by decide)]), ?_⟩
            rw [hW']
            exact rW_up (rW_up (rW_up (rW_gh (rW_jn v3) (by omega) (by omega) (by omega)) (by omega)) (by omega)) (by omega)
      · obtain ⟨V3, m1, m2, m3, m4⟩ := sB ok2
        clear sA sB
        have p : 0 < V3 86 8 := by rw [m3]; split <;> decide
        refine ⟨V3, core _ ⟨rx, V2, b1, 0, V3, m1, fun _ => ⟨p, rfl⟩, fun z => absurd z (by omega)⟩, fY_trans y2 (fY_89 m2), ?_⟩
        rw [oc_t ok1, oc_f (fun z => ok2 z.1)]
        exact ⟨(fun i' W2 e => by cases e), fun _ => ⟨m3, m4⟩⟩
    · obtain ⟨V2, b1, b2, b3, b4⟩ := uB ok1
      clear uA uB
      have p : 0 < V2 86 8 := by rw [b3]; split <;> decide
      refine ⟨V2, core _ ⟨0, V2, b1, 0, V2, looked_F p 1, fun _ => ⟨p, rfl⟩, fun z => absurd z (by omega)⟩, fY_trans y1 (fY_89 b2), ?_⟩
      rw [oc_f ok1]
      exact ⟨(fun i' W2 e => by cases e), fun _ => ⟨b3, b4⟩⟩
end LNE
