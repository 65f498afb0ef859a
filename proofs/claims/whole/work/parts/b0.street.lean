/-! a street is told; a fire is told -/
section SST
variable {N : Nat} {X : Nat → Int} {T : Nat → Int} {L K : Nat} {kk vv : Nat → Int} {bp : Int} {i b ns nh nl nw nd cl n : Nat} {W : am_U}
theorem st_street (hk : tkS T L K kk vv bp) (hi : i < K) (hG : gIn W b ns nh nl nw nd cl n) (hcl : cl ≤ i) (hns : ns < 4) : StS N X T L K kk vv bp Rd_readStreet_s0 3 M_streeting_s0 4 i b W := by
  have hK : K ≤ 1600 := Nat.le_trans hk.2.1 hk.1
  obtain ⟨hb, h18, hS, hH, hL, hD, hF, hLw, hWd, hP⟩ := hG
  obtain ⟨r0, f0⟩ := fdR_ex (W 4) (vv (i + 1)) ns
  obtain ⟨r1, f1⟩ := fdR_ex (W 5) (vv (i + 1)) nh
  have bd0 := fdR_bd f0
  have bd1 := fdR_bd f1
  obtain ⟨W', hW'⟩ : ∃ W', W' = am_upd (am_upd (am_upd (am_upd W 4 ns (vv (i + 1))) 3 0 ((ns + 1 : Nat) : Int)) 89 (4 * b + ns) (wn T L (i + 1))) 88 b ((ns + 1 : Nat) : Int) := ⟨_, rfl⟩
  have wr : ∀ r, r ≠ 3 → r ≠ 4 → r ≠ 88 → r ≠ 89 → W' r = W r := fun r q1 q2 q3 q4 => by rw [hW', upd_row q3, upd_row q4, upd_row q1, upd_row q2]
  have w3 : ∀ j, j ≠ 0 → W' 3 j = W 3 j := fun j q => by rw [hW', upd_row (by decide), upd_row (by decide), upd_ne q, upd_row (by decide)]
  refine ⟨oc (kk (i + 1) = 2 ∧ r0 = -1 ∧ r1 = -1) (if kk (i + 1) = 2 then 2 else 1) (fpl T L kk bp (i + 1)) (some (i + 2, W'), 0, 0), oc_pos (by split <;> decide) (fun e => by cases e), fun i' W2 e => ?_, fun d0 U hc hU => ?_, fun d V hr hV => ?_⟩
  · obtain ⟨ok, e⟩ := oc_some e
    have iK : i + 1 < K := tk_lt hk (by omega) (by omega)
    obtain ⟨rfl, rfl⟩ : i + 2 = i' ∧ W' = W2 := by simpa using e
    refine ⟨by omega, by omega, ns + 1, nh, nl, nw, nd, cl, n, ⟨hb, by rw [w3 18 (by decide)]; exact h18, ⟨?_, ?_, by omega, fun s hs => ?_⟩, gHs_k hH (by omega) (w3 1 (by decide)) (fun r hr => wr r (by omega) (by omega) (by omega) (by omega)), gLn_k hL (Nat.le_refl _) (w3 2 (by decide)) (fun r hr => wr r (by omega) (by omega) (by omega) (by omega)), gDb_k hD (w3 3 (by decide)) (fun r hr => wr r (by omega) (by omega) (by omega) (by omega)), gFr_k hF (w3 5 (by decide)) (wr 110 (by decide) (by decide) (by decide) (by decide)), gLw_k hLw (w3 4 (by decide)) (fun r hr => wr r (by omega) (by omega) (by omega) (by omega)), gWd_k hWd (fun r hr => wr r (by omega) (by omega) (by omega) (by omega)), gPp_k hP (fun r hr => wr r (by omega) (by omega) (by omega) (by omega))⟩, by omega⟩
    · rw [hW', upd_row (by decide), upd_row (by decide), upd_at]
    · rw [hW', upd_at]
    · have e4 : W' 4 s = if s = ns then vv (i + 1) else W 4 s := by rw [hW', upd_row (by decide), upd_row (by decide), upd_row (by decide), upd_if]
      have e89 : W' 89 (4 * b + s) = if 4 * b + s = 4 * b + ns then wn T L (i + 1) else W 89 (4 * b + s) := by rw [hW', upd_row (by decide), upd_if, upd_row (by decide), upd_row (by decide)]
      rw [e4, e89]
      by_cases c : s = ns
      · rw [if_pos c, if_pos (by omega)]; exact wn_ok hk (by omega) ok.1
      · rw [if_neg c, if_neg (by omega)]; exact hS.2.2.2 s (by omega)
  · obtain ⟨d, hd⟩ : ∃ d, d = d0 + 1 := ⟨_, rfl⟩
    rw [show d0 + 3 = d + 2 by omega]
    obtain ⟨U1, n1, n2, n3⟩ := ct_Rd_next (N := N) (X := X) (d := d + 1) (by omega) hK hc hi
    have w1 := cW_fN hU n2
    obtain ⟨tA, tB⟩ := ct_takeNewName (N := N) (X := X) (d := d) (by omega) hk n3 (fdC0 w1 hS f0) (fdC1 w1 hH f1) bd0.2.2 bd1.2.2
    rcases Classical.em (kk (i + 1) = 2 ∧ r0 = -1 ∧ r1 = -1) with ok | ok
    · obtain ⟨U2, t1, t2, t3⟩ := tA ok
      have w2 := cW_fN w1 t2
      have e0 : U2 31 0 = (ns : Nat) := by rw [w2.1 31 (by decide) (by decide) (by decide)]; exact hS.1
      have e8' : U1 26 8 = vv (i + 1) := n3.2.2.2.2.2.2.1
      refine ⟨am_upd (am_upd U2 32 ns (vv (i + 1))) 31 0 ((ns + 1 : Nat) : Int), 1, Rd_readStreet_r0 ⟨U1, n1, 1, U2, t1, fun _ => ⟨_, Tw_addStreet_r0 ?_, rfl⟩, fun z => absurd z (by omega)⟩, fCz_up (fCz_up (fCz_trans (fCz_N n2) (fCz_N t2)) (by omega) (by omega)) (by omega) (by omega), ?_⟩
      · rw [e0, Int.toNat_natCast, w32_succ (i := ns) (by omega), e8']
        exact ⟨fun z => absurd z (by omega), fun _ => ⟨by omega, rfl⟩⟩
      · rw [oc_t ok]
        refine ⟨fun i' W2 e => ?_, (fun e => by cases e)⟩
        obtain ⟨rfl, rfl⟩ : i + 2 = i' ∧ W' = W2 := by simpa using e
        refine ⟨rfl, cS_row t3 (fun r a1 a2 => by rw [upd_row (by omega), upd_row (by omega)]), ?_⟩
        rw [hW']
        exact cW_gh1 (cW_gh1 (cW_up (cW_up w2 32 (by omega) (by omega)) 31 (by omega) (by omega)) (by omega)) (by omega)
    · obtain ⟨U2, t1, t2, t3, t4⟩ := tB ok
      refine ⟨U2, 0, Rd_readStreet_r0 ⟨U1, n1, 0, U2, t1, fun z => absurd rfl z, fun _ => rfl⟩, fCz_trans (fCz_N n2) (fCz_N t2), ?_⟩
      rw [oc_f ok]
      exact ⟨(fun i' W2 e => by cases e), fun _ => ⟨rfl, t3, t4⟩⟩
  · obtain ⟨V1, a1, a2, a3⟩ := ct_counts0 (N := N) (X := X) (d := d + 1) hk hr
    have v1 := rW_A6 hV a2
    have h88 : ∀ Z : am_U, rW Z W b → Z 88 b = (ns : Nat) := fun Z hZ => by rw [hZ.2.1 88 (by decide) (by decide)]; exact hS.2.1
    have x0 : eqI (w32 (w32 (4 * ((b : Nat) : Int)) + ((ns : Nat) : Int))) ((4 * b + ns : Nat) : Int) := by show _ = _; rw [w32_eq (x := 4 * ((b : Nat) : Int)) (by omega) (by omega), w32_eq (by omega) (by omega)]; omega
    obtain ⟨tA, tB⟩ := ct_fresh (N := N) (X := X) (d := d + 1) (r0 := r0) (r1 := r1) hk (by omega) a3 (fun h => fdM0 v1 hb hS (wn_ok hk (by omega) h) f0) (fun h => fdM1 v1 hb hH (wn_ok hk (by omega) h) f1)
    rcases Classical.em (kk (i + 1) = 2 ∧ r0 = -1 ∧ r1 = -1) with ok | ok
    · obtain ⟨V2, b1, b2, b3⟩ := tA ok
      have v2 := rW_A6 v1 b2
      refine ⟨am_upd (am_upd V2 89 (4 * b + ns) (wn T L (i + 1))) 88 b ((ns + 1 : Nat) : Int), M_streeting_r0 ?_, fY_up (fY_up (fY_trans (fY_A6 a2) (fY_A6 b2)) (by decide) (by show 4 * b ≤ 4 * b + ns ∧ 4 * b + ns < 4 * b + 4; omega)) (by decide) (by show 1 * b ≤ b ∧ b < 1 * b + 1; omega), ?_⟩
      · rw [hV.1, Int.toNat_natCast, h88 V hV]
        refine ⟨by omega, fun _ => ⟨1, V1, a1, fun _ => ?_, fun z => absurd z (by decide)⟩, fun z => absurd z (by omega)⟩
        rw [v1.1, Int.toNat_natCast, h88 V1 v1, eqI_o x0, Int.toNat_natCast]
        refine ⟨by omega, _, V2, b1, by omega, fun z => absurd b3.2.2 z, fun _ => ?_⟩
        rw [v2.1, Int.toNat_natCast, h88 V2 v2, w32_succ (i := ns) (by omega)]
        exact ⟨by omega, rfl⟩
      · rw [oc_t ok]
        refine ⟨fun i' W2 e => Or.inl ?_, (fun e => by cases e)⟩
        obtain ⟨rfl, rfl⟩ : i + 2 = i' ∧ W' = W2 := by simpa using e
        refine ⟨rT_row b3 (by rw [upd_row (by decide), upd_row (by decide)]) (by rw [upd_row (by decide), upd_row (by decide)]), ?_⟩
        rw [hW']
        exact rW_up (rW_up (rW_gh (rW_gh v2 (by omega) (by omega) (by omega)) (by omega) (by omega) (by omega)) (by omega)) (by omega)
    · obtain ⟨r2, V2, b1, b2, b3, b4⟩ := tB ok
      refine ⟨am_upd V2 89 (4 * b + ns) r2, M_streeting_r0 ?_, fY_up (fY_trans (fY_A6 a2) (fY_89 b2)) (by decide) (by show 4 * b ≤ 4 * b + ns ∧ 4 * b + ns < 4 * b + 4; omega), ?_⟩
      · rw [hV.1, Int.toNat_natCast, h88 V hV]
        refine ⟨by omega, fun _ => ⟨1, V1, a1, fun _ => ?_, fun z => absurd z (by decide)⟩, fun z => absurd z (by omega)⟩
        rw [v1.1, Int.toNat_natCast, h88 V1 v1, eqI_o x0, Int.toNat_natCast]
        exact ⟨by omega, _, V2, b1, by omega, fun _ => rfl, fun z => absurd z (by rw [b3]; split <;> decide)⟩
      · rw [oc_f ok, upd_row (by decide)]
        exact ⟨(fun i' W2 e => by cases e), fun _ => ⟨b3, b4⟩⟩
theorem st_fire (hk : tkS T L K kk vv bp) (hi : i < K) (hG : gIn W b ns nh nl nw nd cl n) (hcl : cl ≤ i) : StS N X T L K kk vv bp Rd_readFire_s0 3 M_burning_s0 3 i b W := by
  have hK : K ≤ 1600 := Nat.le_trans hk.2.1 hk.1
  obtain ⟨hb, h18, hS, hH, hL, hD, hF, hLw, hWd, hP⟩ := hG
  obtain ⟨W', hW'⟩ : ∃ W', W' = am_upd (am_upd W 3 5 (vv (i + 1))) 110 b (vv (i + 1)) := ⟨_, rfl⟩
  have wr : ∀ r, r ≠ 3 → r ≠ 110 → W' r = W r := fun r q1 q2 => by rw [hW', upd_row q2, upd_row q1]
  have w3 : ∀ j, j ≠ 5 → W' 3 j = W 3 j := fun j q => by rw [hW', upd_row (by decide), upd_ne q]
  refine ⟨oc (nuOk kk vv (i + 1) 0 100) (if kk (i + 1) = 3 then 4 else 1) (fpl T L kk bp (i + 1)) (some (i + 2, W'), 0, 0), oc_pos (by split <;> decide) (fun e => by cases e), fun i' W2 e => ?_, fun d0 U hc hU => ?_, fun d V hr hV => ?_⟩
  · obtain ⟨ok, e⟩ := oc_some e
    have iK : i + 1 < K := tk_lt hk (by omega) (by have := ok.1; omega)
    obtain ⟨rfl, rfl⟩ : i + 2 = i' ∧ W' = W2 := by simpa using e
    have p5 : W' 3 5 = vv (i + 1) := by rw [hW', upd_row (by decide), upd_at]
    refine ⟨by omega, by omega, ns, nh, nl, nw, nd, cl, n, ⟨hb, by rw [w3 18 (by decide)]; exact h18, gSt_k hS (w3 0 (by decide)) (fun r hr => wr r (by omega) (by omega)), gHs_k hH (Nat.le_refl _) (w3 1 (by decide)) (fun r hr => wr r (by omega) (by omega)), gLn_k hL (Nat.le_refl _) (w3 2 (by decide)) (fun r hr => wr r (by omega) (by omega)), gDb_k hD (w3 3 (by decide)) (fun r hr => wr r (by omega) (by omega)), ⟨?_, ?_, ?_⟩, gLw_k hLw (w3 4 (by decide)) (fun r hr => wr r (by omega) (by omega)), gWd_k hWd (fun r hr => wr r (by omega) (by omega)), gPp_k hP (fun r hr => wr r (by omega) (by omega))⟩, by omega⟩
    · rw [p5, hW', upd_at]
    · rw [p5]; exact ok.2.1
    · rw [p5]; exact ok.2.2
  · obtain ⟨d, hd⟩ : ∃ d, d = d0 + 1 := ⟨_, rfl⟩
    rw [show d0 + 3 = d + 2 by omega]
    obtain ⟨U1, n1, n2, n3⟩ := ct_Rd_next (N := N) (X := X) (d := d + 1) (by omega) hK hc hi
    have w1 := cW_fN hU n2
    obtain ⟨tA, tB⟩ := ct_takeNumber (N := N) (X := X) (d := d) (by omega) hk n3 0 100
    rcases Classical.em (nuOk kk vv (i + 1) 0 100) with ok | ok
    · obtain ⟨U2, t1, t2, t3⟩ := tA ok
      have w2 := cW_fN w1 t2
      refine ⟨am_upd U2 31 5 (vv (i + 1)), 1, Rd_readFire_r0 ⟨U1, n1, _, U2, t1, fun _ => rfl, fun z => absurd ok.2.1 (by omega)⟩, fCz_up (fCz_trans (fCz_N n2) (fCz_N t2)) (by omega) (by omega), ?_⟩
      rw [oc_t ok]
      refine ⟨fun i' W2 e => ?_, (fun e => by cases e)⟩
      obtain ⟨rfl, rfl⟩ : i + 2 = i' ∧ W' = W2 := by simpa using e
      refine ⟨rfl, cS_row t3 (fun r a1 a2 => by rw [upd_row (by omega)]), ?_⟩
      rw [hW']
      exact cW_gh1 (cW_up w2 31 (by omega) (by omega)) (by omega)
    · obtain ⟨U2, t1, t2, t3, t4⟩ := tB ok
      refine ⟨U2, 0, Rd_readFire_r0 ⟨U1, n1, _, U2, t1, fun z => absurd z (by decide), fun _ => rfl⟩, fCz_trans (fCz_N n2) (fCz_N t2), ?_⟩
      rw [oc_f ok]
      exact ⟨(fun i' W2 e => by cases e), fun _ => ⟨rfl, t3, t4⟩⟩
  · obtain ⟨V1, a1, a2, a3⟩ := ct_counts0 (N := N) (X := X) (d := d) hk hr
    have v1 := rW_A6 hV a2
    obtain ⟨tA, tB⟩ := ct_numeral (N := N) (X := X) (d := d) hk (by omega) a3 0 100
    rcases Classical.em (nuOk kk vv (i + 1) 0 100) with ok | ok
    · obtain ⟨V2, b1, b2, b3⟩ := tA ok
      have v2 := rW_A6 v1 b2
      refine ⟨am_upd V2 110 b (vv (i + 1)), M_burning_r0 ⟨1, V1, a1, fun _ => ⟨_, V2, b1, fun z => absurd b3.2.2 z, fun _ => ?_⟩, fun z => absurd z (by decide)⟩, fY_up (fY_trans (fY_A6 a2) (fY_A6 b2)) (by decide) (by show 1 * b ≤ b ∧ b < 1 * b + 1; omega), ?_⟩
      · rw [v2.1, Int.toNat_natCast]
        exact ⟨by omega, rfl⟩
      · rw [oc_t ok]
        refine ⟨fun i' W2 e => Or.inl ?_, (fun e => by cases e)⟩
        obtain ⟨rfl, rfl⟩ : i + 2 = i' ∧ W' = W2 := by simpa using e
        refine ⟨rT_row b3 (by rw [upd_row (by decide)]) (by rw [upd_row (by decide)]), ?_⟩
        rw [hW']
        exact rW_up (rW_gh v2 (by omega) (by omega) (by omega)) (by omega)
    · obtain ⟨r2, V2, b1, b2, b3, b4⟩ := tB ok
      refine ⟨V2, M_burning_r0 ⟨1, V1, a1, fun _ => ⟨_, V2, b1, fun _ => rfl, fun z => absurd z (by rw [b3]; split <;> decide)⟩, fun z => absurd z (by decide)⟩, fY_trans (fY_A6 a2) (fY_89 b2), ?_⟩
      rw [oc_f ok]
      exact ⟨(fun i' W2 e => by cases e), fun _ => ⟨b3, b4⟩⟩
end SST
