/-! a law is told -/
section LAW
variable {N : Nat} {X : Nat → Int} {T : Nat → Int} {L K : Nat} {kk vv : Nat → Int} {bp : Int} {i b ns nh nl nw nd cl n : Nat} {W : am_U}
theorem cS_26 {U : am_U} {j : Nat} {x : Int} (h : cS U T L K kk vv bp i) (hj : ¬ (4 ≤ j ∧ j ≤ 9)) : cS (am_upd U 26 j x) T L K kk vv bp i := by
  unfold cS at h ⊢
  obtain ⟨t1, t2, t3, t4⟩ := t_cg (U := U) (U' := am_upd U 26 j x) (upd_row (by decide))
  rw [upd_row (show (27 : Nat) ≠ 26 by decide), t1, t2, t3, t4, upd_ne (show 4 ≠ j by omega), upd_ne (show 5 ≠ j by omega), upd_ne (show 6 ≠ j by omega), upd_ne (show 7 ≠ j by omega), upd_ne (show 8 ≠ j by omega), upd_ne (show 9 ≠ j by omega)]; exact h
theorem cW_26 {U : am_U} {j : Nat} {x : Int} (h : cW U W) : cW (am_upd U 26 j x) W := cW_row h (fun r hr => upd_row (by omega))
/-- the class's law behind its word -/
def QLaw (N : Nat) (X : Nat → Int) (d : Nat) (U : am_U) (r : Int) (U' : am_U) : Prop := ∃ (r9 : Int) (U9 : am_U), EvK N X (Rd_takeLawKind_s0 (d + 89) U) (rI r9 U9) ∧ ((r9 = 0 ∧ r = 0 ∧ U' = U9) ∨ (r9 ≠ 0 ∧ ∃ (r10 : Int) (U10 : am_U), EvK N X (Rd_readTest_s0 (d + 89) 0 U9) (rI r10 U10) ∧ ((r10 = 0 ∧ r = 0 ∧ U' = U10) ∨ (r10 ≠ 0 ∧ ∃ (r11 : Int) (U11 : am_U), EvK N X (Tw_addLaw_s0 (d + 89) (U10 26 10) (U10 26 11) U10) (rI r11 U11) ∧ r11 ≠ 0 ∧ r = 1 ∧ U' = U11))))
def lwW (W : am_U) (b nw cl m : Nat) (kv : Int) : am_U := am_upd (am_upd (am_upd (am_upd (am_upd (am_upd (am_upd (am_upd W 12 nw kv) 13 nw (cl : Nat)) 14 nw ((cl + m : Nat) : Int)) 3 4 ((nw + 1 : Nat) : Int)) 101 (8 * b + nw) (kv - 8)) 102 (8 * b + nw) (cl : Nat)) 103 (8 * b + nw) ((cl + m : Nat) : Int)) 100 b ((nw + 1 : Nat) : Int)
theorem st_law (hk : tkS T L K kk vv bp) (hi : i < K) (hG : gIn W b ns nh nl nw nd cl n) (hcl : cl ≤ i) (hnw : nw < 8) : StQ N X T L K kk vv bp (QLaw N X) M_lawing_s0 7 i b W := by
  have hK : K ≤ 1600 := Nat.le_trans hk.2.1 hk.1
  obtain ⟨hb, h18, hS, hH, hL, hD, hF, hLw, hWd, hP⟩ := hG
  obtain ⟨kv, hkv⟩ : ∃ kv : Int, kv = vv (i + 1) := ⟨_, rfl⟩
  obtain ⟨k, hk'⟩ : ∃ k : Nat, k = 8 * b + nw := ⟨_, rfl⟩
  -- the test, if there is one
  obtain ⟨g, fk, fp, g1, g2, g3, g4⟩ : ∃ (g : Option (Nat × List Int)) (fk fp : Int), (g = none → 1 ≤ fk) ∧ (kk (i + 1) = 1 → ∀ i' ds, g = some (i', ds) → i + 2 < i' ∧ i' ≤ K ∧ ds.length + (i + 2) ≤ i' ∧ (∀ t : List Bool, t.length + 48 ≤ 60 → tyl ds t = some (true :: t))) ∧ (kk (i + 1) = 1 → clA N X T L K kk vv bp (fun d o U => Rd_readTest_s0 d o U) 89 (i + 2) 0 g fk fp) ∧ (kk (i + 1) = 1 → ∀ (d : Nat) (V : am_U) (b cl : Nat), b < 2 → rT V T L (i + 2) → V 86 40 = (b : Nat) → V 86 39 = (cl : Nat) → cl ≤ i + 2 → (∀ i' ds, g = some (i', ds) → (∃ V', EvK N X (M_reads_s0 (d + 6) 1 V) (rV V') ∧ rT V' T L i' ∧ V' 86 40 = (b : Nat) ∧ emR V V' b cl ds ∧ fZ V V') ∨ (kk i' = 5 ∧ ∃ V', EvK N X (M_reads_s0 (d + 6) 1 V) (rV V') ∧ fZ V V' ∧ V' 86 8 = 1 ∧ V' 86 9 = fpl T L kk bp i')) ∧ (g = none → ∃ V', EvK N X (M_reads_s0 (d + 6) 1 V) (rV V') ∧ fZ V V' ∧ V' 86 8 = fk ∧ V' 86 9 = fp)) := by
    by_cases c : kk (i + 1) = 1
    · have iK1 : i + 1 < K := tk_lt hk (by omega) (by omega)
      obtain ⟨g, fk, fp, g1, g2, g3, g4⟩ := test_both (N := N) (X := X) hk (show i + 2 ≤ K by omega)
      exact ⟨g, fk, fp, g1, fun _ => g2, fun _ => g3, fun _ => g4⟩
    · exact ⟨none, 1, 0, fun _ => by decide, fun z => absurd z c, fun z => absurd z c, fun z => absurd z c⟩
  obtain ⟨rest, hrest⟩ : ∃ rest : Option (Nat × am_U) × Int × Int, rest = tsR g fk fp (fun ds => lwW (cdW W cl ds) b nw cl ds.length kv) := ⟨_, rfl⟩
  have r0 : g = none → rest = (none, fk, fp) := fun e => by rw [hrest, e]; rfl
  have r1 : ∀ i' ds, g = some (i', ds) → rest = (some (i', lwW (cdW W cl ds) b nw cl ds.length kv), 0, 0) := fun i' ds e => by rw [hrest, e]; rfl
  clear hrest
  refine ⟨oc (kk (i + 1) = 1 ∧ 8 ≤ kv ∧ kv ≤ 10) 1 (fpl T L kk bp (i + 1)) rest, oc_pos (by decide) ?_, fun i' W2 e => ?_, fun d U hc hU => ?_, fun d V hr hV => ?_⟩
  · cases hg : g with
    | none => rw [r0 hg]; exact fun _ => g1 hg
    | some p =>
      obtain ⟨i', ds⟩ := p
      rw [r1 i' ds hg]
      exact fun e => by cases e
  · obtain ⟨ok, e⟩ := oc_some e
    cases hg : g with
    | none => rw [r0 hg] at e; cases e
    | some p =>
      obtain ⟨j, ds⟩ := p
      rw [r1 j ds hg] at e
      obtain ⟨rfl, rfl⟩ : j = i' ∧ lwW (cdW W cl ds) b nw cl ds.length kv = W2 := by simpa using e
      obtain ⟨t1, t2, t3, t4⟩ := g2 ok.1 j ds hg
      obtain ⟨Y, hY⟩ : ∃ Y, Y = lwW (cdW W cl ds) b nw cl ds.length kv := ⟨_, rfl⟩
      rw [← hY]
      unfold lwW at hY
      have yr : ∀ r, r ≠ 3 → ¬ (12 ≤ r ∧ r ≤ 15) → ¬ (100 ≤ r ∧ r ≤ 103) → Y r = W r := fun r q1 q2 q3 => by
        rw [hY, upd_row (by omega), upd_row (by omega), upd_row (by omega), upd_row (by omega), upd_row (by omega), upd_row (by omega), upd_row (by omega), upd_row (by omega), cdW_row (by omega) q1]
      have y3 : ∀ j, j ≠ 4 → j ≠ 18 → Y 3 j = W 3 j := fun j q1 q2 => by
        rw [hY, upd_row (by omega), upd_row (by omega), upd_row (by omega), upd_row (by omega), upd_ne q1, upd_row (by omega), upd_row (by omega), upd_row (by omega), cdW_3 q2]
      have y18 : Y 3 18 = ((cl + ds.length : Nat) : Int) := by
        rw [hY, upd_row (by omega), upd_row (by omega), upd_row (by omega), upd_row (by omega), upd_ne (by omega), upd_row (by omega), upd_row (by omega), upd_row (by omega), cdW_18]
      have y34 : Y 3 4 = ((nw + 1 : Nat) : Int) := by
        rw [hY, upd_row (by omega), upd_row (by omega), upd_row (by omega), upd_row (by omega), upd_at]
      have y15 : Y 15 = cdW W cl ds 15 := by
        rw [hY, upd_row (by omega), upd_row (by omega), upd_row (by omega), upd_row (by omega), upd_row (by omega), upd_row (by omega), upd_row (by omega), upd_row (by omega)]
      have y12 : ∀ l, Y 12 l = if l = nw then kv else W 12 l := fun l => by
        rw [hY, upd_row (by omega), upd_row (by omega), upd_row (by omega), upd_row (by omega), upd_row (by omega), upd_row (by omega), upd_row (by omega), upd_if, cdW_row (by omega) (by omega)]
      have y13 : ∀ l, Y 13 l = if l = nw then ((cl : Nat) : Int) else W 13 l := fun l => by
        rw [hY, upd_row (by omega), upd_row (by omega), upd_row (by omega), upd_row (by omega), upd_row (by omega), upd_row (by omega), upd_if, upd_row (by omega), cdW_row (by omega) (by omega)]
      have y14 : ∀ l, Y 14 l = if l = nw then ((cl + ds.length : Nat) : Int) else W 14 l := fun l => by
        rw [hY, upd_row (by omega), upd_row (by omega), upd_row (by omega), upd_row (by omega), upd_row (by omega), upd_if, upd_row (by omega), upd_row (by omega), cdW_row (by omega) (by omega)]
      have y101 : ∀ l, Y 101 (8 * b + l) = if l = nw then kv - 8 else W 101 (8 * b + l) := fun l => by
        rw [hY, upd_row (by omega), upd_row (by omega), upd_row (by omega), upd_if, upd_row (by omega), upd_row (by omega), upd_row (by omega), upd_row (by omega), cdW_row (by omega) (by omega)]
        by_cases c : l = nw
        · rw [if_pos c, if_pos (by omega)]
        · rw [if_neg c, if_neg (by omega)]
      have y102 : ∀ l, Y 102 (8 * b + l) = if l = nw then ((cl : Nat) : Int) else W 102 (8 * b + l) := fun l => by
        rw [hY, upd_row (by omega), upd_row (by omega), upd_if, upd_row (by omega), upd_row (by omega), upd_row (by omega), upd_row (by omega), upd_row (by omega), cdW_row (by omega) (by omega)]
        by_cases c : l = nw
        · rw [if_pos c, if_pos (by omega)]
        · rw [if_neg c, if_neg (by omega)]
      have y103 : ∀ l, Y 103 (8 * b + l) = if l = nw then ((cl + ds.length : Nat) : Int) else W 103 (8 * b + l) := fun l => by
        rw [hY, upd_row (by omega), upd_if, upd_row (by omega), upd_row (by omega), upd_row (by omega), upd_row (by omega), upd_row (by omega), upd_row (by omega), cdW_row (by omega) (by omega)]
        by_cases c : l = nw
        · rw [if_pos c, if_pos (by omega)]
        · rw [if_neg c, if_neg (by omega)]
      have y100 : Y 100 b = ((nw + 1 : Nat) : Int) := by rw [hY, upd_at]
      have wn8 := wfT_new (W := W) (cl := cl) t4
      refine ⟨by omega, by omega, ns, nh, nl, nw + 1, nd, cl + ds.length, n, ⟨hb, y18, gSt_k hS (y3 0 (by omega) (by omega)) (fun r hr => yr r (by omega) (by omega) (by omega)), gHs_k hH (Nat.le_refl _) (y3 1 (by omega) (by omega)) (fun r hr => yr r (by omega) (by omega) (by omega)), gLn_k hL (Nat.le_refl _) (y3 2 (by omega) (by omega)) (fun r hr => yr r (by omega) (by omega) (by omega)), gDb_k hD (y3 3 (by omega) (by omega)) (fun r hr => yr r (by omega) (by omega) (by omega)), gFr_k hF (y3 5 (by omega) (by omega)) (yr 110 (by omega) (by omega) (by omega)), ?_, gWd_em hWd y15 (by rw [y13, if_neg (by omega)]) (by rw [y14, if_neg (by omega)]) (fun r hr => yr r (by omega) (by omega) (by omega)), gPp_k hP (fun r hr => yr r (by omega) (by omega) (by omega))⟩, by omega⟩
      obtain ⟨a1, a2, a3, a4⟩ := hLw
      refine ⟨y34, y100, by omega, fun l hl => ?_⟩
      rw [y12, y13, y14, y101, y102, y103, y15]
      by_cases c : l = nw
      · rw [if_pos c, if_pos c, if_pos c, if_pos c, if_pos c, if_pos c]
        have ok2 := ok.2
        exact ⟨by omega, by omega, cl, ds.length, rfl, rfl, rfl, rfl, Nat.le_refl _, wn8.1⟩
      · rw [if_neg c, if_neg c, if_neg c, if_neg c, if_neg c, if_neg c]
        obtain ⟨b1, b2, f, m, b3, b4, b5, b6, b7, b8⟩ := a4 l (by omega)
        exact ⟨b1, b2, f, m, b3, b4, b5, b6, by omega, wfT_old b7 b8⟩
  · obtain ⟨U1, n1, n2, n3⟩ := ct_Rd_next (N := N) (X := X) (d := d + 88) (by omega) hK hc hi
    have w1 := cW_fN hU n2
    have e7 : U1 26 7 = kk (i + 1) := n3.2.2.2.2.2.1
    have e8' : U1 26 8 = kv := by rw [hkv]; exact n3.2.2.2.2.2.2.1
    have e18 : U1 31 18 = (cl : Nat) := by rw [w1.1 31 (by decide) (by decide) (by decide)]; exact h18
    rcases Classical.em (kk (i + 1) = 1 ∧ 8 ≤ kv ∧ kv ≤ 10) with ok | ok
    · have iK1 : i + 1 < K := tk_lt hk (by omega) (by omega)
      obtain ⟨Z, hZ⟩ : ∃ Z, Z = am_upd (am_upd U1 26 10 kv) 26 11 ((cl : Nat) : Int) := ⟨_, rfl⟩
      have zc : cS Z T L K kk vv bp (i + 1) := by rw [hZ]; exact cS_26 (cS_26 n3 (by omega)) (by omega)
      have zw : cW Z W := by rw [hZ]; exact cW_26 (cW_26 w1)
      obtain ⟨U2, m1, m2, m3⟩ := ct_Rd_next (N := N) (X := X) (d := d + 88) (by omega) hK zc iK1
      have w2 := cW_fN zw m2
      have e10 : U2 26 10 = kv := by rw [m2 26 10 (by omega), hZ, upd_ne (by decide), upd_at]
      have e11 : U2 26 11 = (cl : Nat) := by rw [m2 26 11 (by omega), hZ, upd_at]
      have u18 : U2 31 18 = (cl : Nat) := by rw [w2.1 31 (by decide) (by decide) (by decide)]; exact h18
      have kind : EvK N X (Rd_takeLawKind_s0 (d + 89) U) (rI 1 U2) := by
        refine Rd_takeLawKind_r0 ⟨U1, n1, ?_⟩
        rw [e7, e8', e18, ← hZ]
        exact ⟨fun z => absurd ok.1 z, fun _ => ⟨fun z => absurd z (by omega), fun _ => ⟨fun _ => ⟨U2, m1, rfl⟩, fun z => absurd z (by omega)⟩⟩⟩
      have c2 : fCz U U2 := fCz_trans (fCz_N n2) (fCz_trans (by rw [hZ]; exact fCz_up (fCz_up (fCz_refl U1) (by omega) (by omega)) (by omega) (by omega)) (fCz_N m2))
      obtain ⟨U3, r3, t1, t2, t3, t4⟩ := g3 ok.1 d U2 cl m3 u18 (by omega)
      have c3 := fCz_trans c2 (fCz_E t2)
      cases hg : g with
      | none =>
        obtain ⟨x1, x2, x3⟩ := t4 hg
        refine ⟨U3, 0, ⟨1, U2, kind, Or.inr ⟨by decide, r3, U3, t1, Or.inl ⟨x1, rfl, rfl⟩⟩⟩, c3, ?_⟩
        rw [oc_t ok, r0 hg]
        exact ⟨(fun i' W2 e => by cases e), fun _ => ⟨rfl, x2, x3⟩⟩
      | some p =>
        obtain ⟨j, ds⟩ := p
        obtain ⟨x1, x2, x3⟩ := t3 j ds hg
        have w3 := cW_em w2 h18 t2 x3
        have f10 : U3 26 10 = kv := by rw [t2 26 10 (by omega) (by decide) (by omega)]; exact e10
        have f11 : U3 26 11 = (cl : Nat) := by rw [t2 26 11 (by omega) (by decide) (by omega)]; exact e11
        have f4 : U3 31 4 = (nw : Nat) := by
          rw [w3.1 31 (by decide) (by decide) (by decide)]
          show cdW W cl ds 3 4 = _
          rw [cdW_3 (by decide)]; exact hLw.1
        have f18 : U3 31 18 = ((cl + ds.length : Nat) : Int) := x3.1
        refine ⟨am_upd (am_upd (am_upd (am_upd U3 40 nw kv) 41 nw (cl : Nat)) 42 nw ((cl + ds.length : Nat) : Int)) 31 4 ((nw + 1 : Nat) : Int), 1, ⟨1, U2, kind, Or.inr ⟨by decide, r3, U3, t1, Or.inr ⟨by rw [x1]; decide, 1, _, Tw_addLaw_r0 ?_, by decide, rfl, rfl⟩⟩⟩, fCz_up (fCz_up (fCz_up (fCz_up c3 (by omega) (by omega)) (by omega) (by omega)) (by omega) (by omega)) (by omega) (by omega), ?_⟩
        · rw [f4, f10, f11, f18, Int.toNat_natCast, w32_succ (i := nw) (by omega)]
          exact ⟨fun z => absurd z (by omega), fun _ => ⟨by omega, by omega, rfl⟩⟩
        · rw [oc_t ok, r1 j ds hg]
          refine ⟨fun i' W2 e => ?_, (fun e => by cases e)⟩
          obtain ⟨rfl, rfl⟩ : j = i' ∧ lwW (cdW W cl ds) b nw cl ds.length kv = W2 := by simpa using e
          refine ⟨rfl, cS_row x2 (fun r a1 a2 => by rw [upd_row (by omega), upd_row (by omega), upd_row (by omega), upd_row (by omega)]), ?_⟩
          unfold lwW
          exact cW_gh1 (cW_gh1 (cW_gh1 (cW_gh1 (cW_up (cW_up (cW_up (cW_up w3 40 (by omega) (by omega)) 41 (by omega) (by omega)) 42 (by omega) (by omega)) 31 (by omega) (by omega)) (by omega)) (by omega)) (by omega)) (by omega)
    · obtain ⟨U2, m1, m2, m3, m4⟩ := ct_refuseHere (N := N) (X := X) (d := d + 88) n3
      refine ⟨U2, 0, ⟨0, U2, Rd_takeLawKind_r0 ⟨U1, n1, ?_⟩, Or.inl ⟨rfl, rfl, rfl⟩⟩, fCz_trans (fCz_N n2) (fCz_N m2), ?_⟩
      · rw [e7, e8']
        exact ⟨fun _ => ⟨0, U2, m1, Or.inl rfl, rfl⟩, fun z => ⟨fun _ => ⟨0, U2, m1, Or.inl rfl, rfl⟩, fun z2 => ⟨fun z3 => absurd ⟨z, z2, z3⟩ ok, fun _ => ⟨0, U2, m1, Or.inl rfl, rfl⟩⟩⟩⟩
      · rw [oc_f ok]
        exact ⟨(fun i' W2 e => by cases e), fun _ => ⟨rfl, m3, m4⟩⟩
  · obtain ⟨V1, a1, a2, a3⟩ := ct_counts0 (N := N) (X := X) (d := d + 4) hk hr
    have v1 := rW_A6 hV a2
    have h100 : ∀ A : am_U, rW A W b → A 100 b = (nw : Nat) := fun A hA => by rw [hA.2.1 100 (by decide) (by decide)]; exact hLw.2.1
    have x0 : eqI (w32 (w32 (8 * ((b : Nat) : Int)) + ((nw : Nat) : Int))) ((k : Nat) : Int) := by show _ = _; rw [w32_eq (x := 8 * ((b : Nat) : Int)) (by omega) (by omega), w32_eq (by omega) (by omega)]; omega
    have y1 : fY b V V1 := fY_A6 a2
    have jb : ∀ r, r = 101 ∨ r = 102 ∨ r = 103 → wdt r * b ≤ k ∧ k < wdt r * b + wdt r := fun r hr => by
      rcases hr with rfl | rfl | rfl
      · show 8 * b ≤ k ∧ k < 8 * b + 8; omega
      · show 8 * b ≤ k ∧ k < 8 * b + 8; omega
      · show 8 * b ≤ k ∧ k < 8 * b + 8; omega
    -- to the kind
    have core : ∀ R, (∃ U2 : am_U, EvK N X (M_lex_s0 (d + 6) V1) (rV U2) ∧ (((U2 86 8) ≠ 0) → 0 < U2 86 8 ∧ R = rV U2) ∧ (((U2 86 8) = 0) → U2 = V1 ∧ V1 86 12 = -1 ∧ EvK N X (M_lawing_s105 (d + 7) (k : Nat) (k : Nat) (if kk (i + 1) = 1 ∧ 8 ≤ kv ∧ kv ≤ 10 then kv - 8 else -1) V1) R)) → EvK N X (M_lawing_s0 (d + 7) V) R := fun R hR => by
      obtain ⟨U2, c1, c2, c3⟩ := hR
      refine M_lawing_r0 ?_
      rw [hV.1, Int.toNat_natCast, h100 V hV]
      refine ⟨by omega, fun _ => ⟨1, V1, a1, fun _ => ?_, fun z => absurd z (by decide)⟩, fun z => absurd z (by omega)⟩
      rw [v1.1, Int.toNat_natCast, h100 V1 v1, eqI_o x0]
      refine ⟨by omega, U2, c1, fun z => ?_, fun z => (c2 (by omega)).2⟩
      have z0 : U2 86 8 = 0 := by
        rcases Int.decEq (U2 86 8) 0 with q | q
        · have := (c2 q).1; omega
        · exact q
      obtain ⟨e, x12, s105⟩ := c3 z0
      rw [e]
      have ww : ∀ w : Nat, w < 26 → EvK N X (M_isWord_s0 (d + 6) (ow8 w) V1) (rI (b2i (kk (i + 1) = 1 ∧ vv (i + 1) = (w : Nat))) V1) := fun w hw => ct_isWord1 (N := N) (X := X) (d := d + 6) hk a3 (by omega) x12 w hw
      rw [← hkv] at ww
      refine ⟨_, V1, ww 8 (by decide), fun q8 => ⟨_, V1, ww 9 (by decide), fun q9 => ⟨_, V1, ww 10 (by decide), fun q10 => ?_, fun q10 => ?_⟩, fun q9 => ?_⟩, fun q8 => ?_⟩
      · have p8 := b2i_eq.mp q8
        have p9 := b2i_eq.mp q9
        have p10 := b2i_eq.mp q10
        rw [if_neg (by omega)] at s105; exact s105
      · have p10 := b2i_ne.mp q10
        rw [if_pos (by omega), show kv - 8 = 2 by omega] at s105; exact s105
      · have p9 := b2i_ne.mp q9
        rw [if_pos (by omega), show kv - 8 = 1 by omega] at s105; exact s105
      · have p8 := b2i_ne.mp q8
        rw [if_pos (by omega), show kv - 8 = 0 by omega] at s105; exact s105
    rcases Int.decEq (V1 86 12) (-1) with x12 | x12
    · have k5 := (rT_bad hk a3 (by omega) x12).1
      obtain ⟨V2, c1, c2, c3, c4⟩ := lexB_at (N := N) (X := X) (d := d + 5) hk a3 (by omega) x12
      refine ⟨V2, core _ ⟨V2, c1, fun _ => ⟨by omega, rfl⟩, fun z => absurd z (by omega)⟩, fY_trans y1 (fY_89 c2), ?_⟩
      rw [oc_f (by omega)]
      exact ⟨(fun i' W2 e => by cases e), fun _ => ⟨c3, c4⟩⟩
    · rcases Classical.em (kk (i + 1) = 1 ∧ 8 ≤ kv ∧ kv ≤ 10) with ok | ok
      · have iK1 : i + 1 < K := tk_lt hk (by omega) (by omega)
        rw [if_pos ok] at core
        obtain ⟨A, hA⟩ : ∃ A, A = am_upd V1 101 k (kv - 8) := ⟨_, rfl⟩
        have gA : rT A T L (i + 1) := by rw [hA]; exact rT_row a3 (upd_row (by decide)) (upd_row (by decide))
        have qA : rW A (am_upd W 101 k (kv - 8)) b := by rw [hA]; exact rW_up v1 (by decide)
        have yA : fY b V A := by rw [hA]; exact fY_up y1 (by decide) (jb 101 (by omega))
        obtain ⟨V2, b1, b2, b3⟩ := ct_ahead1 (N := N) (X := X) (d := d + 5) hk gA
        have q2 := rW_A6 qA b2
        have y2 : fY b V V2 := fY_trans yA (fY_A6 b2)
        have e39 : V2 86 39 = (cl : Nat) := by rw [q2.2.2.1, upd_row (by decide)]; exact h18
        obtain ⟨B, hB⟩ : ∃ B, B = am_upd V2 102 k ((cl : Nat) : Int) := ⟨_, rfl⟩
        have gB : rT B T L (i + 2) := by rw [hB]; exact rT_row b3 (upd_row (by decide)) (upd_row (by decide))
        have qB : rW B (am_upd (am_upd W 101 k (kv - 8)) 102 k ((cl : Nat) : Int)) b := by rw [hB]; exact rW_up q2 (by decide)
        have yB : fY b V B := by rw [hB]; exact fY_up y2 (by decide) (jb 102 (by omega))
        have c18 : (am_upd (am_upd W 101 k (kv - 8)) 102 k ((cl : Nat) : Int)) 3 18 = (cl : Nat) := by rw [upd_row (by decide), upd_row (by decide)]; exact h18
        have B39 : B 86 39 = (cl : Nat) := by rw [qB.2.2.1]; exact c18
        obtain ⟨t1, t2⟩ := g4 ok.1 d B b cl hb gB qB.1 B39 (by omega)
        have run : ∀ R, (∃ U2 : am_U, EvK N X (M_reads_s0 (d + 6) 1 B) (rV U2) ∧ (((U2 86 8) ≠ 0) → R = rV (am_upd U2 103 k (U2 86 39))) ∧ (((U2 86 8) = 0) → U2 86 40 = (b : Nat) ∧ U2 100 b = (nw : Nat) ∧ R = rV (am_upd (am_upd U2 103 k (U2 86 39)) 100 b ((nw + 1 : Nat) : Int)))) → EvK N X (M_lawing_s0 (d + 7) V) R := fun R hR => by
          refine core R ⟨V1, ct_lex1 x12, fun z => absurd a3.2.2 z, fun _ => ⟨rfl, x12, M_lawing_r105 ⟨by omega, by omega, ?_⟩⟩⟩
          obtain ⟨U2, c1, c2, c3⟩ := hR
          rw [Int.toNat_natCast, upd_at, ← hA]
          refine ⟨fun _ => ⟨fun _ => ⟨V2, b1, U2, by rw [e39, ← hB]; exact c1, c2, fun z => ?_⟩, fun z => absurd z (by rw [a3.2.2]; decide)⟩, fun z => absurd z (by omega)⟩
          obtain ⟨c4, c5, c6⟩ := c3 z
          rw [c4, Int.toNat_natCast, c5, w32_succ (i := nw) (by omega)]
          exact ⟨by omega, c6⟩
        have yZ : ∀ Z : am_U, fZ B Z → fY b V Z := fun Z hZ => fY_trans yB (fY_Z qB.1 hZ)
        cases hg : g with
        | none =>
          obtain ⟨V3, c1, c2, c3, c4⟩ := t2 hg
          have p := g1 hg
          refine ⟨am_upd V3 103 k (V3 86 39), run _ ⟨V3, c1, fun _ => rfl, fun z => absurd z (by omega)⟩, fY_up (yZ V3 c2) (by decide) (jb 103 (by omega)), ?_⟩
          rw [oc_t ok, r0 hg, upd_row (by decide)]
          exact ⟨(fun i' W2 e => by cases e), fun _ => ⟨c3, c4⟩⟩
        | some p =>
          obtain ⟨j, ds⟩ := p
          obtain ⟨s1', s2, s3, s4⟩ := g2 ok.1 j ds hg
          rcases t1 j ds hg with ⟨V3, c1, c2, c3, c4, c5⟩ | ⟨k5, V3, c1, c2, c3, c4⟩
          · have q3 := rW_em qB hb c18 (by omega) c5 c4
            have f39 : V3 86 39 = ((cl + ds.length : Nat) : Int) := c4.1
            have f100 : V3 100 b = (nw : Nat) := by
              rw [q3.2.1 100 (by decide) (by decide), cdW_row (by decide) (by decide), upd_row (by decide), upd_row (by decide)]; exact hLw.2.1
            refine ⟨am_upd (am_upd V3 103 k ((cl + ds.length : Nat) : Int)) 100 b ((nw + 1 : Nat) : Int), run _ ⟨V3, c1, fun z => absurd c2.2.2 z, fun _ => ⟨c3, f100, by rw [f39]⟩⟩, fY_up (fY_up (yZ V3 c5) (by decide) (jb 103 (by omega))) (by decide) (by show 1 * b ≤ b ∧ b < 1 * b + 1; omega), ?_⟩
            rw [oc_t ok, r1 j ds hg]
            refine ⟨fun i' W2 e => Or.inl ?_, (fun e => by cases e)⟩
            obtain ⟨rfl, rfl⟩ : j = i' ∧ lwW (cdW W cl ds) b nw cl ds.length kv = W2 := by simpa using e
            refine ⟨rT_row c2 (by rw [upd_row (by decide), upd_row (by decide)]) (by rw [upd_row (by decide), upd_row (by decide)]), ?_⟩
            have t1 := rW_up (r := 100) (j := b) (x := ((nw + 1 : Nat) : Int)) (rW_up (r := 103) (j := k) (x := ((cl + ds.length : Nat) : Int)) q3 (by decide)) (by decide)
            refine rW_cg t1 (fun r z1 z2 => ?_) ?_ ?_
            · unfold lwW
              rw [← hk']
              refine upd_cgr (upd_cgr ?_)
              rw [cdW_row (by omega) (by omega)]
              refine upd_cgr (upd_cgr ?_)
              rw [upd_row (by omega), upd_row (by omega), upd_row (by omega), upd_row (by omega), cdW_row (by omega) (by omega)]
            · unfold lwW
              rw [upd_row (show (3 : Nat) ≠ 100 by decide), upd_row (show (3 : Nat) ≠ 103 by decide), upd_row (show (3 : Nat) ≠ 102 by decide), upd_row (show (3 : Nat) ≠ 101 by decide), upd_ne (by decide), upd_row (by decide), upd_row (by decide), upd_row (by decide), cdW_18, upd_row (show (3 : Nat) ≠ 100 by decide), upd_row (show (3 : Nat) ≠ 103 by decide), cdW_18]
            · unfold lwW
              rw [upd_row (show (15 : Nat) ≠ 100 by decide), upd_row (show (15 : Nat) ≠ 103 by decide), upd_row (show (15 : Nat) ≠ 102 by decide), upd_row (show (15 : Nat) ≠ 101 by decide), upd_row (show (15 : Nat) ≠ 3 by decide), upd_row (show (15 : Nat) ≠ 14 by decide), upd_row (show (15 : Nat) ≠ 13 by decide), upd_row (show (15 : Nat) ≠ 12 by decide), upd_row (show (15 : Nat) ≠ 100 by decide), upd_row (show (15 : Nat) ≠ 103 by decide)]
              exact cdW_15 (by rw [upd_row (by decide), upd_row (by decide)])
          · refine ⟨am_upd V3 103 k (V3 86 39), run _ ⟨V3, c1, fun _ => rfl, fun z => absurd z (by omega)⟩, fY_up (yZ V3 c2) (by decide) (jb 103 (by omega)), ?_⟩
            rw [oc_t ok, r1 j ds hg, upd_row (by decide)]
            refine ⟨fun i' W2 e => Or.inr ?_, (fun e => by cases e)⟩
            obtain ⟨rfl, rfl⟩ : j = i' ∧ lwW (cdW W cl ds) b nw cl ds.length kv = W2 := by simpa using e
            exact ⟨k5, c3, c4⟩
      · rw [if_neg ok] at core
        obtain ⟨A, hA⟩ : ∃ A, A = am_upd V1 101 k (-1) := ⟨_, rfl⟩
        have gA : rT A T L (i + 1) := by rw [hA]; exact rT_row a3 (upd_row (by decide)) (upd_row (by decide))
        have yA : fY b V A := by rw [hA]; exact fY_up y1 (by decide) (jb 101 (by omega))
        obtain ⟨V2, c1, c2, c3, c4⟩ := blame_at (N := N) (X := X) (d := d + 6) hk gA (by omega) (by rw [hA, upd_row (by decide)]; exact x12) 1
        have e4 : A 86 4 = V1 86 4 := by rw [hA, upd_row (by decide)]
        rw [e4] at c1
        refine ⟨V2, core _ ⟨V1, ct_lex1 x12, fun z => absurd a3.2.2 z, fun _ => ⟨rfl, x12, M_lawing_r105 ⟨by omega, by omega, ?_⟩⟩⟩, fY_trans yA (fY_89 c2), ?_⟩
        · rw [Int.toNat_natCast, upd_at, ← hA]
          exact ⟨fun z => absurd rfl z, fun _ => ⟨V2, c1, fun z => absurd z (by omega), fun _ => rfl⟩⟩
        · rw [oc_f ok]
          exact ⟨(fun i' W2 e => by cases e), fun _ => ⟨c3, c4⟩⟩
end LAW
