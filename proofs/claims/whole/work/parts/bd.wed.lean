/-! who may wed is told -/
section WED
variable {N : Nat} {X : Nat → Int} {T : Nat → Int} {L K : Nat} {kk vv : Nat → Int} {bp : Int} {i b ns nh nl nw nd cl n : Nat} {W : am_U}
def QWed (N : Nat) (X : Nat → Int) (d : Nat) (U : am_U) (r : Int) (U' : am_U) : Prop := ∃ (r9 : Int) (U9 : am_U), EvK N X (Rd_takeWed_s0 (d + 89) U) (rI r9 U9) ∧ ((r9 = 0 ∧ r = 0 ∧ U' = U9) ∨ (r9 ≠ 0 ∧ ∃ (r10 : Int) (U10 : am_U), EvK N X (Rd_readTest_s0 (d + 89) 0 U9) (rI r10 U10) ∧ ((r10 = 0 ∧ r = 0 ∧ U' = U10) ∨ (r10 ≠ 0 ∧ ∃ (r11 : Int) (U11 : am_U), EvK N X (Tw_addWed_s0 (d + 89) (U10 26 11) U10) (rI r11 U11) ∧ r11 ≠ 0 ∧ r = 1 ∧ U' = U11))))
def wdW (W : am_U) (b cl m : Nat) : am_U := am_upd (am_upd (am_upd (am_upd W 13 8 (cl : Nat)) 14 8 ((cl + m : Nat) : Int)) 104 b (cl : Nat)) 105 b ((cl + m : Nat) : Int)
theorem st_wed (hk : tkS T L K kk vv bp) (hi : i < K) (hG : gIn W b ns nh nl nw nd cl n) (hcl : cl ≤ i) (h104 : W 104 b = -1) : StQ N X T L K kk vv bp (QWed N X) M_wedding_s0 7 i b W := by
  have hK : K ≤ 1600 := Nat.le_trans hk.2.1 hk.1
  obtain ⟨hb, h18, hS, hH, hL, hD, hF, hLw, hWd, hP⟩ := hG
  obtain ⟨g, fk, fp, g1, g2, g3, g4⟩ := test_both (N := N) (X := X) hk (show i + 1 ≤ K by omega)
  obtain ⟨rest, hrest⟩ : ∃ rest : Option (Nat × am_U) × Int × Int, rest = tsR g fk fp (fun ds => wdW (cdW W cl ds) b cl ds.length) := ⟨_, rfl⟩
  have r0 : g = none → rest = (none, fk, fp) := fun e => by rw [hrest, e]; rfl
  have r1 : ∀ i' ds, g = some (i', ds) → rest = (some (i', wdW (cdW W cl ds) b cl ds.length), 0, 0) := fun i' ds e => by rw [hrest, e]; rfl
  clear hrest
  refine ⟨rest, ?_, fun i' W2 e => ?_, fun d U hc hU => ?_, fun d V hr hV => ?_⟩
  · cases hg : g with
    | none => rw [r0 hg]; exact fun _ => g1 hg
    | some p =>
      obtain ⟨i', ds⟩ := p
      rw [r1 i' ds hg]
      exact fun e => by cases e
  · cases hg : g with
    | none => rw [r0 hg] at e; cases e
    | some p =>
      obtain ⟨j, ds⟩ := p
      rw [r1 j ds hg] at e
      obtain ⟨rfl, rfl⟩ : j = i' ∧ wdW (cdW W cl ds) b cl ds.length = W2 := by simpa using e
      obtain ⟨t1, t2, t3, t4⟩ := g2 j ds hg
      obtain ⟨Y, hY⟩ : ∃ Y, Y = wdW (cdW W cl ds) b cl ds.length := ⟨_, rfl⟩
      rw [← hY]
      unfold wdW at hY
      have yr : ∀ r, r ≠ 3 → ¬ (13 ≤ r ∧ r ≤ 15) → ¬ (104 ≤ r ∧ r ≤ 105) → Y r = W r := fun r q1 q2 q3 => by
        rw [hY, upd_row (by omega), upd_row (by omega), upd_row (by omega), upd_row (by omega), cdW_row (by omega) q1]
      have y3 : ∀ j, j ≠ 18 → Y 3 j = W 3 j := fun j q2 => by
        rw [hY, upd_row (by omega), upd_row (by omega), upd_row (by omega), upd_row (by omega), cdW_3 q2]
      have y18 : Y 3 18 = ((cl + ds.length : Nat) : Int) := by
        rw [hY, upd_row (by omega), upd_row (by omega), upd_row (by omega), upd_row (by omega), cdW_18]
      have y15 : Y 15 = cdW W cl ds 15 := by
        rw [hY, upd_row (by omega), upd_row (by omega), upd_row (by omega), upd_row (by omega)]
      have y13 : ∀ l, Y 13 l = if l = 8 then ((cl : Nat) : Int) else W 13 l := fun l => by
        rw [hY, upd_row (by omega), upd_row (by omega), upd_row (by omega), upd_if, cdW_row (by omega) (by omega)]
      have y14 : ∀ l, Y 14 l = if l = 8 then ((cl + ds.length : Nat) : Int) else W 14 l := fun l => by
        rw [hY, upd_row (by omega), upd_row (by omega), upd_if, upd_row (by omega), cdW_row (by omega) (by omega)]
      have wn8 := wfT_new (W := W) (cl := cl) t4
      have nw8 := hLw.2.2.1
      refine ⟨by omega, by omega, ns, nh, nl, nw, nd, cl + ds.length, n, ⟨hb, y18, gSt_k hS (y3 0 (by omega)) (fun r hr => yr r (by omega) (by omega) (by omega)), gHs_k hH (Nat.le_refl _) (y3 1 (by omega)) (fun r hr => yr r (by omega) (by omega) (by omega)), gLn_k hL (Nat.le_refl _) (y3 2 (by omega)) (fun r hr => yr r (by omega) (by omega) (by omega)), gDb_k hD (y3 3 (by omega)) (fun r hr => yr r (by omega) (by omega) (by omega)), gFr_k hF (y3 5 (by omega)) (yr 110 (by omega) (by omega) (by omega)), gLw_em hLw (y3 4 (by omega)) y15 (fun l hl => ⟨by rw [yr 12 (by omega) (by omega) (by omega)], by rw [y13, if_neg (by omega)], by rw [y14, if_neg (by omega)]⟩) (fun r q1 q2 => yr r (by omega) (by omega) (by omega)), ?_, gPp_k hP (fun r hr => yr r (by omega) (by omega) (by omega))⟩, by omega⟩
      refine Or.inr ⟨cl, ds.length, ?_, ?_, by rw [y13, if_pos rfl], by rw [y14, if_pos rfl], wn8.2, Nat.le_refl _, by rw [y15]; exact wn8.1⟩
      · rw [hY, upd_row (by omega), upd_at]
      · rw [hY, upd_at]
  · obtain ⟨Z, hZ⟩ : ∃ Z, Z = am_upd U 26 11 ((cl : Nat) : Int) := ⟨_, rfl⟩
    have zc : cS Z T L K kk vv bp i := by rw [hZ]; exact cS_26 hc (by omega)
    have zw : cW Z W := by rw [hZ]; exact cW_26 hU
    obtain ⟨U2, m1, m2, m3⟩ := ct_Rd_next (N := N) (X := X) (d := d + 88) (by omega) hK zc hi
    have w2 := cW_fN zw m2
    have e18 : U 31 18 = (cl : Nat) := by rw [hU.1 31 (by decide) (by decide) (by decide)]; exact h18
    have e11 : U2 26 11 = (cl : Nat) := by rw [m2 26 11 (by omega), hZ, upd_at]
    have u18 : U2 31 18 = (cl : Nat) := by rw [w2.1 31 (by decide) (by decide) (by decide)]; exact h18
    have kind : EvK N X (Rd_takeWed_s0 (d + 89) U) (rI 1 U2) := by
      refine Rd_takeWed_r0 ⟨U2, ?_, rfl⟩
      rw [e18, ← hZ]; exact m1
    have c2 : fCz U U2 := fCz_trans (by rw [hZ]; exact fCz_up (fCz_refl U) (by omega) (by omega)) (fCz_N m2)
    obtain ⟨U3, r3, t1, t2, t3, t4⟩ := g3 d U2 cl m3 u18 (by omega)
    have c3 := fCz_trans c2 (fCz_E t2)
    cases hg : g with
    | none =>
      obtain ⟨x1, x2, x3⟩ := t4 hg
      refine ⟨U3, 0, ⟨1, U2, kind, Or.inr ⟨by decide, r3, U3, t1, Or.inl ⟨x1, rfl, rfl⟩⟩⟩, c3, ?_⟩
      rw [r0 hg]
      exact ⟨(fun i' W2 e => by cases e), fun _ => ⟨rfl, x2, x3⟩⟩
    | some p =>
      obtain ⟨j, ds⟩ := p
      obtain ⟨x1, x2, x3⟩ := t3 j ds hg
      have w3 := cW_em w2 h18 t2 x3
      have f11 : U3 26 11 = (cl : Nat) := by rw [t2 26 11 (by omega) (by decide) (by omega)]; exact e11
      have f18 : U3 31 18 = ((cl + ds.length : Nat) : Int) := x3.1
      refine ⟨am_upd (am_upd U3 41 8 (cl : Nat)) 42 8 ((cl + ds.length : Nat) : Int), 1, ⟨1, U2, kind, Or.inr ⟨by decide, r3, U3, t1, Or.inr ⟨by rw [x1]; decide, 1, _, Tw_addWed_r0 ?_, by decide, rfl, rfl⟩⟩⟩, fCz_up (fCz_up c3 (by omega) (by omega)) (by omega) (by omega), ?_⟩
      · rw [f11, f18]
      · rw [r1 j ds hg]
        refine ⟨fun i' W2 e => ?_, (fun e => by cases e)⟩
        obtain ⟨rfl, rfl⟩ : j = i' ∧ wdW (cdW W cl ds) b cl ds.length = W2 := by simpa using e
        refine ⟨rfl, cS_row x2 (fun r a1 a2 => by rw [upd_row (by omega), upd_row (by omega)]), ?_⟩
        unfold wdW
        exact cW_gh1 (cW_gh1 (cW_up (cW_up w3 41 (by omega) (by omega)) 42 (by omega) (by omega)) (by omega)) (by omega)
  · obtain ⟨V1, a1, a2, a3⟩ := ct_counts0 (N := N) (X := X) (d := d + 4) hk hr
    have v1 := rW_A6 hV a2
    have e39 : V1 86 39 = (cl : Nat) := by rw [v1.2.2.1]; exact h18
    have v104 : V 104 b = -1 := by rw [hV.2.1 104 (by decide) (by decide)]; exact h104
    have y1 : fY b V V1 := fY_A6 a2
    have jb : ∀ r, r = 104 ∨ r = 105 → wdt r * b ≤ b ∧ b < wdt r * b + wdt r := fun r hr => by
      rcases hr with rfl | rfl
      · show 1 * b ≤ b ∧ b < 1 * b + 1; omega
      · show 1 * b ≤ b ∧ b < 1 * b + 1; omega
    obtain ⟨B, hB⟩ : ∃ B, B = am_upd V1 104 b ((cl : Nat) : Int) := ⟨_, rfl⟩
    have gB : rT B T L (i + 1) := by rw [hB]; exact rT_row a3 (upd_row (by decide)) (upd_row (by decide))
    have qB : rW B (am_upd W 104 b ((cl : Nat) : Int)) b := by rw [hB]; exact rW_up v1 (by decide)
    have yB : fY b V B := by rw [hB]; exact fY_up y1 (by decide) (jb 104 (by omega))
    have c18 : (am_upd W 104 b ((cl : Nat) : Int)) 3 18 = (cl : Nat) := by rw [upd_row (by decide)]; exact h18
    have B39 : B 86 39 = (cl : Nat) := by rw [qB.2.2.1]; exact c18
    obtain ⟨t1, t2⟩ := g4 d B b cl hb gB qB.1 B39 (by omega)
    have run : ∀ R, (∃ U2 : am_U, EvK N X (M_reads_s0 (d + 6) 1 B) (rV U2) ∧ U2 86 40 = (b : Nat) ∧ R = rV (am_upd U2 105 b (U2 86 39))) → EvK N X (M_wedding_s0 (d + 7) V) R := fun R hR => by
      obtain ⟨U2, c1, c2, c3⟩ := hR
      refine M_wedding_r0 ?_
      rw [hV.1, Int.toNat_natCast, v104]
      refine ⟨by omega, fun _ => ⟨1, V1, a1, fun _ => ?_, fun z => absurd z (by decide)⟩, fun z => absurd rfl z⟩
      rw [v1.1, Int.toNat_natCast, e39, ← hB]
      refine ⟨by omega, U2, c1, ?_⟩
      rw [c2, Int.toNat_natCast]
      exact ⟨by omega, c3⟩
    have f40 : ∀ Z : am_U, fZ B Z → Z 86 40 = (b : Nat) := fun Z hZ => by rw [hZ.1 86 40 rfl]; exact qB.1
    have yZ : ∀ Z : am_U, fZ B Z → fY b V Z := fun Z hZ => fY_trans yB (fY_Z qB.1 hZ)
    cases hg : g with
    | none =>
      obtain ⟨V3, c1, c2, c3, c4⟩ := t2 hg
      refine ⟨am_upd V3 105 b (V3 86 39), run _ ⟨V3, c1, f40 V3 c2, rfl⟩, fY_up (yZ V3 c2) (by decide) (jb 105 (by omega)), ?_⟩
      rw [r0 hg, upd_row (by decide)]
      exact ⟨(fun i' W2 e => by cases e), fun _ => ⟨c3, c4⟩⟩
    | some p =>
      obtain ⟨j, ds⟩ := p
      obtain ⟨s1', s2, s3, s4⟩ := g2 j ds hg
      rcases t1 j ds hg with ⟨V3, c1, c2, c3, c4, c5⟩ | ⟨k5, V3, c1, c2, c3, c4⟩
      · have q3 := rW_em qB hb c18 (by omega) c5 c4
        have f39 : V3 86 39 = ((cl + ds.length : Nat) : Int) := c4.1
        refine ⟨am_upd V3 105 b ((cl + ds.length : Nat) : Int), run _ ⟨V3, c1, c3, by rw [f39]⟩, fY_up (yZ V3 c5) (by decide) (jb 105 (by omega)), ?_⟩
        rw [r1 j ds hg]
        refine ⟨fun i' W2 e => Or.inl ?_, (fun e => by cases e)⟩
        obtain ⟨rfl, rfl⟩ : j = i' ∧ wdW (cdW W cl ds) b cl ds.length = W2 := by simpa using e
        refine ⟨rT_row c2 (upd_row (by decide)) (upd_row (by decide)), ?_⟩
        have t1 := rW_up (r := 105) (j := b) (x := ((cl + ds.length : Nat) : Int)) q3 (by decide)
        refine rW_cg t1 (fun r z1 z2 => ?_) ?_ ?_
        · unfold wdW
          refine upd_cgr ?_
          rw [cdW_row (by omega) (by omega)]
          refine upd_cgr ?_
          rw [upd_row (by omega), upd_row (by omega), cdW_row (by omega) (by omega)]
        · unfold wdW
          rw [upd_row (show (3 : Nat) ≠ 105 by decide), upd_row (show (3 : Nat) ≠ 104 by decide), upd_row (by decide), upd_row (by decide), cdW_18, upd_row (show (3 : Nat) ≠ 105 by decide), cdW_18]
        · unfold wdW
          rw [upd_row (show (15 : Nat) ≠ 105 by decide), upd_row (show (15 : Nat) ≠ 104 by decide), upd_row (show (15 : Nat) ≠ 14 by decide), upd_row (show (15 : Nat) ≠ 13 by decide), upd_row (show (15 : Nat) ≠ 105 by decide)]
          exact cdW_15 (by rw [upd_row (by decide)])
      · refine ⟨am_upd V3 105 b (V3 86 39), run _ ⟨V3, c1, f40 V3 c2, rfl⟩, fY_up (yZ V3 c2) (by decide) (jb 105 (by omega)), ?_⟩
        rw [r1 j ds hg, upd_row (by decide)]
        refine ⟨fun i' W2 e => Or.inr ?_, (fun e => by cases e)⟩
        obtain ⟨rfl, rfl⟩ : j = i' ∧ wdW (cdW W cl ds) b cl ds.length = W2 := by simpa using e
        exact ⟨k5, c3, c4⟩
end WED
