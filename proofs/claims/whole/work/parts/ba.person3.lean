/-! a person is told: both sides -/
section PR3
variable {N : Nat} {X : Nat → Int} {T : Nat → Int} {L K : Nat} {kk vv : Nat → Int} {bp : Int} {i o b ns nh nl nw nd cl n : Nat} {W : am_U}
theorem ocP_pos {v pl rh : Int} : (ocP T L kk vv bp W b n o v pl rh).1 = none → 1 ≤ (ocP T L kk vv bp W b n o v pl rh).2.1 := by
  unfold ocP
  refine oc_pos (by decide) (oc_pos (by decide) ?_)
  rcases Classical.em (isInW kk vv (o + 1)) with c | c
  · rw [if_pos c]
    exact oc_pos (by split <;> decide) (fun e => by cases e)
  · rw [if_neg c]
    exact fun e => by cases e
theorem ocP_some (hk : tkS T L K kk vv bp) (hG : gIn W b ns nh nl nw nd cl n) (hn : n < 16) (ho : o ≤ K) {v pl rh : Int} (fh : fdR (W 5) (vv (o + 2)) nh rh) (hv : v = vv o ∨ v = -(vv o)) {i' : Nat} {W' : am_U} (e : (ocP T L kk vv bp W b n o v pl rh).1 = some (i', W')) : o < i' ∧ i' ≤ K ∧ gIn W' b ns nh nl nw nd cl (n + 1) := by
  unfold ocP at e
  obtain ⟨p1, e⟩ := oc_some e
  obtain ⟨p2, e⟩ := oc_some e
  have iK : o < K := tk_lt hk ho (by omega)
  have nu := tk_nu9 hk ho p1
  have bv : -999999999 ≤ v ∧ v ≤ 999999999 := by rcases hv with z | z <;> omega
  have bdh := fdR_bd fh
  rcases Classical.em (isInW kk vv (o + 1)) with c | c
  · rw [if_pos c] at e
    obtain ⟨p4, e⟩ := oc_some e
    have iK1 : o + 1 < K := tk_lt hk (by omega) (by have := c.1; omega)
    have iK2 : o + 2 < K := tk_lt hk (by omega) (by have := p4.1; omega)
    have py := bdh.2.2 p4.2.1
    obtain ⟨rfl, rfl⟩ : o + 3 = i' ∧ ppW W b n v rh = W' := by simpa using e
    refine ⟨by omega, by omega, gIn_pp hG hn p2 bv (by omega) (fun h hh => ?_)⟩
    have := p4.2.2
    rw [hh, Int.toNat_natCast] at this; exact this
  · rw [if_neg c] at e
    obtain ⟨rfl, rfl⟩ : o + 1 = i' ∧ ppW W b n v (-1) = W' := by simpa using e
    exact ⟨by omega, by omega, gIn_pp hG hn p2 bv (by omega) (fun h hh => by omega)⟩
theorem s112_no {d : Nat} {Z : am_U} {x1 x2 x3 : Int} (h8 : 0 < Z 86 8) : EvK N X (M_numbering_s112 (d + 1) x1 x2 x3 Z) (rV Z) := M_numbering_r112 ⟨fun z => absurd z (by omega), fun _ => rfl⟩
theorem st_person (hk : tkS T L K kk vv bp) (hi : i < K) (hG : gIn W b ns nh nl nw nd cl n) (hcl : cl ≤ i) (hn : n < 16) : StS N X T L K kk vv bp Rd_readPerson_s0 3 M_numbering_s0 4 i b W := by
  have hK : K ≤ 1600 := Nat.le_trans hk.2.1 hk.1
  have hG' := hG
  obtain ⟨hb, h18, hS, hH, hL, hD, hF, hLw, hWd, hP⟩ := hG
  obtain ⟨pl, hpl⟩ : ∃ pl : Int, pl = (plS1 T L (i + 1) : Nat) := ⟨_, rfl⟩
  -- the reference up to the number
  have refA : ∀ (d : Nat) (V : am_U), rT V T L i → rW V W b → ∃ V1, rT V1 T L (i + 1) ∧ rW V1 W b ∧ fY b V V1 ∧ ∀ R, (∃ U2 : am_U, EvK N X (M_lex_s0 (d + 3) V1) (rV U2) ∧ (((U2 86 8) ≠ 0) → 0 < U2 86 8 ∧ R = rV U2) ∧ (((U2 86 8) = 0) → U2 = V1 ∧ ∃ r5 : Int, EvK N X (M_isSign_s0 (d + 3) 45 V1) (rI r5 V1) ∧ ((r5 = 0) → V1 86 12 = -1 ∧ ((V1 86 3 = 2) → EvK N X (M_numbering_s112 (d + 4) ((16 * b + n : Nat) : Int) 0 (V1 86 4) V1) R) ∧ ((V1 86 3 ≠ 2) → ∃ U7 : am_U, EvK N X (M_blame_s0 (d + 3) 1 (V1 86 4) V1) (rV U7) ∧ 0 < U7 86 8 ∧ R = rV U7)) ∧ ((r5 ≠ 0) → ∃ U8 : am_U, EvK N X (M_ahead_s0 (d + 3) V1) (rV U8) ∧ ∃ U9 : am_U, EvK N X (M_lex_s0 (d + 3) U8) (rV U9) ∧ (((U9 86 8) ≠ 0) → 0 < U9 86 8 ∧ R = rV U9) ∧ (((U9 86 8) = 0) → ((U9 86 3 = 2) → EvK N X (M_numbering_s112 (d + 4) ((16 * b + n : Nat) : Int) 1 (V1 86 4) U9) R) ∧ ((U9 86 3 ≠ 2) → ∃ U10 : am_U, EvK N X (M_blame_s0 (d + 3) 1 (U9 86 4) U9) (rV U10) ∧ 0 < U10 86 8 ∧ R = rV U10))))) → EvK N X (M_numbering_s0 (d + 4) V) R := fun d V hr hV => by
    obtain ⟨V1, a1, a2, a3⟩ := ct_counts0 (N := N) (X := X) (d := d + 1) hk hr
    have v1 := rW_A6 hV a2
    have h97 : ∀ A : am_U, rW A W b → A 97 b = (n : Nat) := fun A hA => by rw [hA.2.1 97 (by decide) (by decide)]; exact hP.2.1
    have x0 : eqI (w32 (w32 (16 * ((b : Nat) : Int)) + ((n : Nat) : Int))) ((16 * b + n : Nat) : Int) := by show _ = _; rw [w32_eq (x := 16 * ((b : Nat) : Int)) (by omega) (by omega), w32_eq (by omega) (by omega)]; omega
    refine ⟨V1, a3, v1, fY_A6 a2, fun R hR => M_numbering_r0 ?_⟩
    rw [hV.1, Int.toNat_natCast, h97 V hV]
    refine ⟨by omega, fun _ => M_numbering_r20 ⟨1, V1, a1, fun _ => ?_, fun z => absurd z (by decide)⟩, fun z => absurd z (by omega)⟩
    rw [v1.1, Int.toNat_natCast, h97 V1 v1, eqI_o x0]
    obtain ⟨U2, c1, c2, c3⟩ := hR
    refine ⟨by omega, U2, c1, fun z => ?_, fun z => ?_⟩
    · obtain ⟨p, rfl⟩ := c2 z
      exact ⟨U2, lex_F p, fun _ => s112_no p, fun z2 => absurd z2 z⟩
    · obtain ⟨e, r5, d1, d2, d3⟩ := c3 z
      rw [e]
      refine ⟨r5, V1, d1, fun z2 => ?_, fun z2 => ?_⟩
      · obtain ⟨f1, f2, f3⟩ := d2 z2
        refine ⟨V1, ct_lex1 f1, fun z3 => absurd a3.2.2 z3, fun _ => ⟨f2, fun z3 => ?_⟩⟩
        obtain ⟨U7, g1, g2, rfl⟩ := f3 z3
        exact ⟨U7, g1, s112_no g2⟩
      · obtain ⟨U8, f1, U9, f2, f3, f4⟩ := d3 z2
        refine ⟨U8, f1, U9, f2, fun z3 => ?_, fun z3 => ⟨(f4 z3).1, fun z4 => ?_⟩⟩
        · obtain ⟨p, rfl⟩ := f3 z3
          exact s112_no p
        · obtain ⟨U10, g1, g2, rfl⟩ := (f4 z3).2 z4
          exact ⟨U10, g1, s112_no g2⟩
  by_cases mn : kk (i + 1) = 4 ∧ vv (i + 1) = 45
  · -- below zero
    have iK1 : i + 1 < K := tk_lt hk (by omega) (by omega)
    obtain ⟨rh, fh⟩ := fdR_ex (W 5) (vv (i + 2 + 2)) nh
    refine ⟨ocP T L kk vv bp W b n (i + 2) (-(vv (i + 2))) pl rh, ocP_pos, fun i' W2 e => ?_, fun d U hc hU => ?_, fun d V hr hV => ?_⟩
    · obtain ⟨s1', s2, s3⟩ := ocP_some hk hG' hn (by omega) fh (Or.inr rfl) e
      exact ⟨by omega, s2, ns, nh, nl, nw, nd, cl, n + 1, s3, by omega⟩
    · obtain ⟨U1, n1, n2, n3⟩ := ct_Rd_next (N := N) (X := X) (d := d + 2) (by omega) hK hc hi
      have w1 := cW_fN hU n2
      have sg := ct_Rd_isSign (N := N) (X := X) (d := d + 2) n3 45
      rw [b2i_t mn] at sg
      obtain ⟨U2, m1, m2, m3⟩ := ct_Rd_next (N := N) (X := X) (d := d + 2) (by omega) hK n3 iK1
      have w2 := cW_fN w1 m2
      have e9 : U1 26 9 = pl := by rw [hpl]; exact n3.2.2.2.2.2.2.2
      have e8' : U2 26 8 = vv (i + 2) := m3.2.2.2.2.2.2.1
      obtain ⟨U', r, t1, t2, t3, t4⟩ := pers_C (N := N) (X := X) hk hG' hn (v := -(vv (i + 2))) (pl := pl) fh d U2 m3 w2
      have t1' : TCp N X (d + 2) U2 (w32 (-(U2 26 8))) (U1 26 9) (rI r U') := by
        rw [e9, e8']
        by_cases k3 : kk (i + 2) = 3
        · have nu := tk_nu9 hk (by omega) k3
          rw [w32_eq (by omega) (by omega)]; exact t1
        · have e7 : U2 26 7 = kk (i + 2) := m3.2.2.2.2.2.1
          exact ⟨fun z => absurd (by rw [← e7]; exact z) k3, t1.2⟩
      exact ⟨U', r, Rd_readPerson_r0 ⟨U1, n1, 1, U1, sg, fun z => absurd z (by decide), fun _ => ⟨U2, m1, t1'⟩⟩, fCz_trans (fCz_trans (fCz_N n2) (fCz_N m2)) t2, t3, t4⟩
    · obtain ⟨V1, a3, v1, y1, run⟩ := refA d V hr hV
      have x12 : V1 86 12 = -1 := by
        rcases Int.decEq (V1 86 12) (-1) with z | z
        · have := (rT_bad hk a3 (by omega) z).1; omega
        · exact z
      have sg := ct_isSign1 (N := N) (X := X) (d := d + 3) hk a3 (by omega) x12 45 (by decide)
      rw [b2i_t mn] at sg
      obtain ⟨V2, b1, b2, b3⟩ := ct_ahead1 (N := N) (X := X) (d := d + 2) hk a3
      have v2 := rW_A6 v1 b2
      have y2 : fY b V V2 := fY_trans y1 (fY_A6 b2)
      have run2 : ∀ R, (∃ U9 : am_U, EvK N X (M_lex_s0 (d + 3) V2) (rV U9) ∧ (((U9 86 8) ≠ 0) → 0 < U9 86 8 ∧ R = rV U9) ∧ (((U9 86 8) = 0) → ((U9 86 3 = 2) → EvK N X (M_numbering_s112 (d + 4) ((16 * b + n : Nat) : Int) 1 (V1 86 4) U9) R) ∧ ((U9 86 3 ≠ 2) → ∃ U10 : am_U, EvK N X (M_blame_s0 (d + 3) 1 (U9 86 4) U9) (rV U10) ∧ 0 < U10 86 8 ∧ R = rV U10))) → EvK N X (M_numbering_s0 (d + 4) V) R := fun R hR =>
        run R ⟨V1, ct_lex1 x12, fun z => absurd a3.2.2 z, fun _ => ⟨rfl, 1, sg, fun z => absurd z (by decide), fun _ => ⟨V2, b1, hR⟩⟩⟩
      have fin : ∀ V3 : am_U, kk (i + 2) ≠ 3 → f89 V2 V3 → V3 86 8 = 1 → V3 86 9 = fpl T L kk bp (i + 2) → EvK N X (M_numbering_s0 (d + 4) V) (rV V3) → ∃ V', EvK N X (M_numbering_s0 (d + 4) V) (rV V') ∧ fY b V V' ∧ (∀ i' W', (ocP T L kk vv bp W b n (i + 2) (-(vv (i + 2))) pl rh).1 = some (i', W') → (rT V' T L i' ∧ rW V' W' b) ∨ (kk i' = 5 ∧ V' 86 8 = 1 ∧ V' 86 9 = fpl T L kk bp i')) ∧ ((ocP T L kk vv bp W b n (i + 2) (-(vv (i + 2))) pl rh).1 = none → V' 86 8 = (ocP T L kk vv bp W b n (i + 2) (-(vv (i + 2))) pl rh).2.1 ∧ V' 86 9 = (ocP T L kk vv bp W b n (i + 2) (-(vv (i + 2))) pl rh).2.2) := fun V3 k3 c1 c2 c3 c4 => by
        refine ⟨V3, c4, fY_trans y2 (fY_89 c1), ?_⟩
        unfold ocP
        rw [oc_f k3]
        exact ⟨(fun i' W2 e => by cases e), fun _ => ⟨c2, c3⟩⟩
      rcases Int.decEq (V2 86 12) (-1) with x22 | x22
      · have k5 := (rT_bad hk b3 (by omega) x22).1
        obtain ⟨V3, c1, c2, c3, c4⟩ := lexB_at (N := N) (X := X) (d := d + 2) hk b3 (by omega) x22
        exact fin V3 (by rw [k5]; decide) c2 c3 c4 (run2 _ ⟨V3, c1, fun _ => ⟨by omega, rfl⟩, fun z => absurd z (by omega)⟩)
      · have nm := (rT_num hk b3 (by omega) x22).1
        by_cases k3 : kk (i + 2) = 3
        · obtain ⟨V3, c1, c2, c3, c4⟩ := pers_R (N := N) (X := X) hk hG' hn (by omega) k3 (x2 := 1) (pl := pl) fh (Or.inr ⟨rfl, rfl⟩) d V2 b3 v2
          exact ⟨V3, run2 _ ⟨V2, ct_lex1 x22, fun z => absurd b3.2.2 z, fun _ => ⟨fun _ => by rw [rT_pl a3, ← hpl]; exact c1, fun z => absurd (nm.mpr k3) z⟩⟩, fY_trans y2 c2, fun i' W2 e => Or.inl (c3 i' W2 e), c4⟩
        · obtain ⟨V3, c1, c2, c3, c4⟩ := blame_at (N := N) (X := X) (d := d + 3) hk b3 (by omega) x22 1
          exact fin V3 k3 c2 c3 c4 (run2 _ ⟨V2, ct_lex1 x22, fun z => absurd b3.2.2 z, fun _ => ⟨fun z => absurd (nm.mp z) k3, fun _ => ⟨V3, c1, by omega, rfl⟩⟩⟩)
  · -- above
    obtain ⟨rh, fh⟩ := fdR_ex (W 5) (vv (i + 1 + 2)) nh
    refine ⟨ocP T L kk vv bp W b n (i + 1) (vv (i + 1)) pl rh, ocP_pos, fun i' W2 e => ?_, fun d U hc hU => ?_, fun d V hr hV => ?_⟩
    · obtain ⟨s1', s2, s3⟩ := ocP_some hk hG' hn (by omega) fh (Or.inl rfl) e
      exact ⟨by omega, s2, ns, nh, nl, nw, nd, cl, n + 1, s3, by omega⟩
    · obtain ⟨U1, n1, n2, n3⟩ := ct_Rd_next (N := N) (X := X) (d := d + 2) (by omega) hK hc hi
      have w1 := cW_fN hU n2
      have sg := ct_Rd_isSign (N := N) (X := X) (d := d + 2) n3 45
      rw [b2i_f mn] at sg
      have e9 : U1 26 9 = pl := by rw [hpl]; exact n3.2.2.2.2.2.2.2
      have e8' : U1 26 8 = vv (i + 1) := n3.2.2.2.2.2.2.1
      obtain ⟨U', r, t1, t2, t3, t4⟩ := pers_C (N := N) (X := X) hk hG' hn (v := vv (i + 1)) (pl := pl) fh d U1 n3 w1
      have t1' : TCp N X (d + 2) U1 (U1 26 8) (U1 26 9) (rI r U') := by rw [e9, e8']; exact t1
      exact ⟨U', r, Rd_readPerson_r0 ⟨U1, n1, 0, U1, sg, fun _ => t1', fun z => absurd rfl z⟩, fCz_trans (fCz_N n2) t2, t3, t4⟩
    · obtain ⟨V1, a3, v1, y1, run⟩ := refA d V hr hV
      have fin : ∀ V3 : am_U, kk (i + 1) ≠ 3 → f89 V1 V3 → V3 86 8 = 1 → V3 86 9 = fpl T L kk bp (i + 1) → EvK N X (M_numbering_s0 (d + 4) V) (rV V3) → ∃ V', EvK N X (M_numbering_s0 (d + 4) V) (rV V') ∧ fY b V V' ∧ (∀ i' W', (ocP T L kk vv bp W b n (i + 1) (vv (i + 1)) pl rh).1 = some (i', W') → (rT V' T L i' ∧ rW V' W' b) ∨ (kk i' = 5 ∧ V' 86 8 = 1 ∧ V' 86 9 = fpl T L kk bp i')) ∧ ((ocP T L kk vv bp W b n (i + 1) (vv (i + 1)) pl rh).1 = none → V' 86 8 = (ocP T L kk vv bp W b n (i + 1) (vv (i + 1)) pl rh).2.1 ∧ V' 86 9 = (ocP T L kk vv bp W b n (i + 1) (vv (i + 1)) pl rh).2.2) := fun V3 k3 c1 c2 c3 c4 => by
        refine ⟨V3, c4, fY_trans y1 (fY_89 c1), ?_⟩
        unfold ocP
        rw [oc_f k3]
        exact ⟨(fun i' W2 e => by cases e), fun _ => ⟨c2, c3⟩⟩
      rcases Int.decEq (V1 86 12) (-1) with x12 | x12
      · have k5 := (rT_bad hk a3 (by omega) x12).1
        obtain ⟨V3, c1, c2, c3, c4⟩ := lexB_at (N := N) (X := X) (d := d + 2) hk a3 (by omega) x12
        exact fin V3 (by rw [k5]; decide) c2 c3 c4 (run _ ⟨V3, c1, fun _ => ⟨by omega, rfl⟩, fun z => absurd z (by omega)⟩)
      · have sg := ct_isSign1 (N := N) (X := X) (d := d + 3) hk a3 (by omega) x12 45 (by decide)
        rw [b2i_f mn] at sg
        have nm := (rT_num hk a3 (by omega) x12).1
        by_cases k3 : kk (i + 1) = 3
        · obtain ⟨V3, c1, c2, c3, c4⟩ := pers_R (N := N) (X := X) hk hG' hn (by omega) k3 (x2 := 0) (pl := pl) fh (Or.inl ⟨rfl, rfl, hpl⟩) d V1 a3 v1
          exact ⟨V3, run _ ⟨V1, ct_lex1 x12, fun z => absurd a3.2.2 z, fun _ => ⟨rfl, 0, sg, fun _ => ⟨x12, fun _ => by rw [rT_pl a3, ← hpl]; exact c1, fun z => absurd (nm.mpr k3) z⟩, fun z => absurd rfl z⟩⟩, fY_trans y1 c2, fun i' W2 e => Or.inl (c3 i' W2 e), c4⟩
        · obtain ⟨V3, c1, c2, c3, c4⟩ := blame_at (N := N) (X := X) (d := d + 3) hk a3 (by omega) x12 1
          exact fin V3 k3 c2 c3 c4 (run _ ⟨V1, ct_lex1 x12, fun z => absurd a3.2.2 z, fun _ => ⟨rfl, 0, sg, fun _ => ⟨x12, fun z => absurd (nm.mp z) k3, fun _ => ⟨V3, c1, by omega, rfl⟩⟩, fun z => absurd rfl z⟩⟩)
end PR3
