/-! a person is told: behind the number -/
section PRS
variable {N : Nat} {X : Nat → Int} {T : Nat → Int} {L K : Nat} {kk vv : Nat → Int} {bp : Int} {o b ns nh nl nw nd cl n : Nat} {W : am_U}
def isInW (kk vv : Nat → Int) (j : Nat) : Prop := kk j = 1 ∧ vv j = 6
/-- the house told has room -/
def roomP (kk : Nat → Int) (W : am_U) (n j : Nat) (rh : Int) : Prop := kk j = 2 ∧ rh ≠ -1 ∧ ((lvg W n rh.toNat : Nat) : Int) < W 8 rh.toNat
/-- the class behind the number -/
def TCp (N : Nat) (X : Nat → Int) (d : Nat) (U : am_U) (v pl : Int) (R : Option am_V × am_M) : Prop := (((U 26 7) = 3) → ((v = 0) → ∃ (r3 : Int) (U3 : am_U), EvK N X (Rd_refuseFor_s0 d 4 pl U) (rI r3 U3) ∧ (r3 = 0 ∨ r3 = 1) ∧ R = rI r3 U3) ∧ ((v ≠ 0) → ∃ (r4 : Int) (U4 : am_U), EvK N X (Fk_find_21_s0 d v U) (rI r4 U4) ∧ ((r4 < 0) → ∃ U5 : am_U, EvK N X (Rd_next_s0 d U4) (rV U5) ∧ ∃ (r6 : Int) (U6 : am_U), EvK N X (Rd_isOwn_s0 d 6 U5) (rI r6 U6) ∧ ((r6 = 0) → ∃ U7 : am_U, EvK N X (Fk_add_21_s0 d v (-1) U6) (rV U7) ∧ R = rI 1 U7) ∧ ((r6 ≠ 0) → ∃ U8 : am_U, EvK N X (Rd_next_s0 d U6) (rV U8) ∧ ∃ (r9 : Int) (U9 : am_U), EvK N X (Rd_fullHouses_s0 d U8) (rI r9 U9) ∧ ∃ (r10 : Int) (U10 : am_U), EvK N X (Rd_takeHouse_s0 d r9 U9) (rI r10 U10) ∧ ((0 ≤ r10) → ∃ U11 : am_U, EvK N X (Fk_add_21_s0 d v r10 U10) (rV U11) ∧ R = rI 1 U11) ∧ ((r10 < 0) → R = rI 0 U10))) ∧ ((0 ≤ r4) → ∃ (r12 : Int) (U12 : am_U), EvK N X (Rd_refuseFor_s0 d 4 pl U4) (rI r12 U12) ∧ (r12 = 0 ∨ r12 = 1) ∧ R = rI r12 U12))) ∧ (((U 26 7) ≠ 3) → ∃ (r13 : Int) (U13 : am_U), EvK N X (Rd_refuseHere_s0 d U) (rI r13 U13) ∧ (r13 = 0 ∨ r13 = 1) ∧ R = rI r13 U13)
/-- how it ends -/
noncomputable def ocP (T : Nat → Int) (L : Nat) (kk vv : Nat → Int) (bp : Int) (W : am_U) (b n o : Nat) (v pl rh : Int) : Option (Nat × am_U) × Int × Int :=
  oc (kk o = 3) 1 (fpl T L kk bp o) (oc (goodN W n v) 4 pl (@ite _ (isInW kk vv (o + 1)) (Classical.propDecidable _) (oc (roomP kk W n (o + 2) rh) (if kk (o + 2) = 2 then 3 else 1) (fpl T L kk bp (o + 2)) (some (o + 3, ppW W b n v rh), 0, 0)) (some (o + 1, ppW W b n v (-1)), 0, 0)))
theorem pers_C (hk : tkS T L K kk vv bp) (hG : gIn W b ns nh nl nw nd cl n) (hn : n < 16) {rh v pl : Int} (fh : fdR (W 5) (vv (o + 2)) nh rh) (d : Nat) (U : am_U) (hc : cS U T L K kk vv bp o) (hU : cW U W) : ∃ U' r, TCp N X (d + 2) U v pl (rI r U') ∧ fCz U U' ∧ (∀ i' W', (ocP T L kk vv bp W b n o v pl rh).1 = some (i', W') → r = 1 ∧ cS U' T L K kk vv bp i' ∧ cW U' W') ∧ ((ocP T L kk vv bp W b n o v pl rh).1 = none → r = 0 ∧ U' 26 4 = (ocP T L kk vv bp W b n o v pl rh).2.1 ∧ U' 26 5 = (ocP T L kk vv bp W b n o v pl rh).2.2) := by
  have hK : K ≤ 1600 := Nat.le_trans hk.2.1 hk.1
  obtain ⟨hb, h18, hS, hH, hL, hD, hF, hLw, hWd, hP⟩ := hG
  have hnh := hH.2.2.1
  have bdh := fdR_bd fh
  have e7 : U 26 7 = kk o := hc.2.2.2.2.2.1
  unfold ocP
  by_cases p1 : kk o = 3
  · have iK : o < K := tk_lt hk hc.2.2.2.1 (by omega)
    obtain ⟨q1, q2⟩ := pp_n hU hP
    have e22 : U 22 = W 17 := hU.2.2.1.2.1
    obtain ⟨r4, fE4, f4⟩ := ct_find_21 (N := N) (X := X) (d := d + 2) (U := U) v q1 hP.2.2.1
    rw [e22] at f4
    rcases Classical.em (goodN W n v) with p2 | p2
    · have r4n : r4 < 0 := by
        rcases f4 with ⟨z, _⟩ | ⟨j, z, z2, z3⟩
        · omega
        · exact absurd z3 (p2.2 j z2)
      clear f4
      obtain ⟨U1, n1, n2, n3⟩ := ct_Rd_next (N := N) (X := X) (d := d + 2) (by omega) hK hc iK
      have w1 := cW_fN hU n2
      have io := ct_Rd_isOwn (N := N) (X := X) (d := d + 2) n3 6
      rcases Classical.em (isInW kk vv (o + 1)) with p3 | p3
      · rw [b2i_t (show kk (o + 1) = 1 ∧ vv (o + 1) = 6 from p3)] at io
        have iK1 : o + 1 < K := tk_lt hk (by omega) (by have := p3.1; omega)
        obtain ⟨U2, m1, m2, m3⟩ := ct_Rd_next (N := N) (X := X) (d := d + 2) (by omega) hK n3 iK1
        have w2 := cW_fN w1 m2
        obtain ⟨m, fm1, fm2⟩ := ct_fullHouses (N := N) (X := X) (d := d) w2 hH hP
        obtain ⟨sA, sB⟩ := ct_takeHouse (N := N) (X := X) (d := d + 1) (m := m) (by omega) hk m3 (fdC1 w2 hH fh) bdh.2.2 (by omega)
        rw [show o + 1 + 1 = o + 2 from rfl] at sA sB
        have eqk : hsOk kk (o + 2) rh m ↔ roomP kk W n (o + 2) rh := by
          unfold hsOk roomP
          constructor
          · rintro ⟨z1, z2, z3⟩
            have py := bdh.2.2 z2
            rw [fm2 rh.toNat (by omega)] at z3
            refine ⟨z1, z2, ?_⟩
            have := of_decide_eq_false z3
            omega
          · rintro ⟨z1, z2, z3⟩
            have py := bdh.2.2 z2
            refine ⟨z1, z2, ?_⟩
            rw [fm2 rh.toNat (by omega), decide_eq_false (by omega)]
        rw [eqk] at sA sB
        have c2 := fCz_trans (fCz_N n2) (fCz_N m2)
        rcases Classical.em (roomP kk W n (o + 2) rh) with p4 | p4
        · have py := bdh.2.2 p4.2.1
          obtain ⟨U3, s1', s2, s3⟩ := sA p4
          clear sA sB
          have w3 := cW_fN w2 s2
          obtain ⟨U4, y1, y2, y3⟩ := ct_add21W (N := N) (X := X) (d := d + 1) (b := b) (nh := nh) (v := v) (hm := rh) w3 hP hn (by omega)
          refine ⟨U4, 1, ⟨fun _ => ⟨fun z => absurd z p2.1, fun _ => ⟨r4, U, fE4, fun _ => ⟨U1, n1, 1, U1, io, fun z => absurd z (by decide), fun _ => ⟨U2, m1, m, U2, fm1, rh, U3, s1', fun _ => ⟨U4, y1, rfl⟩, fun z => absurd z (by omega)⟩⟩, fun z => absurd z (by omega)⟩⟩, fun z => absurd (by rw [e7]; exact p1) z⟩, fCz_trans (fCz_trans c2 (fCz_N s2)) ⟨fun r hr => y3 r (by omega), by rw [y3 26 (by omega)]⟩, ?_⟩
          rw [oc_t p1, oc_t p2, if_pos p3, oc_t p4]
          refine ⟨fun i' W2 e => ?_, (fun e => by cases e)⟩
          obtain ⟨rfl, rfl⟩ : o + 3 = i' ∧ ppW W b n v rh = W2 := by simpa using e
          exact ⟨rfl, cS_row s3 (fun r a1 a2 => y3 r (by omega)), y2⟩
        · obtain ⟨U3, s1', s2, s3, s4⟩ := sB p4
          clear sA sB
          refine ⟨U3, 0, ⟨fun _ => ⟨fun z => absurd z p2.1, fun _ => ⟨r4, U, fE4, fun _ => ⟨U1, n1, 1, U1, io, fun z => absurd z (by decide), fun _ => ⟨U2, m1, m, U2, fm1, -1, U3, s1', fun z => absurd z (by decide), fun _ => rfl⟩⟩, fun z => absurd z (by omega)⟩⟩, fun z => absurd (by rw [e7]; exact p1) z⟩, fCz_trans c2 (fCz_N s2), ?_⟩
          rw [oc_t p1, oc_t p2, if_pos p3, oc_f p4]
          exact ⟨(fun i' W2 e => by cases e), fun _ => ⟨rfl, s3, s4⟩⟩
      · rw [b2i_f (show ¬ (kk (o + 1) = 1 ∧ vv (o + 1) = 6) from p3)] at io
        obtain ⟨U4, y1, y2, y3⟩ := ct_add21W (N := N) (X := X) (d := d + 1) (b := b) (nh := nh) (v := v) (hm := -1) w1 hP hn (by omega)
        refine ⟨U4, 1, ⟨fun _ => ⟨fun z => absurd z p2.1, fun _ => ⟨r4, U, fE4, fun _ => ⟨U1, n1, 0, U1, io, fun _ => ⟨U4, y1, rfl⟩, fun z => absurd rfl z⟩, fun z => absurd z (by omega)⟩⟩, fun z => absurd (by rw [e7]; exact p1) z⟩, fCz_trans (fCz_N n2) ⟨fun r hr => y3 r (by omega), by rw [y3 26 (by omega)]⟩, ?_⟩
        rw [oc_t p1, oc_t p2, if_neg p3]
        refine ⟨fun i' W2 e => ?_, (fun e => by cases e)⟩
        obtain ⟨rfl, rfl⟩ : o + 1 = i' ∧ ppW W b n v (-1) = W2 := by simpa using e
        exact ⟨rfl, cS_row n3 (fun r a1 a2 => y3 r (by omega)), y2⟩
    · obtain ⟨U1, g1, g2, g3, g4⟩ := ct_refuseFor (N := N) (X := X) (d := d + 2) (U := U) 4 pl
      refine ⟨U1, 0, ⟨fun _ => ⟨fun _ => ⟨0, U1, g1, Or.inl rfl, rfl⟩, fun v0 => ⟨r4, U, fE4, fun z => ?_, fun _ => ⟨0, U1, g1, Or.inl rfl, rfl⟩⟩⟩, fun z => absurd (by rw [e7]; exact p1) z⟩, fCz_N g2, ?_⟩
      · exfalso
        rcases f4 with ⟨_, z2⟩ | ⟨j, z1, _⟩
        · exact p2 ⟨v0, z2⟩
        · omega
      · rw [oc_t p1, oc_f p2]
        exact ⟨(fun i' W2 e => by cases e), fun _ => ⟨rfl, g3, g4⟩⟩
  · obtain ⟨U1, g1, g2, g3, g4⟩ := ct_refuseHere (N := N) (X := X) (d := d + 2) hc
    refine ⟨U1, 0, ⟨fun z => absurd (by rw [← e7]; exact z) p1, fun _ => ⟨0, U1, g1, Or.inl rfl, rfl⟩⟩, fCz_N g2, ?_⟩
    rw [oc_f p1]
    exact ⟨(fun i' W2 e => by cases e), fun _ => ⟨rfl, g3, g4⟩⟩
end PRS
