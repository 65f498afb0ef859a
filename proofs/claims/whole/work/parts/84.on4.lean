/-! an image comes on: both alike -/
theorem actOk_ref {U : am_U} {n nh k w g c : Nat} (hf : iFolk U n nh) (hs : iRS U) (hh : iHist U nh k w g) (hp : iPrt U) (hc : c < 6) : actOk U (am_upd (am_upd U 85 c (w32 (U 85 c + 1))) 119 c (w32 (U 119 c + 1))) nh n n := by
  have r : ∀ r, r ≠ 85 → r ≠ 119 → am_upd (am_upd U 85 c (w32 (U 85 c + 1))) 119 c (w32 (U 119 c + 1)) r = U r := fun r q1 q2 => by rw [upd_row q2, upd_row q1]
  generalize hV : am_upd (am_upd U 85 c (w32 (U 85 c + 1))) 119 c (w32 (U 119 c + 1)) = V at r
  have v85 : ∀ j, V 85 j = if j = c then w32 (U 85 c + 1) else U 85 j := fun j => by rw [← hV, upd_row (by decide), upd_if]
  have v119 : ∀ j, V 119 j = if j = c then w32 (U 119 c + 1) else U 119 j := fun j => by rw [← hV, upd_if, upd_row (by decide)]
  clear hV
  refine ⟨fun r' j e => ?_, ?_, ⟨fun j hj => ?_, ?_⟩, ⟨k, w, g, ?_⟩, ?_, Or.inr ⟨rfl, by rw [r 16 (by decide) (by decide)], r 17 (by decide) (by decide), r 18 (by decide) (by decide), r 19 (by decide) (by decide), r 20 (by decide) (by decide), fun j _ => by rw [r 45 (by decide) (by decide)], r 48 (by decide) (by decide), r 52 (by decide) (by decide)⟩⟩
  · by_cases q1 : r' = 85
    · subst q1; simp [scrA] at e
    · by_cases q2 : r' = 119
      · subst q2; simp [scrA] at e
      · rw [r r' q1 q2]
  · unfold iFolk; rw [r 16 (by decide) (by decide), r 122 (by decide) (by decide), r 120 (by decide) (by decide), r 121 (by decide) (by decide), r 123 (by decide) (by decide), r 124 (by decide) (by decide), r 17 (by decide) (by decide), r 18 (by decide) (by decide), r 8 (by decide) (by decide), r 19 (by decide) (by decide)]; exact hf
  · rw [v85, v119, hs.1 c hc, hs.1 j hj]
  · rw [r 86 (by decide) (by decide), r 1 (by decide) (by decide)]; exact hs.2
  · obtain ⟨a1, a2, a3, a4⟩ := hh
    refine ⟨?_, ?_, ?_, fun i hi => ?_⟩
    · rw [r 56 (by decide) (by decide), r 86 (by decide) (by decide)]; exact a1
    · rw [r 56 (by decide) (by decide)]; exact a2
    · rw [r 86 (by decide) (by decide)]; exact a3
    · have b1 : (w + 20 - i) % 20 < 20 := Nat.mod_lt _ (by decide)
      exact hRow_cg (r 8 (by decide) (by decide)) (r _ (by omega) (by omega)) (by rw [r 120 (by decide) (by decide)]) (by rw [r 121 (by decide) (by decide)]) (by rw [r 122 (by decide) (by decide)]) (fun p _ => by rw [r 123 (by decide) (by decide), r 124 (by decide) (by decide)]; exact ⟨rfl, rfl⟩) (a4 i hi)
  · unfold iPrt; rw [r 20 (by decide) (by decide), r 17 (by decide) (by decide)]; exact hp
theorem pair_on {N : Nat} {X : Nat → Int} {d : Nat} {U : am_U} {b ns nh nl nw nd cl n k w g : Nat} (ht : iTown U b ns nh nl nw nd cl) (hf : iFolk U n nh) (hs : iRS U) (hh : iHist U nh k w g) (hp : iPrt U) (htp : iTape U) : ∃ r U1 U2 n', EvK N X (D_on_s0 (d + 4) U) (rI r U1) ∧ EvK N X (M_on_s0 (d + 4) U1) (rI r U2) ∧ actOk (am_upd (am_upd U 1 1 0) 86 1 0) U2 nh n n' := by
  obtain ⟨⟨t1, t2, t3⟩, t4⟩ := htp
  obtain ⟨L, hL⟩ : ∃ L : Nat, U 1 1 = L := ⟨(U 1 1).toNat, by omega⟩
  have hnh := ht.2.2.1.2.2.1
  have h31 := ht.2.2.1.1
  have h90 := ht.2.2.1.2.1
  have hb := ht.1.1
  have hb2 := ht.1.2
  have hrow := ht.2.2.1.2.2.2
  have hTb : ∀ j, j < 1600 → 0 ≤ U 2 j ∧ U 2 j ≤ 255 := fun j hj => (t4 j hj).2
  generalize hW : am_upd U 1 1 0 = W
  have wr : ∀ r, r ≠ 1 → W r = U r := fun r q => by rw [← hW, upd_row q]
  have wj : ∀ r j, ¬ (r = 1 ∧ j = 1) → W r j = U r j := fun r j q => by rw [← hW, upd_if2 q]
  have w11 : W 1 1 = 0 := by rw [← hW, upd_at]
  obtain ⟨r, U1, a1, a2, a3⟩ := ct_readFrom (N := N) (X := X) (d := d) (L := L) (nh := nh) (U := W) (T := U 2) (wr 2 (by decide)) hTb (by omega) (by rw [wr 3 (by decide)]; exact h31) hnh (fun q hq => by rw [wr 8 (by decide)]; have := (hrow q hq).2.2.1; omega)
  rw [wr 8 (by decide)] at a3
  have agB : agrB U (am_upd W 86 1 0) := by rw [← hW]; exact agrB_tape U 0 0
  have fB : iFolk (am_upd W 86 1 0) n nh := iFolk_agrB agB hf
  have sB : iRS (am_upd W 86 1 0) := iRS_agrB agB hs
  have hB : iHist (am_upd W 86 1 0) nh k w g := iHist_agrB agB hh
  have pB : iPrt (am_upd W 86 1 0) := iPrt_agrB agB hp
  rcases a3 with ⟨rfl, n', o1, o2⟩ | ⟨rfl, no⟩
  · -- it comes on
    obtain ⟨o1a, o1b⟩ := o1
    have hn16 := o1a.2.1
    have b0 := hTb 0 (by decide)
    have b1 := hTb 1 (by decide)
    have b2 := hTb 2 (by decide)
    have ni : U 2 2 = 0 ∨ U 2 2 = 1 := by have := o1a.2.2.2.2.1; omega
    obtain ⟨s1', ⟨s2', s3'⟩, s4', s5'⟩ := o2
    have p1 : iPrt U1 := iPrt_agrB (agrB_trans (fun r j e => wj r j (by rintro ⟨rfl, rfl⟩; exact absurd e (by decide))) (agrB_of (agr_21 a2))) hp
    obtain ⟨U2, g1, g2, g3, g4, g5, g6, g7⟩ := ct_copyFrom (N := N) (X := X) (d := d + 1) (m := n') (U := U1) s1' hn16 (by rw [s3']; exact ni) (fun p hq => by rw [(s4' p hq).2]; have := (o1b.1 p hq).2.2; omega) p1
    generalize hU4 : am_upd (am_upd (am_upd (am_upd U2 56 2 0) 45 5 0) 48 9 0) 52 8 0 = U4
    have dU : EvK N X (D_on_s0 (d + 4) U) (rI 1 U4) := by
      refine D_on_r0 ⟨1, U1, ?_, fun _ => ⟨U2, g1, _, Hs_forget_r0 rfl, _, ct_forget (d := d + 2) _, by rw [hU4]⟩, fun z => absurd z (by decide)⟩
      rw [hL, hW]; exact a1
    have u4 : ∀ r, r ≠ 56 → r ≠ 45 → r ≠ 48 → r ≠ 52 → U4 r = U2 r := fun r q1 q2 q3 q4 => by rw [← hU4, upd_row q4, upd_row q3, upd_row q2, upd_row q1]
    have u4' : ∀ r, r ≠ 56 → r ≠ 45 → r ≠ 48 → r ≠ 52 → ¬ (16 ≤ r ∧ r ≤ 25) → U4 r = W r := fun r q1 q2 q3 q4 q5 => by rw [u4 r q1 q2 q3 q4, g2 r (by omega), a2 r (by omega)]
    have z56a : U4 56 1 = W 56 1 := by rw [← hU4, upd_row (by decide), upd_row (by decide), upd_row (by decide), upd_ne (by decide), g2 56 (by decide), a2 56 (by decide)]
    have z56b : U4 56 2 = 0 := by rw [← hU4, upd_row (by decide), upd_row (by decide), upd_row (by decide), upd_at]
    have z45 : U4 45 5 = 0 := by rw [← hU4, upd_row (by decide), upd_row (by decide), upd_at]
    have z48 : U4 48 9 = 0 := by rw [← hU4, upd_row (by decide), upd_at]
    have z52 : U4 52 8 = 0 := by rw [← hU4, upd_at]
    clear hU4 g1 a1
    have e86 : U4 86 = U 86 := by rw [u4' 86 (by decide) (by decide) (by decide) (by decide) (by decide), wr 86 (by decide)]
    have u87 : ∀ j, j < 1600 → (am_upd U4 86 1 0) 87 j = U 2 j := fun j hj => by rw [upd_row (by decide), u4' 87 (by decide) (by decide) (by decide) (by decide) (by decide), wr 87 (by decide)]; exact (t4 j hj).1
    obtain ⟨r', V1, m1, m2, m3⟩ := ct_comesOn (N := N) (X := X) (d := d) (L := L) (b := b) (nh := nh) (U := am_upd U4 86 1 0) (T := U 2) (rm := U 8) u87 hTb (by omega) (by rw [upd_ne (by decide), e86]; exact hb) hb2 (by rw [upd_row (by decide), u4' 90 (by decide) (by decide) (by decide) (by decide) (by decide), wr 90 (by decide)]; exact h90) hnh (fun q hq => by rw [upd_row (by decide), u4' 93 (by decide) (by decide) (by decide) (by decide) (by decide), wr 93 (by decide)]; exact (hrow q hq).2.2.1.1)
    rcases m3 with ⟨rfl, n2, y1, y2, y3⟩ | ⟨-, y1⟩
    · have en : n2 = n' := by
        have q1 := y1.1.2.2.1
        have q2 := o1a.2.2.1
        omega
      subst en
      have v87 : ∀ j, j < 1600 → V1 87 j = U 2 j := fun j hj => by rw [m2 87 j (by omega) (by omega)]; exact u87 j hj
      obtain ⟨V3, c1, c2, c3, c4, c5, c6, c7⟩ := ct_copies (N := N) (X := X) (d := d + 3) (a := 0) (c := 1) (by decide) (by decide) (by decide) (U := am_upd (am_upd V1 120 1 (256 * U 2 0 + U 2 1)) 121 1 (U 2 2))
      have mU : EvK N X (M_on_s0 (d + 4) U4) (rI 1 (am_upd V3 86 58 0)) := by
        refine M_on_r0 ⟨1, V1, ?_, fun _ => ⟨V3, ?_, rfl⟩, fun z => absurd z (by decide)⟩
        · rw [e86, t1, hL]; exact m1
        · rw [v87 0 (by decide), v87 1 (by decide), v87 2 (by decide), or_byte b0 b1]; exact c1
      clear m1 c1
      generalize hV : am_upd V3 86 58 0 = V at mU
      have v : ∀ r j, ¬ (r = 86 ∧ (j = 1 ∨ j = 58)) → ¬ (120 ≤ r ∧ r ≤ 124) → V r j = U4 r j := fun r j q1 q2 => by rw [← hV, upd_if2 (by omega), c2 r (by omega) (by omega) (by omega) (by omega) (by omega), upd_row (by omega), upd_row (by omega), m2 r j (by omega) (by omega), upd_if2 (by omega)]
      have vr : ∀ r, r ≠ 86 → ¬ (120 ≤ r ∧ r ≤ 124) → V r = U4 r := fun r q1 q2 => funext fun j => v r j (by omega) q2
      have v861 : V 86 1 = 0 := by rw [← hV, upd_ne (by decide), c2 86 (by decide) (by decide) (by decide) (by decide) (by decide), upd_row (by decide), upd_row (by decide), m2 86 1 (by omega) (by omega), upd_at]
      have v8658 : V 86 58 = 0 := by rw [← hV, upd_at]
      have l120 : V 120 0 = 256 * U 2 0 + U 2 1 := by rw [← hV, upd_row (by decide), c3, if_pos rfl, upd_row (by decide), upd_at]
      have l121 : V 121 0 = U 2 2 := by rw [← hV, upd_row (by decide), c4, if_pos rfl, upd_at]
      have l122 : V 122 0 = (n2 : Nat) := by rw [← hV, upd_row (by decide), c5, if_pos rfl, upd_row (by decide), upd_row (by decide)]; exact y3
      have l123 : ∀ p, p < n2 → V 123 p = onN (U 2) p ∧ V 124 p = onH (U 2) p := fun p hq => by
        rw [← hV, upd_row (by decide), upd_row (by decide), c6, c7, if_pos (by omega), if_pos (by omega), upd_row (by decide), upd_row (by decide), upd_row (by decide), upd_row (by decide)]
        exact y2 p hq
      clear hV c2 c3 c4 c5 c6 c7 m2
      have v16 : V 16 = U2 16 := by rw [vr 16 (by decide) (by decide), u4 16 (by decide) (by decide) (by decide) (by decide)]
      have v17 : V 17 = U2 17 := by rw [vr 17 (by decide) (by decide), u4 17 (by decide) (by decide) (by decide) (by decide)]
      have v18 : V 18 = U2 18 := by rw [vr 18 (by decide) (by decide), u4 18 (by decide) (by decide) (by decide) (by decide)]
      have v19 : V 19 = U2 19 := by rw [vr 19 (by decide) (by decide), u4 19 (by decide) (by decide) (by decide) (by decide)]
      have v20 : V 20 = U2 20 := by rw [vr 20 (by decide) (by decide), u4 20 (by decide) (by decide) (by decide) (by decide)]
      have v8 : V 8 = U 8 := by rw [vr 8 (by decide) (by decide), u4' 8 (by decide) (by decide) (by decide) (by decide) (by decide), wr 8 (by decide)]
      refine ⟨1, U4, V, n2, dU, mU, fun r j e => ?_, ?_, ⟨fun j hj => ?_, ?_⟩, ⟨0, w, g, ?_⟩, ?_, Or.inl ⟨?_, ?_, ?_⟩⟩
      · have er : ¬ ((16 ≤ r ∧ r ≤ 20) ∨ r = 45 ∨ r = 48 ∨ r = 52 ∨ r = 56 ∨ (58 ≤ r ∧ r ≤ 77) ∨ r = 85 ∨ (119 ≤ r ∧ r ≤ 124)) := by
          intro z
          unfold scrA at e
          rw [decide_eq_true z] at e; simp at e
        have es : scr r j = false := by
          unfold scrA at e
          cases q : scr r j with
          | false => rfl
          | true => rw [q] at e; simp at e
        have e21 : ¬ (21 ≤ r ∧ r ≤ 25) := fun z => by
          unfold scr at es
          rw [if_pos (by omega)] at es
          exact absurd es (by decide)
        by_cases q1 : r = 86 ∧ j = 1
        · obtain ⟨rfl, rfl⟩ := q1
          rw [v861, upd_at]
        · by_cases q2 : r = 86 ∧ j = 58
          · obtain ⟨rfl, rfl⟩ := q2
            exact absurd e (by decide)
          · rw [v r j (by omega) (by omega), u4' r (by omega) (by omega) (by omega) (by omega) (by omega), upd_if2 q1]
      · unfold iFolk
        rw [v16, v17, v18, v19, v8, l120, l121, l122]
        refine ⟨⟨g3, rfl, hn16⟩, ⟨by rw [g4.1, s2'], ?_⟩, ⟨by rw [g4.2, s3'], by rw [g4.2, s3']; exact ni⟩, fun p hq => ?_, pplOk_cg (fun p hq => ?_) rfl o1b, g6⟩
        · rw [g4.1, s2']; exact ⟨by omega, o1a.2.2.2.1⟩
        · rw [(l123 p hq).1, (l123 p hq).2, (g5 p hq).1, (g5 p hq).2, (s4' p hq).1, (s4' p hq).2]; exact ⟨rfl, rfl⟩
        · rw [(g5 p hq).1, (g5 p hq).2]; exact s4' p hq
      · rw [vr 119 (by decide) (by decide), vr 85 (by decide) (by decide), u4' 119 (by decide) (by decide) (by decide) (by decide) (by decide), u4' 85 (by decide) (by decide) (by decide) (by decide) (by decide), wr 119 (by decide), wr 85 (by decide)]
        exact hs.1 j hj
      · rw [v 86 59 (by decide) (by decide), v 1 18 (by decide) (by decide), u4' 1 (by decide) (by decide) (by decide) (by decide) (by decide), wj 1 18 (by decide), e86]
        exact hs.2
      · refine ⟨⟨by rw [vr 56 (by decide) (by decide)]; exact z56b, v8658, by decide⟩, ⟨by rw [vr 56 (by decide) (by decide), z56a, wr 56 (by decide)]; exact hh.2.1.1, hh.2.1.2⟩, ⟨by rw [v 86 57 (by decide) (by decide), e86]; exact hh.2.2.1.1, hh.2.2.1.2⟩, fun i hi => absurd hi (Nat.not_lt_zero i)⟩
      · unfold iPrt; rw [v20, v17]; exact g7
      · rw [vr 45 (by decide) (by decide)]; exact z45
      · rw [vr 48 (by decide) (by decide)]; exact z48
      · rw [vr 52 (by decide) (by decide)]; exact z52
    · exact absurd ⟨n', o1a, o1b⟩ y1
  · -- it does not
    have e85 : U1 85 = U 85 := by rw [a2 85 (by decide), wr 85 (by decide)]
    have u1r : ∀ r, ¬ (21 ≤ r ∧ r ≤ 25) → r ≠ 85 → am_upd U1 85 5 (w32 (U 85 5 + 1)) r = W r := fun r q1 q2 => by rw [upd_row q2, a2 r q1]
    have dU : EvK N X (D_on_s0 (d + 4) U) (rI 0 (am_upd U1 85 5 (w32 (U 85 5 + 1)))) := by
      refine D_on_r0 ⟨0, U1, ?_, fun z => absurd rfl z, fun _ => ⟨0, _, ct_D_refuse 5 (by decide), Or.inl rfl, by rw [e85]⟩⟩
      rw [hL, hW]; exact a1
    generalize hU4 : am_upd U1 85 5 (w32 (U 85 5 + 1)) = U4 at dU u1r
    have u87 : ∀ j, j < 1600 → (am_upd U4 86 1 0) 87 j = U 2 j := fun j hj => by rw [upd_row (by decide), u1r 87 (by decide) (by decide), wr 87 (by decide)]; exact (t4 j hj).1
    have e86 : U4 86 = U 86 := by rw [u1r 86 (by decide) (by decide), wr 86 (by decide)]
    obtain ⟨r', V1, m1, m2, m3⟩ := ct_comesOn (N := N) (X := X) (d := d) (L := L) (b := b) (nh := nh) (U := am_upd U4 86 1 0) (T := U 2) (rm := U 8) u87 hTb (by clear hU4 e85; omega) (by rw [upd_ne (by decide), e86]; exact hb) hb2 (by rw [upd_row (by decide), u1r 90 (by decide) (by decide), wr 90 (by decide)]; exact h90) hnh (fun q hq => by rw [upd_row (by decide), u1r 93 (by decide) (by decide), wr 93 (by decide)]; exact (hrow q hq).2.2.1.1)
    rcases m3 with ⟨-, n2, y1, -, -⟩ | ⟨rfl, y1⟩
    · exact absurd ⟨n2, y1⟩ no
    · have e119 : V1 119 5 = (am_upd W 86 1 0) 119 5 := by rw [m2 119 5 (by decide) (by decide), upd_row (by decide), u1r 119 (by decide) (by decide), upd_row (by decide)]
      have mU : EvK N X (M_on_s0 (d + 4) U4) (rI 0 (am_upd V1 119 5 (w32 ((am_upd W 86 1 0) 119 5 + 1)))) := by
        refine M_on_r0 ⟨0, V1, ?_, fun z => absurd rfl z, fun _ => ⟨-1, _, ct_M_refuses 5 (by decide), fun _ => by rw [e119], fun z => absurd z (by decide)⟩⟩
        rw [e86, t1, hL]; exact m1
      refine ⟨0, U4, _, n, dU, mU, actOk_agr (V := am_upd (am_upd (am_upd W 86 1 0) 85 5 (w32 ((am_upd W 86 1 0) 85 5 + 1))) 119 5 (w32 ((am_upd W 86 1 0) 119 5 + 1))) ?_ (actOk_ref fB sB hB pB (by decide))⟩
      intro r j e
      by_cases q1 : r = 119 ∧ j = 5
      · obtain ⟨rfl, rfl⟩ := q1
        rw [upd_at, upd_at]
      · rw [upd_if2 q1, upd_if2 q1, agr_frT m2 r j e]
        by_cases q2 : r = 86 ∧ j = 1
        · obtain ⟨rfl, rfl⟩ := q2
          rw [upd_at, upd_row (by decide), upd_at]
        · rw [upd_if2 q2, ← hU4]
          by_cases q3 : r = 85 ∧ j = 5
          · obtain ⟨rfl, rfl⟩ := q3
            rw [upd_at, upd_at, upd_row (by decide), wr 85 (by decide)]
          · rw [upd_if2 q3, upd_if2 q3, upd_if2 q2]
            exact agr_21 a2 r j e
