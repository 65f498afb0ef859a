/-! facts: not -/
section FNT
variable {N : Nat} {X : Nat → Int} {T : Nat → Int} {L K : Nat} {kk vv : Nat → Int} {bp : Int} {i o : Nat}
theorem nNot_end (p : List Int) : nNot (p ++ [-22]) = nNot p + 1 := by unfold nNot; simp
theorem fact_not (hk : tkS T L K kk vv bp) (hi : i ≤ K) (ho : o ≤ 7) (hw : kk i = 1 ∧ vv i = 21) (hS : o < 7 → ∀ j, i < j → j ≤ K → FactC N X T L K kk vv bp j (o + 1)) : FactC N X T L K kk vv bp i o := by
  have hK : K ≤ 1600 := Nat.le_trans hk.2.1 hk.1
  have iK : i < K := tk_lt hk hi (by omega)
  -- the reference comes to the word
  have opB : ∀ (d : Nat) (V : am_U) (b cl f : Nat) (kd : Int) (q0 : Nat) (O : List Int), f ≤ o → isTs kd → rF V T L i b cl f kd 0 1 0 o q0 O → V 86 12 = -1 ∧ ∀ R, (((V 86 47) ≠ 7) → EvK N X (M_operand_s79 (d + 5) (f : Nat) 1 V) R) ∧ (((V 86 47) = 7) → ∃ U2 : am_U, EvK N X (M_blame_s0 (d + 4) 5 (V 86 4) V) (rV U2) ∧ EvK N X (M_operand_s79 (d + 5) (f : Nat) 1 U2) R) → EvK N X (M_operand_s0 (d + 5) V) R := fun d V b cl f kd q0 O hf hts hF => by
    have hx : V 86 12 = -1 := by
      rcases Int.decEq (V 86 12) (-1) with z | z
      · have := (rT_bad hk hF.1 hi z).1
        omega
      · exact z
    have e46 : eqI (w32 (V 86 46 - 1)) ((f : Nat) : Int) := by show _ = _; rw [hF.2.2.2.1, w32_eq (by omega) (by omega)]; omega
    have w21 := ct_isWord1 (N := N) (X := X) (d := d + 4) hk hF.1 hi hx 21 (by decide)
    rw [b2i_t (show kk i = 1 ∧ vv i = ((21 : Nat) : Int) from hw)] at w21
    refine ⟨hx, fun R hR => M_operand_r0 ⟨V, ct_lex1 (d := d + 3) hx, fun _ => ?_, fun z => absurd z (by rw [hF.1.2.2]; omega)⟩⟩
    rw [eqI_o e46, Int.toNat_natCast, hF.2.2.2.2.2.2.1.1]
    refine ⟨by omega, _, V, ct_isTest1, fun z => absurd hts (cb_eq.mp z), fun _ => ⟨fun z => absurd z (by rw [hF.2.2.2.2.2.2.1.2.2.1]; decide), fun _ => ?_⟩⟩
    exact M_operand_r46 ⟨fun z => absurd z (by decide), fun _ => ⟨1, V, w21, fun z => absurd z (by decide), fun _ => hR⟩⟩
  by_cases o7 : o = 7
  · refine ⟨none, 5, (plS1 T L i : Nat), [], [], fun _ => by decide, (fun i' ds e => by cases e), fun d U cl hcS hcl hle => ?_, fun d V b cl f kd q0 O hb hf ho' hts hF hO hcl hq => ⟨(fun i' ds e => by cases e), fun _ => ?_⟩⟩
    · have w21 := ct_Rd_isOwn (N := N) (X := X) (d := d + (10 * (8 - o) + 6)) hcS 21
      rw [b2i_t hw] at w21
      obtain ⟨U1, m1, m2, m3, m4⟩ := ct_refuseFor (N := N) (X := X) (d := d + (10 * (8 - o) + 5)) (U := U) 5 (U 26 9)
      exact ⟨U1, 0, Rd_readFact_r0 ⟨1, U, w21, fun z => absurd z (by decide), fun _ => ⟨0, U1, Rd_opens_r0 ⟨fun z => absurd z (by omega), fun _ => ⟨0, U1, m1, Or.inl rfl, rfl⟩⟩, fun _ => Rd_readFact_r43 rfl, fun z => absurd rfl z⟩⟩, fE_fN m2, (fun i' ds e => by cases e), fun _ => ⟨rfl, m3, by rw [m4]; exact hcS.2.2.2.2.2.2.2⟩⟩
    · obtain ⟨hx, run1⟩ := opB d V b cl f kd q0 O hf hts hF
      have e7 : V 86 47 = 7 := by rw [hF.2.2.2.2.1, o7]; rfl
      have run2 : EvK N X (M_operand_s0 (d + 5) V) (rI 1 (am_upd (am_upd V 86 8 5) 86 9 (V 86 4))) := run1 _ ⟨fun z => absurd e7 z, fun _ => ⟨_, ct_blame1 hF.1.2.2 _ _, M_operand_r79 ⟨fun z => absurd z (by rw [upd_ne (by decide), upd_at]; decide), fun _ => rfl⟩⟩⟩
      exact ⟨_, fZ_upd rfl (fZ_upd rfl (fZ_upd rfl (fZ_refl V))), by rw [upd_ne (by decide), upd_ne (by decide), upd_at], by rw [upd_ne (by decide), upd_at]; exact hF.1.2.1.1, fun R hR => loop_op hF.2.2.2.2.2.1 run2 (Or.inr rfl) (fun _ => hR) (fun z => absurd z (by rw [upd_ne (by decide), upd_at]; decide))⟩
  · have o6 : o < 7 := by omega
    obtain ⟨gs, fk1, fp1, e1, p1, x1, x2, x3, x4⟩ := hS o6 (i + 1) (by omega) (by omega)
    have ed : ∀ d : Nat, d + (10 * (8 - o) + 6) = (d + 9) + (10 * (8 - (o + 1)) + 7) := fun d => by omega
    -- the class
    have stA : ∀ (d : Nat) (U : am_U) (cl : Nat), cS U T L K kk vv bp i → U 31 18 = (cl : Nat) → cl ≤ i → ∃ (U2 : am_U) (r : Int), fE U U2 ∧ (∀ i' ds, gs = some (i', ds) → r = 1 ∧ cS U2 T L K kk vv bp i' ∧ emW U U2 cl ds) ∧ (gs = none → r = 0 ∧ U2 26 4 = fk1 ∧ U2 26 5 = fp1) ∧ ∀ R, (((r = 0) → EvK N X (Rd_readFact_s43 (d + (10 * (8 - o) + 7)) (o : Nat) U2) R) ∧ ((r ≠ 0) → ∃ (r24 : Int) (U24 : am_U), EvK N X (Tw_emitWord_s0 (d + (10 * (8 - o) + 6)) 21 U2) (rI r24 U24) ∧ ((r24 = 0) → EvK N X (Rd_readFact_s43 (d + (10 * (8 - o) + 7)) (o : Nat) U24) R) ∧ ((r24 ≠ 0) → R = rI 1 U24))) → EvK N X (Rd_readFact_s0 (d + (10 * (8 - o) + 7)) (o : Nat) U) R := fun d U cl hcS hcl hle => by
      have w21 := ct_Rd_isOwn (N := N) (X := X) (d := d + (10 * (8 - o) + 6)) hcS 21
      rw [b2i_t hw] at w21
      obtain ⟨U1, n1, n2, n3⟩ := ct_Rd_next (N := N) (X := X) (d := d + (10 * (8 - o) + 5)) (by omega) hK hcS iK
      obtain ⟨U2, r, y1, y2, y3, y4⟩ := x3 (d + 9) U1 cl n3 (by rw [n2 31 18 (by omega)]; exact hcl) (by omega)
      rw [← ed d] at y1
      refine ⟨U2, r, fE_trans (fE_fN n2) y2, fun i' ds e => ?_, y4, fun R hR => Rd_readFact_r0 ⟨1, U, w21, fun z => absurd z (by decide), fun _ => ⟨1, U1, Rd_opens_r0 ⟨fun _ => ⟨U1, n1, rfl⟩, fun z => absurd z (by omega)⟩, fun z => absurd z (by decide), fun _ => ⟨r, U2, ?_, hR⟩⟩⟩⟩
      · obtain ⟨z1, z2, z3⟩ := y3 i' ds e
        exact ⟨z1, z2, emW_fN1 n2 z3⟩
      · rw [w32_succ (i := o) (by omega)]; exact y1
    -- the reference
    have stB : ∀ (d : Nat) (V : am_U) (b cl f : Nat) (kd : Int) (q0 : Nat) (O : List Int), b < 2 → f ≤ o → isTs kd → rF V T L i b cl f kd 0 1 0 o q0 O → (∀ c, c ∈ O → rkC c < 4) → cl + q0 + O.length ≤ i → q0 + O.length ≤ 10 * o + 2 → (∀ i' ds, gs = some (i', ds) → ∃ (V' : am_U) (ph' : Int), phT kk vv i' ph' ∧ rF V' T L i' b (cl + e1.length) f kd ph' 0 1 (o + 1 + nNot p1) q0 (p1 ++ (-22) :: O) ∧ emR V V' b cl e1 ∧ kB V V' f q0 ∧ lpB N X d V V') ∧ (gs = none → ltB N X d V fk1 fp1) := fun d V b cl f kd q0 O hb hf hts hF hO hcl hq => by
      obtain ⟨hx, run1⟩ := opB d V b cl f kd q0 O hf hts hF
      obtain ⟨c1, c2, c3, c4, c5, c6, ⟨c7, c8, c9, c10⟩, c11⟩ := hF
      obtain ⟨Z, hZ⟩ : ∃ Z, Z = am_upd V 86 47 ((o + 1 : Nat) : Int) := ⟨_, rfl⟩
      have zr : ∀ r, r ≠ 86 → Z r = V r := fun r hr => by rw [hZ, upd_row hr]
      have zj : ∀ j, j ≠ 47 → Z 86 j = V 86 j := fun j q => by rw [hZ, upd_ne q]
      obtain ⟨V1, h1, h2, h3, h4⟩ := ct_hold1 (N := N) (X := X) (d := d + 4) (V := Z) (c := -22) (hst_cg c11 (zr 118 (by decide)) (zj 49 (by decide))) (by omega) (by unfold isOp; decide)
      have r1 : ∀ r, r ≠ 86 → r ≠ 118 → V1 r = V r := fun r q1 q2 => by rw [← zr r q1]; exact funext fun j => h4 r j q2 (fun z => q1 z.1)
      have j1 : ∀ j, j ≠ 49 → V1 86 j = Z 86 j := fun j q => h4 86 j (by decide) (by omega)
      obtain ⟨W2, l1, l2, l3⟩ := ct_ahead1 (N := N) (X := X) (d := d + 3) hk (rT_cg c1 (r1 87 (by decide) (by decide)) (fun j q1 _ => by rw [j1 j (by omega), zj j (by omega)]) : rT V1 T L i)
      have yr : ∀ r, r ≠ 86 → W2 r = V1 r := fun r hr => fA6_row l2 hr
      have w86 : ∀ j, j ≠ 3 → j ≠ 4 → j ≠ 5 → j ≠ 6 → j ≠ 7 → j ≠ 12 → j ≠ 49 → j ≠ 47 → W2 86 j = V 86 j := fun j q1 q2 q3 q4 q5 q6 q7 q8 => by rw [l2 86 j (by omega), j1 j q7, zj j q8]
      have yq : ∀ r, r ≠ 86 → r ≠ 118 → W2 r = V r := fun r q1 q2 => by rw [yr r q1, r1 r q1 q2]
      have hF2 : rF W2 T L (i + 1) b cl f kd 0 1 0 (o + 1) q0 ((-22) :: O) := ⟨l3, by rw [w86 40 (by decide) (by decide) (by decide) (by decide) (by decide) (by decide) (by decide) (by decide)]; exact c2, by rw [w86 39 (by decide) (by decide) (by decide) (by decide) (by decide) (by decide) (by decide) (by decide)]; exact c3, by rw [w86 46 (by decide) (by decide) (by decide) (by decide) (by decide) (by decide) (by decide) (by decide)]; exact c4, by rw [l2 86 47 (by decide), j1 47 (by decide), hZ, upd_at], by rw [w86 50 (by decide) (by decide) (by decide) (by decide) (by decide) (by decide) (by decide) (by decide)]; exact c6, ⟨by rw [yq 113 (by decide) (by decide)]; exact c7, by rw [yq 114 (by decide) (by decide)]; exact c8, by rw [yq 115 (by decide) (by decide)]; exact c9, by rw [yq 117 (by decide) (by decide)]; exact c10⟩, hst_cg h2 (yr 118 (by decide)) (l2 86 49 (by decide))⟩
      obtain ⟨g1, g2, g3⟩ := rF_50 hF2 0
      have run2 : EvK N X (M_operand_s0 (d + 5) V) (rI 0 W2) := run1 _ ⟨fun _ => M_operand_r79 ⟨fun _ => ⟨V1, by rw [c5, w32_succ (i := o) (by omega), ← hZ]; exact h1, W2, l1, rfl⟩, fun z => absurd z (by rw [c1.2.2]; decide)⟩, fun z => absurd z (by rw [c5]; omega)⟩
      have lp1 : lpB N X d V (am_upd W2 86 50 0) := fun R hR => loop_op c6 run2 (Or.inl rfl) (fun z => absurd l3.2.2 z) (fun _ => hR)
      have kW : kB V W2 f q0 := ⟨⟨fun r j e => by
        have n118 : r ≠ 118 := fun z => by subst z; rw [scZ_row (by omega)] at e; exact absurd e (by decide)
        rw [(fZ_A6 l2).1 r j e, h4 r j n118 (fun z => by obtain ⟨rfl, rfl⟩ := z; simp [scZ] at e), hZ]
        exact (fZ_upd rfl (fZ_refl V) : fZ V _).1 r j e, fun j _ => by rw [yq 111 (by decide) (by decide), yq 112 (by decide) (by decide)]; exact ⟨rfl, rfl⟩⟩, fun g hg => by
        rw [yq 113 (by decide) (by decide), yq 114 (by decide) (by decide), yq 115 (by decide) (by decide), yq 116 (by decide) (by decide), yq 117 (by decide) (by decide)]
        exact ⟨rfl, rfl, rfl, rfl, rfl⟩, by rw [yq 116 (by decide) (by decide)], fun j hj => by rw [yr 118 (by decide), h3 j hj, zr 118 (by decide)]⟩
      have eW : emR V (am_upd W2 86 50 0) b cl [] := emR_nil (by rw [upd_ne (by decide)]; exact hF2.2.2.1) (by rw [upd_row (by decide), yq 111 (by decide) (by decide)]) (by rw [upd_row (by decide), yq 112 (by decide) (by decide)])
      obtain ⟨y1, y2⟩ := x4 d (am_upd W2 86 50 0) b cl f kd q0 ((-22) :: O) hb (by omega) (by omega) hts g1 (fun c hc => by
        rcases List.mem_cons.mp hc with rfl | z
        · decide
        · exact hO c z) (by simp only [List.length_cons]; omega) (by simp only [List.length_cons]; omega)
      refine ⟨fun i' ds e => ?_, fun e => ltB_of (fZ_trans kW.1 (g2 f q0).1) lp1 (y2 e)⟩
      obtain ⟨V3, ph', z0, z1, z2, z3, z4⟩ := y1 i' ds e
      have t1 := emR_app eW z2 (by simp; omega)
      rw [List.nil_append] at t1
      exact ⟨V3, ph', z0, z1, t1, kB_trans kW (kB_trans (g2 f q0) z3), fun R hR => lp1 R (z4 R hR)⟩
    cases hg : gs with
    | none =>
      refine ⟨none, fk1, fp1, [], [], fun _ => x1 hg, (fun i' ds e => by cases e), fun d U cl hcS hcl hle => ?_, fun d V b cl f kd q0 O hb hf ho' hts hF hO hcl hq => ⟨(fun i' ds e => by cases e), fun _ => (stB d V b cl f kd q0 O hb hf hts hF hO hcl hq).2 hg⟩⟩
      obtain ⟨U2, r, y1, y2, y3, y4⟩ := stA d U cl hcS hcl hle
      obtain ⟨z1, z2, z3⟩ := y3 hg
      exact ⟨U2, 0, y4 _ ⟨fun _ => Rd_readFact_r43 rfl, fun z => absurd z1 z⟩, y1, (fun i' ds e => by cases e), fun _ => ⟨rfl, z2, z3⟩⟩
    | some pr =>
      obtain ⟨i2, ds⟩ := pr
      obtain ⟨w1, w2, w3, w4, w5, w6, w7, w8'⟩ := x2 i2 ds hg
      refine ⟨some (i2, ds ++ [-22]), 0, 0, e1, p1 ++ [-22], (fun e => by cases e), fun i' ds' e => ?_, fun d U cl hcS hcl hle => ?_, fun d V b cl f kd q0 O hb hf ho' hts hF hO hcl hq => ⟨fun i' ds' e => ?_, (fun e => by cases e)⟩⟩
      · obtain ⟨rfl, rfl⟩ : i2 = i' ∧ ds ++ [-22] = ds' := by simpa using e
        refine ⟨by omega, w2, by simp only [List.length_append, List.length_cons, List.length_nil]; omega, fun t ht => ?_, by rw [w5, List.append_assoc], fun c hc => ?_, by simp only [List.length_append, List.length_cons, List.length_nil]; omega, trivial⟩
        · rw [tyl_app (w4 t (by omega))]
          exact tyl_one (show tyc (-22) (true :: t) = some (true :: t) from rfl) (by simp only [List.length_cons]; omega)
        · rcases List.mem_append.mp hc with z | z
          · exact w6 c z
          · rw [List.mem_singleton] at z; rw [z]; decide
      · obtain ⟨U2, r, y1, y2, y3, y4⟩ := stA d U cl hcS hcl hle
        obtain ⟨z1, z2, z3⟩ := y2 i2 ds hg
        obtain ⟨U3, m1, m2, m3, m4⟩ := ct_emitWord (N := N) (X := X) (d := d + (10 * (8 - o) + 5)) (cl := cl + ds.length) z3.1 (by omega) z2 21 (by omega)
        refine ⟨U3, 1, y4 _ ⟨fun z => absurd z (by rw [z1]; decide), fun _ => ⟨1, U3, m1, fun z => absurd z (by decide), fun _ => rfl⟩⟩, fE_trans y1 m2, fun i' ds' e => ?_, (fun e => by cases e)⟩
        obtain ⟨rfl, rfl⟩ : i2 = i' ∧ ds ++ [-22] = ds' := by simpa using e
        exact ⟨rfl, m3, emW_app z3 m4⟩
      · obtain ⟨rfl, rfl⟩ : i2 = i' ∧ ds ++ [-22] = ds' := by simpa using e
        obtain ⟨V3, ph', z0, z1, z2, z3, z4⟩ := (stB d V b cl f kd q0 O hb hf hts hF hO hcl hq).1 i2 ds hg
        refine ⟨V3, ph', z0, ?_, z2, z3, z4⟩
        rw [nNot_end, List.append_assoc, ← Nat.add_assoc, Nat.add_right_comm]; exact z1
end FNT
