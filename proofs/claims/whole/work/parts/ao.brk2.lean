/-! facts: a test in square ones, both sides -/
section FB2
variable {N : Nat} {X : Nat → Int} {T : Nat → Int} {L K : Nat} {kk vv : Nat → Int} {bp : Int} {i o : Nat}
theorem fact_brk (hk : tkS T L K kk vv bp) (hi : i ≤ K) (ho : o ≤ 7) (h4 : kk i = 4 ∧ vv i = 91) (hS : o < 7 → ∀ j, i < j → j ≤ K → TestC N X T L K kk vv bp j (o + 1)) : FactC N X T L K kk vv bp i o := by
  have hK : K ≤ 1600 := Nat.le_trans hk.2.1 hk.1
  have iK : i < K := tk_lt hk hi (by omega)
  -- the reference comes to the opening
  have opB : ∀ (d : Nat) (V : am_U) (b cl f : Nat) (kd : Int) (q0 : Nat) (O : List Int), f ≤ o → isTs kd → rF V T L i b cl f kd 0 1 0 o q0 O → rF (am_upd V 115 f 0) T L i b cl f kd 0 0 0 o q0 O ∧ kB V (am_upd V 115 f 0) f q0 ∧ emR V (am_upd V 115 f 0) b cl [] ∧ ∀ V1, EvK N X (M_opens_s0 (d + 4) 5 (am_upd V 115 f 0)) (rV V1) → EvK N X (M_operand_s0 (d + 5) V) (rI 0 V1) := fun d V b cl f kd q0 O hf hts hF => by
    have hx : V 86 12 = -1 := by
      rcases Int.decEq (V 86 12) (-1) with z | z
      · have := (rT_bad hk hF.1 hi z).1
        omega
      · exact z
    obtain ⟨hF0, kb0, em0⟩ := rF_bg hF
    have hx0 : am_upd V 115 f 0 86 12 = -1 := by rw [upd_row (by decide)]; exact hx
    have e46 : eqI (w32 (V 86 46 - 1)) ((f : Nat) : Int) := by show _ = _; rw [hF.2.2.2.1, w32_eq (by omega) (by omega)]; omega
    have w21 := ct_isWord1 (N := N) (X := X) (d := d + 4) hk hF.1 hi hx 21 (by decide)
    rw [b2i_f (fun z => by omega)] at w21
    have sg := ct_isSign1 (N := N) (X := X) (d := d + 4) hk hF0.1 hi hx0 91 (by decide)
    rw [b2i_t h4] at sg
    refine ⟨hF0, kb0, em0, fun V1 h => M_operand_r0 ⟨V, ct_lex1 (d := d + 3) hx, fun _ => ?_, fun z => absurd z (by rw [hF.1.2.2]; omega)⟩⟩
    rw [eqI_o e46, Int.toNat_natCast, hF.2.2.2.2.2.2.1.1]
    refine ⟨by omega, _, V, ct_isTest1, fun z => absurd hts (cb_eq.mp z), fun _ => ⟨fun z => absurd z (by rw [hF.2.2.2.2.2.2.1.2.2.1]; decide), fun _ => ?_⟩⟩
    refine M_operand_r46 ⟨fun z => absurd z (by decide), fun _ => ⟨0, V, w21, fun _ => ?_, fun z => absurd rfl z⟩⟩
    exact M_operand_r110 ⟨by omega, fun z => absurd z (by decide), fun _ => ⟨1, am_upd V 115 f 0, by rw [Int.toNat_natCast]; exact sg, fun z => absurd z (by decide), fun _ => ⟨V1, h, rfl⟩⟩⟩
  by_cases o7 : o = 7
  · refine ⟨none, 5, (plS1 T L i : Nat), [], [], fun _ => by decide, (fun i' ds e => by cases e), fun d U cl hcS hcl hle => ?_, fun d V b cl f kd q0 O hb hf ho' hts hF hO hcl hq => ⟨(fun i' ds e => by cases e), fun _ => ?_⟩⟩
    · have w21 := ct_Rd_isOwn (N := N) (X := X) (d := d + (10 * (8 - o) + 6)) hcS 21
      rw [b2i_f (fun z => by omega)] at w21
      have s91 := ct_Rd_isSign (N := N) (X := X) (d := d + (10 * (8 - o) + 6)) hcS 91
      rw [b2i_t h4] at s91
      obtain ⟨U1, m1, m2, m3, m4⟩ := ct_refuseFor (N := N) (X := X) (d := d + (10 * (8 - o) + 5)) (U := U) 5 (U 26 9)
      exact ⟨U1, 0, Rd_readFact_r0 ⟨0, U, w21, fun _ => ⟨1, U, s91, fun z => absurd z (by decide), fun _ => ⟨0, U1, Rd_opens_r0 ⟨fun z => absurd z (by omega), fun _ => ⟨0, U1, m1, Or.inl rfl, rfl⟩⟩, fun _ => Rd_readFact_r85 rfl, fun z => absurd rfl z⟩⟩, fun z => absurd rfl z⟩, fE_fN m2, (fun i' ds e => by cases e), fun _ => ⟨rfl, m3, by rw [m4]; exact hcS.2.2.2.2.2.2.2⟩⟩
    · obtain ⟨hF0, kb0, em0, run1⟩ := opB d V b cl f kd q0 O hf hts hF
      have op7 := ct_open7 (N := N) (X := X) (d := d + 1) hF0.1 (by rw [hF0.2.2.2.2.1, o7]; rfl) 5
      exact ⟨_, fZ_upd rfl (fZ_upd rfl (fZ_upd rfl kb0.1)), by rw [upd_ne (by decide), upd_ne (by decide), upd_at], by rw [upd_ne (by decide), upd_at], fun R hR => loop_op hF.2.2.2.2.2.1 (run1 _ op7) (Or.inl rfl) (fun _ => hR) (fun z => absurd z (by rw [upd_ne (by decide), upd_at]; decide))⟩
  · have o6 : o < 7 := by omega
    obtain ⟨gs, fk1, fp1, e1, p1, x1, x2, x3, x4⟩ := hS o6 (i + 1) (by omega) (by omega)
    have ed : ∀ d : Nat, d + (10 * (8 - o) + 6) = (d + 7) + (10 * (8 - (o + 1)) + 9) := fun d => by omega
    -- the class opens and reads the test
    have stA : ∀ (d : Nat) (U : am_U) (cl : Nat), cS U T L K kk vv bp i → U 31 18 = (cl : Nat) → cl ≤ i → ∃ (U2 : am_U) (r : Int), fE U U2 ∧ (∀ i' ds, gs = some (i', ds) → r = 1 ∧ cS U2 T L K kk vv bp i' ∧ emW U U2 cl ds) ∧ (gs = none → r = 0 ∧ U2 26 4 = fk1 ∧ U2 26 5 = fp1) ∧ ∀ R, (((r = 0) → EvK N X (Rd_readFact_s85 (d + (10 * (8 - o) + 7)) (o : Nat) U2) R) ∧ ((r ≠ 0) → ∃ (r21 : Int) (U21 : am_U), EvK N X (Rd_takeSign_s0 (d + (10 * (8 - o) + 6)) 93 U2) (rI r21 U21) ∧ ((r21 = 0) → EvK N X (Rd_readFact_s85 (d + (10 * (8 - o) + 7)) (o : Nat) U21) R) ∧ ((r21 ≠ 0) → R = rI 1 U21))) → EvK N X (Rd_readFact_s0 (d + (10 * (8 - o) + 7)) (o : Nat) U) R := fun d U cl hcS hcl hle => by
      have w21 := ct_Rd_isOwn (N := N) (X := X) (d := d + (10 * (8 - o) + 6)) hcS 21
      rw [b2i_f (fun z => by omega)] at w21
      have s91 := ct_Rd_isSign (N := N) (X := X) (d := d + (10 * (8 - o) + 6)) hcS 91
      rw [b2i_t h4] at s91
      obtain ⟨U1, n1, n2, n3⟩ := ct_Rd_next (N := N) (X := X) (d := d + (10 * (8 - o) + 5)) (by omega) hK hcS iK
      obtain ⟨U2, r, y1, y2, y3, y4⟩ := x3 (d + 7) U1 cl n3 (by rw [n2 31 18 (by omega)]; exact hcl) (by omega)
      rw [← ed d] at y1
      refine ⟨U2, r, fE_trans (fE_fN n2) y2, fun i' ds e => ?_, y4, fun R hR => Rd_readFact_r0 ⟨0, U, w21, fun _ => ⟨1, U, s91, fun z => absurd z (by decide), fun _ => ⟨1, U1, Rd_opens_r0 ⟨fun _ => ⟨U1, n1, rfl⟩, fun z => absurd z (by omega)⟩, fun z => absurd z (by decide), fun _ => ⟨r, U2, ?_, hR⟩⟩⟩, fun z => absurd rfl z⟩⟩
      · obtain ⟨z1, z2, z3⟩ := y3 i' ds e
        exact ⟨z1, z2, emW_fN1 n2 z3⟩
      · rw [w32_succ (i := o) (by omega)]; exact y1
    -- the reference opens and reads the test
    have stB : ∀ (d : Nat) (V : am_U) (b cl f : Nat) (kd : Int) (q0 : Nat) (O : List Int), b < 2 → f ≤ o → isTs kd → rF V T L i b cl f kd 0 1 0 o q0 O → cl + q0 + O.length ≤ i → q0 + O.length ≤ 10 * o + 2 → (∀ i' ds, gs = some (i', ds) → ∃ (V' : am_U) (ph' : Int), phT kk vv i' ph' ∧ rF V' T L i' b (cl + e1.length) (f + 1) 5 ph' 0 1 (o + 1 + nNot p1) (q0 + O.length) p1 ∧ emR V V' b cl e1 ∧ kB V V' f q0 ∧ lowF V' f kd 0 0 q0 O (q0 + O.length) ∧ lpB N X d V V') ∧ (gs = none → ltB N X d V fk1 fp1) := fun d V b cl f kd q0 O hb hf hts hF hcl hq => by
      obtain ⟨hF0, kb0, em0, run1⟩ := opB d V b cl f kd q0 O hf hts hF
      obtain ⟨V1, k1, k2, k3, k4, k5, k6, k7⟩ := open_B (N := N) (X := X) (d := d + 1) (kn := 5) hk hF0 (by omega) o6 (by omega) (show cl ≤ 1600 by omega)
      have lp1 : lpB N X d V (am_upd V1 86 50 0) := fun R hR => loop_op hF.2.2.2.2.2.1 (run1 _ k1) (Or.inl rfl) (fun z => absurd k6 z) (fun _ => hR)
      obtain ⟨y1, y2⟩ := x4 d (am_upd V1 86 50 0) b cl (f + 1) 5 (q0 + O.length) [] hb (by omega) (by omega) (Or.inr rfl) k2 (fun c hc => by cases hc) (by simp; omega) (by simp; omega)
      refine ⟨fun i' ds e => ?_, fun e => ltB_of (fZ_trans kb0.1 k4.1) lp1 (y2 e)⟩
      obtain ⟨V2, ph', z0, z1, z2, z3, z4⟩ := y1 i' ds e
      rw [List.append_nil] at z1
      have t1 := emR_app k3 z2 (by simp; omega)
      rw [List.nil_append] at t1
      have t2 := emR_app em0 t1 (by simp; omega)
      rw [List.nil_append] at t2
      exact ⟨V2, ph', z0, z1, t2, kB_trans kb0 (kB_trans k4 (kB_down z3 (by omega))), lowF_kB k5 z3, fun R hR => lp1 R (z4 R hR)⟩
    cases hg : gs with
    | none =>
      refine ⟨none, fk1, fp1, [], [], fun _ => x1 hg, (fun i' ds e => by cases e), fun d U cl hcS hcl hle => ?_, fun d V b cl f kd q0 O hb hf ho' hts hF hO hcl hq => ⟨(fun i' ds e => by cases e), fun _ => (stB d V b cl f kd q0 O hb hf hts hF hcl hq).2 hg⟩⟩
      obtain ⟨U2, r, y1, y2, y3, y4⟩ := stA d U cl hcS hcl hle
      obtain ⟨z1, z2, z3⟩ := y3 hg
      exact ⟨U2, 0, y4 _ ⟨fun _ => Rd_readFact_r85 rfl, fun z => absurd z1 z⟩, y1, (fun i' ds e => by cases e), fun _ => ⟨rfl, z2, z3⟩⟩
    | some pr =>
      obtain ⟨i2, ds⟩ := pr
      obtain ⟨w1, w2, w3, w4, w5, w6, w7, w8'⟩ := x2 i2 ds hg
      have lds : ds.length = e1.length + p1.length := by rw [w5, List.length_append]
      by_cases cl4 : kk i2 = 4 ∧ vv i2 = 93
      · have i2K : i2 < K := tk_lt hk w2 (by omega)
        refine ⟨some (i2 + 1, ds), 0, 0, ds, [], (fun e => by cases e), fun i' ds' e => ?_, fun d U cl hcS hcl hle => ?_, fun d V b cl f kd q0 O hb hf ho' hts hF hO hcl hq => ⟨fun i' ds' e => ?_, (fun e => by cases e)⟩⟩
        · obtain ⟨rfl, rfl⟩ : i2 + 1 = i' ∧ ds = ds' := by simpa using e
          exact ⟨by omega, by omega, by omega, fun t ht => w4 t (by omega), by simp, (fun c' h => by cases h), by simp, trivial⟩
        · obtain ⟨U2, r, y1, y2, y3, y4⟩ := stA d U cl hcS hcl hle
          obtain ⟨z1, z2, z3⟩ := y2 i2 ds hg
          obtain ⟨U3, t1, t2, t3, t4⟩ := (ct_takeSign (N := N) (X := X) (d := d + (10 * (8 - o) + 5)) (by omega) hk z2 93).1 cl4
          refine ⟨U3, 1, y4 _ ⟨fun z => absurd z (by rw [z1]; decide), fun _ => ⟨1, U3, t1, fun z => absurd z (by decide), fun _ => rfl⟩⟩, fE_trans y1 (fE_fN t2), fun i' ds' e => ?_, (fun e => by cases e)⟩
          obtain ⟨rfl, rfl⟩ : i2 + 1 = i' ∧ ds = ds' := by simpa using e
          exact ⟨rfl, t3, emW_fN2 z3 t2⟩
        · obtain ⟨rfl, rfl⟩ : i2 + 1 = i' ∧ ds = ds' := by simpa using e
          obtain ⟨V2, ph', z0, z1, z2, z3, z4, z5⟩ := (stB d V b cl f kd q0 O hb hf hts hF hcl hq).1 i2 ds hg
          obtain ⟨V3, u1, u2, u3, u4⟩ := (brk_end (N := N) (X := X) (d := d) hk w2 hb (by omega) (by omega) z1 z0 w8' w6 (by omega) (by omega) (by omega) z4).1 cl4
          refine ⟨V3, 2, Or.inr rfl, ?_, ?_, kB_trans z3 u3, fun R hR => z5 R (u4 R hR)⟩
          · rw [lds, ← Nat.add_assoc]; exact u1
          · have t1 := emR_app z2 u2 (by omega)
            rw [← w5] at t1; exact t1
      · refine ⟨none, 1, fpl T L kk bp i2, [], [], fun _ => by decide, (fun i' ds' e => by cases e), fun d U cl hcS hcl hle => ?_, fun d V b cl f kd q0 O hb hf ho' hts hF hO hcl hq => ⟨(fun i' ds' e => by cases e), fun _ => ?_⟩⟩
        · obtain ⟨U2, r, y1, y2, y3, y4⟩ := stA d U cl hcS hcl hle
          obtain ⟨z1, z2, z3⟩ := y2 i2 ds hg
          obtain ⟨U3, t1, t2, t3, t4⟩ := (ct_takeSign (N := N) (X := X) (d := d + (10 * (8 - o) + 5)) (by omega) hk z2 93).2 cl4
          exact ⟨U3, 0, y4 _ ⟨fun z => absurd z (by rw [z1]; decide), fun _ => ⟨0, U3, t1, fun _ => Rd_readFact_r85 rfl, fun z => absurd rfl z⟩⟩, fE_trans y1 (fE_fN t2), (fun i' ds' e => by cases e), fun _ => ⟨rfl, t3, t4⟩⟩
        · obtain ⟨V2, ph', z0, z1, z2, z3, z4, z5⟩ := (stB d V b cl f kd q0 O hb hf hts hF hcl hq).1 i2 ds hg
          exact ltB_of z3.1 z5 ((brk_end (N := N) (X := X) (d := d) hk w2 hb (by omega) (by omega) z1 z0 w8' w6 (by omega) (by omega) (by omega) z4).2 cl4)
end FB2
