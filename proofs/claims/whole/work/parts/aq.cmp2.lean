/-! facts: two sums held against each other, both sides -/
section FC2
variable {N : Nat} {X : Nat → Int} {T : Nat → Int} {L K : Nat} {kk vv : Nat → Int} {bp : Int} {i o : Nat}
theorem fact_cmp (hk : tkS T L K kk vv bp) (hi : i ≤ K) (ho : o ≤ 7) (hn : noFst kk vv i) : FactC N X T L K kk vv bp i o := by
  have hK : K ≤ 1600 := Nat.le_trans hk.2.1 hk.1
  obtain ⟨gs, fk1, fp1, e1, p1, x1, x2, x3, x4⟩ := sum_all (N := N) (X := X) hk (7 - o) o (by omega) i hi
  -- the class reads the first sum
  have stA : ∀ (d : Nat) (U : am_U) (cl : Nat), cS U T L K kk vv bp i → U 31 18 = (cl : Nat) → cl ≤ i → ∃ (U9 : am_U) (r9 : Int), fE U U9 ∧ (∀ i' ds, gs = some (i', ds) → r9 = 1 ∧ cS U9 T L K kk vv bp i' ∧ emW U U9 cl ds) ∧ (gs = none → r9 = 0 ∧ U9 26 4 = fk1 ∧ U9 26 5 = fp1) ∧ ∀ R, (((r9 ≠ 0) → ∃ (r10 : Int) (U10 : am_U), EvK N X (Rd_isSign_s0 (d + (10 * (8 - o) + 6)) 60 U9) (rI r10 U10) ∧ ((r10 ≠ 0) → EvK N X (Rd_readFact_s209 (d + (10 * (8 - o) + 7)) (o : Nat) (U9 26 8) U10) R) ∧ ((r10 = 0) → ∃ (r11 : Int) (U11 : am_U), EvK N X (Rd_isSign_s0 (d + (10 * (8 - o) + 6)) 62 U10) (rI r11 U11) ∧ ((r11 ≠ 0) → EvK N X (Rd_readFact_s209 (d + (10 * (8 - o) + 7)) (o : Nat) (U9 26 8) U11) R) ∧ ((r11 = 0) → ∃ (r12 : Int) (U12 : am_U), EvK N X (Rd_isSign_s0 (d + (10 * (8 - o) + 6)) 61 U11) (rI r12 U12) ∧ ((r12 ≠ 0) → EvK N X (Rd_readFact_s209 (d + (10 * (8 - o) + 7)) (o : Nat) (U9 26 8) U12) R) ∧ ((r12 = 0) → ∃ (r13 : Int) (U13 : am_U), EvK N X (Rd_refuseHere_s0 (d + (10 * (8 - o) + 6)) U12) (rI r13 U13) ∧ (r13 = 0 ∨ r13 = 1) ∧ R = rI r13 U13)))) ∧ ((r9 = 0) → R = rI 0 U9)) → EvK N X (Rd_readFact_s0 (d + (10 * (8 - o) + 7)) (o : Nat) U) R := fun d U cl hcS hcl hle => by
    have iw := ct_Rd_isOwn (N := N) (X := X) (d := d + (10 * (8 - o) + 6)) hcS
    have s91 := ct_Rd_isSign (N := N) (X := X) (d := d + (10 * (8 - o) + 6)) hcS 91
    rw [b2i_f hn.2.1] at s91
    have w21 := iw 21
    rw [b2i_f hn.1] at w21
    have w22 := iw 22
    rw [b2i_f hn.2.2.1] at w22
    have w17 := iw 17
    rw [b2i_f hn.2.2.2.1] at w17
    have w18 := iw 18
    rw [b2i_f hn.2.2.2.2] at w18
    obtain ⟨U9, r, y1, y2, y3, y4⟩ := x3 d U cl hcS hcl hle
    exact ⟨U9, r, y2, y3, y4, fun R hR => Rd_readFact_r0 ⟨0, U, w21, fun _ => ⟨0, U, s91, fun _ => ⟨0, U, w22, fun _ => ⟨0, U, w17, fun z => absurd rfl z, fun _ => ⟨0, U, w18, fun _ => ⟨r, U9, y1, hR⟩, fun z => absurd rfl z⟩⟩, fun z => absurd rfl z⟩, fun z => absurd rfl z⟩, fun z => absurd rfl z⟩⟩
  -- the reference reads the first sum
  have stB : ∀ (d : Nat) (V : am_U) (b cl f : Nat) (kd : Int) (q0 : Nat) (O : List Int), b < 2 → f ≤ o → isTs kd → rF V T L i b cl f kd 0 1 0 o q0 O → (∀ c, c ∈ O → rkC c < 4) → cl + q0 + O.length ≤ i → q0 + O.length ≤ 10 * o + 2 → (∀ i' ds, gs = some (i', ds) → ∃ V', rF V' T L i' b (cl + e1.length) f kd 0 0 1 o q0 (p1 ++ O) ∧ emR V V' b cl e1 ∧ kB V V' f q0 ∧ lpB N X d V V') ∧ (gs = none → ltB N X d V fk1 fp1) := fun d V b cl f kd q0 O hb hf hts hF hO hcl hq => x4 d V b cl f kd 0 1 q0 O hb hf ho ⟨Or.inl rfl, fun _ _ => hn⟩ hF (fun c hc => by have := hO c hc; omega) hcl (by omega)
  cases hg : gs with
  | none =>
    refine ⟨none, fk1, fp1, [], [], fun _ => x1 hg, (fun i' ds e => by cases e), fun d U cl hcS hcl hle => ?_, fun d V b cl f kd q0 O hb hf ho' hts hF hO hcl hq => ⟨(fun i' ds e => by cases e), fun _ => (stB d V b cl f kd q0 O hb hf hts hF hO hcl hq).2 hg⟩⟩
    obtain ⟨U2, r, y1, y2, y3, y4⟩ := stA d U cl hcS hcl hle
    obtain ⟨z1, z2, z3⟩ := y3 hg
    exact ⟨U2, 0, y4 _ ⟨fun z => absurd z1 z, fun _ => rfl⟩, y1, (fun i' ds e => by cases e), fun _ => ⟨rfl, z2, z3⟩⟩
  | some pr =>
    obtain ⟨i2, ds⟩ := pr
    obtain ⟨w1, w2, w3, w4, w5, w6, w7, w8'⟩ := x2 i2 ds hg
    have lds : ds.length = e1.length + p1.length := by rw [w5, List.length_append]
    by_cases hc : kk i2 = 4 ∧ isCm (vv i2)
    · have i2K : i2 < K := tk_lt hk w2 (by omega)
      have vb : 0 ≤ vv i2 ∧ vv i2 < 256 := by rcases hc.2 with e | e | e <;> omega
      have rk4 : rkC (-100 - vv i2) = 4 := by rcases hc.2 with e | e | e <;> rw [e] <;> decide
      have tyo : ∀ t : List Bool, tyc (-100 - vv i2) (false :: false :: t) = some (true :: t) := fun t => by rcases hc.2 with e | e | e <;> rw [e] <;> rfl
      obtain ⟨gt, fk2, fp2, e2, p2, u1, u2, u3, u4⟩ := sum_all (N := N) (X := X) hk (7 - o) o (by omega) (i2 + 1) (by omega)
      have stA2 : ∀ (d : Nat) (U : am_U) (cl : Nat), cS U T L K kk vv bp i → U 31 18 = (cl : Nat) → cl ≤ i → ∃ (U9 : am_U) (r9 : Int), fE U U9 ∧ (∀ i' ds', gt = some (i', ds') → r9 = 1 ∧ cS U9 T L K kk vv bp i' ∧ emW U U9 cl (ds ++ ds')) ∧ (gt = none → r9 = 0 ∧ U9 26 4 = fk2 ∧ U9 26 5 = fp2) ∧ ∀ R, (((r9 = 0) → R = rI 0 U9) ∧ ((r9 ≠ 0) → ∃ (r3 : Int) (U3 : am_U), EvK N X (Tw_emitSign_s0 (d + (10 * (8 - o) + 6)) (vv i2) U9) (rI r3 U3) ∧ ((r3 = 0) → R = rI 0 U3) ∧ ((r3 ≠ 0) → R = rI 1 U3))) → EvK N X (Rd_readFact_s0 (d + (10 * (8 - o) + 7)) (o : Nat) U) R := fun d U cl hcS hcl hle => by
        obtain ⟨U2, r, y1, y2, y3, y4⟩ := stA d U cl hcS hcl hle
        obtain ⟨z1, z2, z3⟩ := y2 i2 ds hg
        have e8 := z2.2.2.2.2.2.2.1
        obtain ⟨U3, n1, n2, n3⟩ := ct_Rd_next (N := N) (X := X) (d := d + (10 * (8 - o) + 6)) (by omega) hK z2 i2K
        obtain ⟨U4, r4, q1, q2, q3, q4⟩ := u3 d U3 (cl + ds.length) n3 (by rw [n2 31 18 (by omega)]; exact z3.1) (by omega)
        have sg := fun c => ct_Rd_isSign (N := N) (X := X) (d := d + (10 * (8 - o) + 6)) z2 c
        refine ⟨U4, r4, fE_trans y1 (fE_trans (fE_fN n2) q2), fun i' ds' e => ?_, q4, fun R hR => ?_⟩
        · obtain ⟨t1, t2, t3⟩ := q3 i' ds' e
          exact ⟨t1, t2, emW_app z3 (emW_fN1 n2 t3)⟩
        · have s209 : EvK N X (Rd_readFact_s209 (d + (10 * (8 - o) + 7)) (o : Nat) (U2 26 8) U2) R := Rd_readFact_r209 ⟨U3, n1, r4, U4, q1, by rw [e8]; exact hR⟩
          refine y4 R ⟨fun _ => ⟨_, U2, sg 60, fun _ => s209, fun c1 => ⟨_, U2, sg 62, fun _ => s209, fun c2 => ⟨_, U2, sg 61, fun _ => s209, fun c3 => ?_⟩⟩⟩, fun z => absurd z (by rw [z1]; decide)⟩
          have t1 := b2i_eq.mp c1
          have t2 := b2i_eq.mp c2
          have t3 := b2i_eq.mp c3
          exfalso
          rcases hc.2 with e | e | e
          · exact t1 ⟨hc.1, e⟩
          · exact t2 ⟨hc.1, e⟩
          · exact t3 ⟨hc.1, e⟩
      have stB2 : ∀ (d : Nat) (V : am_U) (b cl f : Nat) (kd : Int) (q0 : Nat) (O : List Int), b < 2 → f ≤ o → isTs kd → rF V T L i b cl f kd 0 1 0 o q0 O → (∀ c, c ∈ O → rkC c < 4) → cl + q0 + O.length ≤ i → q0 + O.length ≤ 10 * o + 2 → (∀ i' ds', gt = some (i', ds') → ∃ V', rF V' T L i' b (cl + (ds ++ e2).length) f kd 1 0 1 o q0 (p2 ++ (-100 - vv i2) :: O) ∧ emR V V' b cl (ds ++ e2) ∧ kB V V' f q0 ∧ lpB N X d V V') ∧ (gt = none → ltB N X d V fk2 fp2) := fun d V b cl f kd q0 O hb hf hts hF hO hcl hq => by
        obtain ⟨V2, z1, z2, z3, z4⟩ := (stB d V b cl f kd q0 O hb hf hts hF hO hcl hq).1 i2 ds hg
        obtain ⟨V3, v1, v2, v3, v4⟩ := on_cmp (N := N) (X := X) (d := d) hk i2K hb (by omega) hts z1 w8' hc w6 hO (by omega) (by omega) (by omega) (by omega)
        have em2 := emR_app z2 v2 (by omega)
        rw [← w5] at em2
        rw [show cl + e1.length + p1.length = cl + ds.length by omega] at v1
        have lp2 : lpB N X d V V3 := fun R hR => z4 R (v4 R hR)
        obtain ⟨y1, y2⟩ := u4 d V3 b (cl + ds.length) f kd 1 0 q0 ((-100 - vv i2) :: O) hb hf ho ⟨Or.inr rfl, fun _ z => absurd rfl z⟩ v1 (fun c hc' => by
          rcases List.mem_cons.mp hc' with rfl | z
          · rw [rk4]; decide
          · have := hO c z; omega) (by simp only [List.length_cons]; omega) (by simp only [List.length_cons]; omega)
        refine ⟨fun i' ds' e => ?_, fun e => ltB_of (kB_trans z3 v3).1 lp2 (y2 e)⟩
        obtain ⟨V4, t1, t2, t3, t4⟩ := y1 i' ds' e
        refine ⟨V4, ?_, emR_app em2 t2 (by omega), kB_trans (kB_trans z3 v3) t3, fun R hR => lp2 R (t4 R hR)⟩
        rw [List.length_append, ← Nat.add_assoc]; exact t1
      cases hgt : gt with
      | none =>
        refine ⟨none, fk2, fp2, [], [], fun _ => u1 hgt, (fun i' ds e => by cases e), fun d U cl hcS hcl hle => ?_, fun d V b cl f kd q0 O hb hf ho' hts hF hO hcl hq => ⟨(fun i' ds e => by cases e), fun _ => (stB2 d V b cl f kd q0 O hb hf hts hF hO hcl hq).2 hgt⟩⟩
        obtain ⟨U2, r, y1, y2, y3, y4⟩ := stA2 d U cl hcS hcl hle
        obtain ⟨z1, z2, z3⟩ := y3 hgt
        exact ⟨U2, 0, y4 _ ⟨fun _ => rfl, fun z => absurd z1 z⟩, y1, (fun i' ds e => by cases e), fun _ => ⟨rfl, z2, z3⟩⟩
      | some pr2 =>
        obtain ⟨i3, ds2⟩ := pr2
        obtain ⟨m1, m2, m3, m4, m5, m6, m7, m8⟩ := u2 i3 ds2 hgt
        have lds2 : ds2.length = e2.length + p2.length := by rw [m5, List.length_append]
        refine ⟨some (i3, ds ++ ds2 ++ [-100 - vv i2]), 0, 0, ds ++ e2, p2 ++ [-100 - vv i2], (fun e => by cases e), fun i' ds' e => ?_, fun d U cl hcS hcl hle => ?_, fun d V b cl f kd q0 O hb hf ho' hts hF hO hcl hq => ⟨fun i' ds' e => ?_, (fun e => by cases e)⟩⟩
        · obtain ⟨rfl, rfl⟩ : i3 = i' ∧ ds ++ ds2 ++ [-100 - vv i2] = ds' := by simpa using e
          refine ⟨by omega, m2, by simp only [List.length_append, List.length_cons, List.length_nil]; omega, fun t ht => ?_, by rw [m5]; simp only [List.append_assoc], fun c hc' => ?_, by simp only [List.length_append, List.length_cons, List.length_nil]; omega, trivial⟩
          · rw [List.append_assoc, tyl_app (w4 t (by omega)), tyl_app (m4 (false :: t) (by simp only [List.length_cons]; omega))]
            exact tyl_one (tyo t) (by simp only [List.length_cons]; omega)
          · rcases List.mem_append.mp hc' with z | z
            · have := m6 c z; omega
            · rw [List.mem_singleton] at z; rw [z, rk4]; decide
        · obtain ⟨U2, r, y1, y2, y3, y4⟩ := stA2 d U cl hcS hcl hle
          obtain ⟨z1, z2, z3⟩ := y2 i3 ds2 hgt
          obtain ⟨U3, n1, n2, n3, n4⟩ := ct_emitSign (N := N) (X := X) (d := d + (10 * (8 - o) + 5)) (cl := cl + (ds ++ ds2).length) z3.1 (by rw [List.length_append]; omega) z2 (vv i2) vb
          refine ⟨U3, 1, y4 _ ⟨fun z => absurd z (by rw [z1]; decide), fun _ => ⟨1, U3, n1, fun z => absurd z (by decide), fun _ => rfl⟩⟩, fE_trans y1 n2, fun i' ds' e => ?_, (fun e => by cases e)⟩
          obtain ⟨rfl, rfl⟩ : i3 = i' ∧ ds ++ ds2 ++ [-100 - vv i2] = ds' := by simpa using e
          exact ⟨rfl, n3, emW_app z3 n4⟩
        · obtain ⟨rfl, rfl⟩ : i3 = i' ∧ ds ++ ds2 ++ [-100 - vv i2] = ds' := by simpa using e
          obtain ⟨V3, z1, z2, z3, z4⟩ := (stB2 d V b cl f kd q0 O hb hf hts hF hO hcl hq).1 i3 ds2 hgt
          have nn : nNot (p2 ++ [-100 - vv i2]) = 0 := nNot_0 (fun c hc' => by
            rcases List.mem_append.mp hc' with z | z
            · have := m6 c z; omega
            · rw [List.mem_singleton] at z; rw [z, rk4]; decide)
          refine ⟨V3, 1, Or.inl ⟨rfl, m8⟩, ?_, z2, z3, z4⟩
          rw [nn, List.append_assoc]; exact z1
    · refine ⟨none, 1, fpl T L kk bp i2, [], [], fun _ => by decide, (fun i' ds' e => by cases e), fun d U cl hcS hcl hle => ?_, fun d V b cl f kd q0 O hb hf ho' hts hF hO hcl hq => ⟨(fun i' ds' e => by cases e), fun _ => ?_⟩⟩
      · obtain ⟨U2, r, y1, y2, y3, y4⟩ := stA d U cl hcS hcl hle
        obtain ⟨z1, z2, z3⟩ := y2 i2 ds hg
        have sg : ∀ c, isCm c → EvK N X (Rd_isSign_s0 (d + (10 * (8 - o) + 6)) c U2) (rI 0 U2) := fun c h => by
          have := ct_Rd_isSign (N := N) (X := X) (d := d + (10 * (8 - o) + 6)) z2 c
          rw [b2i_f (fun z => hc ⟨z.1, by rw [z.2]; exact h⟩)] at this; exact this
        obtain ⟨U3, n5, n6, n7, n8⟩ := ct_refuseHere (N := N) (X := X) (d := d + (10 * (8 - o) + 6)) z2
        exact ⟨U3, 0, y4 _ ⟨fun _ => ⟨0, U2, sg 60 (Or.inl rfl), fun z => absurd rfl z, fun _ => ⟨0, U2, sg 62 (Or.inr (Or.inl rfl)), fun z => absurd rfl z, fun _ => ⟨0, U2, sg 61 (Or.inr (Or.inr rfl)), fun z => absurd rfl z, fun _ => ⟨0, U3, n5, Or.inl rfl, rfl⟩⟩⟩⟩, fun z => absurd z (by rw [z1]; decide)⟩, fE_trans y1 (fE_fN n6), (fun i' ds' e => by cases e), fun _ => ⟨rfl, n7, n8⟩⟩
      · obtain ⟨V2, z1, z2, z3, z4⟩ := (stB d V b cl f kd q0 O hb hf hts hF hO hcl hq).1 i2 ds hg
        exact ltB_of z3.1 z4 (no_cmp (N := N) (X := X) (d := d) hk w2 (by omega) hts z1 w8' hc)
/-- a fact, whatever it begins with -/
theorem fact_any (hk : tkS T L K kk vv bp) (hi : i ≤ K) (ho : o ≤ 7) (hS : o < 7 → ∀ j, i < j → j ≤ K → FactC N X T L K kk vv bp j (o + 1)) (hT : o < 7 → ∀ j, i < j → j ≤ K → TestC N X T L K kk vv bp j (o + 1)) : FactC N X T L K kk vv bp i o := by
  by_cases c1 : kk i = 1 ∧ vv i = 21
  · exact fact_not hk hi ho c1 hS
  · by_cases c2 : kk i = 4 ∧ vv i = 91
    · exact fact_brk hk hi ho c2 hT
    · by_cases c3 : kk i = 1 ∧ vv i = 22
      · exact fact_all hk hi ho c3
      · by_cases c4 : kk i = 1 ∧ vv i = 17
        · exact fact_one hk hi ho ⟨c4.1, Or.inl c4.2⟩
        · by_cases c5 : kk i = 1 ∧ vv i = 18
          · exact fact_one hk hi ho ⟨c5.1, Or.inr c5.2⟩
          · exact fact_cmp hk hi ho ⟨c1, c2, c3, c4, c5⟩
end FC2
