/-! parts: a pair read to its end; all parts -/
section TW2
variable {N : Nat} {X : Nat → Int} {L K i o : Nat} {T kk vv : Nat → Int} {bp : Int}
theorem upd_comm {U : am_U} {r r' j j' : Nat} {x y : Int} (h : r ≠ r') : am_upd (am_upd U r j x) r' j' y = am_upd (am_upd U r' j' y) r j x := by
  funext a c
  unfold am_upd
  by_cases h1 : a = r' ∧ c = j'
  · rw [if_pos h1, if_neg (fun z => h (by rw [← z.1, h1.1])), if_pos h1]
  · rw [if_neg h1]
    by_cases h2 : a = r ∧ c = j
    · rw [if_pos h2, if_pos h2]
    · rw [if_neg h2, if_neg h2, if_neg h1]
theorem rF_116 {b cl f q0 g : Nat} {V : am_U} {kd ph bg op x : Int} {S : List Int} (hF : rF V T L i b cl f kd ph bg op o q0 S) : rF (am_upd V 116 g x) T L i b cl f kd ph bg op o q0 S := by
  obtain ⟨a1, a2, a3, a4, a5, a6, ⟨a7, a8, a9, a10⟩, a11⟩ := hF
  have r : ∀ r, r ≠ 116 → am_upd V 116 g x r = V r := fun r hr => upd_row hr
  exact ⟨rT_cg a1 (r 87 (by decide)) (fun j _ _ => by rw [r 86 (by decide)]), by rw [r 86 (by decide)]; exact a2, by rw [r 86 (by decide)]; exact a3, by rw [r 86 (by decide)]; exact a4, by rw [r 86 (by decide)]; exact a5, by rw [r 86 (by decide)]; exact a6, ⟨by rw [r 113 (by decide)]; exact a7, by rw [r 114 (by decide)]; exact a8, by rw [r 115 (by decide)]; exact a9, by rw [r 117 (by decide)]; exact a10⟩, hst_cg a11 (r 118 (by decide)) (by rw [r 86 (by decide)])⟩
theorem part_two (hk : tkS T L K kk vv bp) (hi : i < K) (ho : o < 7) (hw : kk i = 1 ∧ (vv i = 23 ∨ vv i = 24 ∨ vv i = 25)) (h40 : kk (i + 1) = 4 ∧ vv (i + 1) = 40) (hS : ∀ j, i < j → j ≤ K → SumC N X T L K kk vv bp j (o + 1)) : PartC N X T L K kk vv bp i o := by
  have hK : K ≤ 1600 := Nat.le_trans hk.2.1 hk.1
  have i1K : i + 1 < K := tk_lt hk (by omega) (by omega)
  obtain ⟨g1, fk1, fp1, e1, p1, x1, x2, x3, x4⟩ := hS (i + 2) (by omega) (by omega)
  have ed : ∀ d : Nat, d + (10 * (8 - o) + 2) = (d + 6) + (10 * (8 - (o + 1)) + 6) := fun d => by omega
  have hneg : -1 - vv i < 0 := by omega
  -- the class: to the first sum
  have stA : ∀ (d : Nat) (U : am_U) (cl : Nat), cS U T L K kk vv bp i → U 31 18 = (cl : Nat) → cl ≤ i → ∃ (U3 : am_U) (r : Int), fE U U3 ∧ (∀ i' ds, g1 = some (i', ds) → r = 1 ∧ cS U3 T L K kk vv bp i' ∧ emW U U3 cl ds) ∧ (g1 = none → r = 0 ∧ U3 26 4 = fk1 ∧ U3 26 5 = fp1) ∧ ∀ (rt : Int) (Ut : am_U) R, (∀ Rt, Rt = rI rt Ut → ((r = 0 → Rt = rI 0 U3) ∧ (r ≠ 0 → ∃ (r4 : Int) (U4 : am_U), EvK N X (Rd_takeSign_s0 (d + (10 * (8 - o) + 2)) 44 U3) (rI r4 U4) ∧ ((r4 = 0) → Rt = rI 0 U4) ∧ ((r4 ≠ 0) → ∃ (r5 : Int) (U5 : am_U), EvK N X (Rd_readSum_s0 (d + (10 * (8 - o) + 2)) ((o + 1 : Nat) : Int) U4) (rI r5 U5) ∧ ((r5 = 0) → Rt = rI 0 U5) ∧ ((r5 ≠ 0) → ∃ (r6 : Int) (U6 : am_U), EvK N X (Rd_takeSign_s0 (d + (10 * (8 - o) + 2)) 41 U5) (rI r6 U6) ∧ ((r6 = 0) → Rt = rI 0 U6) ∧ ((r6 ≠ 0) → Rt = rI 1 U6)))))) → (((rt = 0) → R = rI 0 Ut) ∧ ((rt ≠ 0) → ∃ (r33 : Int) (U33 : am_U), EvK N X (Tw_emitWord_s0 (d + (10 * (8 - o) + 3)) (vv i) Ut) (rI r33 U33) ∧ ((r33 = 0) → R = rI 0 U33) ∧ ((r33 ≠ 0) → R = rI 1 U33))) → EvK N X (Rd_readPart_s0 (d + (10 * (8 - o) + 4)) (o : Nat) U) R := fun d U cl hcS hcl hle => by
    have e7 := hcS.2.2.2.2.2.1
    have e8 := hcS.2.2.2.2.2.2.1
    obtain ⟨U1, n1, n2, n3⟩ := ct_Rd_next (N := N) (X := X) (d := d + (10 * (8 - o) + 3)) (by omega) hK hcS hi
    have sg0 := ct_Rd_isSign (N := N) (X := X) (d := d + (10 * (8 - o) + 3)) hcS 40
    rw [b2i_f (fun z => by omega)] at sg0
    have sg1 := ct_Rd_isSign (N := N) (X := X) (d := d + (10 * (8 - o) + 2)) n3 40
    rw [b2i_t h40] at sg1
    obtain ⟨U2, m1, m2, m3⟩ := ct_Rd_next (N := N) (X := X) (d := d + (10 * (8 - o) + 1)) (by omega) hK n3 i1K
    obtain ⟨U3, r, y1, y2, y3, y4⟩ := x3 (d + 6) U2 cl m3 (by rw [m2 31 18 (by omega), n2 31 18 (by omega)]; exact hcl) (by omega)
    rw [← ed d] at y1
    have n12 : fN U U2 := fun r j q => by rw [m2 r j q, n2 r j q]
    refine ⟨U3, r, fE_trans (fE_fN n12) y2, fun i' ds e => ?_, y4, fun rt Ut R hT hR => ?_⟩
    · obtain ⟨z1, z2, z3⟩ := y3 i' ds e
      exact ⟨z1, z2, emW_fN1 n12 z3⟩
    · have two : EvK N X (Rd_readTwo_s0 (d + (10 * (8 - o) + 3)) (o : Nat) U1) (rI rt Ut) := by
        have h := hT _ rfl
        refine Rd_readTwo_r0 ⟨1, U1, sg1, fun _ => ⟨1, U2, Rd_opens_r0 ⟨fun _ => ⟨U2, m1, rfl⟩, fun z => absurd z (by omega)⟩, fun z => absurd z (by decide), fun _ => ?_⟩, fun z => absurd z (by decide)⟩
        rw [w32_succ (i := o) (by omega)]
        exact ⟨r, U3, y1, h.1, h.2⟩
      have fin : ∃ U31 : am_U, EvK N X (Rd_next_s0 (d + (10 * (8 - o) + 3)) U) (rV U31) ∧ ∃ (r32 : Int) (U32 : am_U), EvK N X (Rd_readTwo_s0 (d + (10 * (8 - o) + 3)) (o : Nat) U31) (rI r32 U32) ∧ ((r32 = 0) → R = rI 0 U32) ∧ ((r32 ≠ 0) → ∃ (r33 : Int) (U33 : am_U), EvK N X (Tw_emitWord_s0 (d + (10 * (8 - o) + 3)) (U 26 8) U32) (rI r33 U33) ∧ ((r33 = 0) → R = rI 0 U33) ∧ ((r33 ≠ 0) → R = rI 1 U33)) := ⟨U1, n1, rt, Ut, two, hR.1, by rw [e8]; exact hR.2⟩
      refine Rd_readPart_r0 ⟨fun _ => ⟨0, U, sg0, fun _ => ⟨fun _ => ?_, fun z => absurd (by rw [e7]; exact hw.1) z⟩, fun z => absurd rfl z⟩, fun z => absurd z (by rw [e7]; omega)⟩
      have hw2 := hw.2
      repeat' apply And.intro
      all_goals intro z
      all_goals first
        | exact fin
        | exact absurd z (by rw [e8]; omega)
  -- the reference: to the first sum
  have stB : ∀ (d : Nat) (V : am_U) (b cl f : Nat) (kd ph bg : Int) (q0 : Nat) (O : List Int), b < 2 → f ≤ o → prP kk vv i kd ph bg → rF V T L i b cl f kd ph bg 0 o q0 O → cl + q0 + O.length ≤ i → q0 + O.length ≤ 10 * o + 5 → (∀ i' ds, g1 = some (i', ds) → ∃ V', rF V' T L i' b (cl + e1.length) (f + 1) 3 0 0 1 (o + 1) (q0 + O.length) p1 ∧ V' 116 (f + 1) = srt (-1 - vv i) ∧ emR V V' b cl e1 ∧ kB V V' f q0 ∧ lowF V' f kd ph 0 q0 O (q0 + O.length) ∧ lpB N X d V V') ∧ (g1 = none → ltB N X d V fk1 fp1) := fun d V b cl f kd ph bg q0 O hb hf hp hF hcl hq => by
    obtain ⟨V1, k1, k2, k3, k4⟩ := two_go (N := N) (X := X) (d := d) hk (Nat.le_of_lt hi) (show f < 20 by omega) hw hp hF
    have hx : V1 86 12 = -1 := by
      rcases Int.decEq (V1 86 12) (-1) with z | z
      · have := (rT_bad hk k1.1 (show i + 1 ≤ K by omega) z).1
        omega
      · exact z
    have sg := ct_isSign1 (N := N) (X := X) (d := d + 4) hk k1.1 (show i + 1 ≤ K by omega) hx 40 (by decide)
    rw [b2i_t h40] at sg
    obtain ⟨V2, l1, l2, l3, l4, l5, l6, l7⟩ := open_B (N := N) (X := X) (d := d + 1) (kn := 3) hk k1 (by omega) ho (by omega) (show cl ≤ 1600 by omega)
    have run1 : EvK N X (M_operand_s0 (d + 5) V) (rI 0 (am_upd V2 116 (f + 1) (srt (-1 - vv i)))) := k4 _ ⟨V1, ct_lex1 (d := d + 3) hx, 1, V1, sg, fun _ => ⟨V2, l1, fun z => absurd l6 z, fun _ => by
      rw [l7, w32_eq (by omega) (by omega), show ((f + 1 + 1 : Nat) : Int) - 1 = ((f + 1 : Nat) : Int) by omega, Int.toNat_natCast]
      exact ⟨by omega, rfl⟩⟩, fun z => absurd z (by decide)⟩
    obtain ⟨W, hW⟩ : ∃ W, W = am_upd (am_upd V2 86 50 0) 116 (f + 1) (srt (-1 - vv i)) := ⟨_, rfl⟩
    have lp1 : lpB N X d V W := fun R hR => loop_op hF.2.2.2.2.2.1 run1 (Or.inl rfl) (fun z => absurd (by rw [upd_row (by decide)]; exact l6) z) (fun _ => by rw [upd_comm (by decide), ← hW]; exact hR)
    have wr : ∀ r, r ≠ 116 → W r = am_upd V2 86 50 0 r := fun r hr => by rw [hW, upd_row hr]
    have hFW : rF W T L (i + 2) b cl (f + 1) 3 0 1 0 (o + 1) (q0 + O.length) [] := by rw [hW]; exact rF_116 l2
    have lW : lowF W f kd ph 0 q0 O (q0 + O.length) := by
      unfold lowF
      rw [wr 113 (by decide), wr 114 (by decide), wr 115 (by decide), wr 117 (by decide), wr 118 (by decide)]; exact l5
    have kW : kB (am_upd V2 86 50 0) W f q0 := ⟨by rw [hW]; exact fZ_upd (scZ_row (by omega) _) (fZ_refl _), fun g hg => by
      rw [wr 113 (by decide), wr 114 (by decide), wr 115 (by decide), wr 117 (by decide), hW, upd_ne (by omega)]
      exact ⟨rfl, rfl, rfl, rfl, rfl⟩, by rw [hW, upd_ne (by omega)], fun j _ => by rw [wr 118 (by decide)]⟩
    have eW : emR V W b cl [] := by
      have t1 := emR_app k2 l3 (by simp; omega)
      refine ⟨by rw [wr 86 (by decide)]; exact t1.1, fun j hj => by rw [wr 111 (by decide), wr 112 (by decide)]; exact t1.2.1 j hj, fun k c h => by simp at h⟩
    obtain ⟨y1, y2⟩ := x4 d W b cl (f + 1) 3 0 1 (q0 + O.length) [] hb (by omega) (by omega) ⟨Or.inl rfl, fun z => by rcases z with z | z <;> exact absurd z (by decide)⟩ hFW (fun c hc => by cases hc) (by simp; omega) (by simp; omega)
    refine ⟨fun i' ds e => ?_, fun e => ltB_of (fZ_trans k3.1 (fZ_trans l4.1 kW.1)) lp1 (y2 e)⟩
    obtain ⟨V3, z1, z2, z3, z4⟩ := y1 i' ds e
    rw [List.append_nil] at z1
    have t1 := emR_app eW z2 (by simp; omega)
    rw [List.nil_append] at t1
    exact ⟨V3, z1, by rw [z3.2.2.1, hW, upd_at], t1, kB_trans k3 (kB_trans l4 (kB_trans kW (kB_down z3 (by omega)))), lowF_kB lW z3, fun R hR => lp1 R (z4 R hR)⟩
  cases hg1 : g1 with
  | none =>
    refine ⟨none, fk1, fp1, [], [], fun _ => x1 hg1, (fun i' ds e => by cases e), fun d U cl hcS hcl hle => ?_, fun d V b cl f kd ph bg q0 O hb hf ho' hp hF hO hcl hq => ⟨(fun i' ds e => by cases e), fun _ => (stB d V b cl f kd ph bg q0 O hb hf hp hF hcl hq).2 hg1⟩⟩
    obtain ⟨U3, r, y1, y2, y3, y4⟩ := stA d U cl hcS hcl hle
    obtain ⟨z1, z2, z3⟩ := y3 hg1
    exact ⟨U3, 0, y4 0 U3 _ (fun Rt hRt => ⟨fun _ => hRt, fun z => absurd z1 z⟩) ⟨fun _ => rfl, fun z => absurd rfl z⟩, y1, (fun i' ds e => by cases e), fun _ => ⟨rfl, z2, z3⟩⟩
  | some pr =>
    obtain ⟨i3, da⟩ := pr
    obtain ⟨w1, w2, w3, w4, w5, w6, w7, w8'⟩ := x2 i3 da hg1
    have lda : da.length = e1.length + p1.length := by rw [w5, List.length_append]
    by_cases c44 : kk i3 = 4 ∧ vv i3 = 44
    · have i3K : i3 < K := tk_lt hk w2 (by omega)
      obtain ⟨g2, fk2, fp2, e2, p2, v1, v2, v3, v4⟩ := hS (i3 + 1) (by omega) (by omega)
      have stB2 : ∀ (d : Nat) (V : am_U) (b cl f : Nat) (kd ph bg : Int) (q0 : Nat) (O : List Int), b < 2 → f ≤ o → prP kk vv i kd ph bg → rF V T L i b cl f kd ph bg 0 o q0 O → cl + q0 + O.length ≤ i → q0 + O.length ≤ 10 * o + 5 → (∀ i' ds, g2 = some (i', ds) → ∃ V', rF V' T L i' b (cl + da.length + e2.length) (f + 1) 4 0 0 1 (o + 1) (q0 + O.length) p2 ∧ V' 116 (f + 1) = srt (-1 - vv i) ∧ emR V V' b cl (da ++ e2) ∧ kB V V' f q0 ∧ lowF V' f kd ph 0 q0 O (q0 + O.length) ∧ lpB N X d V V') ∧ (g2 = none → ltB N X d V fk2 fp2) := fun d V b cl f kd ph bg q0 O hb hf hp hF hcl hq => by
        obtain ⟨V2, z1, z2, z3, z4, z5, z6⟩ := (stB d V b cl f kd ph bg q0 O hb hf hp hF hcl hq).1 i3 da hg1
        obtain ⟨V3, u1, u2, u3, u4⟩ := (comma_end (N := N) (X := X) (d := d) hk w2 hb (by omega) (by omega) z1 w8' w6 w7 (by omega) (by omega)).1 c44
        rw [Nat.add_assoc, ← lda] at u1
        have t1 := emR_app z3 u2 (by omega)
        rw [← w5] at t1
        obtain ⟨y1, y2⟩ := v4 d V3 b (cl + da.length) (f + 1) 4 0 0 (q0 + O.length) [] hb (by omega) (by omega) ⟨Or.inl rfl, fun _ z => absurd rfl z⟩ u1 (fun c hc => by cases hc) (by simp; omega) (by simp; omega)
        have kk3 : kB V V3 f q0 := kB_trans z4 (kB_down u3 (by omega))
        have l3 : lpB N X d V V3 := fun R hR => z6 R (u4 R hR)
        refine ⟨fun i' ds e => ?_, fun e => ltB_of kk3.1 l3 (y2 e)⟩
        obtain ⟨V4, q1, q2, q3, q4⟩ := y1 i' ds e
        rw [List.append_nil] at q1
        exact ⟨V4, q1, by rw [q3.2.2.1, u3.2.2.1]; exact z2, emR_app t1 q2 (by omega), kB_trans kk3 (kB_down q3 (by omega)), lowF_kB (lowF_kB z5 u3) q3, fun R hR => l3 R (q4 R hR)⟩
      have stA2 : ∀ (d : Nat) (U : am_U) (cl : Nat), cS U T L K kk vv bp i → U 31 18 = (cl : Nat) → cl ≤ i → ∃ (U5 : am_U) (r : Int), fE U U5 ∧ (∀ i' ds, g2 = some (i', ds) → r = 1 ∧ cS U5 T L K kk vv bp i' ∧ emW U U5 cl (da ++ ds)) ∧ (g2 = none → r = 0 ∧ U5 26 4 = fk2 ∧ U5 26 5 = fp2) ∧ ∀ (rt : Int) (Ut : am_U) R, (∀ Rt, Rt = rI rt Ut → ((r = 0 → Rt = rI 0 U5) ∧ (r ≠ 0 → ∃ (r6 : Int) (U6 : am_U), EvK N X (Rd_takeSign_s0 (d + (10 * (8 - o) + 2)) 41 U5) (rI r6 U6) ∧ ((r6 = 0) → Rt = rI 0 U6) ∧ ((r6 ≠ 0) → Rt = rI 1 U6)))) → (((rt = 0) → R = rI 0 Ut) ∧ ((rt ≠ 0) → ∃ (r33 : Int) (U33 : am_U), EvK N X (Tw_emitWord_s0 (d + (10 * (8 - o) + 3)) (vv i) Ut) (rI r33 U33) ∧ ((r33 = 0) → R = rI 0 U33) ∧ ((r33 ≠ 0) → R = rI 1 U33))) → EvK N X (Rd_readPart_s0 (d + (10 * (8 - o) + 4)) (o : Nat) U) R := fun d U cl hcS hcl hle => by
        obtain ⟨U3, r, y1, y2, y3, y4⟩ := stA d U cl hcS hcl hle
        obtain ⟨z1, z2, z3⟩ := y2 i3 da hg1
        obtain ⟨U4, t1, t2, t3, t4⟩ := (ct_takeSign (N := N) (X := X) (d := d + (10 * (8 - o) + 1)) (by omega) hk z2 44).1 c44
        have em4 := emW_fN2 z3 t2
        obtain ⟨U5, r5, q1, q2, q3, q4⟩ := v3 (d + 6) U4 (cl + da.length) t3 em4.1 (by omega)
        rw [← ed d] at q1
        refine ⟨U5, r5, fE_trans y1 (fE_trans (fE_fN t2) q2), fun i' ds e => ?_, q4, fun rt Ut R hT hR => y4 rt Ut R (fun Rt hRt => ⟨fun z => absurd z (by rw [z1]; decide), fun _ => ⟨1, U4, t1, fun z => absurd z (by decide), fun _ => ⟨r5, U5, q1, (hT Rt hRt).1, (hT Rt hRt).2⟩⟩⟩) hR⟩
        obtain ⟨s1', s2, s3⟩ := q3 i' ds e
        exact ⟨s1', s2, emW_app em4 s3⟩
      cases hg2 : g2 with
      | none =>
        refine ⟨none, fk2, fp2, [], [], fun _ => v1 hg2, (fun i' ds e => by cases e), fun d U cl hcS hcl hle => ?_, fun d V b cl f kd ph bg q0 O hb hf ho' hp hF hO hcl hq => ⟨(fun i' ds e => by cases e), fun _ => (stB2 d V b cl f kd ph bg q0 O hb hf hp hF hcl hq).2 hg2⟩⟩
        obtain ⟨U5, r, y1, y2, y3, y4⟩ := stA2 d U cl hcS hcl hle
        obtain ⟨z1, z2, z3⟩ := y3 hg2
        exact ⟨U5, 0, y4 0 U5 _ (fun Rt hRt => ⟨fun _ => hRt, fun z => absurd z1 z⟩) ⟨fun _ => rfl, fun z => absurd rfl z⟩, y1, (fun i' ds e => by cases e), fun _ => ⟨rfl, z2, z3⟩⟩
      | some pr2 =>
        obtain ⟨i4, db⟩ := pr2
        obtain ⟨a1, a2, a3, a4, a5, a6, a7, a8⟩ := v2 i4 db hg2
        have ldb : db.length = e2.length + p2.length := by rw [a5, List.length_append]
        by_cases c41 : kk i4 = 4 ∧ vv i4 = 41
        · have i4K : i4 < K := tk_lt hk a2 (by omega)
          refine ⟨some (i4 + 1, da ++ db ++ [-1 - vv i]), 0, 0, da ++ db ++ [-1 - vv i], [], (fun e => by cases e), fun i' ds' e => ?_, fun d U cl hcS hcl hle => ?_, fun d V b cl f kd ph bg q0 O hb hf ho' hp hF hO hcl hq => ⟨fun i' ds' e => ?_, (fun e => by cases e)⟩⟩
          · obtain ⟨rfl, rfl⟩ : i4 + 1 = i' ∧ da ++ db ++ [-1 - vv i] = ds' := by simpa using e
            refine ⟨by omega, by omega, by simp only [List.length_append, List.length_cons, List.length_nil]; omega, fun t ht => ?_, by simp, (fun c' h => by cases h), by simp, trivial⟩
            rw [List.append_assoc, tyl_app (w4 t (by omega)), tyl_app (a4 (false :: t) (by simp only [List.length_cons]; omega))]
            exact tyl_one (ty_two hw.2 t) (by simp only [List.length_cons]; omega)
          · obtain ⟨U5, r, y1, y2, y3, y4⟩ := stA2 d U cl hcS hcl hle
            obtain ⟨z1, z2, z3⟩ := y2 i4 db hg2
            obtain ⟨U6, t1, t2, t3, t4⟩ := (ct_takeSign (N := N) (X := X) (d := d + (10 * (8 - o) + 1)) (by omega) hk z2 41).1 c41
            have em6 := emW_fN2 z3 t2
            obtain ⟨U7, m1, m2, m3, m4⟩ := ct_emitWord (N := N) (X := X) (d := d + (10 * (8 - o) + 2)) (cl := cl + (da ++ db).length) em6.1 (by rw [List.length_append]; omega) t3 (vv i) (by omega)
            refine ⟨U7, 1, y4 1 U6 _ (fun Rt hRt => ⟨fun z => absurd z (by rw [z1]; decide), fun _ => ⟨1, U6, t1, fun z => absurd z (by decide), fun _ => hRt⟩⟩) ⟨fun z => absurd z (by decide), fun _ => ⟨1, U7, m1, fun z => absurd z (by decide), fun _ => rfl⟩⟩, fE_trans y1 (fE_trans (fE_fN t2) m2), fun i' ds' e => ?_, (fun e => by cases e)⟩
            obtain ⟨rfl, rfl⟩ : i4 + 1 = i' ∧ da ++ db ++ [-1 - vv i] = ds' := by simpa using e
            exact ⟨rfl, m3, emW_app em6 m4⟩
          · obtain ⟨rfl, rfl⟩ : i4 + 1 = i' ∧ da ++ db ++ [-1 - vv i] = ds' := by simpa using e
            obtain ⟨V4, z1, z2, z3, z4, z5, z6⟩ := (stB2 d V b cl f kd ph bg q0 O hb hf hp hF hcl hq).1 i4 db hg2
            obtain ⟨V5, u1, u2, u3, u4⟩ := (two_end (N := N) (X := X) (d := d) hk a2 hb (by omega) (by omega) z1 z2 hneg a8 a6 a7 (by omega) (by omega) (by omega) z5).1 c41 (by omega)
            refine ⟨V5, ?_, ?_, kB_trans z4 u3, fun R hR => z6 R (u4 R hR)⟩
            · rw [show cl + (da ++ db ++ [-1 - vv i]).length = cl + da.length + e2.length + p2.length + 1 by simp only [List.length_append, List.length_cons, List.length_nil]; omega]
              exact u1
            · have u2' : emR V4 V5 b (cl + (da ++ e2).length) (p2 ++ [-1 - vv i]) := by rw [List.length_append, ← Nat.add_assoc]; exact u2
              have t1 := emR_app z3 u2' (by rw [List.length_append]; omega)
              rw [show da ++ e2 ++ (p2 ++ [-1 - vv i]) = da ++ db ++ [-1 - vv i] by rw [a5]; simp only [List.append_assoc]] at t1
              exact t1
        · refine ⟨none, 1, fpl T L kk bp i4, [], [], fun _ => by decide, (fun i' ds' e => by cases e), fun d U cl hcS hcl hle => ?_, fun d V b cl f kd ph bg q0 O hb hf ho' hp hF hO hcl hq => ⟨(fun i' ds' e => by cases e), fun _ => ?_⟩⟩
          · obtain ⟨U5, r, y1, y2, y3, y4⟩ := stA2 d U cl hcS hcl hle
            obtain ⟨z1, z2, z3⟩ := y2 i4 db hg2
            obtain ⟨U6, t1, t2, t3, t4⟩ := (ct_takeSign (N := N) (X := X) (d := d + (10 * (8 - o) + 1)) (by omega) hk z2 41).2 c41
            exact ⟨U6, 0, y4 0 U6 _ (fun Rt hRt => ⟨fun z => absurd z (by rw [z1]; decide), fun _ => ⟨0, U6, t1, fun _ => hRt, fun z => absurd rfl z⟩⟩) ⟨fun _ => rfl, fun z => absurd rfl z⟩, fE_trans y1 (fE_fN t2), (fun i' ds' e => by cases e), fun _ => ⟨rfl, t3, t4⟩⟩
          · obtain ⟨V4, z1, z2, z3, z4, z5, z6⟩ := (stB2 d V b cl f kd ph bg q0 O hb hf hp hF hcl hq).1 i4 db hg2
            exact ltB_of z4.1 z6 ((two_end (N := N) (X := X) (d := d) hk a2 hb (by omega) (by omega) z1 z2 hneg a8 a6 a7 (by omega) (by omega) (by omega) z5).2 c41)
    · refine ⟨none, 1, fpl T L kk bp i3, [], [], fun _ => by decide, (fun i' ds' e => by cases e), fun d U cl hcS hcl hle => ?_, fun d V b cl f kd ph bg q0 O hb hf ho' hp hF hO hcl hq => ⟨(fun i' ds' e => by cases e), fun _ => ?_⟩⟩
      · obtain ⟨U3, r, y1, y2, y3, y4⟩ := stA d U cl hcS hcl hle
        obtain ⟨z1, z2, z3⟩ := y2 i3 da hg1
        obtain ⟨U4, t1, t2, t3, t4⟩ := (ct_takeSign (N := N) (X := X) (d := d + (10 * (8 - o) + 1)) (by omega) hk z2 44).2 c44
        exact ⟨U4, 0, y4 0 U4 _ (fun Rt hRt => ⟨fun z => absurd z (by rw [z1]; decide), fun _ => ⟨0, U4, t1, fun _ => hRt, fun z => absurd rfl z⟩⟩) ⟨fun _ => rfl, fun z => absurd rfl z⟩, fE_trans y1 (fE_fN t2), (fun i' ds' e => by cases e), fun _ => ⟨rfl, t3, t4⟩⟩
      · obtain ⟨V2, z1, z2, z3, z4, z5, z6⟩ := (stB d V b cl f kd ph bg q0 O hb hf hp hF hcl hq).1 i3 da hg1
        exact ltB_of z4.1 z6 ((comma_end (N := N) (X := X) (d := d) hk w2 hb (by omega) (by omega) z1 w8' w6 w7 (by omega) (by omega)).2 c44)
/-- every part -/
theorem part_all (hk : tkS T L K kk vv bp) (hi : i ≤ K) (ho : o ≤ 7) (hS : o < 7 → ∀ j, i < j → j ≤ K → SumC N X T L K kk vv bp j (o + 1)) : PartC N X T L K kk vv bp i o := by
  by_cases c3 : kk i = 3
  · exact part_val hk hi ho (Or.inl ⟨c3, rfl⟩)
  · by_cases c4 : kk i = 4 ∧ vv i = 40
    · exact part_paren hk hi ho c4 hS
    · by_cases c1 : kk i = 1 ∧ (vv i = 14 ∨ vv i = 15 ∨ vv i = 3 ∨ vv i = 16 ∨ vv i = 1 ∨ vv i = 0)
      · exact part_val hk hi ho (Or.inr ⟨c1.1, rfl, c1.2⟩)
      · by_cases c2 : kk i = 1 ∧ (vv i = 23 ∨ vv i = 24 ∨ vv i = 25)
        · have iK : i < K := tk_lt hk hi (by omega)
          by_cases c5 : kk (i + 1) = 4 ∧ vv (i + 1) = 40
          · by_cases o7 : o = 7
            · exact two_no hk iK ho c2 (Or.inr o7)
            · exact part_two hk iK (by omega) c2 c5 (hS (by omega))
          · exact two_no hk iK ho c2 (Or.inl c5)
        · exact part_no hk hi ho c3 c4 c1 c2
end TW2
