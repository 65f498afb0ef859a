/-! parts: a sum in round ones -/
section PAR
variable {N : Nat} {X : Nat → Int} {L K i o : Nat} {T kk vv : Nat → Int} {bp : Int}
theorem ct_takeSign {d : Nat} {U : am_U} (hd : 1 ≤ d) (hk : tkS T L K kk vv bp) (hc : cS U T L K kk vv bp i) (c : Int) : ((kk i = 4 ∧ vv i = c) → ∃ U', EvK N X (Rd_takeSign_s0 (d + 1) c U) (rI 1 U') ∧ fN U U' ∧ cS U' T L K kk vv bp (i + 1) ∧ i < K) ∧ (¬ (kk i = 4 ∧ vv i = c) → ∃ U', EvK N X (Rd_takeSign_s0 (d + 1) c U) (rI 0 U') ∧ fN U U' ∧ U' 26 4 = 1 ∧ U' 26 5 = fpl T L kk bp i) := by
  have hK : K ≤ 1600 := Nat.le_trans hk.2.1 hk.1
  have sg := ct_Rd_isSign (N := N) (X := X) (d := d) hc c
  refine ⟨fun h => ?_, fun h => ?_⟩
  · rw [b2i_t h] at sg
    have iK : i < K := tk_lt hk hc.2.2.2.1 (by omega)
    obtain ⟨U1, n1, n2, n3⟩ := ct_Rd_next (N := N) (X := X) (d := d) (by omega) hK hc iK
    exact ⟨U1, Rd_takeSign_r0 ⟨1, U, sg, fun _ => ⟨U1, n1, rfl⟩, fun z => absurd z (by decide)⟩, n2, n3, iK⟩
  · rw [b2i_f h] at sg
    obtain ⟨U1, n5, n6, n7, n8⟩ := ct_refuseHere (N := N) (X := X) (d := d) hc
    exact ⟨U1, Rd_takeSign_r0 ⟨0, U, sg, fun z => absurd rfl z, fun _ => ⟨0, U1, n5, Or.inl rfl, rfl⟩⟩, n6, n7, n8⟩
theorem kB_down {V V' : am_U} {f q0 q' : Nat} (h : kB V V' (f + 1) q') (hq : q0 ≤ q') : kB V V' f q0 := ⟨h.1, fun g hg => h.2.1 g (by omega), (h.2.1 f (by omega)).2.2.2.1, fun j hj => h.2.2.2 j (by omega)⟩
theorem emW_fN2 {U U' U2 : am_U} {cl : Nat} {ds : List Int} (h : emW U U' cl ds) (f : fN U' U2) : emW U U2 cl ds := by
  refine ⟨by rw [f 31 18 (by omega)]; exact h.1, fun j hj => by rw [f 43 j (by omega)]; exact h.2.1 j hj, fun k c hk => by rw [f 43 _ (by omega)]; exact h.2.2 k c hk⟩
theorem emW_fN1 {U U' U2 : am_U} {cl : Nat} {ds : List Int} (f : fN U U') (h : emW U' U2 cl ds) : emW U U2 cl ds := ⟨h.1, fun j hj => by rw [h.2.1 j hj]; exact f 43 j (by omega), h.2.2⟩
/-- the reference opens a frame for the operand at i -/
theorem open_B {d b cl f q0 : Nat} {V : am_U} {kd ph kn : Int} {O : List Int} (hk : tkS T L K kk vv bp) (hF0 : rF V T L i b cl f kd ph 0 0 o q0 O) (hf : f ≤ 8) (ho : o < 7) (hq : q0 + O.length < 1000) (hcl : cl ≤ 1600) : ∃ V1, EvK N X (M_opens_s0 (d + 3) kn V) (rV V1) ∧ rF (am_upd V1 86 50 0) T L (i + 1) b cl (f + 1) kn 0 1 0 (o + 1) (q0 + O.length) [] ∧ emR V (am_upd V1 86 50 0) b cl [] ∧ kB V (am_upd V1 86 50 0) f q0 ∧ lowF (am_upd V1 86 50 0) f kd ph 0 q0 O (q0 + O.length) ∧ V1 86 8 = 0 ∧ V1 86 46 = ((f + 1 + 1 : Nat) : Int) := by
  obtain ⟨V1, k1, k2, k3, k4, k5, k6⟩ := ct_open1 (N := N) (X := X) (d := d) hk hF0 hf ho hq kn
  obtain ⟨g1, g2, g3⟩ := rF_50 k2 0
  have r : ∀ r, r ≠ 86 → am_upd V1 86 50 0 r = V1 r := fun r hr => upd_row hr
  have t1 := emR_app k3 g3 (by simpa using hcl)
  obtain ⟨a1, a2, a3, a4, a5, a6, ⟨a7, a8, a9, a10⟩, a11⟩ := hF0
  obtain ⟨b1, b2, b3, b4, b5⟩ := k5 f (Nat.le_refl f)
  refine ⟨V1, k1, g1, t1, kB_trans ⟨k4, fun g hg => k5 g (by omega), b4, fun j _ => by rw [k6]⟩ (g2 f q0), ⟨⟨by rw [r 113 (by decide), b1]; exact a7, by rw [r 114 (by decide), b2]; exact a8, by rw [r 115 (by decide), b3]; exact a9, by rw [r 117 (by decide), b5]; exact a10⟩, rfl, a11.2.1, fun k c hk' => by rw [r 118 (by decide), k6]; exact a11.2.2 k c hk'⟩, k2.1.2.2, k2.2.2.2.1⟩
/-- the reference where something else should stand -/
theorem blame_B {d f : Nat} {V : am_U} {x1 x3 : Int} (hk : tkS T L K kk vv bp) (hi : i ≤ K) (hr : rT V T L i) (hx : V 86 12 = -1) (h46 : V 86 46 = ((f + 1 : Nat) : Int)) (h50 : V 86 50 ≠ 0) (hgo : ∀ R, R = rI 0 (am_upd (am_upd V 86 8 1) 86 9 (V 86 4)) → EvK N X (M_goesOn_s0 (d + 5) V) R) : ltB N X d V 1 (fpl T L kk bp i) := by
  refine ⟨am_upd (am_upd V 86 8 1) 86 9 (V 86 4), fZ_upd rfl (fZ_upd rfl (fZ_refl V)), by rw [upd_ne (by decide), upd_at], by rw [upd_at, rT_pl hr, fpl_pl hk hr hi hx], fun R hR => loop_on h50 (hgo _ rfl) (fun _ => hR) (fun z => absurd rfl z) (fun z => absurd rfl z)⟩
theorem bad_B {d : Nat} {V : am_U} (hk : tkS T L K kk vv bp) (hi : i ≤ K) (hr : rT V T L i) (hx : V 86 12 ≠ -1) (h50 : V 86 50 ≠ 0) : ltB N X d V 1 (fpl T L kk bp i) :=
  ⟨am_upd (am_upd V 86 8 1) 86 9 (V 86 12), fZ_upd rfl (fZ_upd rfl (fZ_refl V)), by rw [upd_ne (by decide), upd_at], by rw [upd_at]; exact (rT_bad hk hr hi hx).2, fun R hR => loop_on h50 (on_bad hr hx) (fun _ => hR) (fun z => absurd rfl z) (fun z => absurd rfl z)⟩
theorem ltB_of {d : Nat} {V V1 : am_U} {fk fp : Int} (hf : fZ V V1) (hl : lpB N X d V V1) (h : ltB N X d V1 fk fp) : ltB N X d V fk fp := by
  obtain ⟨V2, z1, z2, z3, z4⟩ := h
  exact ⟨V2, fZ_trans hf z1, z2, z3, fun R hR => hl R (z4 R hR)⟩
/-- the end of a sum in round ones: closed, or a fault -/
theorem paren_end {d b cl f q0 q' : Nat} {V : am_U} {kd ph : Int} {O pend : List Int} (hk : tkS T L K kk vv bp) (hi : i ≤ K) (hb : b < 2) (hf : f + 1 < 20) (ho : o < 50) (hF : rF V T L i b cl (f + 1) 2 0 0 1 (o + 1) q' pend) (hn : noAr kk vv i) (hp : ∀ c, c ∈ pend → 5 ≤ rkC c) (hpl : pend.length ≤ 2) (hq : q' ≤ 400) (hcl : cl + pend.length ≤ 1600) (hl : lowF V f kd ph 0 q0 O q') : ((kk i = 4 ∧ vv i = 41) → ∃ V', rF V' T L (i + 1) b (cl + pend.length) f kd ph 0 1 o q0 O ∧ emR V V' b cl pend ∧ kB V V' f q0 ∧ lpB N X d V V') ∧ (¬ (kk i = 4 ∧ vv i = 41) → ltB N X d V 1 (fpl T L kk bp i)) := by
  have h50 : V 86 50 ≠ 0 := by rw [hF.2.2.2.2.2.1]; decide
  have e114 : V 114 (f + 1) = 0 := hF.2.2.2.2.2.2.1.2.1
  by_cases hx : V 86 12 = -1
  · have en := on_end (N := N) (X := X) (d := d) (kd := 2) hk hi hF.1 hx hf hF.2.2.2.1 hF.2.2.2.2.2.2.1.1 (fun _ => hn) (fun z => by rcases z with z | z <;> exact absurd z (by decide))
    refine ⟨fun h => ?_, fun h => ?_⟩
    · obtain ⟨V', k1, k2, k3, k4⟩ := ct_close2 (N := N) (X := X) (d := d) hk hi hb hf hF hx h (fun c hc => by have := hp c hc; omega) (by omega) hq hcl ho hl
      exact ⟨V', k2, k3, k4, fun R hR => loop_on h50 (en _ k1) (fun z => absurd z (by decide)) (fun _ z => absurd k2.1.2.2 z) (fun _ _ => hR)⟩
    · refine blame_B (x1 := 0) (x3 := 0) hk hi hF.1 hx hF.2.2.2.1 h50 (fun R hR => en _ ?_)
      have sg := ct_isSign1 (N := N) (X := X) (d := d + 4) hk hF.1 hi hx 41 (by decide)
      rw [b2i_f h] at sg
      refine M_goesOn_r422 ⟨fun _ => ⟨fun _ => ⟨fun _ => ⟨0, V, sg, fun z => absurd rfl z, fun _ => ⟨_, ct_blame1 hF.1.2.2 _ _, fun z => absurd z (by rw [upd_ne (by decide), upd_at]; decide), fun _ => hR⟩⟩, fun z => absurd z (by decide)⟩, fun z => absurd z (by decide)⟩, fun z => absurd z (by decide)⟩
  · have bd := rT_bad hk hF.1 hi hx
    exact ⟨fun h => by omega, fun _ => bad_B hk hi hF.1 hx h50⟩
theorem part_paren (hk : tkS T L K kk vv bp) (hi : i ≤ K) (ho : o ≤ 7) (h4 : kk i = 4 ∧ vv i = 40) (hS : o < 7 → ∀ j, i < j → j ≤ K → SumC N X T L K kk vv bp j (o + 1)) : PartC N X T L K kk vv bp i o := by
  have hK : K ≤ 1600 := Nat.le_trans hk.2.1 hk.1
  have iK : i < K := tk_lt hk hi (by omega)
  -- the reference comes to the opening
  have opB : ∀ (d : Nat) (V : am_U) (b cl f : Nat) (kd ph bg : Int) (q0 : Nat) (O : List Int), f ≤ o → prP kk vv i kd ph bg → rF V T L i b cl f kd ph bg 0 o q0 O → rF (am_upd V 115 f 0) T L i b cl f kd ph 0 0 o q0 O ∧ kB V (am_upd V 115 f 0) f q0 ∧ emR V (am_upd V 115 f 0) b cl [] ∧ ∀ V1, EvK N X (M_opens_s0 (d + 4) 2 (am_upd V 115 f 0)) (rV V1) → EvK N X (M_operand_s0 (d + 5) V) (rI 0 V1) := fun d V b cl f kd ph bg q0 O hf hp hF => by
    have hx : V 86 12 = -1 := by
      rcases Int.decEq (V 86 12) (-1) with z | z
      · have := (rT_bad hk hF.1 hi z).1
        omega
      · exact z
    obtain ⟨hF0, kb0, em0⟩ := rF_bg hF
    have hx0 : am_upd V 115 f 0 86 12 = -1 := by rw [upd_row (by decide)]; exact hx
    obtain ⟨x, og⟩ := opd_go (N := N) (X := X) (d := d) hk hi hF.1 hx (show f < 20 by omega) hF.2.2.2.1 hF.2.2.2.2.2.2.1.1 (fun z1 z2 => hp.2 z1 (by rw [← hF.2.2.2.2.2.2.1.2.2.1]; exact z2))
    have sg := ct_isSign1 (N := N) (X := X) (d := d + 4) hk hF0.1 hi hx0 40 (by decide)
    rw [b2i_t h4] at sg
    exact ⟨hF0, kb0, em0, fun V1 h => og _ (M_operand_r229 ⟨1, _, sg, fun z => absurd z (by decide), fun _ => ⟨V1, h, rfl⟩⟩)⟩
  by_cases o7 : o = 7
  · refine ⟨none, 5, (plS1 T L i : Nat), [], [], fun _ => by decide, (fun i' ds e => by cases e), fun d U cl hcS hcl hle => ?_, fun d V b cl f kd ph bg q0 O hb hf ho' hp hF hO hcl hq => ⟨(fun i' ds e => by cases e), fun _ => ?_⟩⟩
    · have sg := ct_Rd_isSign (N := N) (X := X) (d := d + (10 * (8 - o) + 3)) hcS 40
      rw [b2i_t h4] at sg
      obtain ⟨U1, m1, m2, m3, m4⟩ := ct_refuseFor (N := N) (X := X) (d := d + (10 * (8 - o) + 2)) (U := U) 5 (U 26 9)
      refine ⟨U1, 0, Rd_readPart_r0 ⟨fun _ => ⟨1, U, sg, fun z => absurd z (by decide), fun _ => ⟨0, U1, Rd_opens_r0 ⟨fun z => absurd z (by omega), fun _ => ⟨0, U1, m1, Or.inl rfl, rfl⟩⟩, fun _ => rfl, fun z => absurd rfl z⟩⟩, fun z => absurd z (by rw [hcS.2.2.2.2.2.1]; omega)⟩, fE_fN m2, (fun i' ds e => by cases e), fun _ => ⟨rfl, m3, by rw [m4]; exact hcS.2.2.2.2.2.2.2⟩⟩
    · obtain ⟨hF0, kb0, em0, run1⟩ := opB d V b cl f kd ph bg q0 O hf hp hF
      have op7 := ct_open7 (N := N) (X := X) (d := d + 1) hF0.1 (by rw [hF0.2.2.2.2.1, o7]; rfl) 2
      exact ⟨_, fZ_upd rfl (fZ_upd rfl (fZ_upd rfl kb0.1)), by rw [upd_ne (by decide), upd_ne (by decide), upd_at], by rw [upd_ne (by decide), upd_at], fun R hR => loop_op hF.2.2.2.2.2.1 (run1 _ op7) (Or.inl rfl) (fun _ => hR) (fun z => absurd z (by rw [upd_ne (by decide), upd_at]; decide))⟩
  · have o6 : o < 7 := by omega
    obtain ⟨gs, fk1, fp1, e1, p1, x1, x2, x3, x4⟩ := hS o6 (i + 1) (by omega) (by omega)
    have ed : ∀ d : Nat, d + (10 * (8 - o) + 3) = (d + 7) + (10 * (8 - (o + 1)) + 6) := fun d => by omega
    -- the class opens and reads the sum
    have stA : ∀ (d : Nat) (U : am_U) (cl : Nat), cS U T L K kk vv bp i → U 31 18 = (cl : Nat) → cl ≤ i → ∃ (U2 : am_U) (r : Int), fE U U2 ∧ (∀ i' ds, gs = some (i', ds) → r = 1 ∧ cS U2 T L K kk vv bp i' ∧ emW U U2 cl ds) ∧ (gs = none → r = 0 ∧ U2 26 4 = fk1 ∧ U2 26 5 = fp1) ∧ ∀ R, (((r = 0) → R = rI 0 U2) ∧ ((r ≠ 0) → ∃ (r44 : Int) (U44 : am_U), EvK N X (Rd_takeSign_s0 (d + (10 * (8 - o) + 3)) 41 U2) (rI r44 U44) ∧ ((r44 = 0) → R = rI 0 U44) ∧ ((r44 ≠ 0) → R = rI 1 U44))) → EvK N X (Rd_readPart_s0 (d + (10 * (8 - o) + 4)) (o : Nat) U) R := fun d U cl hcS hcl hle => by
      have sg := ct_Rd_isSign (N := N) (X := X) (d := d + (10 * (8 - o) + 3)) hcS 40
      rw [b2i_t h4] at sg
      obtain ⟨U1, n1, n2, n3⟩ := ct_Rd_next (N := N) (X := X) (d := d + (10 * (8 - o) + 2)) (by omega) hK hcS iK
      obtain ⟨U2, r, y1, y2, y3, y4⟩ := x3 (d + 7) U1 cl n3 (by rw [n2 31 18 (by omega)]; exact hcl) (by omega)
      rw [← ed d] at y1
      refine ⟨U2, r, fE_trans (fE_fN n2) y2, fun i' ds e => ?_, y4, fun R hR => Rd_readPart_r0 ⟨fun _ => ⟨1, U, sg, fun z => absurd z (by decide), fun _ => ⟨1, U1, Rd_opens_r0 ⟨fun _ => ⟨U1, n1, rfl⟩, fun z => absurd z (by omega)⟩, fun z => absurd z (by decide), fun _ => ⟨r, U2, ?_, hR⟩⟩⟩, fun z => absurd z (by rw [hcS.2.2.2.2.2.1]; omega)⟩⟩
      · obtain ⟨z1, z2, z3⟩ := y3 i' ds e
        exact ⟨z1, z2, emW_fN1 n2 z3⟩
      · rw [w32_succ (i := o) (by omega)]; exact y1
    -- the reference opens and reads the sum
    have stB : ∀ (d : Nat) (V : am_U) (b cl f : Nat) (kd ph bg : Int) (q0 : Nat) (O : List Int), b < 2 → f ≤ o → prP kk vv i kd ph bg → rF V T L i b cl f kd ph bg 0 o q0 O → cl + q0 + O.length ≤ i → q0 + O.length ≤ 10 * o + 5 → (∀ i' ds, gs = some (i', ds) → ∃ V', rF V' T L i' b (cl + e1.length) (f + 1) 2 0 0 1 (o + 1) (q0 + O.length) p1 ∧ emR V V' b cl e1 ∧ kB V V' f q0 ∧ lowF V' f kd ph 0 q0 O (q0 + O.length) ∧ lpB N X d V V') ∧ (gs = none → ltB N X d V fk1 fp1) := fun d V b cl f kd ph bg q0 O hb hf hp hF hcl hq => by
      obtain ⟨hF0, kb0, em0, run1⟩ := opB d V b cl f kd ph bg q0 O hf hp hF
      obtain ⟨V1, k1, k2, k3, k4, k5, k6, k7⟩ := open_B (N := N) (X := X) (d := d + 1) (kn := 2) hk hF0 (by omega) o6 (by omega) (show cl ≤ 1600 by omega)
      have lp1 : lpB N X d V (am_upd V1 86 50 0) := fun R hR => loop_op hF.2.2.2.2.2.1 (run1 _ k1) (Or.inl rfl) (fun z => absurd k6 z) (fun _ => hR)
      obtain ⟨y1, y2⟩ := x4 d (am_upd V1 86 50 0) b cl (f + 1) 2 0 1 (q0 + O.length) [] hb (by omega) (by omega) ⟨Or.inl rfl, fun z => by rcases z with z | z <;> exact absurd z (by decide)⟩ k2 (fun c hc => by cases hc) (by simp; omega) (by simp; omega)
      refine ⟨fun i' ds e => ?_, fun e => ltB_of (fZ_trans kb0.1 k4.1) lp1 (y2 e)⟩
      obtain ⟨V2, z1, z2, z3, z4⟩ := y1 i' ds e
      obtain ⟨w1, w2, w3, w4, w5, w6, w7, w8'⟩ := x2 i' ds e
      rw [List.append_nil] at z1
      have t1 := emR_app k3 z2 (by simp; omega)
      rw [List.nil_append] at t1
      have t2 := emR_app em0 t1 (by simp; omega)
      rw [List.nil_append] at t2
      exact ⟨V2, z1, t2, kB_trans kb0 (kB_trans k4 (kB_down z3 (by omega))), lowF_kB k5 z3, fun R hR => lp1 R (z4 R hR)⟩
    cases hg : gs with
    | none =>
      refine ⟨none, fk1, fp1, [], [], fun _ => x1 hg, (fun i' ds e => by cases e), fun d U cl hcS hcl hle => ?_, fun d V b cl f kd ph bg q0 O hb hf ho' hp hF hO hcl hq => ⟨(fun i' ds e => by cases e), fun _ => (stB d V b cl f kd ph bg q0 O hb hf hp hF hcl hq).2 hg⟩⟩
      obtain ⟨U2, r, y1, y2, y3, y4⟩ := stA d U cl hcS hcl hle
      obtain ⟨z1, z2, z3⟩ := y3 hg
      exact ⟨U2, 0, y4 _ ⟨fun _ => rfl, fun z => absurd z1 z⟩, y1, (fun i' ds e => by cases e), fun _ => ⟨rfl, z2, z3⟩⟩
    | some pr =>
      obtain ⟨i2, ds⟩ := pr
      obtain ⟨w1, w2, w3, w4, w5, w6, w7, w8'⟩ := x2 i2 ds hg
      have lds : ds.length = e1.length + p1.length := by rw [w5, List.length_append]
      by_cases cl4 : kk i2 = 4 ∧ vv i2 = 41
      · have i2K : i2 < K := tk_lt hk w2 (by omega)
        refine ⟨some (i2 + 1, ds), 0, 0, ds, [], (fun e => by cases e), fun i' ds' e => ?_, fun d U cl hcS hcl hle => ?_, fun d V b cl f kd ph bg q0 O hb hf ho' hp hF hO hcl hq => ⟨fun i' ds' e => ?_, (fun e => by cases e)⟩⟩
        · obtain ⟨rfl, rfl⟩ : i2 + 1 = i' ∧ ds = ds' := by simpa using e
          exact ⟨by omega, by omega, by omega, fun t ht => w4 t (by omega), by simp, (fun c' h => by cases h), by simp, trivial⟩
        · obtain ⟨U2, r, y1, y2, y3, y4⟩ := stA d U cl hcS hcl hle
          obtain ⟨z1, z2, z3⟩ := y2 i2 ds hg
          obtain ⟨U3, t1, t2, t3, t4⟩ := (ct_takeSign (N := N) (X := X) (d := d + (10 * (8 - o) + 2)) (by omega) hk z2 41).1 cl4
          refine ⟨U3, 1, y4 _ ⟨fun z => absurd z (by rw [z1]; decide), fun _ => ⟨1, U3, t1, fun z => absurd z (by decide), fun _ => rfl⟩⟩, fE_trans y1 (fE_fN t2), fun i' ds' e => ?_, (fun e => by cases e)⟩
          obtain ⟨rfl, rfl⟩ : i2 + 1 = i' ∧ ds = ds' := by simpa using e
          exact ⟨rfl, t3, emW_fN2 z3 t2⟩
        · obtain ⟨rfl, rfl⟩ : i2 + 1 = i' ∧ ds = ds' := by simpa using e
          obtain ⟨V2, z1, z2, z3, z4, z5⟩ := (stB d V b cl f kd ph bg q0 O hb hf hp hF hcl hq).1 i2 ds hg
          obtain ⟨V3, u1, u2, u3, u4⟩ := (paren_end (N := N) (X := X) (d := d) hk w2 hb (by omega) (by omega) z1 w8' w6 w7 (by omega) (by omega) z4).1 cl4
          refine ⟨V3, ?_, ?_, kB_trans z3 u3, fun R hR => z5 R (u4 R hR)⟩
          · rw [lds, ← Nat.add_assoc]; exact u1
          · have t1 := emR_app z2 u2 (by omega)
            rw [← w5] at t1; exact t1
      · refine ⟨none, 1, fpl T L kk bp i2, [], [], fun _ => by decide, (fun i' ds' e => by cases e), fun d U cl hcS hcl hle => ?_, fun d V b cl f kd ph bg q0 O hb hf ho' hp hF hO hcl hq => ⟨(fun i' ds' e => by cases e), fun _ => ?_⟩⟩
        · obtain ⟨U2, r, y1, y2, y3, y4⟩ := stA d U cl hcS hcl hle
          obtain ⟨z1, z2, z3⟩ := y2 i2 ds hg
          obtain ⟨U3, t1, t2, t3, t4⟩ := (ct_takeSign (N := N) (X := X) (d := d + (10 * (8 - o) + 2)) (by omega) hk z2 41).2 cl4
          exact ⟨U3, 0, y4 _ ⟨fun z => absurd z (by rw [z1]; decide), fun _ => ⟨0, U3, t1, fun _ => rfl, fun z => absurd rfl z⟩⟩, fE_trans y1 (fE_fN t2), (fun i' ds' e => by cases e), fun _ => ⟨rfl, t3, t4⟩⟩
        · obtain ⟨V2, z1, z2, z3, z4, z5⟩ := (stB d V b cl f kd ph bg q0 O hb hf hp hF hcl hq).1 i2 ds hg
          exact ltB_of z3.1 z5 ((paren_end (N := N) (X := X) (d := d) hk w2 hb (by omega) (by omega) z1 w8' w6 w7 (by omega) (by omega) z4).2 cl4)
end PAR
