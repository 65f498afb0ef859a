/-! facts: what both sides owe -/
section FCT
variable {N : Nat} {X : Nat → Int} {T : Nat → Int} {L K : Nat} {kk vv : Nat → Int} {bp : Int}
theorem sum_all (hk : tkS T L K kk vv bp) : ∀ n o : Nat, o + n = 7 → ∀ j, j ≤ K → SumC N X T L K kk vv bp j o := by
  intro n
  induction n with
  | zero => intro o ho j hj; exact sum_of_part (i0 := 0) hk (fun j _ hj => part_all hk hj (by omega) (fun z => absurd z (by omega))) j (Nat.zero_le j) hj
  | succ n ih => intro o ho j hj; exact sum_of_part (i0 := 0) hk (fun j _ hj => part_all hk hj (by omega) (fun _ j' _ hj' => ih (o + 1) (by omega) j' hj')) j (Nat.zero_le j) hj
/-- behind a fact: the phase is 1 and no sign of numbers follows, or it is 2 -/
def phT (kk vv : Nat → Int) (i : Nat) (ph : Int) : Prop := (ph = 1 ∧ noAr kk vv i) ∨ ph = 2
def clT (N : Nat) (X : Nat → Int) (T : Nat → Int) (L : Nat) (kk vv : Nat → Int) (hi : Int) (cN i o : Nat) (g : Option (Nat × List Int)) (fk fp : Int) (e0 pend : List Int) : Prop := ∀ (d : Nat) (V : am_U) (b cl f : Nat) (kd : Int) (q0 : Nat) (O : List Int), b < 2 → f ≤ o → o ≤ 7 → isTs kd → rF V T L i b cl f kd 0 1 0 o q0 O → (∀ c, c ∈ O → rkC c < hi) → cl + q0 + O.length ≤ i → q0 + O.length ≤ 10 * o + cN → (∀ i' ds, g = some (i', ds) → ∃ V' ph', phT kk vv i' ph' ∧ rF V' T L i' b (cl + e0.length) f kd ph' 0 1 (o + nNot pend) q0 (pend ++ O) ∧ emR V V' b cl e0 ∧ kB V V' f q0 ∧ lpB N X d V V') ∧ (g = none → ltB N X d V fk fp)
def TClm (N : Nat) (X : Nat → Int) (T : Nat → Int) (L K : Nat) (kk vv : Nat → Int) (bp : Int) (F : Nat → Int → am_U → am_S) (dep mg : Nat) (lo hi : Int) (cN pb : Nat) (Nx : Nat → Prop) (i o : Nat) : Prop := ∃ (g : Option (Nat × List Int)) (fk fp : Int) (e0 pend : List Int), (g = none → 1 ≤ fk) ∧ (∀ i' ds, g = some (i', ds) → i < i' ∧ i' ≤ K ∧ ds.length + i ≤ i' ∧ (∀ t : List Bool, t.length + mg ≤ 60 → tyl ds t = some (true :: t)) ∧ ds = e0 ++ pend ∧ (∀ c, c ∈ pend → lo ≤ rkC c) ∧ pend.length ≤ pb ∧ Nx i') ∧ clA N X T L K kk vv bp F dep i o g fk fp ∧ clT N X T L kk vv hi cN i o g fk fp e0 pend
def FactC (N : Nat) (X : Nat → Int) (T : Nat → Int) (L K : Nat) (kk vv : Nat → Int) (bp : Int) (i o : Nat) : Prop := TClm N X T L K kk vv bp (fun d o U => Rd_readFact_s0 d o U) (10 * (8 - o) + 7) (6 * (7 - o) + 4) 3 4 2 ((8 - o) + 4) (fun _ => True) i o
def TestC (N : Nat) (X : Nat → Int) (T : Nat → Int) (L K : Nat) (kk vv : Nat → Int) (bp : Int) (i o : Nat) : Prop := TClm N X T L K kk vv bp (fun d o U => Rd_readTest_s0 d o U) (10 * (8 - o) + 9) (6 * (7 - o) + 6) 1 1 0 ((8 - o) + 6) (fun j => ¬ (kk j = 1 ∧ vv j = 20) ∧ ¬ (kk j = 1 ∧ vv j = 19)) i o
variable {i o : Nat}
/-- a square or a prime is asked for -/
theorem fact_one (hk : tkS T L K kk vv bp) (hi : i ≤ K) (ho : o ≤ 7) (hw : kk i = 1 ∧ (vv i = 17 ∨ vv i = 18)) : FactC N X T L K kk vv bp i o := by
  have hK : K ≤ 1600 := Nat.le_trans hk.2.1 hk.1
  have iK : i < K := tk_lt hk hi (by omega)
  obtain ⟨gs, fk1, fp1, e1, p1, x1, x2, x3, x4⟩ := sum_all (N := N) (X := X) hk (7 - o) o (by omega) (i + 1) (by omega)
  have isop : isOp (-1 - vv i) ∧ rkC (-1 - vv i) = 4 := by rcases hw.2 with e | e <;> rw [e] <;> exact ⟨by unfold isOp; decide, by decide⟩
  have tyo : ∀ t : List Bool, tyc (-1 - vv i) (false :: t) = some (true :: t) := fun t => by rcases hw.2 with e | e <;> rw [e] <;> rfl
  have ed : ∀ d : Nat, d + (10 * (8 - o) + 6) = d + (10 * (8 - o) + 6) := fun _ => rfl
  -- the class
  have stA : ∀ (d : Nat) (U : am_U) (cl : Nat), cS U T L K kk vv bp i → U 31 18 = (cl : Nat) → cl ≤ i → ∃ (U2 : am_U) (r : Int), fE U U2 ∧ (∀ i' ds, gs = some (i', ds) → r = 1 ∧ cS U2 T L K kk vv bp i' ∧ emW U U2 cl ds) ∧ (gs = none → r = 0 ∧ U2 26 4 = fk1 ∧ U2 26 5 = fp1) ∧ ∀ R, ((r = 0 → R = rI 0 U2) ∧ (r ≠ 0 → ∃ (r7 : Int) (U7 : am_U), EvK N X (Tw_emitWord_s0 (d + (10 * (8 - o) + 6)) (vv i) U2) (rI r7 U7) ∧ ((r7 = 0) → R = rI 0 U7) ∧ ((r7 ≠ 0) → R = rI 1 U7))) → EvK N X (Rd_readFact_s0 (d + (10 * (8 - o) + 7)) (o : Nat) U) R := fun d U cl hcS hcl hle => by
    have e8 := hcS.2.2.2.2.2.2.1
    have iw := ct_Rd_isOwn (N := N) (X := X) (d := d + (10 * (8 - o) + 6)) hcS
    have s91 := ct_Rd_isSign (N := N) (X := X) (d := d + (10 * (8 - o) + 6)) hcS 91
    rw [b2i_f (fun z => by omega)] at s91
    have w21 := iw 21
    rw [b2i_f (fun z => by omega)] at w21
    have w22 := iw 22
    rw [b2i_f (fun z => by omega)] at w22
    obtain ⟨U1, n1, n2, n3⟩ := ct_Rd_next (N := N) (X := X) (d := d + (10 * (8 - o) + 6)) (by omega) hK hcS iK
    obtain ⟨U2, r, y1, y2, y3, y4⟩ := x3 d U1 cl n3 (by rw [n2 31 18 (by omega)]; exact hcl) (by omega)
    refine ⟨U2, r, fE_trans (fE_fN n2) y2, fun i' ds e => ?_, y4, fun R hR => Rd_readFact_r0 ⟨0, U, w21, fun _ => ⟨0, U, s91, fun _ => ⟨0, U, w22, fun _ => ⟨_, U, iw 17, fun z => ⟨U1, n1, r, U2, y1, hR.1, ?_⟩, fun z => ⟨_, U, iw 18, fun z2 => ?_, fun z2 => ⟨U1, n1, r, U2, y1, hR.1, ?_⟩⟩⟩, fun z => absurd rfl z⟩, fun z => absurd rfl z⟩, fun z => absurd rfl z⟩⟩
    · obtain ⟨z1, z2, z3⟩ := y3 i' ds e
      exact ⟨z1, z2, emW_fN1 n2 z3⟩
    · rw [e8]; exact hR.2
    · have y1 := b2i_eq.mp z
      have y2 := b2i_eq.mp z2
      exfalso
      rcases hw.2 with e | e
      · exact y1 ⟨hw.1, e⟩
      · exact y2 ⟨hw.1, e⟩
    · rw [e8]; exact hR.2
  -- the reference
  have stB : ∀ (d : Nat) (V : am_U) (b cl f : Nat) (kd : Int) (q0 : Nat) (O : List Int), b < 2 → f ≤ o → isTs kd → rF V T L i b cl f kd 0 1 0 o q0 O → (∀ c, c ∈ O → rkC c < 4) → cl + q0 + O.length ≤ i → q0 + O.length ≤ 10 * o + 2 → (∀ i' ds, gs = some (i', ds) → ∃ V', rF V' T L i' b (cl + e1.length) f kd 1 0 1 o q0 (p1 ++ (-1 - vv i) :: O) ∧ emR V V' b cl e1 ∧ kB V V' f q0 ∧ lpB N X d V V') ∧ (gs = none → ltB N X d V fk1 fp1) := fun d V b cl f kd q0 O hb hf hts hF hO hcl hq => by
    have hx : V 86 12 = -1 := by
      rcases Int.decEq (V 86 12) (-1) with z | z
      · have := (rT_bad hk hF.1 hi z).1
        omega
      · exact z
    obtain ⟨hF0, kb0, em0⟩ := rF_bg hF
    have hx0 : am_upd V 115 f 0 86 12 = -1 := by rw [upd_row (by decide)]; exact hx
    obtain ⟨V1, h1, h2, h3, h4⟩ := ct_hold1 (N := N) (X := X) (d := d + 4) (c := -1 - vv i) hF0.2.2.2.2.2.2.2 (by omega) isop.1
    obtain ⟨c1, c2, c3, c4, c5, c6, ⟨c7, c8, c9, c10⟩, c11⟩ := hF0
    obtain ⟨W, hW⟩ : ∃ W, W = am_upd V1 114 f 1 := ⟨_, rfl⟩
    have r1 : ∀ r, r ≠ 86 → r ≠ 118 → V1 r = am_upd V 115 f 0 r := fun r q1 q2 => funext fun j => h4 r j q2 (fun z => q1 z.1)
    have j1 : ∀ j, j ≠ 49 → V1 86 j = am_upd V 115 f 0 86 j := fun j q => h4 86 j (by decide) (by omega)
    have wr : ∀ r, r ≠ 114 → W r = V1 r := fun r hr => by rw [hW, upd_row hr]
    obtain ⟨W2, l1, l2, l3⟩ := ct_ahead1 (N := N) (X := X) (d := d + 3) hk (rT_cg c1 (by rw [wr 87 (by decide), r1 87 (by decide) (by decide)]) (fun j q1 _ => by rw [wr 86 (by decide), j1 j (by omega)]) : rT W T L i)
    have yr : ∀ r, r ≠ 86 → W2 r = W r := fun r hr => fA6_row l2 hr
    have w86 : ∀ j, j ≠ 3 → j ≠ 4 → j ≠ 5 → j ≠ 6 → j ≠ 7 → j ≠ 12 → j ≠ 49 → W2 86 j = am_upd V 115 f 0 86 j := fun j q1 q2 q3 q4 q5 q6 q7 => by rw [l2 86 j (by omega), wr 86 (by decide), j1 j q7]
    have hF2 : rF W2 T L (i + 1) b cl f kd 1 0 0 o q0 ((-1 - vv i) :: O) := ⟨l3, by rw [w86 40 (by decide) (by decide) (by decide) (by decide) (by decide) (by decide) (by decide)]; exact c2, by rw [w86 39 (by decide) (by decide) (by decide) (by decide) (by decide) (by decide) (by decide)]; exact c3, by rw [w86 46 (by decide) (by decide) (by decide) (by decide) (by decide) (by decide) (by decide)]; exact c4, by rw [w86 47 (by decide) (by decide) (by decide) (by decide) (by decide) (by decide) (by decide)]; exact c5, by rw [w86 50 (by decide) (by decide) (by decide) (by decide) (by decide) (by decide) (by decide)]; exact c6, ⟨by rw [yr 113 (by decide), wr 113 (by decide), r1 113 (by decide) (by decide)]; exact c7, by rw [yr 114 (by decide), hW, upd_at], by rw [yr 115 (by decide), wr 115 (by decide), r1 115 (by decide) (by decide)]; exact c9, by rw [yr 117 (by decide), wr 117 (by decide), r1 117 (by decide) (by decide)]; exact c10⟩, hst_cg h2 (by rw [yr 118 (by decide), wr 118 (by decide)]) (by rw [l2 86 49 (by decide), wr 86 (by decide)])⟩
    obtain ⟨g1, g2, g3⟩ := rF_50 hF2 0
    -- to the operand's own end
    have e46 : eqI (w32 (V 86 46 - 1)) ((f : Nat) : Int) := by show _ = _; rw [hF.2.2.2.1, w32_eq (by omega) (by omega)]; omega
    have ww : ∀ (Z : am_U) (w : Nat), rT Z T L i → Z 86 12 = -1 → w < 26 → EvK N X (M_isWord_s0 (d + 4) (ow8 w) Z) (rI (b2i (vv i = (w : Nat))) Z) := fun Z w z1 z2 h3 => by
      have := ct_isWord1 (N := N) (X := X) (d := d + 4) hk z1 hi z2 w h3
      rw [show b2i (kk i = 1 ∧ vv i = (w : Nat)) = b2i (vv i = (w : Nat)) from b2i_cg ⟨fun z => z.2, fun z => ⟨hw.1, z⟩⟩] at this; exact this
    have w0 : ∀ (Z : am_U) (w : Nat), rT Z T L i → Z 86 12 = -1 → w < 26 → ¬ vv i = (w : Nat) → EvK N X (M_isWord_s0 (d + 4) (ow8 w) Z) (rI 0 Z) := fun Z w z1 z2 h3 h4 => by
      have := ww Z w z1 z2 h3
      rw [b2i_f h4] at this; exact this
    have sg := ct_isSign1 (N := N) (X := X) (d := d + 4) hk c1 hi hx0 91 (by decide)
    rw [b2i_f (fun z => by omega)] at sg
    have run1 : EvK N X (M_operand_s0 (d + 5) V) (rI 0 W2) := by
      have s213 : EvK N X (M_operand_s213 (d + 5) (f : Nat) 1 (srt (-1 - vv i)) (am_upd V 115 f 0)) (rI 0 W2) := M_operand_r213 ⟨V1, h1, by omega, W2, by rw [Int.toNat_natCast, ← hW]; exact l1, rfl⟩
      have s195 : EvK N X (M_operand_s195 (d + 5) (f : Nat) 1 (am_upd V 115 f 0)) (rI 0 W2) := by
        refine M_operand_r195 ⟨_, _, ww _ 17 c1 hx0 (by decide), fun z => ?_, fun z => ?_⟩
        · have e : vv i = 18 := by
            have y := b2i_eq.mp z
            rcases hw.2 with e | e
            · exact absurd e y
            · exact e
          rw [e] at s213; exact s213
        · have e : vv i = 17 := b2i_ne.mp z
          rw [e] at s213; exact s213
      refine M_operand_r0 ⟨V, ct_lex1 (d := d + 3) hx, fun _ => ?_, fun z => absurd z (by rw [hF.1.2.2]; omega)⟩
      rw [eqI_o e46, Int.toNat_natCast, hF.2.2.2.2.2.2.1.1]
      refine ⟨by omega, _, V, ct_isTest1, fun z => absurd hts (cb_eq.mp z), fun _ => ⟨fun z => absurd z (by rw [hF.2.2.2.2.2.2.1.2.2.1]; decide), fun _ => ?_⟩⟩
      refine M_operand_r46 ⟨fun z => absurd z (by decide), fun _ => ⟨0, V, w0 V 21 hF.1 hx (by decide) (by omega), fun _ => ?_, fun z => absurd rfl z⟩⟩
      refine M_operand_r110 ⟨by omega, fun z => absurd z (by decide), fun _ => ⟨0, am_upd V 115 f 0, by rw [Int.toNat_natCast]; exact sg, fun _ => ?_, fun z => absurd rfl z⟩⟩
      refine M_operand_r137 ⟨fun z => absurd z (by decide), fun _ => ⟨0, _, w0 _ 22 c1 hx0 (by decide) (by omega), fun _ => ?_, fun z => absurd rfl z⟩⟩
      refine M_operand_r171 ⟨fun z => absurd z (by decide), fun _ => ⟨_, _, ww _ 17 c1 hx0 (by decide), fun _ => s195, fun z => ⟨_, _, ww _ 18 c1 hx0 (by decide), fun z2 => ?_, fun _ => s195⟩⟩⟩
      have y1 := b2i_eq.mp z
      have y2 := b2i_eq.mp z2
      exfalso
      rcases hw.2 with e | e
      · exact y1 e
      · exact y2 e
    have lp1 : lpB N X d V (am_upd W2 86 50 0) := fun R hR => loop_op hF.2.2.2.2.2.1 run1 (Or.inl rfl) (fun z => absurd l3.2.2 z) (fun _ => hR)
    have kW : kB V W2 f q0 := kB_trans kb0 ⟨⟨fun r j e => by
      have n118 : r ≠ 118 := fun z => by subst z; rw [scZ_row (by omega)] at e; exact absurd e (by decide)
      have n114 : r ≠ 114 := fun z => by subst z; rw [scZ_row (by omega)] at e; exact absurd e (by decide)
      rw [(fZ_A6 l2).1 r j e, wr r n114]
      exact h4 r j n118 (fun z => by obtain ⟨rfl, rfl⟩ := z; simp [scZ] at e), fun j _ => by rw [yr 111 (by decide), yr 112 (by decide), wr 111 (by decide), wr 112 (by decide), r1 111 (by decide) (by decide), r1 112 (by decide) (by decide)]; exact ⟨rfl, rfl⟩⟩, fun g hg => by
      rw [yr 113 (by decide), yr 114 (by decide), yr 115 (by decide), yr 116 (by decide), yr 117 (by decide), wr 113 (by decide), wr 115 (by decide), wr 116 (by decide), wr 117 (by decide), hW, upd_ne (by omega), r1 113 (by decide) (by decide), r1 114 (by decide) (by decide), r1 115 (by decide) (by decide), r1 116 (by decide) (by decide), r1 117 (by decide) (by decide)]
      exact ⟨rfl, rfl, rfl, rfl, rfl⟩, by rw [yr 116 (by decide), wr 116 (by decide), r1 116 (by decide) (by decide)], fun j hj => by rw [yr 118 (by decide), wr 118 (by decide)]; exact h3 j hj⟩
    have eW : emR V (am_upd W2 86 50 0) b cl [] := by
      refine ⟨by rw [upd_ne (by decide)]; exact hF2.2.2.1, fun j hj => ?_, fun k c h => by simp at h⟩
      rw [upd_row (by decide), upd_row (by decide), yr 111 (by decide), yr 112 (by decide), wr 111 (by decide), wr 112 (by decide), r1 111 (by decide) (by decide), r1 112 (by decide) (by decide), upd_row (by decide), upd_row (by decide)]
      exact ⟨rfl, rfl⟩
    obtain ⟨y1, y2⟩ := x4 d (am_upd W2 86 50 0) b cl f kd 1 0 q0 ((-1 - vv i) :: O) hb hf ho ⟨Or.inr rfl, fun _ z => absurd rfl z⟩ g1 (fun c hc => by
      rcases List.mem_cons.mp hc with rfl | z
      · rw [isop.2]; decide
      · have := hO c z; omega) (by simp only [List.length_cons]; omega) (by simp only [List.length_cons]; omega)
    refine ⟨fun i' ds e => ?_, fun e => ltB_of (fZ_trans kW.1 (g2 f q0).1) lp1 (y2 e)⟩
    obtain ⟨V3, z1, z2, z3, z4⟩ := y1 i' ds e
    have t1 := emR_app eW z2 (by simp; omega)
    rw [List.nil_append] at t1
    exact ⟨V3, z1, t1, kB_trans kW (kB_trans (g2 f q0) z3), fun R hR => lp1 R (z4 R hR)⟩
  cases hg : gs with
  | none =>
    refine ⟨none, fk1, fp1, [], [], fun _ => x1 hg, (fun i' ds e => by cases e), fun d U cl hcS hcl hle => ?_, fun d V b cl f kd q0 O hb hf ho' hts hF hO hcl hq => ⟨(fun i' ds e => by cases e), fun _ => (stB d V b cl f kd q0 O hb hf hts hF hO hcl hq).2 hg⟩⟩
    obtain ⟨U2, r, y1, y2, y3, y4⟩ := stA d U cl hcS hcl hle
    obtain ⟨z1, z2, z3⟩ := y3 hg
    exact ⟨U2, 0, y4 _ ⟨fun _ => rfl, fun z => absurd z1 z⟩, y1, (fun i' ds e => by cases e), fun _ => ⟨rfl, z2, z3⟩⟩
  | some pr =>
    obtain ⟨i2, ds⟩ := pr
    obtain ⟨w1, w2, w3, w4, w5, w6, w7, w8'⟩ := x2 i2 ds hg
    refine ⟨some (i2, ds ++ [-1 - vv i]), 0, 0, e1, p1 ++ [-1 - vv i], (fun e => by cases e), fun i' ds' e => ?_, fun d U cl hcS hcl hle => ?_, fun d V b cl f kd q0 O hb hf ho' hts hF hO hcl hq => ⟨fun i' ds' e => ?_, (fun e => by cases e)⟩⟩
    · obtain ⟨rfl, rfl⟩ : i2 = i' ∧ ds ++ [-1 - vv i] = ds' := by simpa using e
      refine ⟨by omega, w2, by simp only [List.length_append, List.length_cons, List.length_nil]; omega, fun t ht => ?_, by rw [w5, List.append_assoc], fun c hc => ?_, by simp only [List.length_append, List.length_cons, List.length_nil]; omega, trivial⟩
      · rw [tyl_app (w4 t (by omega))]
        exact tyl_one (tyo t) (by simp only [List.length_cons]; omega)
      · rcases List.mem_append.mp hc with z | z
        · have := w6 c z; omega
        · rw [List.mem_singleton] at z; rw [z, isop.2]; decide
    · obtain ⟨U2, r, y1, y2, y3, y4⟩ := stA d U cl hcS hcl hle
      obtain ⟨z1, z2, z3⟩ := y2 i2 ds hg
      obtain ⟨U3, m1, m2, m3, m4⟩ := ct_emitWord (N := N) (X := X) (d := d + (10 * (8 - o) + 5)) (cl := cl + ds.length) z3.1 (by omega) z2 (vv i) (by omega)
      refine ⟨U3, 1, y4 _ ⟨fun z => absurd z (by rw [z1]; decide), fun _ => ⟨1, U3, m1, fun z => absurd z (by decide), fun _ => rfl⟩⟩, fE_trans y1 m2, fun i' ds' e => ?_, (fun e => by cases e)⟩
      obtain ⟨rfl, rfl⟩ : i2 = i' ∧ ds ++ [-1 - vv i] = ds' := by simpa using e
      exact ⟨rfl, m3, emW_app z3 m4⟩
    · obtain ⟨rfl, rfl⟩ : i2 = i' ∧ ds ++ [-1 - vv i] = ds' := by simpa using e
      obtain ⟨V3, z1, z2, z3, z4⟩ := (stB d V b cl f kd q0 O hb hf hts hF hO hcl hq).1 i2 ds hg
      have nn : nNot (p1 ++ [-1 - vv i]) = 0 := nNot_0 (fun c hc => by
        rcases List.mem_append.mp hc with z | z
        · have := w6 c z; omega
        · rw [List.mem_singleton] at z; rw [z, isop.2]; decide)
      refine ⟨V3, 1, Or.inl ⟨rfl, w8'⟩, ?_, z2, z3, z4⟩
      rw [nn, List.append_assoc]; exact z1
end FCT
