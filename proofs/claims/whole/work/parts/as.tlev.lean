/-! tests: a row of facts with one word between them -/
section TLV
variable {N : Nat} {X : Nat → Int} {T : Nat → Int} {L K : Nat} {kk vv : Nat → Int} {bp : Int}
def lpTk (N : Nat) (X : Nat → Int) (T : Nat → Int) (L K : Nat) (kk vv : Nat → Int) (bp : Int) (Fs : Nat → Int → am_U → am_S) (FL : Nat → Int → Int → Int → am_U → am_S) (w : Int) : Prop := (∀ d o more U, 0 ≤ more → EvK N X (FL (d + 1) o 0 more U) (rI 0 U)) ∧ (∀ d o more U i, 0 ≤ more → cS U T L K kk vv bp i → ¬ (kk i = 1 ∧ vv i = w) → EvK N X (FL (d + 1) o 1 more U) (rI 1 U)) ∧ (∀ d o more U i U2 r3 U3 R, cS U T L K kk vv bp i → kk i = 1 → vv i = w → 0 ≤ more → more < 1600 → EvK N X (Rd_next_s0 d U) (rV U2) → EvK N X (Fs d o U2) (rI r3 U3) → ((r3 = 0 → EvK N X (FL (d + 1) o 0 (w32 (more + 1)) U3) R) ∧ (r3 ≠ 0 → ∃ U4, EvK N X (Tw_emitWord_s0 d w U3) (rI 1 U4) ∧ EvK N X (FL (d + 1) o 1 (w32 (more + 1)) U4) R)) → EvK N X (FL (d + 1) o 1 more U) R)
theorem tlv_loop {Fs : Nat → Int → am_U → am_S} {FL : Nat → Int → Int → Int → am_U → am_S} {w : Int} {depS mgS cS' pbS o i0 : Nat} {loS hiS ls : Int} {NxS : Nat → Prop} (hk : tkS T L K kk vv bp) (hd : 1 ≤ depS) (hL : lpTk N X T L K kk vv bp Fs FL w) (hwl : (w = 20 ∧ ls = 2) ∨ (w = 19 ∧ ls = 1)) (hlo : ls ≤ loS) (hhi : ls < hiS) (hpb : pbS ≤ 20) (hcS : cS' ≤ 5) (hc1 : 1 ≤ cS') (hmg : 1 ≤ mgS) (hS : ∀ j, i0 ≤ j → j ≤ K → TClm N X T L K kk vv bp Fs depS mgS loS hiS cS' pbS NxS j o) : ∀ m i : Nat, i + m = K → i0 ≤ i → NxS i → ∃ (g : Option (Nat × List Int)) (fk fp : Int), (g = none → 1 ≤ fk) ∧ (∀ i' ds, g = some (i', ds) → i ≤ i' ∧ i' ≤ K ∧ ds.length + i ≤ i' ∧ (∀ t : List Bool, t.length + 1 + mgS ≤ 60 → tyl ds (true :: t) = some (true :: t)) ∧ ¬ (kk i' = 1 ∧ vv i' = w) ∧ NxS i') ∧ (∀ (d : Nat) (U : am_U) (cl more : Nat), cS U T L K kk vv bp i → U 31 18 = (cl : Nat) → cl ≤ i → more ≤ i → ∃ U' r, EvK N X (FL (d + depS + 1) (o : Nat) 1 (more : Nat) U) (rI r U') ∧ fE U U' ∧ (∀ i' ds, g = some (i', ds) → r = 1 ∧ cS U' T L K kk vv bp i' ∧ emW U U' cl ds) ∧ (g = none → r = 0 ∧ U' 26 4 = fk ∧ U' 26 5 = fp)) ∧ (∀ p0 : List Int, (∀ c, c ∈ p0 → ls ≤ rkC c) → p0.length ≤ pbS + 1 → ∃ e0 pend, (∀ i' ds, g = some (i', ds) → p0 ++ ds = e0 ++ pend ∧ (∀ c, c ∈ pend → ls ≤ rkC c) ∧ pend.length ≤ pbS + 1 ∧ (i' = i → pend = p0)) ∧ ∀ (d : Nat) (V : am_U) (b cl f : Nat) (kd ph : Int) (q0 : Nat) (O : List Int), b < 2 → f ≤ o → o ≤ 7 → isTs kd → phT kk vv i ph → rF V T L i b cl f kd ph 0 1 (o + nNot p0) q0 (p0 ++ O) → (∀ c, c ∈ O → rkC c < ls) → cl + q0 + (p0 ++ O).length ≤ i → q0 + O.length + 1 ≤ 10 * o + cS' → (∀ i' ds, g = some (i', ds) → ∃ (V' : am_U) (ph' : Int), phT kk vv i' ph' ∧ rF V' T L i' b (cl + e0.length) f kd ph' 0 1 (o + nNot pend) q0 (pend ++ O) ∧ emR V V' b cl e0 ∧ kB V V' f q0 ∧ lpB N X d V V') ∧ (g = none → ltB N X d V fk fp)) := by
  have rkw : rkC (-1 - w) = ls := by rcases hwl with ⟨rfl, rfl⟩ | ⟨rfl, rfl⟩ <;> decide
  have tyw : ∀ t : List Bool, tyc (-1 - w) (true :: true :: t) = some (true :: t) := fun t => by rcases hwl with ⟨rfl, rfl⟩ | ⟨rfl, rfl⟩ <;> rfl
  have nw : ∀ p : List Int, nNot (p ++ [-1 - w]) = nNot p := fun p => by rcases hwl with ⟨rfl, rfl⟩ | ⟨rfl, rfl⟩ <;> (unfold nNot; simp)
  intro m
  induction m using Nat.strongRecOn with
  | _ m ih =>
  intro i him hi0 hnx
  have hK : K ≤ 1600 := Nat.le_trans hk.2.1 hk.1
  by_cases c0 : kk i = 1 ∧ vv i = w
  · have iK : i < K := by
      rcases Nat.lt_or_ge i K with q | q
      · exact q
      · have e : i = K := by omega
        rw [e] at c0
        rcases hk.2.2.2.2.2 with z | z <;> omega
    obtain ⟨gp, fk1, fp1, e1, p1, x1, x2, x3, x4⟩ := hS (i + 1) (by omega) (by omega)
    -- the class's step
    have stA : ∀ (d : Nat) (U : am_U) (cl more : Nat), cS U T L K kk vv bp i → U 31 18 = (cl : Nat) → cl ≤ i → more ≤ i → ∃ U2 U3 r3, fE U U3 ∧ (∀ i2 dsb, gp = some (i2, dsb) → r3 = 1 ∧ cS U3 T L K kk vv bp i2 ∧ emW U U3 cl dsb) ∧ (gp = none → r3 = 0 ∧ U3 26 4 = fk1 ∧ U3 26 5 = fp1) ∧ EvK N X (Rd_next_s0 (d + depS) U) (rV U2) ∧ EvK N X (Fs (d + depS) (o : Nat) U2) (rI r3 U3) := fun d U cl more hc hcl hle hm => by
      obtain ⟨U2, n1, n2, n3⟩ := ct_Rd_next (N := N) (X := X) (d := d + depS) (by omega) hK hc iK
      obtain ⟨U3, r3, y1, y2, y3, y4⟩ := x3 d U2 cl n3 (by rw [n2 31 18 (by omega)]; exact hcl) (by omega)
      refine ⟨U2, U3, r3, fE_trans (fE_fN n2) y2, fun i2 dsb e => ?_, y4, n1, y1⟩
      obtain ⟨z1, z2, z3⟩ := y3 i2 dsb e
      exact ⟨z1, z2, ⟨z3.1, fun j hj => by rw [z3.2.1 j hj]; exact n2 43 j (by omega), z3.2.2⟩⟩
    -- the reference's step
    have stB : ∀ (p0 : List Int), (∀ c, c ∈ p0 → ls ≤ rkC c) → p0.length ≤ pbS + 1 → ∀ (d : Nat) (V : am_U) (b cl f : Nat) (kd ph : Int) (q0 : Nat) (O : List Int), b < 2 → f ≤ o → o ≤ 7 → isTs kd → phT kk vv i ph → rF V T L i b cl f kd ph 0 1 (o + nNot p0) q0 (p0 ++ O) → (∀ c, c ∈ O → rkC c < ls) → cl + q0 + (p0 ++ O).length ≤ i → q0 + O.length + 1 ≤ 10 * o + cS' → (∀ i2 dsb, gp = some (i2, dsb) → ∃ (V' : am_U) (ph' : Int), phT kk vv i2 ph' ∧ rF V' T L i2 b (cl + (p0 ++ e1).length) f kd ph' 0 1 (o + nNot (p1 ++ [-1 - w])) q0 ((p1 ++ [-1 - w]) ++ O) ∧ emR V V' b cl (p0 ++ e1) ∧ kB V V' f q0 ∧ lpB N X d V V') ∧ (gp = none → ltB N X d V fk1 fp1) := fun p0 hp0 hpl d V b cl f kd ph q0 O hb hf ho hts hph hF hO hcl hq => by
      have lap : (p0 ++ O).length = p0.length + O.length := List.length_append
      obtain ⟨V1, k2, k3, k4, l1⟩ := on_word (N := N) (X := X) (d := d) (S1 := O) (S2 := p0) hk iK hb (by omega) hts hF hph c0 hwl hp0 hO (by omega) (by omega) (by omega) (by omega)
      obtain ⟨y1, y2⟩ := x4 d V1 b (cl + p0.length) f kd q0 ((-1 - w) :: O) hb hf ho hts k2 (fun c hc => by
        rcases List.mem_cons.mp hc with rfl | z
        · rw [rkw]; exact hhi
        · have := hO c z; omega) (by simp only [List.length_cons]; omega) (by simp only [List.length_cons]; omega)
      refine ⟨fun i2 dsb e => ?_, fun e => ?_⟩
      · obtain ⟨V2, ph', z0, z1, z2, z3, z4⟩ := y1 i2 dsb e
        obtain ⟨w1, w2, w3, w4, w5, w6, w7, w8'⟩ := x2 i2 dsb e
        refine ⟨V2, ph', z0, ?_, ?_, kB_trans k4 z3, fun R hR => l1 R (z4 R hR)⟩
        · rw [List.length_append, ← Nat.add_assoc, List.append_assoc, nw]
          exact z1
        · have le1 : e1.length ≤ dsb.length := by rw [w5, List.length_append]; omega
          exact emR_app k3 z2 (by omega)
      · obtain ⟨V2, z1, z2, z3, z4⟩ := y2 e
        exact ⟨V2, fZ_trans k4.1 z1, z2, z3, fun R hR => l1 R (z4 R hR)⟩
    cases hg : gp with
    | none =>
      refine ⟨none, fk1, fp1, fun _ => x1 hg, (fun i' ds e => by cases e), fun d U cl more hc hcl hle hm => ?_, fun p0 hp0 hpl => ⟨[], [], (fun i' ds e => by cases e), fun d V b cl f kd ph q0 O hb hf ho hts hph hF hO hcl hq => ⟨(fun i' ds e => by cases e), fun _ => (stB p0 hp0 hpl d V b cl f kd ph q0 O hb hf ho hts hph hF hO hcl hq).2 hg⟩⟩⟩
      obtain ⟨U2, U3, r3, y1, y2, y3, y4, y5⟩ := stA d U cl more hc hcl hle hm
      obtain ⟨z1, z2, z3⟩ := y3 hg
      refine ⟨U3, 0, hL.2.2 (d + depS) (o : Nat) (more : Nat) U i U2 r3 U3 _ hc c0.1 c0.2 (by omega) (by omega) y4 y5 ⟨fun _ => ?_, fun z => absurd z1 z⟩, y1, (fun i' ds e => by cases e), fun _ => ⟨rfl, z2, z3⟩⟩
      rw [w32_succ (i := more) (by omega)]
      exact hL.1 _ _ _ _ (by omega)
    | some pr =>
      obtain ⟨i2, dsb⟩ := pr
      obtain ⟨w1, w2, w3, w4, w5, w6, w7, w8'⟩ := x2 i2 dsb hg
      obtain ⟨gl, fk2, fp2, v1, v2, v3, v4⟩ := ih (K - i2) (by omega) i2 (by omega) (by omega) w8'
      have vb : 0 ≤ w ∧ w < 100 := by omega
      -- the class emits the sign and goes on
      have goA : ∀ (d : Nat) (U : am_U) (cl more : Nat), cS U T L K kk vv bp i → U 31 18 = (cl : Nat) → cl ≤ i → more ≤ i → ∃ U4, fE U U4 ∧ cS U4 T L K kk vv bp i2 ∧ emW U U4 cl (dsb ++ [-1 - w]) ∧ ∀ R, EvK N X (FL (d + depS + 1) (o : Nat) 1 ((more + 1 : Nat) : Int) U4) R → EvK N X (FL (d + depS + 1) (o : Nat) 1 (more : Nat) U) R := fun d U cl more hc hcl hle hm => by
        obtain ⟨U2, U3, r3, y1, y2, y3, y4, y5⟩ := stA d U cl more hc hcl hle hm
        obtain ⟨z1, z2, z3⟩ := y2 i2 dsb hg
        obtain ⟨d', hd'⟩ : ∃ d', depS = d' + 1 := ⟨depS - 1, by omega⟩
        obtain ⟨U4, u1, u2, u3, u4⟩ := ct_emitWord (N := N) (X := X) (d := d + d') (cl := cl + dsb.length) z3.1 (by omega) z2 w vb
        refine ⟨U4, fE_trans y1 u2, u3, emW_app z3 u4, fun R hR => hL.2.2 (d + depS) (o : Nat) (more : Nat) U i U2 r3 U3 R hc c0.1 c0.2 (by omega) (by omega) y4 y5 ⟨fun z => absurd z (by rw [z1]; decide), fun _ => ⟨U4, ?_, ?_⟩⟩⟩
        · rw [hd']; exact u1
        · rw [w32_succ (i := more) (by omega)]; exact hR
      refine ⟨gApp (dsb ++ [-1 - w]) gl, fk2, fp2, ?_, ?_, ?_, ?_⟩
      · intro e
        cases hgl : gl with
        | none => exact v1 hgl
        | some q => rw [hgl] at e; exact absurd e (by simp [gApp])
      · intro i' ds e
        cases hgl : gl with
        | none => rw [hgl] at e; exact absurd e (by simp [gApp])
        | some q =>
          obtain ⟨i3, dsl⟩ := q
          rw [hgl] at e
          obtain ⟨rfl, rfl⟩ : i3 = i' ∧ dsb ++ [-1 - w] ++ dsl = ds := by simpa [gApp] using e
          obtain ⟨u1, u2, u3, u4, u5⟩ := v2 i3 dsl hgl
          refine ⟨by omega, u2, by simp only [List.length_append, List.length_cons, List.length_nil]; omega, fun t ht => ?_, u5⟩
          have t1 := w4 (true :: t) (by simp only [List.length_cons]; omega)
          rw [List.append_assoc, tyl_app t1]
          have t2 := tyl_one (tyw t) (by simp only [List.length_cons]; omega)
          rw [tyl_app t2]
          exact u4 t ht
      · intro d U cl more hc hcl hle hm
        obtain ⟨U4, u1, u2, u3, u4⟩ := goA d U cl more hc hcl hle hm
        have l4 : U4 31 18 = ((cl + (dsb ++ [-1 - w]).length : Nat) : Int) := u3.1
        obtain ⟨U5, r, s1', s2, s3, s4⟩ := v3 d U4 (cl + (dsb ++ [-1 - w]).length) (more + 1) u2 l4 (by simp only [List.length_append, List.length_cons, List.length_nil]; omega) (by omega)
        refine ⟨U5, r, u4 _ s1', fE_trans u1 s2, fun i' ds e => ?_, fun e => ?_⟩
        · cases hgl : gl with
          | none => rw [hgl] at e; exact absurd e (by simp [gApp])
          | some q =>
            obtain ⟨i3, dsl⟩ := q
            rw [hgl] at e
            obtain ⟨rfl, rfl⟩ : i3 = i' ∧ dsb ++ [-1 - w] ++ dsl = ds := by simpa [gApp] using e
            obtain ⟨y1, y2, y3⟩ := s3 i3 dsl hgl
            exact ⟨y1, y2, emW_app u3 y3⟩
        · cases hgl : gl with
          | none => exact s4 hgl
          | some q => rw [hgl] at e; exact absurd e (by simp [gApp])
      · intro p0 hp0 hpl
        have rk1 : ls ≤ rkC (-1 - w) := by rw [rkw]; exact Int.le_refl ls
        obtain ⟨e2, p2, q1, q2⟩ := v4 (p1 ++ [-1 - w]) (fun c hc => by
          rcases List.mem_append.mp hc with z | z
          · have := w6 c z; omega
          · rw [List.mem_singleton] at z; rw [z]; exact rk1) (by simp only [List.length_append, List.length_cons, List.length_nil]; omega)
        refine ⟨p0 ++ e1 ++ e2, p2, fun i' ds e => ?_, fun d V b cl f kd ph q0 O hb hf ho hts hph hF hO hcl hq => ?_⟩
        · cases hgl : gl with
          | none => rw [hgl] at e; exact absurd e (by simp [gApp])
          | some q =>
            obtain ⟨i3, dsl⟩ := q
            rw [hgl] at e
            obtain ⟨rfl, rfl⟩ : i3 = i' ∧ dsb ++ [-1 - w] ++ dsl = ds := by simpa [gApp] using e
            obtain ⟨r1, r2, r3, r4⟩ := q1 i3 dsl hgl
            obtain ⟨u1, u2, u3, u4, u5⟩ := v2 i3 dsl hgl
            refine ⟨?_, r2, r3, fun z => by omega⟩
            rw [w5]
            have : p0 ++ (e1 ++ p1 ++ [-1 - w] ++ dsl) = p0 ++ e1 ++ ((p1 ++ [-1 - w]) ++ dsl) := by simp only [List.append_assoc]
            rw [this, r1]
            simp only [List.append_assoc]
        · obtain ⟨V1, ph1, y0, y1, y2, y3, y4⟩ := (stB p0 hp0 hpl d V b cl f kd ph q0 O hb hf ho hts hph hF hO hcl hq).1 i2 dsb hg
          have lap : (p0 ++ O).length = p0.length + O.length := List.length_append
          have ldb : dsb.length = e1.length + p1.length := by rw [w5, List.length_append]
          obtain ⟨s1', s2⟩ := q2 d V1 b (cl + (p0 ++ e1).length) f kd ph1 q0 O hb hf ho hts y0 y1 hO (by simp only [List.length_append, List.length_cons, List.length_nil]; omega) hq
          refine ⟨fun i' ds e => ?_, fun e => ?_⟩
          · cases hgl : gl with
            | none => rw [hgl] at e; exact absurd e (by simp [gApp])
            | some q =>
              obtain ⟨i3, dsl⟩ := q
              rw [hgl] at e
              obtain ⟨rfl, rfl⟩ : i3 = i' ∧ dsb ++ [-1 - w] ++ dsl = ds := by simpa [gApp] using e
              obtain ⟨V2, ph2, z0, z1, z2, z3, z4⟩ := s1' i3 dsl hgl
              refine ⟨V2, ph2, z0, ?_, emR_app y2 z2 (by simp only [List.length_append]; omega), kB_trans y3 z3, fun R hR => y4 R (z4 R hR)⟩
              rw [List.length_append, ← Nat.add_assoc]; exact z1
          · cases hgl : gl with
            | none =>
              obtain ⟨V2, z1, z2, z3, z4⟩ := s2 hgl
              exact ⟨V2, fZ_trans y3.1 z1, z2, z3, fun R hR => y4 R (z4 R hR)⟩
            | some q => rw [hgl] at e; exact absurd e (by simp [gApp])
  · refine ⟨some (i, []), 0, 0, (fun e => by cases e), fun i' ds e => ?_, fun d U cl more hc hcl hle hm => ⟨U, 1, hL.2.1 _ _ _ _ i (by omega) hc c0, fE_refl U, fun i' ds e => ?_, (fun e => by cases e)⟩, fun p0 hp0 hpl => ⟨[], p0, fun i' ds e => ?_, fun d V b cl f kd ph q0 O hb hf ho hts hph hF hO hcl hq => ⟨fun i' ds e => ⟨V, ph, ?_, ?_, emR_nil hF.2.2.1 rfl rfl, kB_refl V f q0, fun R hR => hR⟩, (fun e => by cases e)⟩⟩⟩
    · obtain ⟨rfl, rfl⟩ : i = i' ∧ [] = ds := by simpa using e
      exact ⟨Nat.le_refl _, by omega, by simp, fun t ht => rfl, c0, hnx⟩
    · obtain ⟨rfl, rfl⟩ : i = i' ∧ [] = ds := by simpa using e
      exact ⟨rfl, hc, emW_nil hcl⟩
    · obtain ⟨rfl, rfl⟩ : i = i' ∧ [] = ds := by simpa using e
      exact ⟨by simp, hp0, hpl, fun _ => rfl⟩
    · obtain ⟨rfl, rfl⟩ : i = i' ∧ [] = ds := by simpa using e
      exact hph
    · obtain ⟨rfl, rfl⟩ : i = i' ∧ [] = ds := by simpa using e
      exact hF
end TLV
