/-! tests: both sides alike -/
section TST
variable {N : Nat} {X : Nat → Int} {T : Nat → Int} {L K : Nat} {kk vv : Nat → Int} {bp : Int}
theorem tlv_claim {F Fs : Nat → Int → am_U → am_S} {FL : Nat → Int → Int → Int → am_U → am_S} {w : Int} {depS mgS cS' pbS o i0 : Nat} {loS hiS ls : Int} {NxS NxR : Nat → Prop} (hk : tkS T L K kk vv bp) (hd : 1 ≤ depS) (hF0 : ∀ d o U r1 U1 R, EvK N X (Fs d o U) (rI r1 U1) → EvK N X (FL (d + 1) o r1 0 U1) R → EvK N X (F (d + 1) o U) R) (hL : lpTk N X T L K kk vv bp Fs FL w) (hwl : (w = 20 ∧ ls = 2) ∨ (w = 19 ∧ ls = 1)) (hlo : ls ≤ loS) (hhi : ls < hiS) (hpb : pbS ≤ 20) (hcS : cS' ≤ 5) (hc1 : 1 ≤ cS') (hmg : 1 ≤ mgS) (hNx : ∀ j, NxS j → ¬ (kk j = 1 ∧ vv j = w) → NxR j) (hS : ∀ j, i0 ≤ j → j ≤ K → TClm N X T L K kk vv bp Fs depS mgS loS hiS cS' pbS NxS j o) : ∀ i, i0 ≤ i → i ≤ K → TClm N X T L K kk vv bp F (depS + 1) (mgS + 1) ls ls (cS' - 1) (pbS + 1) NxR i o := by
  intro i hi0 hi
  have hK : K ≤ 1600 := Nat.le_trans hk.2.1 hk.1
  obtain ⟨gp, fk1, fp1, e1, p1, x1, x2, x3, x4⟩ := hS i hi0 hi
  cases hg : gp with
  | none =>
    refine ⟨none, fk1, fp1, [], [], fun _ => x1 hg, (fun i' ds e => by cases e), fun d U cl hc hcl hle => ?_, fun d V b cl f kd q0 O hb hf ho hts hF hO hcl hq => ⟨(fun i' ds e => by cases e), fun _ => (x4 d V b cl f kd q0 O hb hf ho hts hF (fun c hc => by have := hO c hc; omega) hcl (by omega)).2 hg⟩⟩
    obtain ⟨U1, r, y1, y2, y3, y4⟩ := x3 d U cl hc hcl hle
    obtain ⟨z1, z2, z3⟩ := y4 hg
    subst z1
    exact ⟨U1, 0, hF0 _ _ _ _ _ _ y1 (hL.1 _ _ _ _ (by decide)), y2, (fun i' ds e => by cases e), fun _ => ⟨rfl, z2, z3⟩⟩
  | some pr =>
    obtain ⟨i1, dsa⟩ := pr
    obtain ⟨w1, w2, w3, w4, w5, w6, w7, w8'⟩ := x2 i1 dsa hg
    obtain ⟨gl, fk2, fp2, v1, v2, v3, v4⟩ := tlv_loop (N := N) (X := X) hk hd hL hwl hlo hhi hpb hcS hc1 hmg hS (K - i1) i1 (by omega) (by omega) w8'
    obtain ⟨e2, p2, q1, q2⟩ := v4 p1 (fun c hc => by have := w6 c hc; omega) (by omega)
    have ldb : dsa.length = e1.length + p1.length := by rw [w5, List.length_append]
    refine ⟨gApp dsa gl, fk2, fp2, e1 ++ e2, p2, ?_, ?_, ?_, ?_⟩
    · intro e
      cases hgl : gl with
      | none => exact v1 hgl
      | some q => rw [hgl] at e; exact absurd e (by simp [gApp])
    · intro i' ds e
      cases hgl : gl with
      | none => rw [hgl] at e; exact absurd e (by simp [gApp])
      | some q =>
        obtain ⟨i3, dsl⟩ := q
        rw [hgl] at e
        obtain ⟨rfl, rfl⟩ : i3 = i' ∧ dsa ++ dsl = ds := by simpa [gApp] using e
        obtain ⟨u1, u2, u3, u4, u5, u6⟩ := v2 i3 dsl hgl
        obtain ⟨r1, r2, r3, r4⟩ := q1 i3 dsl hgl
        refine ⟨by omega, u2, by rw [List.length_append]; omega, fun t ht => ?_, ?_, r2, r3, hNx i3 u6 u5⟩
        · rw [tyl_app (w4 t (by omega))]
          exact u4 t (by omega)
        · rw [w5, List.append_assoc, r1, List.append_assoc]
    · intro d U cl hc hcl hle
      obtain ⟨U1, r, y1, y2, y3, y4⟩ := x3 d U cl hc hcl hle
      obtain ⟨z1, z2, z3⟩ := y3 i1 dsa hg
      subst z1
      obtain ⟨U5, r, s1', s2, s3, s4⟩ := v3 d U1 (cl + dsa.length) 0 z2 z3.1 (by omega) (by omega)
      refine ⟨U5, r, hF0 _ _ _ _ _ _ y1 s1', fE_trans y2 s2, fun i' ds e => ?_, fun e => ?_⟩
      · cases hgl : gl with
        | none => rw [hgl] at e; exact absurd e (by simp [gApp])
        | some q =>
          obtain ⟨i3, dsl⟩ := q
          rw [hgl] at e
          obtain ⟨rfl, rfl⟩ : i3 = i' ∧ dsa ++ dsl = ds := by simpa [gApp] using e
          obtain ⟨a1, a2, a3⟩ := s3 i3 dsl hgl
          exact ⟨a1, a2, emW_app z3 a3⟩
      · cases hgl : gl with
        | none => exact s4 hgl
        | some q => rw [hgl] at e; exact absurd e (by simp [gApp])
    · intro d V b cl f kd q0 O hb hf ho hts hF hO hcl hq
      obtain ⟨V1, ph1, y0, y1, y2, y3, y4⟩ := (x4 d V b cl f kd q0 O hb hf ho hts hF (fun c hc => by have := hO c hc; omega) hcl (by omega)).1 i1 dsa hg
      have lap : (p1 ++ O).length = p1.length + O.length := List.length_append
      obtain ⟨s1', s2⟩ := q2 d V1 b (cl + e1.length) f kd ph1 q0 O hb hf ho hts y0 y1 hO (by omega) (by omega)
      refine ⟨fun i' ds e => ?_, fun e => ?_⟩
      · cases hgl : gl with
        | none => rw [hgl] at e; exact absurd e (by simp [gApp])
        | some q =>
          obtain ⟨i3, dsl⟩ := q
          rw [hgl] at e
          obtain ⟨rfl, rfl⟩ : i3 = i' ∧ dsa ++ dsl = ds := by simpa [gApp] using e
          obtain ⟨V2, ph2, z0, z1, z2, z3, z4⟩ := s1' i3 dsl hgl
          refine ⟨V2, ph2, z0, ?_, emR_app y2 z2 (by omega), kB_trans y3 z3, fun R hR => y4 R (z4 R hR)⟩
          rw [List.length_append, ← Nat.add_assoc]; exact z1
      · cases hgl : gl with
        | none =>
          obtain ⟨V2, z1, z2, z3, z4⟩ := s2 hgl
          exact ⟨V2, fZ_trans y3.1 z1, z2, z3, fun R hR => y4 R (z4 R hR)⟩
        | some q => rw [hgl] at e; exact absurd e (by simp [gApp])
theorem lp_both : lpTk N X T L K kk vv bp (fun d o U => Rd_readFact_s0 d o U) (fun d o x m U => Rd_readBoth_s8 d o x m U) 20 := by
  refine ⟨fun d o more U _ => Rd_readBoth_r8 ⟨fun _ => ⟨Or.inl rfl, rfl⟩, fun _ => ⟨fun _ => ⟨Or.inl rfl, rfl⟩, fun z => absurd rfl z⟩⟩, fun d o more U i _ hc hn => ?_, fun d o more U i U2 r3 U3 R hc h4 hs h0 h16 hn hf hgo => ?_⟩
  · have c1 := ct_Rd_isOwn (N := N) (X := X) (d := d) hc 20
    rw [b2i_f hn] at c1
    exact Rd_readBoth_r8 ⟨fun _ => ⟨Or.inr rfl, rfl⟩, fun _ => ⟨fun z => absurd z (by decide), fun _ => ⟨0, U, c1, fun _ => ⟨Or.inr rfl, rfl⟩, fun z => absurd rfl z⟩⟩⟩
  · have c1 := ct_Rd_isOwn (N := N) (X := X) (d := d) hc 20
    rw [b2i_t ⟨h4, hs⟩] at c1
    refine Rd_readBoth_r8 ⟨fun z => absurd z (by omega), fun _ => ⟨fun z => absurd z (by decide), fun _ => ⟨1, U, c1, fun z => absurd z (by decide), fun _ => ⟨U2, hn, r3, U3, hf, hgo.1, fun z => ?_⟩⟩⟩⟩
    obtain ⟨U4, g1, g2⟩ := hgo.2 z
    exact ⟨1, U4, g1, fun y => absurd y (by decide), fun _ => g2⟩
theorem lp_test : lpTk N X T L K kk vv bp (fun d o U => Rd_readBoth_s0 d o U) (fun d o x m U => Rd_readTest_s8 d o x m U) 19 := by
  refine ⟨fun d o more U _ => Rd_readTest_r8 ⟨fun _ => ⟨Or.inl rfl, rfl⟩, fun _ => ⟨fun _ => ⟨Or.inl rfl, rfl⟩, fun z => absurd rfl z⟩⟩, fun d o more U i _ hc hn => ?_, fun d o more U i U2 r3 U3 R hc h4 hs h0 h16 hn hf hgo => ?_⟩
  · have c1 := ct_Rd_isOwn (N := N) (X := X) (d := d) hc 19
    rw [b2i_f hn] at c1
    exact Rd_readTest_r8 ⟨fun _ => ⟨Or.inr rfl, rfl⟩, fun _ => ⟨fun z => absurd z (by decide), fun _ => ⟨0, U, c1, fun _ => ⟨Or.inr rfl, rfl⟩, fun z => absurd rfl z⟩⟩⟩
  · have c1 := ct_Rd_isOwn (N := N) (X := X) (d := d) hc 19
    rw [b2i_t ⟨h4, hs⟩] at c1
    refine Rd_readTest_r8 ⟨fun z => absurd z (by omega), fun _ => ⟨fun z => absurd z (by decide), fun _ => ⟨1, U, c1, fun z => absurd z (by decide), fun _ => ⟨U2, hn, r3, U3, hf, hgo.1, fun z => ?_⟩⟩⟩⟩
    obtain ⟨U4, g1, g2⟩ := hgo.2 z
    exact ⟨1, U4, g1, fun y => absurd y (by decide), fun _ => g2⟩
theorem test_of_fact {o i0 : Nat} (hk : tkS T L K kk vv bp) (ho : o ≤ 7) (hP : ∀ j, i0 ≤ j → j ≤ K → FactC N X T L K kk vv bp j o) : ∀ j, i0 ≤ j → j ≤ K → TestC N X T L K kk vv bp j o := by
  have h1 := tlv_claim (N := N) (X := X) (F := fun d o U => Rd_readBoth_s0 d o U) (w := 20) (ls := 2) (o := o) (NxR := fun j => ¬ (kk j = 1 ∧ vv j = 20)) hk (by omega) (fun d o U r1 U1 R a b => Rd_readBoth_r0 ⟨r1, U1, a, b⟩) lp_both (Or.inl ⟨rfl, rfl⟩) (by decide) (by decide) (by omega) (by decide) (by decide) (by omega) (fun j _ h => h) hP
  exact tlv_claim (N := N) (X := X) (F := fun d o U => Rd_readTest_s0 d o U) (w := 19) (ls := 1) (o := o) (NxR := fun j => ¬ (kk j = 1 ∧ vv j = 20) ∧ ¬ (kk j = 1 ∧ vv j = 19)) hk (by omega) (fun d o U r1 U1 R a b => Rd_readTest_r0 ⟨r1, U1, a, b⟩) lp_test (Or.inr ⟨rfl, rfl⟩) (by decide) (by decide) (by omega) (by decide) (by decide) (by omega) (fun j h1 h2 => ⟨h1, h2⟩) h1
/-- every fact and every test, both sides alike -/
theorem test_all (hk : tkS T L K kk vv bp) : ∀ n o : Nat, o + n = 7 → ∀ j, j ≤ K → FactC N X T L K kk vv bp j o ∧ TestC N X T L K kk vv bp j o := by
  intro n
  induction n with
  | zero =>
    intro o ho
    have f0 : ∀ j, 0 ≤ j → j ≤ K → FactC N X T L K kk vv bp j o := fun j _ hj => fact_any hk hj (by omega) (fun z => absurd z (by omega)) (fun z => absurd z (by omega))
    exact fun j hj => ⟨f0 j (Nat.zero_le j) hj, test_of_fact (i0 := 0) hk (by omega) f0 j (Nat.zero_le j) hj⟩
  | succ n ih =>
    intro o ho
    have f0 : ∀ j, 0 ≤ j → j ≤ K → FactC N X T L K kk vv bp j o := fun j _ hj => fact_any hk hj (by omega) (fun _ j' _ hj' => (ih (o + 1) (by omega) j' hj').1) (fun _ j' _ hj' => (ih (o + 1) (by omega) j' hj').2)
    exact fun j hj => ⟨f0 j (Nat.zero_le j) hj, test_of_fact (i0 := 0) hk (by omega) f0 j (Nat.zero_le j) hj⟩
end TST
