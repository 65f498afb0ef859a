/-! products and sums out of parts -/
section SUMS
variable {N : Nat} {X : Nat → Int} {T : Nat → Int} {L K : Nat} {kk vv : Nat → Int} {bp : Int}
theorem lvl_claim {F Fs : Nat → Int → am_U → am_S} {FL : Nat → Int → Int → Int → am_U → am_S} {SG : Int → Prop} {depS mgS cS' pbS o i0 : Nat} {loS hiS ls : Int} {NxS : Nat → Prop} (hk : tkS T L K kk vv bp) (hd : 1 ≤ depS) (hF0 : ∀ d o U r1 U1 R, EvK N X (Fs d o U) (rI r1 U1) → EvK N X (FL (d + 1) o r1 0 U1) R → EvK N X (F (d + 1) o U) R) (hL : lpOk N X T L K kk vv bp Fs FL SG) (hsg : ∀ c, SG c → isAr c ∧ lsA c = ls) (h5 : 5 ≤ ls) (hlo : ls ≤ loS) (hhi : ls < hiS) (hpb : pbS ≤ 5) (hcS : cS' ≤ 5) (hc1 : 1 ≤ cS') (hmg : 1 ≤ mgS) (hS : ∀ j, i0 ≤ j → j ≤ K → Clm N X T L K kk vv bp Fs depS mgS loS hiS cS' pbS NxS j o) : ∀ i, i0 ≤ i → i ≤ K → Clm N X T L K kk vv bp F (depS + 1) (mgS + 1) ls ls (cS' - 1) (pbS + 1) (fun j => NxS j ∧ ¬ (kk j = 4 ∧ SG (vv j))) i o := by
  intro i hi0 hi
  have hK : K ≤ 1600 := Nat.le_trans hk.2.1 hk.1
  obtain ⟨gp, fk1, fp1, e1, p1, x1, x2, x3, x4⟩ := hS i hi0 hi
  cases hg : gp with
  | none =>
    refine ⟨none, fk1, fp1, [], [], fun _ => x1 hg, (fun i' ds e => by cases e), fun d U cl hc hcl hle => ?_, fun d V b cl f kd ph bg q0 O hb hf ho hp hF hO hcl hq => ⟨(fun i' ds e => by cases e), fun _ => (x4 d V b cl f kd ph bg q0 O hb hf ho hp hF (fun c hc => by have := hO c hc; omega) hcl (by omega)).2 hg⟩⟩
    obtain ⟨U1, r, y1, y2, y3, y4⟩ := x3 d U cl hc hcl hle
    obtain ⟨z1, z2, z3⟩ := y4 hg
    subst z1
    exact ⟨U1, 0, hF0 _ _ _ _ _ _ y1 (hL.1 _ _ _ _ (by decide)), y2, (fun i' ds e => by cases e), fun _ => ⟨rfl, z2, z3⟩⟩
  | some pr =>
    obtain ⟨i1, dsa⟩ := pr
    obtain ⟨w1, w2, w3, w4, w5, w6, w7, w8'⟩ := x2 i1 dsa hg
    obtain ⟨gl, fk2, fp2, v1, v2, v3, v4⟩ := lvl_loop (N := N) (X := X) hk hd hL hsg h5 hlo hhi hpb hcS hc1 hmg hS (K - i1) i1 (by omega) (by omega) w8'
    obtain ⟨e2, p2, q1, q2⟩ := v4 p1 (fun c hc => by have := w6 c hc; omega) (by omega)
    have ldb : dsa.length = e1.length + p1.length := by rw [w5, List.length_append]
    refine ⟨gApp dsa gl, fk2, fp2, e1 ++ e2, p2, ?_, ?_, ?_, ?_⟩
    · intro e
      cases hgl : gl with
      | none => exact v1 hgl
      | some q => rw [hgl] at e; exact absurd e (by simp [gApp])
    · intro i' ds e
      cases hgl : gl with
      | none => rw [hgl] at e; exact absurd e (by simp [gApp])
      | some q =>
        obtain ⟨i3, dsl⟩ := q
        rw [hgl] at e
        obtain ⟨rfl, rfl⟩ : i3 = i' ∧ dsa ++ dsl = ds := by simpa [gApp] using e
        obtain ⟨u1, u2, u3, u4, u5, u6⟩ := v2 i3 dsl hgl
        obtain ⟨r1, r2, r3, r4⟩ := q1 i3 dsl hgl
        refine ⟨by omega, u2, by rw [List.length_append]; omega, fun t ht => ?_, ?_, r2, r3, u6, u5⟩
        · rw [tyl_app (w4 t (by omega))]
          exact u4 t (by omega)
        · rw [w5, List.append_assoc, r1, List.append_assoc]
    · intro d U cl hc hcl hle
      obtain ⟨U1, r, y1, y2, y3, y4⟩ := x3 d U cl hc hcl hle
      obtain ⟨z1, z2, z3⟩ := y3 i1 dsa hg
      subst z1
      obtain ⟨U5, r, s1', s2, s3, s4⟩ := v3 d U1 (cl + dsa.length) 0 z2 z3.1 (by omega) (by omega)
      refine ⟨U5, r, hF0 _ _ _ _ _ _ y1 s1', fE_trans y2 s2, fun i' ds e => ?_, fun e => ?_⟩
      · cases hgl : gl with
        | none => rw [hgl] at e; exact absurd e (by simp [gApp])
        | some q =>
          obtain ⟨i3, dsl⟩ := q
          rw [hgl] at e
          obtain ⟨rfl, rfl⟩ : i3 = i' ∧ dsa ++ dsl = ds := by simpa [gApp] using e
          obtain ⟨a1, a2, a3⟩ := s3 i3 dsl hgl
          exact ⟨a1, a2, emW_app z3 a3⟩
      · cases hgl : gl with
        | none => exact s4 hgl
        | some q => rw [hgl] at e; exact absurd e (by simp [gApp])
    · intro d V b cl f kd ph bg q0 O hb hf ho hp hF hO hcl hq
      obtain ⟨V1, y1, y2, y3, y4⟩ := (x4 d V b cl f kd ph bg q0 O hb hf ho hp hF (fun c hc => by have := hO c hc; omega) hcl (by omega)).1 i1 dsa hg
      have lap : (p1 ++ O).length = p1.length + O.length := List.length_append
      obtain ⟨s1', s2⟩ := q2 d V1 b (cl + e1.length) f kd ph q0 O hb hf ho hp.1 y1 hO (by omega) (by omega)
      refine ⟨fun i' ds e => ?_, fun e => ?_⟩
      · cases hgl : gl with
        | none => rw [hgl] at e; exact absurd e (by simp [gApp])
        | some q =>
          obtain ⟨i3, dsl⟩ := q
          rw [hgl] at e
          obtain ⟨rfl, rfl⟩ : i3 = i' ∧ dsa ++ dsl = ds := by simpa [gApp] using e
          obtain ⟨V2, z1, z2, z3, z4⟩ := s1' i3 dsl hgl
          refine ⟨V2, ?_, emR_app y2 z2 (by omega), kB_trans y3 z3, fun R hR => y4 R (z4 R hR)⟩
          rw [List.length_append, ← Nat.add_assoc]; exact z1
      · cases hgl : gl with
        | none =>
          obtain ⟨V2, z1, z2, z3, z4⟩ := s2 hgl
          exact ⟨V2, fZ_trans y3.1 z1, z2, z3, fun R hR => y4 R (z4 R hR)⟩
        | some q => rw [hgl] at e; exact absurd e (by simp [gApp])
def sgP (c : Int) : Prop := c = 42 ∨ c = 47 ∨ c = 37
def sgS (c : Int) : Prop := c = 43 ∨ c = 45
theorem lp_prod : lpOk N X T L K kk vv bp (fun d o U => Rd_readPart_s0 d o U) (fun d o x m U => Rd_readProduct_s8 d o x m U) sgP := by
  refine ⟨fun d o more U _ => Rd_readProduct_r8 ⟨fun _ => ⟨Or.inl rfl, rfl⟩, fun _ => ⟨fun _ => ⟨Or.inl rfl, rfl⟩, fun z => absurd rfl z⟩⟩, fun d o more U i _ hc hn => ?_, fun d o more U i U2 r3 U3 R hc h4 hs h0 h16 hn hf hgo => ?_⟩
  · have c1 := ct_Rd_isSign (N := N) (X := X) (d := d) hc 42
    have c2 := ct_Rd_isSign (N := N) (X := X) (d := d) hc 47
    have c3 := ct_Rd_isSign (N := N) (X := X) (d := d) hc 37
    rw [b2i_f (fun z => hn ⟨z.1, Or.inl z.2⟩)] at c1
    rw [b2i_f (fun z => hn ⟨z.1, Or.inr (Or.inl z.2)⟩)] at c2
    rw [b2i_f (fun z => hn ⟨z.1, Or.inr (Or.inr z.2)⟩)] at c3
    exact Rd_readProduct_r8 ⟨fun _ => ⟨Or.inr rfl, rfl⟩, fun _ => ⟨fun z => absurd z (by decide), fun _ => ⟨0, U, c1, fun z => absurd rfl z, fun _ => ⟨0, U, c2, fun z => absurd rfl z, fun _ => ⟨0, U, c3, fun _ => ⟨Or.inr rfl, rfl⟩, fun z => absurd rfl z⟩⟩⟩⟩⟩
  · have e8 := hc.2.2.2.2.2.2.1
    have fin : ∃ U2 : am_U, EvK N X (Rd_next_s0 d U) (rV U2) ∧ ∃ (r3 : Int) (U3 : am_U), EvK N X (Rd_readPart_s0 d o U2) (rI r3 U3) ∧ ((r3 = 0) → EvK N X (Rd_readProduct_s8 (d + 1) o 0 (w32 (more + 1)) U3) R) ∧ ((r3 ≠ 0) → ∃ (r4 : Int) (U4 : am_U), EvK N X (Tw_emitSign_s0 d (U 26 8) U3) (rI r4 U4) ∧ ((r4 = 0) → EvK N X (Rd_readProduct_s8 (d + 1) o 0 (w32 (more + 1)) U4) R) ∧ ((r4 ≠ 0) → EvK N X (Rd_readProduct_s8 (d + 1) o 1 (w32 (more + 1)) U4) R)) := by
      refine ⟨U2, hn, r3, U3, hf, hgo.1, fun z => ?_⟩
      obtain ⟨U4, g1, g2⟩ := hgo.2 z
      exact ⟨1, U4, by rw [e8]; exact g1, fun y => absurd y (by decide), fun _ => g2⟩
    have c1 := ct_Rd_isSign (N := N) (X := X) (d := d) hc 42
    have c2 := ct_Rd_isSign (N := N) (X := X) (d := d) hc 47
    have c3 := ct_Rd_isSign (N := N) (X := X) (d := d) hc 37
    refine Rd_readProduct_r8 ⟨fun z => absurd z (by omega), fun _ => ⟨fun z => absurd z (by decide), fun _ => ⟨_, U, c1, fun _ => fin, fun z1 => ⟨_, U, c2, fun _ => fin, fun z2 => ⟨_, U, c3, fun z3 => ?_, fun _ => fin⟩⟩⟩⟩⟩
    have y1 := b2i_eq.mp z1
    have y2 := b2i_eq.mp z2
    have y3 := b2i_eq.mp z3
    rcases hs with e | e | e
    · exact absurd ⟨h4, e⟩ y1
    · exact absurd ⟨h4, e⟩ y2
    · exact absurd ⟨h4, e⟩ y3
theorem lp_sum : lpOk N X T L K kk vv bp (fun d o U => Rd_readProduct_s0 d o U) (fun d o x m U => Rd_readSum_s8 d o x m U) sgS := by
  refine ⟨fun d o more U _ => Rd_readSum_r8 ⟨fun _ => ⟨Or.inl rfl, rfl⟩, fun _ => ⟨fun _ => ⟨Or.inl rfl, rfl⟩, fun z => absurd rfl z⟩⟩, fun d o more U i _ hc hn => ?_, fun d o more U i U2 r3 U3 R hc h4 hs h0 h16 hn hf hgo => ?_⟩
  · have c1 := ct_Rd_isSign (N := N) (X := X) (d := d) hc 43
    have c2 := ct_Rd_isSign (N := N) (X := X) (d := d) hc 45
    rw [b2i_f (fun z => hn ⟨z.1, Or.inl z.2⟩)] at c1
    rw [b2i_f (fun z => hn ⟨z.1, Or.inr z.2⟩)] at c2
    exact Rd_readSum_r8 ⟨fun _ => ⟨Or.inr rfl, rfl⟩, fun _ => ⟨fun z => absurd z (by decide), fun _ => ⟨0, U, c1, fun z => absurd rfl z, fun _ => ⟨0, U, c2, fun _ => ⟨Or.inr rfl, rfl⟩, fun z => absurd rfl z⟩⟩⟩⟩
  · have e8 := hc.2.2.2.2.2.2.1
    have fin : ∃ U2 : am_U, EvK N X (Rd_next_s0 d U) (rV U2) ∧ ∃ (r3 : Int) (U3 : am_U), EvK N X (Rd_readProduct_s0 d o U2) (rI r3 U3) ∧ ((r3 = 0) → EvK N X (Rd_readSum_s8 (d + 1) o 0 (w32 (more + 1)) U3) R) ∧ ((r3 ≠ 0) → ∃ (r4 : Int) (U4 : am_U), EvK N X (Tw_emitSign_s0 d (U 26 8) U3) (rI r4 U4) ∧ ((r4 = 0) → EvK N X (Rd_readSum_s8 (d + 1) o 0 (w32 (more + 1)) U4) R) ∧ ((r4 ≠ 0) → EvK N X (Rd_readSum_s8 (d + 1) o 1 (w32 (more + 1)) U4) R)) := by
      refine ⟨U2, hn, r3, U3, hf, hgo.1, fun z => ?_⟩
      obtain ⟨U4, g1, g2⟩ := hgo.2 z
      exact ⟨1, U4, by rw [e8]; exact g1, fun y => absurd y (by decide), fun _ => g2⟩
    have c1 := ct_Rd_isSign (N := N) (X := X) (d := d) hc 43
    have c2 := ct_Rd_isSign (N := N) (X := X) (d := d) hc 45
    refine Rd_readSum_r8 ⟨fun z => absurd z (by omega), fun _ => ⟨fun z => absurd z (by decide), fun _ => ⟨_, U, c1, fun _ => fin, fun z1 => ⟨_, U, c2, fun z2 => ?_, fun _ => fin⟩⟩⟩⟩
    have y1 := b2i_eq.mp z1
    have y2 := b2i_eq.mp z2
    rcases hs with e | e
    · exact absurd ⟨h4, e⟩ y1
    · exact absurd ⟨h4, e⟩ y2
/-- the levels -/
def PartC (N : Nat) (X : Nat → Int) (T : Nat → Int) (L K : Nat) (kk vv : Nat → Int) (bp : Int) (i o : Nat) : Prop := Clm N X T L K kk vv bp (fun d o U => Rd_readPart_s0 d o U) (10 * (8 - o) + 4) (6 * (7 - o) + 1) 7 7 5 0 (fun _ => True) i o
def noAr (kk vv : Nat → Int) (j : Nat) : Prop := (True ∧ ¬ (kk j = 4 ∧ sgP (vv j))) ∧ ¬ (kk j = 4 ∧ sgS (vv j))
def SumC (N : Nat) (X : Nat → Int) (T : Nat → Int) (L K : Nat) (kk vv : Nat → Int) (bp : Int) (i o : Nat) : Prop := Clm N X T L K kk vv bp (fun d o U => Rd_readSum_s0 d o U) (10 * (8 - o) + 6) (6 * (7 - o) + 3) 5 5 3 2 (noAr kk vv) i o
theorem sum_of_part {o i0 : Nat} (hk : tkS T L K kk vv bp) (hP : ∀ j, i0 ≤ j → j ≤ K → PartC N X T L K kk vv bp j o) : ∀ j, i0 ≤ j → j ≤ K → SumC N X T L K kk vv bp j o := by
  have h1 := lvl_claim (N := N) (X := X) (F := fun d o U => Rd_readProduct_s0 d o U) (SG := sgP) (ls := 6) (o := o) hk (by omega) (fun d o U r1 U1 R a b => Rd_readProduct_r0 ⟨r1, U1, a, b⟩) lp_prod (fun c hc => by
    rcases hc with rfl | rfl | rfl
    · exact ⟨Or.inr (Or.inr (Or.inl rfl)), rfl⟩
    · exact ⟨Or.inr (Or.inr (Or.inr (Or.inl rfl))), rfl⟩
    · exact ⟨Or.inr (Or.inr (Or.inr (Or.inr rfl))), rfl⟩) (by decide) (by decide) (by decide) (by decide) (by decide) (by decide) (by omega) hP
  exact lvl_claim (N := N) (X := X) (F := fun d o U => Rd_readSum_s0 d o U) (SG := sgS) (ls := 5) (o := o) hk (by omega) (fun d o U r1 U1 R a b => Rd_readSum_r0 ⟨r1, U1, a, b⟩) lp_sum (fun c hc => by
    rcases hc with rfl | rfl
    · exact ⟨Or.inl rfl, rfl⟩
    · exact ⟨Or.inr (Or.inl rfl), rfl⟩) (by decide) (by decide) (by decide) (by decide) (by decide) (by decide) (by omega) h1
end SUMS
