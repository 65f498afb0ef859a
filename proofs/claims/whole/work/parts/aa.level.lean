/-! sums and products: both sides alike, out of parts -/
def tyl : List Int → List Bool → Option (List Bool)
  | [], t => some t
  | c :: ds, t => match tyc c t with
    | none => none
    | some t' => if t'.length ≤ 60 then tyl ds t' else none
theorem tyl_app : ∀ {d1 d2 : List Int} {t t' : List Bool}, tyl d1 t = some t' → tyl (d1 ++ d2) t = tyl d2 t'
  | [], d2, t, t', h => by
    obtain rfl : t = t' := Option.some.inj h
    rfl
  | c :: d1, d2, t, t', h => by
    show (match tyc c t with | none => none | some t' => if t'.length ≤ 60 then tyl (d1 ++ d2) t' else none) = _
    have h2 : (match tyc c t with | none => none | some t' => if t'.length ≤ 60 then tyl d1 t' else none) = some t' := h
    cases e : tyc c t with
    | none => rw [e] at h2; cases h2
    | some t1 =>
      rw [e] at h2
      show (if t1.length ≤ 60 then tyl (d1 ++ d2) t1 else none) = _
      have h3 : (if t1.length ≤ 60 then tyl d1 t1 else none) = some t' := h2
      by_cases q : t1.length ≤ 60
      · rw [if_pos q] at h3 ⊢; exact tyl_app h3
      · rw [if_neg q] at h3; cases h3
theorem tyl_one {c : Int} {t t' : List Bool} (h : tyc c t = some t') (hl : t'.length ≤ 60) : tyl [c] t = some t' := by
  show (match tyc c t with | none => none | some t' => if t'.length ≤ 60 then tyl [] t' else none) = _
  rw [h]
  show (if t'.length ≤ 60 then some t' else none) = _
  rw [if_pos hl]
theorem ty_ar {c : Int} (h : isAr c) (t : List Bool) : tyc (-100 - c) (false :: false :: t) = some (false :: t) := by
  rcases h with rfl | rfl | rfl | rfl | rfl <;> rfl
def gApp (p : List Int) (g : Option (Nat × List Int)) : Option (Nat × List Int) := match g with
  | none => none
  | some (i', dsl) => some (i', p ++ dsl)
/-- what a test frame may not begin with is none of those; the phase is 0 or 1 -/
def prP (kk vv : Nat → Int) (i : Nat) (kd ph bg : Int) : Prop := (ph = 0 ∨ ph = 1) ∧ (isTs kd → bg ≠ 0 → noFst kk vv i)
section LVL
variable (N : Nat) (X : Nat → Int) (T : Nat → Int) (L K : Nat) (kk vv : Nat → Int) (bp : Int)
/-- the class's method from the i-th on -/
def clA (F : Nat → Int → am_U → am_S) (dep i o : Nat) (g : Option (Nat × List Int)) (fk fp : Int) : Prop := ∀ (d : Nat) (U : am_U) (cl : Nat), cS U T L K kk vv bp i → U 31 18 = (cl : Nat) → cl ≤ i → ∃ U' r, EvK N X (F (d + dep) (o : Nat) U) (rI r U') ∧ fE U U' ∧ (∀ i' ds, g = some (i', ds) → r = 1 ∧ cS U' T L K kk vv bp i' ∧ emW U U' cl ds) ∧ (g = none → r = 0 ∧ U' 26 4 = fk ∧ U' 26 5 = fp)
/-- the reference's loop from V to V' -/
def lpB (d : Nat) (V V' : am_U) : Prop := ∀ R, EvK N X (M_reads_s43 (d + 6) 1 1 V') R → EvK N X (M_reads_s43 (d + 6) 1 1 V) R
/-- the reference's loop ends with a fault -/
def ltB (d : Nat) (V : am_U) (fk fp : Int) : Prop := ∃ V', fZ V V' ∧ V' 86 8 = fk ∧ V' 86 9 = fp ∧ ∀ R, EvK N X (M_reads_s43 (d + 6) 1 0 V') R → EvK N X (M_reads_s43 (d + 6) 1 1 V) R
def clB (hi : Int) (cN i o : Nat) (g : Option (Nat × List Int)) (fk fp : Int) (e0 pend : List Int) : Prop := ∀ (d : Nat) (V : am_U) (b cl f : Nat) (kd ph bg : Int) (q0 : Nat) (O : List Int), b < 2 → f ≤ o → o ≤ 7 → prP kk vv i kd ph bg → rF V T L i b cl f kd ph bg 0 o q0 O → (∀ c, c ∈ O → rkC c < hi) → cl + q0 + O.length ≤ i → q0 + O.length ≤ 10 * o + cN → (∀ i' ds, g = some (i', ds) → ∃ V', rF V' T L i' b (cl + e0.length) f kd ph 0 1 o q0 (pend ++ O) ∧ emR V V' b cl e0 ∧ kB V V' f q0 ∧ lpB N X d V V') ∧ (g = none → ltB N X d V fk fp)
/-- both alike: one of the levels of numbers -/
def Clm (F : Nat → Int → am_U → am_S) (dep mg : Nat) (lo hi : Int) (cN pb : Nat) (Nx : Nat → Prop) (i o : Nat) : Prop := ∃ (g : Option (Nat × List Int)) (fk fp : Int) (e0 pend : List Int), (g = none → 1 ≤ fk) ∧ (∀ i' ds, g = some (i', ds) → i < i' ∧ i' ≤ K ∧ ds.length + i ≤ i' ∧ (∀ t : List Bool, t.length + mg ≤ 60 → tyl ds t = some (false :: t)) ∧ ds = e0 ++ pend ∧ (∀ c, c ∈ pend → lo ≤ rkC c) ∧ pend.length ≤ pb ∧ Nx i') ∧ clA N X T L K kk vv bp F dep i o g fk fp ∧ clB N X T L kk vv hi cN i o g fk fp e0 pend
/-- the class's loop over signs -/
def lpOk (Fs : Nat → Int → am_U → am_S) (FL : Nat → Int → Int → Int → am_U → am_S) (SG : Int → Prop) : Prop := (∀ d o more U, 0 ≤ more → EvK N X (FL (d + 1) o 0 more U) (rI 0 U)) ∧ (∀ d o more U i, 0 ≤ more → cS U T L K kk vv bp i → ¬ (kk i = 4 ∧ SG (vv i)) → EvK N X (FL (d + 1) o 1 more U) (rI 1 U)) ∧ (∀ d o more U i U2 r3 U3 R, cS U T L K kk vv bp i → kk i = 4 → SG (vv i) → 0 ≤ more → more < 1600 → EvK N X (Rd_next_s0 d U) (rV U2) → EvK N X (Fs d o U2) (rI r3 U3) → ((r3 = 0 → EvK N X (FL (d + 1) o 0 (w32 (more + 1)) U3) R) ∧ (r3 ≠ 0 → ∃ U4, EvK N X (Tw_emitSign_s0 d (vv i) U3) (rI 1 U4) ∧ EvK N X (FL (d + 1) o 1 (w32 (more + 1)) U4) R)) → EvK N X (FL (d + 1) o 1 more U) R)
variable {N X T L K kk vv bp}
theorem lvl_loop {Fs : Nat → Int → am_U → am_S} {FL : Nat → Int → Int → Int → am_U → am_S} {SG : Int → Prop} {depS mgS cS' pbS o i0 : Nat} {loS hiS ls : Int} {NxS : Nat → Prop} (hk : tkS T L K kk vv bp) (hd : 1 ≤ depS) (hL : lpOk N X T L K kk vv bp Fs FL SG) (hsg : ∀ c, SG c → isAr c ∧ lsA c = ls) (h5 : 5 ≤ ls) (hlo : ls ≤ loS) (hhi : ls < hiS) (hpb : pbS ≤ 5) (hcS : cS' ≤ 5) (hc1 : 1 ≤ cS') (hmg : 1 ≤ mgS) (hS : ∀ j, i0 ≤ j → j ≤ K → Clm N X T L K kk vv bp Fs depS mgS loS hiS cS' pbS NxS j o) : ∀ m i : Nat, i + m = K → i0 ≤ i → NxS i → ∃ (g : Option (Nat × List Int)) (fk fp : Int), (g = none → 1 ≤ fk) ∧ (∀ i' ds, g = some (i', ds) → i ≤ i' ∧ i' ≤ K ∧ ds.length + i ≤ i' ∧ (∀ t : List Bool, t.length + 1 + mgS ≤ 60 → tyl ds (false :: t) = some (false :: t)) ∧ ¬ (kk i' = 4 ∧ SG (vv i')) ∧ NxS i') ∧ (∀ (d : Nat) (U : am_U) (cl more : Nat), cS U T L K kk vv bp i → U 31 18 = (cl : Nat) → cl ≤ i → more ≤ i → ∃ U' r, EvK N X (FL (d + depS + 1) (o : Nat) 1 (more : Nat) U) (rI r U') ∧ fE U U' ∧ (∀ i' ds, g = some (i', ds) → r = 1 ∧ cS U' T L K kk vv bp i' ∧ emW U U' cl ds) ∧ (g = none → r = 0 ∧ U' 26 4 = fk ∧ U' 26 5 = fp)) ∧ (∀ p0 : List Int, (∀ c, c ∈ p0 → ls ≤ rkC c) → p0.length ≤ pbS + 1 → ∃ e0 pend, (∀ i' ds, g = some (i', ds) → p0 ++ ds = e0 ++ pend ∧ (∀ c, c ∈ pend → ls ≤ rkC c) ∧ pend.length ≤ pbS + 1 ∧ (i' = i → pend = p0)) ∧ ∀ (d : Nat) (V : am_U) (b cl f : Nat) (kd ph : Int) (q0 : Nat) (O : List Int), b < 2 → f ≤ o → o ≤ 7 → (ph = 0 ∨ ph = 1) → rF V T L i b cl f kd ph 0 1 o q0 (p0 ++ O) → (∀ c, c ∈ O → rkC c < ls) → cl + q0 + (p0 ++ O).length ≤ i → q0 + O.length + 1 ≤ 10 * o + cS' → (∀ i' ds, g = some (i', ds) → ∃ V', rF V' T L i' b (cl + e0.length) f kd ph 0 1 o q0 (pend ++ O) ∧ emR V V' b cl e0 ∧ kB V V' f q0 ∧ lpB N X d V V') ∧ (g = none → ltB N X d V fk fp)) := by
  intro m
  induction m using Nat.strongRecOn with
  | _ m ih =>
  intro i him hi0 hnx
  have hK : K ≤ 1600 := Nat.le_trans hk.2.1 hk.1
  by_cases c0 : kk i = 4 ∧ SG (vv i)
  · have iK : i < K := by
      rcases Nat.lt_or_ge i K with q | q
      · exact q
      · have e : i = K := by omega
        rw [e] at c0
        rcases hk.2.2.2.2.2 with z | z <;> omega
    obtain ⟨har, hls⟩ := hsg _ c0.2
    obtain ⟨gp, fk1, fp1, e1, p1, x1, x2, x3, x4⟩ := hS (i + 1) (by omega) (by omega)
    -- the class's step
    have stA : ∀ (d : Nat) (U : am_U) (cl more : Nat), cS U T L K kk vv bp i → U 31 18 = (cl : Nat) → cl ≤ i → more ≤ i → ∃ U2 U3 r3, fE U U3 ∧ (∀ i2 dsb, gp = some (i2, dsb) → r3 = 1 ∧ cS U3 T L K kk vv bp i2 ∧ emW U U3 cl dsb) ∧ (gp = none → r3 = 0 ∧ U3 26 4 = fk1 ∧ U3 26 5 = fp1) ∧ EvK N X (Rd_next_s0 (d + depS) U) (rV U2) ∧ EvK N X (Fs (d + depS) (o : Nat) U2) (rI r3 U3) := fun d U cl more hc hcl hle hm => by
      obtain ⟨U2, n1, n2, n3⟩ := ct_Rd_next (N := N) (X := X) (d := d + depS) (by omega) hK hc iK
      obtain ⟨U3, r3, y1, y2, y3, y4⟩ := x3 d U2 cl n3 (by rw [n2 31 18 (by omega)]; exact hcl) (by omega)
      refine ⟨U2, U3, r3, fE_trans (fE_fN n2) y2, fun i2 dsb e => ?_, y4, n1, y1⟩
      obtain ⟨z1, z2, z3⟩ := y3 i2 dsb e
      exact ⟨z1, z2, ⟨z3.1, fun j hj => by rw [z3.2.1 j hj]; exact n2 43 j (by omega), z3.2.2⟩⟩
    -- the reference's step
    have stB : ∀ (p0 : List Int), (∀ c, c ∈ p0 → ls ≤ rkC c) → p0.length ≤ pbS + 1 → ∀ (d : Nat) (V : am_U) (b cl f : Nat) (kd ph : Int) (q0 : Nat) (O : List Int), b < 2 → f ≤ o → o ≤ 7 → (ph = 0 ∨ ph = 1) → rF V T L i b cl f kd ph 0 1 o q0 (p0 ++ O) → (∀ c, c ∈ O → rkC c < ls) → cl + q0 + (p0 ++ O).length ≤ i → q0 + O.length + 1 ≤ 10 * o + cS' → (∀ i2 dsb, gp = some (i2, dsb) → ∃ V', rF V' T L i2 b (cl + (p0 ++ e1).length) f kd ph 0 1 o q0 ((p1 ++ [-100 - vv i]) ++ O) ∧ emR V V' b cl (p0 ++ e1) ∧ kB V V' f q0 ∧ lpB N X d V V') ∧ (gp = none → ltB N X d V fk1 fp1) := fun p0 hp0 hpl d V b cl f kd ph q0 O hb hf ho hph hF hO hcl hq => by
      have hx : V 86 12 = -1 := by
        rcases Int.decEq (V 86 12) (-1) with z | z
        · have := rT_bad hk hF.1 (by omega) z
          omega
        · exact z
      have lap : (p0 ++ O).length = p0.length + O.length := List.length_append
      obtain ⟨V1, k1, k2, k3, k4⟩ := ct_on_ar (N := N) (X := X) (d := d) (S1 := O) (S2 := p0) (c := vv i) hk iK hb (by omega) hF hx (by omega) ⟨c0.1, rfl⟩ har (fun x hx' => by rw [hls]; exact hp0 x hx') (fun x S' e => by rw [hls]; exact hO x (by rw [e]; exact List.mem_cons_self)) (by omega) (by omega) (by omega) (by omega)
      have l1 : lpB N X d V V1 := fun R hR => loop_on (by rw [hF.2.2.2.2.2.1]; decide) k1 (fun z => absurd z (by decide)) (fun _ z => absurd k2.1.2.2 z) (fun _ _ => hR)
      obtain ⟨y1, y2⟩ := x4 d V1 b (cl + p0.length) f kd ph 0 q0 ((-100 - vv i) :: O) hb hf ho ⟨hph, fun _ z => absurd rfl z⟩ k2 (fun c hc => by
        rcases List.mem_cons.mp hc with rfl | z
        · have : rkC (-100 - vv i) = lsA (vv i) := by rcases har with e | e | e | e | e <;> rw [e] <;> rfl
          rw [this, hls]; exact hhi
        · have := hO c z; omega) (by simp only [List.length_cons]; omega) (by simp only [List.length_cons]; omega)
      refine ⟨fun i2 dsb e => ?_, fun e => ?_⟩
      · obtain ⟨V2, z1, z2, z3, z4⟩ := y1 i2 dsb e
        obtain ⟨w1, w2, w3, w4, w5, w6, w7, w8'⟩ := x2 i2 dsb e
        refine ⟨V2, ?_, ?_, kB_trans k4 z3, fun R hR => l1 R (z4 R hR)⟩
        · rw [List.length_append, ← Nat.add_assoc, List.append_assoc]
          exact z1
        · have le1 : e1.length ≤ dsb.length := by rw [w5, List.length_append]; omega
          exact emR_app k3 z2 (by omega)
      · obtain ⟨V2, z1, z2, z3, z4⟩ := y2 e
        exact ⟨V2, fZ_trans k4.1 z1, z2, z3, fun R hR => l1 R (z4 R hR)⟩
    cases hg : gp with
    | none =>
      refine ⟨none, fk1, fp1, fun _ => x1 hg, (fun i' ds e => by cases e), fun d U cl more hc hcl hle hm => ?_, fun p0 hp0 hpl => ⟨[], [], (fun i' ds e => by cases e), fun d V b cl f kd ph q0 O hb hf ho hph hF hO hcl hq => ⟨(fun i' ds e => by cases e), fun _ => (stB p0 hp0 hpl d V b cl f kd ph q0 O hb hf ho hph hF hO hcl hq).2 hg⟩⟩⟩
      obtain ⟨U2, U3, r3, y1, y2, y3, y4, y5⟩ := stA d U cl more hc hcl hle hm
      obtain ⟨z1, z2, z3⟩ := y3 hg
      refine ⟨U3, 0, hL.2.2 (d + depS) (o : Nat) (more : Nat) U i U2 r3 U3 _ hc c0.1 c0.2 (by omega) (by omega) y4 y5 ⟨fun _ => ?_, fun z => absurd z1 z⟩, y1, (fun i' ds e => by cases e), fun _ => ⟨rfl, z2, z3⟩⟩
      rw [w32_succ (i := more) (by omega)]
      exact hL.1 _ _ _ _ (by omega)
    | some pr =>
      obtain ⟨i2, dsb⟩ := pr
      obtain ⟨w1, w2, w3, w4, w5, w6, w7, w8'⟩ := x2 i2 dsb hg
      obtain ⟨gl, fk2, fp2, v1, v2, v3, v4⟩ := ih (K - i2) (by omega) i2 (by omega) (by omega) w8'
      have vb : 0 ≤ vv i ∧ vv i < 256 := by rcases har with e | e | e | e | e <;> omega
      -- the class emits the sign and goes on
      have goA : ∀ (d : Nat) (U : am_U) (cl more : Nat), cS U T L K kk vv bp i → U 31 18 = (cl : Nat) → cl ≤ i → more ≤ i → ∃ U4, fE U U4 ∧ cS U4 T L K kk vv bp i2 ∧ emW U U4 cl (dsb ++ [-100 - vv i]) ∧ ∀ R, EvK N X (FL (d + depS + 1) (o : Nat) 1 ((more + 1 : Nat) : Int) U4) R → EvK N X (FL (d + depS + 1) (o : Nat) 1 (more : Nat) U) R := fun d U cl more hc hcl hle hm => by
        obtain ⟨U2, U3, r3, y1, y2, y3, y4, y5⟩ := stA d U cl more hc hcl hle hm
        obtain ⟨z1, z2, z3⟩ := y2 i2 dsb hg
        obtain ⟨d', hd'⟩ : ∃ d', depS = d' + 1 := ⟨depS - 1, by omega⟩
        obtain ⟨U4, u1, u2, u3, u4⟩ := ct_emitSign (N := N) (X := X) (d := d + d') (cl := cl + dsb.length) z3.1 (by omega) z2 (vv i) vb
        refine ⟨U4, fE_trans y1 u2, u3, emW_app z3 u4, fun R hR => hL.2.2 (d + depS) (o : Nat) (more : Nat) U i U2 r3 U3 R hc c0.1 c0.2 (by omega) (by omega) y4 y5 ⟨fun z => absurd z (by rw [z1]; decide), fun _ => ⟨U4, ?_, ?_⟩⟩⟩
        · rw [hd']; exact u1
        · rw [w32_succ (i := more) (by omega)]; exact hR
      refine ⟨gApp (dsb ++ [-100 - vv i]) gl, fk2, fp2, ?_, ?_, ?_, ?_⟩
      · intro e
        cases hgl : gl with
        | none => exact v1 hgl
        | some q => rw [hgl] at e; exact absurd e (by simp [gApp])
      · intro i' ds e
        cases hgl : gl with
        | none => rw [hgl] at e; exact absurd e (by simp [gApp])
        | some q =>
          obtain ⟨i3, dsl⟩ := q
          rw [hgl] at e
          obtain ⟨rfl, rfl⟩ : i3 = i' ∧ dsb ++ [-100 - vv i] ++ dsl = ds := by simpa [gApp] using e
          obtain ⟨u1, u2, u3, u4, u5⟩ := v2 i3 dsl hgl
          refine ⟨by omega, u2, by simp only [List.length_append, List.length_cons, List.length_nil]; omega, fun t ht => ?_, u5⟩
          have t1 := w4 (false :: t) (by simp only [List.length_cons]; omega)
          rw [List.append_assoc, tyl_app t1]
          have t2 := tyl_one (ty_ar har t) (by simp only [List.length_cons]; omega)
          rw [tyl_app t2]
          exact u4 t ht
      · intro d U cl more hc hcl hle hm
        obtain ⟨U4, u1, u2, u3, u4⟩ := goA d U cl more hc hcl hle hm
        have l4 : U4 31 18 = ((cl + (dsb ++ [-100 - vv i]).length : Nat) : Int) := u3.1
        obtain ⟨U5, r, s1', s2, s3, s4⟩ := v3 d U4 (cl + (dsb ++ [-100 - vv i]).length) (more + 1) u2 l4 (by simp only [List.length_append, List.length_cons, List.length_nil]; omega) (by omega)
        refine ⟨U5, r, u4 _ s1', fE_trans u1 s2, fun i' ds e => ?_, fun e => ?_⟩
        · cases hgl : gl with
          | none => rw [hgl] at e; exact absurd e (by simp [gApp])
          | some q =>
            obtain ⟨i3, dsl⟩ := q
            rw [hgl] at e
            obtain ⟨rfl, rfl⟩ : i3 = i' ∧ dsb ++ [-100 - vv i] ++ dsl = ds := by simpa [gApp] using e
            obtain ⟨y1, y2, y3⟩ := s3 i3 dsl hgl
            exact ⟨y1, y2, emW_app u3 y3⟩
        · cases hgl : gl with
          | none => exact s4 hgl
          | some q => rw [hgl] at e; exact absurd e (by simp [gApp])
      · intro p0 hp0 hpl
        have rk1 : ls ≤ rkC (-100 - vv i) := by
          have : rkC (-100 - vv i) = lsA (vv i) := by rcases har with e | e | e | e | e <;> rw [e] <;> rfl
          rw [this, hls]; exact Int.le_refl ls
        obtain ⟨e2, p2, q1, q2⟩ := v4 (p1 ++ [-100 - vv i]) (fun c hc => by
          rcases List.mem_append.mp hc with z | z
          · have := w6 c z; omega
          · rw [List.mem_singleton] at z; rw [z]; exact rk1) (by simp only [List.length_append, List.length_cons, List.length_nil]; omega)
        refine ⟨p0 ++ e1 ++ e2, p2, fun i' ds e => ?_, fun d V b cl f kd ph q0 O hb hf ho hph hF hO hcl hq => ?_⟩
        · cases hgl : gl with
          | none => rw [hgl] at e; exact absurd e (by simp [gApp])
          | some q =>
            obtain ⟨i3, dsl⟩ := q
            rw [hgl] at e
            obtain ⟨rfl, rfl⟩ : i3 = i' ∧ dsb ++ [-100 - vv i] ++ dsl = ds := by simpa [gApp] using e
            obtain ⟨r1, r2, r3, r4⟩ := q1 i3 dsl hgl
            obtain ⟨u1, u2, u3, u4, u5⟩ := v2 i3 dsl hgl
            refine ⟨?_, r2, r3, fun z => by omega⟩
            rw [w5]
            have : p0 ++ (e1 ++ p1 ++ [-100 - vv i] ++ dsl) = p0 ++ e1 ++ ((p1 ++ [-100 - vv i]) ++ dsl) := by simp only [List.append_assoc]
            rw [this, r1]
            simp only [List.append_assoc]
        · obtain ⟨V1, y1, y2, y3, y4⟩ := (stB p0 hp0 hpl d V b cl f kd ph q0 O hb hf ho hph hF hO hcl hq).1 i2 dsb hg
          have lap : (p0 ++ O).length = p0.length + O.length := List.length_append
          have ldb : dsb.length = e1.length + p1.length := by rw [w5, List.length_append]
          obtain ⟨s1', s2⟩ := q2 d V1 b (cl + (p0 ++ e1).length) f kd ph q0 O hb hf ho hph y1 hO (by simp only [List.length_append, List.length_cons, List.length_nil]; omega) hq
          refine ⟨fun i' ds e => ?_, fun e => ?_⟩
          · cases hgl : gl with
            | none => rw [hgl] at e; exact absurd e (by simp [gApp])
            | some q =>
              obtain ⟨i3, dsl⟩ := q
              rw [hgl] at e
              obtain ⟨rfl, rfl⟩ : i3 = i' ∧ dsb ++ [-100 - vv i] ++ dsl = ds := by simpa [gApp] using e
              obtain ⟨V2, z1, z2, z3, z4⟩ := s1' i3 dsl hgl
              refine ⟨V2, ?_, emR_app y2 z2 (by simp only [List.length_append]; omega), kB_trans y3 z3, fun R hR => y4 R (z4 R hR)⟩
              rw [List.length_append, ← Nat.add_assoc]; exact z1
          · cases hgl : gl with
            | none =>
              obtain ⟨V2, z1, z2, z3, z4⟩ := s2 hgl
              exact ⟨V2, fZ_trans y3.1 z1, z2, z3, fun R hR => y4 R (z4 R hR)⟩
            | some q => rw [hgl] at e; exact absurd e (by simp [gApp])
  · refine ⟨some (i, []), 0, 0, (fun e => by cases e), fun i' ds e => ?_, fun d U cl more hc hcl hle hm => ⟨U, 1, hL.2.1 _ _ _ _ i (by omega) hc c0, fE_refl U, fun i' ds e => ?_, (fun e => by cases e)⟩, fun p0 hp0 hpl => ⟨[], p0, fun i' ds e => ?_, fun d V b cl f kd ph q0 O hb hf ho hph hF hO hcl hq => ⟨fun i' ds e => ⟨V, ?_, emR_nil hF.2.2.1 rfl rfl, kB_refl V f q0, fun R hR => hR⟩, (fun e => by cases e)⟩⟩⟩
    · obtain ⟨rfl, rfl⟩ : i = i' ∧ [] = ds := by simpa using e
      exact ⟨Nat.le_refl _, by omega, by simp, fun t ht => rfl, c0, hnx⟩
    · obtain ⟨rfl, rfl⟩ : i = i' ∧ [] = ds := by simpa using e
      exact ⟨rfl, hc, emW_nil hcl⟩
    · obtain ⟨rfl, rfl⟩ : i = i' ∧ [] = ds := by simpa using e
      exact ⟨by simp, hp0, hpl, fun _ => rfl⟩
    · obtain ⟨rfl, rfl⟩ : i = i' ∧ [] = ds := by simpa using e
      exact hF
end LVL
