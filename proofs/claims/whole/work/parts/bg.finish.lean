/-! a whole statement: both sides -/
section FIN
variable {N : Nat} {X : Nat → Int} {T : Nat → Int} {L K : Nat} {kk vv : Nat → Int} {bp : Int} {i j b ns nh nl nw nd cl n : Nat} {W V : am_U}
theorem tk_end (hk : tkS T L K kk vv bp) (hi : i ≤ K) : kk i = 0 ↔ plS1 T L i = L := by
  have le := plS1_le T L i
  unfold plS1 at le ⊢
  rcases hk.2.2.2.1 i hi with ⟨c1, c2⟩ | ⟨c1, c2, len, c3, c4, c5, c6⟩ | ⟨c1, c2, len, c3, c4, c5, c6⟩ | ⟨c1, c2, c3, c4⟩
  · exact ⟨fun _ => c1, fun _ => c2⟩
  · constructor
    · intro z
      rcases c6 with ⟨y1, _⟩ | ⟨_, _, y3⟩
      · omega
      · rcases y3 with ⟨x1, _⟩ | ⟨x1, _⟩ <;> omega
    · intro z; omega
  · constructor
    · intro z
      rcases c6 with ⟨y1, _⟩ | ⟨_, _, y3, _⟩ <;> omega
    · intro z; omega
  · constructor
    · intro z
      rcases c4 with ⟨y1, _⟩ | ⟨y1, _⟩ <;> omega
    · intro z; omega
theorem rT_end (hk : tkS T L K kk vv bp) (hr : rT V T L i) (hi : i ≤ K) : V 86 3 = 0 ↔ kk i = 0 := by
  rw [tk_end hk hi]
  unfold plS1
  rcases hr.2.1.2.2 with ⟨c1, c2, _⟩ | ⟨c1, _, c2, _⟩ | ⟨c1, _, c2, _⟩ | ⟨c1, _, _, c2, _⟩
  · exact ⟨fun _ => c1, fun _ => c2⟩
  · constructor <;> intro z <;> omega
  · constructor <;> intro z <;> omega
  · constructor <;> intro z <;> omega
theorem ct_sgn {d : Nat} (c : Int) : EvK N X (M_isSign_s0 d c V) (rI (b2i (V 86 3 = 3 ∧ V 86 6 = c)) V) :=
  M_isSign_r0 ⟨fun z => by rw [b2i_f (fun y => z y.1)], fun z => ⟨fun y => by rw [b2i_f (fun x => y x.2)], fun y => by rw [b2i_t ⟨z, y⟩]⟩⟩
theorem mustI_F {d : Nat} (h : 0 < V 86 8) (c : Int) : EvK N X (M_must_I_s0 (d + 2) c V) (rV V) :=
  M_must_I_r0 ⟨V, lex_F h, _, V, ct_sgn c, fun _ => ⟨fun _ => rfl, fun z => absurd z (by omega)⟩, fun _ => ⟨V, blame_F h 1 _, fun _ => rfl, fun z => absurd z (by omega)⟩⟩
theorem s17_go {d : Nat} {x1 : Int} {R : Option am_V × am_M} (ht : tpL V T L) : ∀ m e : Nat, e + m = L → EvK N X (M_finishes_s17 (d + 1) x1 ((tkA T L e : Nat) : Int) V) R → EvK N X (M_finishes_s17 (d + 1) x1 (e : Nat) V) R := by
  intro m
  induction m with
  | zero =>
    intro e he hR
    have : tkA T L e = e := by unfold tkA; exact fr1_stop (Or.inl (by omega))
    rw [this] at hR; exact hR
  | succ m ih =>
    intro e he hR
    by_cases c : isB (T e) = true
    · have st : tkA T L e = tkA T L (e + 1) := by
        unfold tkA
        exact fr1_step (by omega) (by rw [c]; rfl)
      rw [st] at hR
      have k := ih (e + 1) (by omega) hR
      have L16 := ht.1.1
      have tb' := (ht.2.2 e (by omega)).1
      refine M_finishes_r17 ?_
      rw [ht.2.1, Int.toNat_natCast, tb', w32_succ (i := e) (by omega)]
      refine ⟨fun z => absurd z (by omega), fun _ => ⟨by omega, fun _ => k, fun z => ⟨fun z2 => ?_, fun _ => k⟩⟩⟩
      have := isB_iff.mp c
      omega
    · have : tkA T L e = e := by unfold tkA; exact fr1_stop (Or.inr (by rw [Bool.eq_false_iff.mpr c]; rfl))
      rw [this] at hR; exact hR
/-- what stands behind the blanks -/
theorem s17_end {d : Nat} {x1 : Int} {R : Option am_V × am_M} (ht : tpL V T L) {e : Nat} (he : e ≤ L) (h : ∃ (r1 : Int) (U1 : am_U), EvK N X (M_isSign_s0 d 59 V) (rI r1 U1) ∧ ((r1 = 0) → ∃ U2 : am_U, EvK N X (M_must_I_s0 d 59 U1) (rV U2) ∧ R = rV U2) ∧ ((r1 ≠ 0) → ((x1 ≠ 80) → ∃ U3 : am_U, EvK N X (M_must_I_s0 d 59 U1) (rV U3) ∧ R = rV U3) ∧ ((x1 = 80) → (((U1 86 2) ≤ ((tkA T L e : Nat) : Int)) → ∃ U4 : am_U, EvK N X (M_must_I_s0 d 59 U1) (rV U4) ∧ R = rV U4) ∧ ((((tkA T L e : Nat) : Int) < (U1 86 2)) → ∃ U5 : am_U, EvK N X (M_blame_s0 d 6 ((tkA T L e : Nat) : Int) U1) (rV U5) ∧ ∃ U6 : am_U, EvK N X (M_must_I_s0 d 59 U5) (rV U6) ∧ R = rV U6)))) : EvK N X (M_finishes_s17 (d + 1) x1 (e : Nat) V) R := by
  refine s17_go ht (L - e) e (by omega) (M_finishes_r17 ⟨fun _ => h, fun z => ?_⟩)
  have sp := tkA_spec (T := T) he
  have L16 := ht.1.1
  rw [ht.2.1] at z
  have tb' := (ht.2.2 (tkA T L e) (by omega)).1
  rw [Int.toNat_natCast, tb']
  have nb : isB (T (tkA T L e)) = false := by
    rcases sp.2.2.2 with q | q
    · omega
    · exact q
  have n1 : ¬ (T (tkA T L e) = 32 ∨ T (tkA T L e) = 10) := fun q => by rw [isB_iff.mpr q] at nb; exact absurd nb (by decide)
  exact ⟨by omega, fun q => absurd (Or.inl q) n1, fun _ => ⟨fun _ => h, fun q => absurd (Or.inr q) n1⟩⟩
/-- the reference ends a statement -/
theorem ct_finishes {d s : Nat} (hk : tkS T L K kk vv bp) (hj : j ≤ K) (hr : rT V T L j) (hs : s < 80) : (¬ (kk j = 4 ∧ vv j = 59) → ∃ V', EvK N X (M_finishes_s0 (d + 3) ((s + 1 : Nat) : Int) V) (rV V') ∧ f89 V V' ∧ V' 86 8 = 1 ∧ V' 86 9 = fpl T L kk bp j) ∧ ((kk j = 4 ∧ vv j = 59) → (¬ (s + 1 = 80 ∧ kk (j + 1) ≠ 0) → ∃ V', EvK N X (M_finishes_s0 (d + 3) ((s + 1 : Nat) : Int) V) (rV V') ∧ fA6 V V' ∧ rT V' T L (j + 1)) ∧ ((s + 1 = 80 ∧ kk (j + 1) ≠ 0) → ∃ V', EvK N X (M_finishes_s0 (d + 3) ((s + 1 : Nat) : Int) V) (rV V') ∧ f89 V V' ∧ V' 86 8 = 6 ∧ V' 86 9 = (plS1 T L (j + 1) : Nat))) := by
  have e5 : V 86 5 = (enS T L (j + 1) : Nat) := hr.2.1.2.1
  have z8 : V 86 8 = 0 := hr.2.2
  have e2 : V 86 2 = (L : Nat) := hr.1.2.1
  have start : V 86 12 = -1 → ∀ R, EvK N X (M_finishes_s17 (d + 3) ((s + 1 : Nat) : Int) ((enS T L (j + 1) : Nat) : Int) V) R → EvK N X (M_finishes_s0 (d + 3) ((s + 1 : Nat) : Int) V) R := fun hx R hR => by
    refine M_finishes_r0 ⟨V, ct_lex1 hx, fun _ => ?_, fun z => absurd z (by omega)⟩
    rw [e5]; exact hR
  have el := enS_le T L (j + 1)
  refine ⟨fun h => ?_, fun h => ?_⟩
  · rcases Int.decEq (V 86 12) (-1) with hx | hx
    · obtain ⟨V', k1, k2, k3, k4⟩ := lexB_at (N := N) (X := X) (d := d + 1) hk hr hj hx
      exact ⟨V', M_finishes_r0 ⟨V', k1, fun z => absurd z (by omega), fun _ => rfl⟩, k2, k3, k4⟩
    · have sg := ct_isSign1 (N := N) (X := X) (d := d + 2) hk hr hj hx 59 (by decide)
      rw [b2i_f h] at sg
      obtain ⟨V', k1, k2⟩ := (ct_mustI (N := N) (X := X) (d := d) hk hj hr hx 59 (by decide)).2 h
      exact ⟨V', start hx _ (s17_end hr.1 el ⟨0, V, sg, fun _ => ⟨V', k1, rfl⟩, fun z => absurd rfl z⟩), k2⟩
  · have hx : V 86 12 = -1 := by
      rcases Int.decEq (V 86 12) (-1) with z | z
      · have := (rT_bad hk hr hj z).1; omega
      · exact z
    have jK : j < K := tk_lt hk hj (by omega)
    have sg := ct_isSign1 (N := N) (X := X) (d := d + 2) hk hr hj hx 59 (by decide)
    rw [b2i_t h] at sg
    obtain ⟨Va, k1, k2, k3⟩ := (ct_mustI (N := N) (X := X) (d := d) hk hj hr hx 59 (by decide)).1 h
    have te := tk_end hk (show j + 1 ≤ K by omega)
    have ple := plS1_le T L (j + 1)
    unfold plS1 at te ple
    refine ⟨fun c => ?_, fun c => ?_⟩
    · refine ⟨Va, start hx _ (s17_end hr.1 el ⟨1, V, sg, fun z => absurd z (by decide), fun _ => ⟨fun _ => ⟨Va, k1, rfl⟩, fun z => ⟨fun _ => ⟨Va, k1, rfl⟩, fun z2 => ?_⟩⟩⟩), k2, k3⟩
      rw [e2] at z2
      exact absurd ⟨by omega, fun y => by have := te.mp y; omega⟩ c
    · obtain ⟨Vb, f1, f2, f3, f4⟩ : ∃ Vb, EvK N X (M_blame_s0 (d + 2) 6 ((tkA T L (enS T L (j + 1)) : Nat) : Int) V) (rV Vb) ∧ f89 V Vb ∧ Vb 86 8 = 6 ∧ Vb 86 9 = ((tkA T L (enS T L (j + 1)) : Nat) : Int) := ⟨_, ct_blame1 z8 6 _, f89_blame _ _ _, by rw [upd_ne (by decide), upd_at], upd_at _ _ _ _⟩
      have lt : tkA T L (enS T L (j + 1)) < L := by
        rcases Nat.lt_or_ge (tkA T L (enS T L (j + 1))) L with q | q
        · exact q
        · exact absurd (te.mpr (by omega)) c.2
      refine ⟨Vb, start hx _ (s17_end hr.1 el ⟨1, V, sg, fun z => absurd z (by decide), fun _ => ⟨fun z => absurd (show ((s + 1 : Nat) : Int) = 80 by omega) z, fun _ => ⟨fun z2 => absurd z2 (by rw [e2]; omega), fun _ => ⟨Vb, f1, Vb, mustI_F (by omega) 59, rfl⟩⟩⟩⟩), f2, f3, f4⟩
/-- a whole statement -/
theorem st_whole {s : Nat} (hk : tkS T L K kk vv bp) (hi : i ≤ K) (h0 : kk i ≠ 0) (hs : s < 80) (hG : gIn W b ns nh nl nw nd cl n) (hcl : cl ≤ i) : ∃ q : Option (Nat × am_U) × Int × Int, (q.1 = none → 1 ≤ q.2.1) ∧ (∀ i' W', q.1 = some (i', W') → i < i' ∧ i' ≤ K ∧ ∃ ns nh nl nw nd cl n, gIn W' b ns nh nl nw nd cl n ∧ cl ≤ i') ∧ (∀ (d : Nat) (U : am_U), cS U T L K kk vv bp i → cW U W → U 26 3 = (s : Nat) → ∃ U' r, EvK N X (Rd_readStatement_s0 (d + 90) U) (rI r U') ∧ fCz U U' ∧ (∀ i' W', q.1 = some (i', W') → r = 1 ∧ cS U' T L K kk vv bp i' ∧ cW U' W') ∧ (q.1 = none → r = 0 ∧ U' 26 4 = q.2.1 ∧ U' 26 5 = q.2.2)) ∧ (∀ (d : Nat) (V : am_U), rT V T L i → rW V W b → ∃ V1 V2, EvK N X (M_statement_s0 (d + 8) V) (rV V1) ∧ EvK N X (M_finishes_s0 (d + 8) ((s + 1 : Nat) : Int) V1) (rV V2) ∧ fY b V V2 ∧ (∀ i' W', q.1 = some (i', W') → (¬ (s + 1 = 80 ∧ kk i' ≠ 0) → rT V2 T L i' ∧ rW V2 W' b) ∧ ((s + 1 = 80 ∧ kk i' ≠ 0) → V2 86 8 = 6 ∧ V2 86 9 = (plS1 T L i' : Nat))) ∧ (q.1 = none → V2 86 8 = q.2.1 ∧ V2 86 9 = q.2.2)) := by
  obtain ⟨q, q1, q2, q3, q4⟩ := st_core (N := N) (X := X) hk hi h0 hG hcl
  -- with a fault told, finishing changes nothing
  have done : ∀ (d : Nat) (Z : am_U), 0 < Z 86 8 → EvK N X (M_finishes_s0 (d + 8) ((s + 1 : Nat) : Int) Z) (rV Z) := fun d Z p => M_finishes_r0 ⟨Z, lex_F p, fun z => absurd z (by omega), fun _ => rfl⟩
  cases hq : q.1 with
  | none =>
    have p := q1 hq
    refine ⟨(none, q.2.1, q.2.2), fun _ => p, (fun i' W' e => by cases e), fun d U hc hU h3 => ?_, fun d V hV1 hV2 => ?_⟩
    · obtain ⟨U', r, k1, k2, k3, k4⟩ := q3 d U hc hU
      obtain ⟨x1, x2, x3⟩ := k4 hq
      exact ⟨U', 0, (k1 (by omega)).1 x1, k2, (fun i' W' e => by cases e), fun _ => ⟨rfl, x2, x3⟩⟩
    · obtain ⟨V1, k1, k2, k3, k4⟩ := q4 d V hV1 hV2
      obtain ⟨x1, x2⟩ := k4 hq
      exact ⟨V1, V1, k1, done d V1 (by omega), k2, (fun i' W' e => by cases e), fun _ => ⟨x1, x2⟩⟩
  | some p =>
    obtain ⟨j, W'⟩ := p
    obtain ⟨a1, a2, a3⟩ := q2 j W' hq
    have hx1 : ∀ (d : Nat) (U : am_U), cS U T L K kk vv bp i → cW U W → U 26 3 = (s : Nat) → ∃ U1, fCz U U1 ∧ cS U1 T L K kk vv bp j ∧ cW U1 W' ∧ ∃ w : Int, ∀ R, EvK N X (Rd_readStatement_s261 (d + 90) w 1 U1) R → EvK N X (Rd_readStatement_s0 (d + 90) U) R := fun d U hc hU h3 => by
      obtain ⟨U', r, k1, k2, k3, k4⟩ := q3 d U hc hU
      obtain ⟨x1, x2, x3⟩ := k3 j W' hq
      exact ⟨U', k2, x2, x3, (k1 (by omega)).2 (by rw [x1]; decide)⟩
    by_cases c : kk j = 4 ∧ vv j = 59
    · have jK : j < K := tk_lt hk a2 (by omega)
      refine ⟨(some (j + 1, W'), 0, 0), (fun e => by cases e), fun i' W2 e => ?_, fun d U hc hU h3 => ?_, fun d V hV1 hV2 => ?_⟩
      · obtain ⟨rfl, rfl⟩ : j + 1 = i' ∧ W' = W2 := by simpa using e
        obtain ⟨ns, nh, nl, nw, nd, cl, n, g1, g2⟩ := a3
        exact ⟨by omega, by omega, ns, nh, nl, nw, nd, cl, n, g1, by omega⟩
      · obtain ⟨U1, b1, b2, b3, w, b4⟩ := hx1 d U hc hU h3
        obtain ⟨U2, m1, m2, m3, m4⟩ := (ct_takeSign (N := N) (X := X) (d := d + 88) (by omega) hk b2 59).1 c
        refine ⟨U2, 1, b4 _ (Rd_readStatement_r261 ⟨fun z => absurd z (by decide), fun _ => ⟨1, U2, m1, fun z => absurd z (by decide), fun _ => rfl⟩⟩), fCz_trans b1 (fCz_N m2), fun i' W2 e => ?_, (fun e => by cases e)⟩
        obtain ⟨rfl, rfl⟩ : j + 1 = i' ∧ W' = W2 := by simpa using e
        exact ⟨rfl, m3, cW_fN b3 m2⟩
      · obtain ⟨V1, k1, k2, k3, k4⟩ := q4 d V hV1 hV2
        rcases k3 j W' hq with ⟨g1, g2⟩ | ⟨g1, _⟩
        · obtain ⟨f1, f2⟩ := (ct_finishes (N := N) (X := X) (d := d + 5) (s := s) hk a2 g1 hs).2 c
          by_cases c2 : s + 1 = 80 ∧ kk (j + 1) ≠ 0
          · obtain ⟨V2, m1, m2, m3, m4⟩ := f2 c2
            refine ⟨V1, V2, k1, m1, fY_trans k2 (fY_89 m2), fun i' W2 e => ?_, (fun e => by cases e)⟩
            obtain ⟨rfl, rfl⟩ : j + 1 = i' ∧ W' = W2 := by simpa using e
            exact ⟨fun z => absurd c2 z, fun _ => ⟨m3, m4⟩⟩
          · obtain ⟨V2, m1, m2, m3⟩ := f1 c2
            refine ⟨V1, V2, k1, m1, fY_trans k2 (fY_A6 m2), fun i' W2 e => ?_, (fun e => by cases e)⟩
            obtain ⟨rfl, rfl⟩ : j + 1 = i' ∧ W' = W2 := by simpa using e
            exact ⟨fun _ => ⟨m3, rW_A6 g2 m2⟩, fun z => absurd z c2⟩
        · omega
    · refine ⟨(none, 1, fpl T L kk bp j), (fun _ => by show (1 : Int) ≤ 1; decide), (fun i' W2 e => by cases e), fun d U hc hU h3 => ?_, fun d V hV1 hV2 => ?_⟩
      · obtain ⟨U1, b1, b2, b3, w, b4⟩ := hx1 d U hc hU h3
        obtain ⟨U2, m1, m2, m3, m4⟩ := (ct_takeSign (N := N) (X := X) (d := d + 88) (by omega) hk b2 59).2 c
        exact ⟨U2, 0, b4 _ (Rd_readStatement_r261 ⟨fun z => absurd z (by decide), fun _ => ⟨0, U2, m1, fun _ => rfl, fun z => absurd rfl z⟩⟩), fCz_trans b1 (fCz_N m2), (fun i' W2 e => by cases e), fun _ => ⟨rfl, m3, m4⟩⟩
      · obtain ⟨V1, k1, k2, k3, k4⟩ := q4 d V hV1 hV2
        rcases k3 j W' hq with ⟨g1, g2⟩ | ⟨g1, g2, g3⟩
        · obtain ⟨V2, m1, m2, m3, m4⟩ := (ct_finishes (N := N) (X := X) (d := d + 5) (s := s) hk a2 g1 hs).1 c
          exact ⟨V1, V2, k1, m1, fY_trans k2 (fY_89 m2), (fun i' W2 e => by cases e), fun _ => ⟨m3, m4⟩⟩
        · exact ⟨V1, V1, k1, done d V1 (by omega), k2, (fun i' W2 e => by cases e), fun _ => ⟨g2, g3⟩⟩
end FIN
