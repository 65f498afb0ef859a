/-! holds, twins -/
theorem ct_test {N : Nat} {X : Nat → Int} {d : Nat} {U : am_U} {b ns nh nl nw nd cl n l f m me : Nat} {ot : Int} (hc : jCtx U b ns nh nl nw nd cl n) (hl : l ≤ 8) (e1 : U 13 l = (f : Nat)) (e2 : U 14 l = ((f + m : Nat) : Int)) (hfm : f + m ≤ 1600) (hwf : wfT (U 15) f m) (hm : me < n) (ho : -1000000000 ≤ ot ∧ ot ≤ 1000000000) : ∃ U', EvK N X (Jg_isTrue_s0 (d + 3) (l : Nat) (me : Nat) ot U) (rI (cb (hT U l me ot)) U') ∧ jk U U' := by
  have he := envD_v hc hm ho
  obtain ⟨ht, h2, h3, h4, h5⟩ := hc
  obtain ⟨U', g1, g2⟩ := ct_isTrue (N := N) (X := X) (d := d) (law := l) (ot := ot) hwf he (by omega) (by omega) (by rw [ht.2.2.1.1]; have := ht.2.2.1.2.2.1; omega) hl e1 e2
  refine ⟨U', ?_, g2⟩
  have : (cb (hT U l me ot)) = holdsT (envD U me ot) (U 15) f m := by
    unfold hT holdsT
    rw [e1, e2, Int.toNat_natCast, show (((f + m : Nat) : Int) - (f : Nat)).toNat = m from by omega]
  rw [this]
  exact g1
theorem ct_M_test {N : Nat} {X : Nat → Int} {d : Nat} {U : am_U} {b ns nh nl nw nd cl v n l f m me : Nat} {hm : Nat → Int} {ot : Int} (hc : mCtx U b ns nh nl nw nd cl v n hm) (e1 : U 13 l = (f : Nat)) (e2 : U 14 l = ((f + m : Nat) : Int)) (hfm : f + m ≤ cl) (hwf : wfT (U 15) f m) (hme : me < n) (ho : -1000000000 ≤ ot ∧ ot ≤ 1000000000) : ∃ U', EvK N X (M_asks_s0 (d + 4) (v : Nat) (me : Nat) ot (f : Nat) ((f + m : Nat) : Int) U) (rI (cb (hTS U n hm l me ot)) U') ∧ mk U U' := by
  have he := envS_v hc hme ho
  have ee := envM_S (ot := ot) hc hme
  obtain ⟨ht, h2, h3, h4, h5⟩ := hc
  obtain ⟨w1, w2, w3, w4, w5, w6⟩ := ht.2.2.2.2.2.2.1
  obtain ⟨q1, q2, q3, q4⟩ := h5 me hme
  have := ht.2.2.1.2.2.1
  obtain ⟨U', g1, g2⟩ := ct_M_asks (N := N) (X := X) (d := d) (U := U) (code := U 15) (ot := ot) (b := b) (v := v) (n := n) (me := me) (f := f) (l := m) hwf (fun i hi => w5 i (by omega)) (by rw [ee]; exact he) (by omega) ht.1.1 ht.1.2 h2 (by omega) h3 h4 (by rw [q2]; omega)
  refine ⟨U', ?_, g2⟩
  rw [ee] at g1
  have : (cb (hTS U n hm l me ot)) = holdsT (envS U n hm me ot) (U 15) f m := by
    unfold hTS holdsT
    rw [e1, e2, Int.toNat_natCast, show (((f + m : Nat) : Int) - (f : Nat)).toNat = m from by omega]
  rw [this]
  exact g1
theorem pair_holds {N : Nat} {X : Nat → Int} {d : Nat} {U : am_U} {b ns nh nl nw nd cl n : Nat} (ht : iTown U b ns nh nl nw nd cl) (hf : iFolk U n nh) (x y z : Int) : ask2 N X (D_holds_s0 (d + 6) x y z) (M_holds_s0 (d + 6) x y z) U := by
  have e16 := hf.1.1
  have e122 := hf.1.2.1
  have hn := hf.1.2.2
  have hnw := ht.2.2.2.2.2.2.1
  by_cases c : 0 ≤ y ∧ y < (n : Nat)
  rotate_left
  · exact ask2_of (r := -1) (D_holds_r0 ⟨_, _, D_p0 (by rw [e16]; exact c), fun _ => rfl, fun h => absurd rfl h⟩) (M_holds_r0 ⟨_, _, M_p0 (by rw [e122]; exact c), fun _ => rfl, fun h => absurd rfl h⟩)
  by_cases c2 : 0 ≤ z ∧ z < (n : Nat)
  rotate_left
  · exact ask2_of (r := -1) (D_holds_r0 ⟨_, _, D_p1 (by rw [e16]; exact c), fun h => absurd h (by decide), fun _ => ⟨_, _, D_p0 (by rw [e16]; exact c2), fun _ => rfl, fun h => absurd rfl h⟩⟩) (M_holds_r0 ⟨_, _, M_p1 (by rw [e122]; exact c), fun h => absurd h (by decide), fun _ => ⟨_, _, M_p0 (by rw [e122]; exact c2), fun h => absurd rfl h, fun _ => rfl⟩⟩)
  obtain ⟨p, rfl⟩ : ∃ p : Nat, y = p := ⟨y.toNat, by omega⟩
  obtain ⟨q, rfl⟩ : ∃ q : Nat, z = q := ⟨z.toNat, by omega⟩
  have b2 := (hf.2.2.2.2.1.1 q (by omega)).2.1
  -- no such test
  have no : EvK N X (Tw_hasTest_3_s0 (d + 5) x U) (rI 0 U) → (x ≠ 8 → ¬ (0 ≤ x ∧ x ≤ (nw : Nat) - 1)) → (x = 8 → U 104 b = -1) → ask2 N X (D_holds_s0 (d + 6) x (p : Nat) (q : Nat)) (M_holds_s0 (d + 6) x (p : Nat) (q : Nat)) U := by
    intro h0 h1 h2
    refine ask2_of (r := -1) (D_holds_r0 ⟨_, _, D_p1 (by rw [e16]; exact c), fun h => absurd h (by decide), fun _ => ⟨_, _, D_p1 (by rw [e16]; exact c2), fun h => absurd h (by decide), fun _ => ⟨_, _, h0, fun h => absurd rfl h, fun _ => rfl⟩⟩⟩) (M_holds_r0 ⟨_, _, M_p1 (by rw [e122]; exact c), fun h => absurd h (by decide), fun _ => ⟨_, _, M_p1 (by rw [e122]; exact c2), fun _ => ⟨fun k => ?_, fun k => ?_⟩, fun h => absurd h (by decide)⟩⟩)
    · rw [ht.1.1, Int.toNat_natCast, hnw.2.1, w32_eq (x := ((nw : Nat) : Int) - 1) (by omega) (by have := hnw.2.2.1; omega)]
      have := ht.1.2
      exact ⟨by omega, _, _, M_is0 (h1 k), fun h => absurd rfl h, fun _ => rfl⟩
    · rw [ht.1.1, Int.toNat_natCast]
      have := ht.1.2
      exact ⟨by omega, fun h => absurd (h2 k) h, fun _ => rfl⟩
  -- a test
  have yes : ∀ l f m : Nat, x = l → l ≤ 8 → U 13 l = (f : Nat) → U 14 l = ((f + m : Nat) : Int) → f + m ≤ cl → wfT (U 15) f m → EvK N X (Tw_hasTest_3_s0 (d + 5) x U) (rI 1 U) → (l ≠ 8 → l < nw ∧ U 102 (8 * b + l) = (f : Nat) ∧ U 103 (8 * b + l) = ((f + m : Nat) : Int)) → (l = 8 → U 104 b = (f : Nat) ∧ U 105 b = ((f + m : Nat) : Int)) → ask2 N X (D_holds_s0 (d + 6) x (p : Nat) (q : Nat)) (M_holds_s0 (d + 6) x (p : Nat) (q : Nat)) U := by
    intro l f m hx hl8 e1 e2 e3 e4 h0 h1 h2
    subst hx
    have hcl := hnw.2.2.2.1
    obtain ⟨U1, f1, f2⟩ := ct_test (N := N) (X := X) (d := d + 2) (ot := U 17 q) (jCtx_of ht hf) hl8 e1 e2 (by omega) e4 (show p < n by omega) (by omega)
    have ht1 := iTown_agr (agr_jk f2) ht
    have hf1 := iFolk_agr (agr_jk f2) hf
    have hm1 := mCtx_of ht1 hf1
    have e17 : U1 17 q = U 17 q := by rw [jk_row f2 (r := 17) (by decide) (by decide)]
    have e123 : U1 123 q = U 17 q := by rw [(hf1.2.2.2.1 q (by omega)).1, e17]
    have a1 : EvK N X (D_holds_s0 (d + 6) (l : Nat) (p : Nat) (q : Nat) U) (rI (cb (hT U l p (U 17 q))) U1) := D_holds_r0 ⟨_, _, D_p1 (by rw [e16]; exact c), fun h => absurd h (by decide), fun _ => ⟨_, _, D_p1 (by rw [e16]; exact c2), fun h => absurd h (by decide), fun _ => ⟨_, _, h0, fun _ => ⟨by omega, _, _, by rw [Int.toNat_natCast]; exact f1, fun k => by rw [k], fun k => by rw [cb_t (cb_ne.mp k)]⟩, fun h => absurd h (by decide)⟩⟩⟩
    have ekey : hTS U1 n (U1 18) l p (U 17 q) ↔ hT U l p (U 17 q) := by
      rw [hTS_cg (stq_jk f2), jk_row f2 (r := 18) (by decide) (by decide), hT_S (jCtx_of ht hf) (by omega)]
    by_cases k8 : l = 8
    · obtain ⟨w1, w2⟩ := h2 k8
      obtain ⟨U2, g1, g2⟩ := ct_M_test (N := N) (X := X) (d := d + 1) (l := l) (f := f) (m := m) (me := p) (ot := U 17 q) hm1 (by rw [jk_row f2 (r := 13) (by decide) (by decide)]; exact e1) (by rw [jk_row f2 (r := 14) (by decide) (by decide)]; exact e2) e3 (by rw [jk_row f2 (r := 15) (by decide) (by decide)]; exact e4) (by omega) (by omega)
      rw [propext ekey] at g1
      refine ⟨_, U1, a1, agr_jk f2, U2, M_holds_r0 ⟨_, _, M_p1 (by rw [hf1.1.2.1]; exact c), fun h => absurd h (by decide), fun _ => ⟨_, _, M_p1 (by rw [hf1.1.2.1]; exact c2), fun _ => ⟨fun k => absurd k (by omega), fun _ => ?_⟩, fun h => absurd h (by decide)⟩⟩, agr_sk (sk_mk g2)⟩
      rw [ht1.1.1, Int.toNat_natCast, jk_row f2 (r := 104) (by decide) (by decide), jk_row f2 (r := 105) (by decide) (by decide), w1, w2, Int.toNat_natCast, e123]
      have := ht.1.2
      exact ⟨by omega, fun _ => ⟨by omega, _, _, g1, fun k => by rw [k], fun k => by rw [cb_t (cb_ne.mp k)]⟩, fun k => absurd k (by omega)⟩
    · obtain ⟨w0, w1, w2⟩ := h1 k8
      obtain ⟨U2, g1, g2⟩ := ct_M_law (N := N) (X := X) (d := d) (l := l) (me := p) (ot := U 17 q) hm1 w0 (by omega) (by omega)
      rw [propext ekey] at g1
      refine ⟨_, U1, a1, agr_jk f2, U2, M_holds_r0 ⟨_, _, M_p1 (by rw [hf1.1.2.1]; exact c), fun h => absurd h (by decide), fun _ => ⟨_, _, M_p1 (by rw [hf1.1.2.1]; exact c2), fun _ => ⟨fun _ => ?_, fun k => absurd k (by omega)⟩, fun h => absurd h (by decide)⟩⟩, agr_sk (sk_mk g2)⟩
      rw [ht1.1.1, Int.toNat_natCast, jk_row f2 (r := 100) (by decide) (by decide), hnw.2.1, w32_eq (x := ((nw : Nat) : Int) - 1) (by omega) (by have := hnw.2.2.1; omega), Int.toNat_natCast]
      have := ht.1.2
      exact ⟨by omega, _, _, M_is1 (by omega), fun _ => ⟨by omega, _, _, by rw [e123]; exact g1, fun k => by rw [k], fun k => by rw [cb_t (cb_ne.mp k)]⟩, fun k => absurd k (by decide)⟩
  by_cases x8 : x = 8
  · rcases ht.2.2.2.2.2.2.2 with ⟨w1, f, w2, w3, w4⟩ | ⟨f, m, w1, w2, w3, w4, w5, w6, w7⟩
    · refine no (Tw_hasTest_3_r0 ?_) (fun h => absurd x8 h) (fun _ => w1)
      subst x8
      have e : (8 : Int).toNat = 8 := rfl
      rw [e, w3, w4, hnw.1]
      have := hnw.2.2.1
      exact ⟨fun h => absurd h (by decide), fun _ => ⟨fun h => absurd h (by omega), fun _ => ⟨fun h => absurd rfl h, fun _ => ⟨by decide, fun _ => rfl, fun h => absurd h (by omega)⟩⟩⟩⟩
    · refine yes 8 f m x8 (by decide) w3 w4 w6 w7 (Tw_hasTest_3_r0 ?_) (fun h => absurd rfl h) (fun _ => ⟨w1, w2⟩)
      subst x8
      have e : (8 : Int).toNat = 8 := rfl
      rw [e, w3, w4, hnw.1]
      have := hnw.2.2.1
      exact ⟨fun h => absurd h (by decide), fun _ => ⟨fun h => absurd h (by omega), fun _ => ⟨fun h => absurd rfl h, fun _ => ⟨by decide, fun h => absurd h (by omega), fun _ => rfl⟩⟩⟩⟩
  · by_cases xl : 0 ≤ x ∧ x < (nw : Nat)
    · obtain ⟨l, rfl⟩ : ∃ l : Nat, x = l := ⟨x.toNat, by omega⟩
      obtain ⟨-, -, f, m, w1, w2, w3, w4, w5, w6⟩ := hnw.2.2.2.2.2 l (by omega)
      have := hnw.2.2.1
      refine yes l f m rfl (by omega) w1 w2 w5 w6 (Tw_hasTest_3_r0 ?_) (fun _ => ⟨by omega, w3, w4⟩) (fun h => absurd h (by omega))
      rw [hnw.1]
      exact ⟨fun h => absurd h (by omega), fun _ => ⟨fun _ => rfl, fun h => absurd h (by omega)⟩⟩
    · refine no (Tw_hasTest_3_r0 ?_) (fun _ => by omega) (fun h => absurd h x8)
      rw [hnw.1]
      exact ⟨fun _ => ⟨fun _ => rfl, fun h => absurd h x8⟩, fun h => ⟨fun h2 => absurd xl (by omega), fun _ => ⟨fun _ => rfl, fun h => absurd h x8⟩⟩⟩
/-! twins -/
theorem twin_iff {a c m : Int} (hm : 0 < m) : Int.tmod (a - c) m = 0 ↔ Int.fmod a m = Int.fmod c m := by
  rw [Int.fmod_eq_emod_of_nonneg _ (Int.le_of_lt hm), Int.fmod_eq_emod_of_nonneg _ (Int.le_of_lt hm)]
  rw [Int.emod_eq_emod_iff_emod_sub_eq_zero]
  constructor
  · intro h; exact Int.emod_eq_zero_of_dvd (Int.dvd_of_tmod_eq_zero h)
  · intro h; exact Int.tmod_eq_zero_of_dvd (Int.dvd_of_emod_eq_zero h)
def lk (U : am_U) (m : Int) (p q : Nat) : Bool := Int.fmod (U 17 q) m == Int.fmod (U 17 p) m
theorem ct_countLike_l {N : Nat} {X : Nat → Int} {d : Nat} {U : am_U} {m : Int} {p t : Nat} (hm : 0 < m) (hp : p < 16) (ht : t ≤ 16) : ∀ k i : Nat, i + k = t → EvK N X (D_countLike_s6 (d + 1) m (p : Nat) (t : Nat) ((fb_ct (lk U m p) i : Nat) : Int) (i : Nat) U) (rI ((fb_ct (lk U m p) t : Nat) : Int) U) := by
  intro k
  induction k with
  | zero =>
    intro i hi
    obtain rfl : i = t := by omega
    exact D_countLike_r6 ⟨fun _ => rfl, fun h => absurd h (by omega)⟩
  | succ k ih =>
    intro i hi
    have k1 := ih (i + 1) (by omega)
    have hs := fb_ct_succ (lk U m p) i
    have hl := fb_ct_le (lk U m p) i
    refine D_countLike_r6 ⟨fun h => absurd h (by omega), fun _ => ⟨fun h => absurd h (by omega), fun _ => ⟨by omega, by omega, by omega, by omega, ?_⟩⟩⟩
    rw [Int.toNat_natCast, Int.toNat_natCast, w32_succ (i := i) (by omega)]
    refine ⟨fun h => ?_, fun h => ?_⟩
    · rw [hs, if_neg (by simpa [lk] using h)] at k1; exact k1
    · rw [hs, if_pos (by simpa [lk] using h)] at k1
      rw [w32_succ (by omega)]; exact k1
theorem ct_countLike {N : Nat} {X : Nat → Int} {d : Nat} {U : am_U} {m : Int} {p t : Nat} (hm : 0 < m) (hp : p < 16) (ht : t ≤ 16) : EvK N X (D_countLike_s0 (d + 1) m (p : Nat) (t : Nat) U) (rI ((fb_ct (lk U m p) t : Nat) : Int) U) := D_countLike_r0 (ct_countLike_l hm hp ht t 0 (by omega))
def nlk (U : am_U) (m : Int) (p : Nat) : Bool := fb_ct (lk U m p) p == 0
theorem ct_countRem_l {N : Nat} {X : Nat → Int} {d : Nat} {U : am_U} {m : Int} {n : Nat} (hm : 0 < m) (hn : U 16 0 = (n : Nat)) (hn2 : n ≤ 16) : ∀ k i : Nat, i + k = n → EvK N X (D_countRemainders_s4 (d + 2) m ((fb_ct (nlk U m) i : Nat) : Int) (i : Nat) U) (rI ((fb_ct (nlk U m) n : Nat) : Int) U) := by
  intro k
  induction k with
  | zero =>
    intro i hi
    obtain rfl : i = n := by omega
    exact D_countRemainders_r4 ⟨fun _ => rfl, fun h => absurd h (by rw [hn]; omega)⟩
  | succ k ih =>
    intro i hi
    have k1 := ih (i + 1) (by omega)
    have hs := fb_ct_succ (nlk U m) i
    have hl := fb_ct_le (nlk U m) i
    refine D_countRemainders_r4 ⟨fun h => absurd h (by rw [hn]; omega), fun _ => ⟨_, _, ct_countLike hm (by omega) (by omega), ?_⟩⟩
    rw [w32_succ (i := i) (by omega)]
    refine ⟨fun h => ?_, fun h => ?_⟩
    · rw [hs, if_neg (by simp [nlk]; omega)] at k1; exact k1
    · rw [hs, if_pos (by simp [nlk]; omega)] at k1
      rw [w32_succ (by omega)]; exact k1
theorem ct_areTwins {N : Nat} {X : Nat → Int} {d : Nat} {U : am_U} {m : Int} {n nh a c : Nat} (hf : iFolk U n nh) (hm : 0 < m) (ha : a < n) (hc : c < n) : EvK N X (M_areTwins_s0 d m (a : Nat) (c : Nat) U) (rI (if lk U m c a then 1 else 0) U) := by
  have hn := hf.1.2.2
  obtain ⟨-, b1, -⟩ := hf.2.2.2.2.1.1 a ha
  obtain ⟨-, b2, -⟩ := hf.2.2.2.2.1.1 c hc
  have m1 := (hf.2.2.2.1 a ha).1
  have m2 := (hf.2.2.2.1 c hc).1
  refine M_areTwins_r0 ⟨by omega, by omega, by omega, ?_⟩
  rw [Int.toNat_natCast, Int.toNat_natCast, m1, m2, w32_eq (by omega) (by omega)]
  refine ⟨fun h => ?_, fun h => ?_⟩
  · rw [if_neg]; simp [lk]; exact fun q => h ((twin_iff hm).mpr q)
  · rw [if_pos]; simp [lk]; exact (twin_iff hm).mp h
theorem lk_sym (U : am_U) (m : Int) (p q : Nat) : lk U m p q = lk U m q p := by unfold lk; rw [Bool.eq_iff_iff]; simp; exact eq_comm
/-- the reference's inner loop, when remainders are counted: whether one is unlike all before -/
theorem tw_in {N : Nat} {X : Nat → Int} {d : Nat} {U : am_U} {m x3 : Int} {n nh a : Nat} {R : Option am_V × am_M} (hf : iFolk U n nh) (hm : 0 < m) (ha : a < n) (hgo : EvK N X (M_twins_s30 (d + 1) m (-1) (w32 (x3 + (if nlk U m a then 1 else 0))) ((a + 1 : Nat) : Int) U) R) : ∀ k i : Nat, i + k = a → EvK N X (M_twins_s73 (d + 1) m (-1) x3 (a : Nat) (if fb_ct (lk U m a) i = 0 then 1 else 0) (i : Nat) U) R := by
  have hn := hf.1.2.2
  intro k
  induction k with
  | zero =>
    intro i hi
    obtain rfl : i = a := by omega
    refine M_twins_r73 ⟨fun _ => ?_, fun h => absurd h (by omega)⟩
    rw [w32_succ (i := i) (by omega)]
    by_cases c : fb_ct (lk U m i) i = 0
    · rw [if_pos (by simp [nlk, c])] at hgo
      rw [if_pos c]
      exact ⟨fun h => absurd h (by decide), fun _ => hgo⟩
    · rw [if_neg (by simp [nlk, c])] at hgo
      rw [if_neg c]
      exact ⟨fun _ => hgo, fun h => absurd rfl h⟩
  | succ k ih =>
    intro i hi
    have k1 := ih (i + 1) (by omega)
    have hs := fb_ct_succ (lk U m a) i
    refine M_twins_r73 ⟨fun h => absurd h (by omega), fun _ => ⟨fun h => absurd rfl h, fun _ => ?_⟩⟩
    rw [w32_succ (i := i) (by omega)]
    by_cases c : fb_ct (lk U m a) i = 0
    · rw [if_pos c]
      have tw := ct_areTwins (N := N) (X := X) (d := d) (m := m) (a := a) (c := i) hf hm ha (by omega)
      rw [lk_sym] at tw
      refine ⟨fun h => absurd h (by decide), fun _ => ⟨_, _, tw, fun h => ?_, fun h => ?_⟩⟩
      · have q : lk U m a i = true := by cases q : lk U m a i <;> simp [q] at h ⊢
        rw [hs, q, if_pos rfl, if_neg (by omega)] at k1; exact k1
      · have q : lk U m a i = false := by cases q : lk U m a i <;> simp [q] at h ⊢
        rw [hs, q] at k1
        simp [c] at k1
        exact k1
    · rw [if_neg c]
      have : ¬ fb_ct (lk U m a) (i + 1) = 0 := by rw [hs]; omega
      rw [if_neg this] at k1
      exact ⟨fun _ => k1, fun h => absurd rfl h⟩
theorem tw_none {N : Nat} {X : Nat → Int} {d : Nat} {U : am_U} {m : Int} {n nh : Nat} (hf : iFolk U n nh) (hm : 0 < m) : ∀ k i : Nat, i + k = n → EvK N X (M_twins_s30 (d + 1) m (-1) ((fb_ct (nlk U m) i : Nat) : Int) (i : Nat) U) (rI ((fb_ct (nlk U m) n : Nat) : Int) U) := by
  have hn := hf.1.2.2
  have e := hf.1.2.1
  intro k
  induction k with
  | zero =>
    intro i hi
    obtain rfl : i = n := by omega
    exact M_twins_r30 ⟨fun _ => rfl, fun h => absurd h (by rw [e]; omega)⟩
  | succ k ih =>
    intro i hi
    have k1 := ih (i + 1) (by omega)
    have hs := fb_ct_succ (nlk U m) i
    have hl := fb_ct_le (nlk U m) i
    refine M_twins_r30 ⟨fun h => absurd h (by rw [e]; omega), fun _ => ⟨fun _ => ?_, fun h => absurd rfl h⟩⟩
    have := tw_in (N := N) (X := X) (d := d) (U := U) (m := m) (x3 := ((fb_ct (nlk U m) i : Nat) : Int)) (a := i) hf hm (by omega) (by
      rw [hs] at k1
      cases q : nlk U m i
      · rw [q] at k1
        simp only [Bool.false_eq_true, if_false, Nat.add_zero] at k1 ⊢
        rw [w32_0 (by omega) (by omega)]; exact k1
      · rw [q] at k1
        simp only [if_true] at k1 ⊢
        rw [w32_succ (by omega)]; exact k1) i 0 (by omega)
    simpa [fb_ct] using this
theorem tw_one {N : Nat} {X : Nat → Int} {d : Nat} {U : am_U} {m : Int} {n nh p : Nat} (hf : iFolk U n nh) (hm : 0 < m) (hp : p < n) : ∀ k i : Nat, i + k = n → EvK N X (M_twins_s30 (d + 1) m (p : Nat) ((fb_ct (fun q => !(q == p) && lk U m p q) i : Nat) : Int) (i : Nat) U) (rI ((fb_ct (fun q => !(q == p) && lk U m p q) n : Nat) : Int) U) := by
  have hn := hf.1.2.2
  have e := hf.1.2.1
  intro k
  induction k with
  | zero =>
    intro i hi
    obtain rfl : i = n := by omega
    exact M_twins_r30 ⟨fun _ => rfl, fun h => absurd h (by rw [e]; omega)⟩
  | succ k ih =>
    intro i hi
    have k1 := ih (i + 1) (by omega)
    have hs := fb_ct_succ (fun q => !(q == p) && lk U m p q) i
    have hl := fb_ct_le (fun q => !(q == p) && lk U m p q) i
    have go0 : (!(i == p) && lk U m p i) = false → EvK N X (M_twins_s73 (d + 1) m (p : Nat) ((fb_ct (fun q => !(q == p) && lk U m p q) i : Nat) : Int) (i : Nat) 0 0 U) (rI ((fb_ct (fun q => !(q == p) && lk U m p q) n : Nat) : Int) U) := by
      intro q
      rw [hs, if_neg (by rw [q]; decide)] at k1
      refine M_twins_r73 ?_
      rw [w32_succ (i := i) (by omega), w32_0 (by omega) (by omega)]
      exact ⟨fun _ => ⟨fun _ => k1, fun h => absurd rfl h⟩, fun _ => ⟨fun _ => ⟨fun _ => k1, fun h => absurd rfl h⟩, fun h => absurd h (by omega)⟩⟩
    have go1 : (!(i == p) && lk U m p i) = true → EvK N X (M_twins_s73 (d + 1) m (p : Nat) ((fb_ct (fun q => !(q == p) && lk U m p q) i : Nat) : Int) (i : Nat) 1 0 U) (rI ((fb_ct (fun q => !(q == p) && lk U m p q) n : Nat) : Int) U) := by
      intro q
      rw [hs, if_pos q] at k1
      refine M_twins_r73 ?_
      rw [w32_succ (i := i) (by omega), w32_succ (by omega)]
      exact ⟨fun _ => ⟨fun h => absurd h (by decide), fun _ => k1⟩, fun _ => ⟨fun _ => ⟨fun h => absurd h (by decide), fun _ => k1⟩, fun h => absurd h (by omega)⟩⟩
    have tw := ct_areTwins (N := N) (X := X) (d := d) (m := m) (a := i) (c := p) hf hm (by omega) hp
    refine M_twins_r30 ⟨fun h => absurd h (by rw [e]; omega), fun _ => ⟨fun h => absurd h (by omega), fun _ => ⟨fun h => ?_, fun h => ⟨_, _, tw, fun h2 => ?_, fun h2 => ?_⟩⟩⟩⟩
    · exact go0 (by have : i = p := by omega
                    simp [this])
    · exact go0 (by cases q : lk U m p i <;> simp [q] at h2 ⊢)
    · refine go1 ?_
      have q : lk U m p i = true := by cases q : lk U m p i <;> simp [q] at h2 ⊢
      have : i ≠ p := by omega
      simp [q, this]
theorem ct_but {p : Nat → Bool} {i n : Nat} (hi : i < n) (hp : p i = true) : fb_ct (fun q => !(q == i) && p q) n + 1 = fb_ct p n := by
  have h := fb_ct_upd p false hi
  have e : fb_ct (fun k => if k = i then false else p k) n = fb_ct (fun q => !(q == i) && p q) n := fb_ct_cong (fun k _ => by by_cases c : k = i <;> simp [c])
  rw [e, hp] at h
  simpa using h
theorem pair_twins {N : Nat} {X : Nat → Int} {d : Nat} {U : am_U} {n nh : Nat} (hf : iFolk U n nh) (x y : Int) : ask2 N X (D_twins_s0 (d + 3) x y) (M_twins_s0 (d + 3) x y) U := by
  have e16 := hf.1.1
  have e122 := hf.1.2.1
  have hn := hf.1.2.2
  by_cases c : 2 ≤ x ∧ x ≤ 99
  rotate_left
  · exact ask2_of (r := -1) (D_twins_r0 ⟨fun _ => rfl, fun _ => ⟨fun _ => absurd c (by omega), fun _ => rfl⟩⟩) (M_twins_r0 ⟨_, _, M_is0 c, fun _ => rfl, fun h => absurd rfl h⟩)
  by_cases c0 : y = -1
  · subst c0
    have k1 := ct_countRem_l (N := N) (X := X) (d := d) (U := U) (m := x) (by omega) e16 hn n 0 (by omega)
    have k2 := tw_none (N := N) (X := X) (d := d + 2) (U := U) (m := x) hf (by omega) n 0 (by omega)
    simp only [fb_ct] at k1 k2
    exact ask2_of (r := ((fb_ct (nlk U x) n : Nat) : Int)) (D_twins_r0 ⟨fun h => absurd h (by omega), fun _ => ⟨fun _ => ⟨fun h => absurd rfl h, fun _ => ⟨_, _, D_countRemainders_r0 k1, rfl⟩⟩, fun h => absurd h (by omega)⟩⟩) (M_twins_r0 ⟨_, _, M_is1 c, fun h => absurd h (by decide), fun _ => ⟨fun _ => k2, fun h => absurd rfl h⟩⟩)
  by_cases c2 : 0 ≤ y ∧ y < (n : Nat)
  rotate_left
  · exact ask2_of (r := -1) (D_twins_r0 ⟨fun h => absurd h (by omega), fun _ => ⟨fun _ => ⟨fun _ => ⟨_, _, D_p0 (by rw [e16]; exact c2), fun _ => rfl, fun h => absurd rfl h⟩, fun h => absurd h c0⟩, fun h => absurd h (by omega)⟩⟩) (M_twins_r0 ⟨_, _, M_is1 c, fun h => absurd h (by decide), fun _ => ⟨fun h => absurd h c0, fun _ => ⟨_, _, M_p0 (by rw [e122]; exact c2), fun h => absurd rfl h, fun _ => rfl⟩⟩⟩)
  obtain ⟨p, rfl⟩ : ∃ p : Nat, y = p := ⟨y.toNat, by omega⟩
  have k1 := ct_countLike (N := N) (X := X) (d := d + 1) (U := U) (m := x) (p := p) (t := n) (by omega) (by omega) (by omega)
  have k2 := tw_one (N := N) (X := X) (d := d + 2) (U := U) (m := x) (p := p) hf (by omega) (by omega) n 0 (by omega)
  have key := ct_but (p := lk U x p) (i := p) (n := n) (by omega) (by simp [lk])
  have hl := fb_ct_le (lk U x p) n
  simp only [fb_ct] at k2
  refine ask2_of (r := ((fb_ct (fun q => !(q == p) && lk U x p q) n : Nat) : Int)) (D_twins_r0 ⟨fun h => absurd h (by omega), fun _ => ⟨fun _ => ⟨fun _ => ⟨_, _, D_p1 (by rw [e16]; exact c2), fun h => absurd h (by decide), fun _ => ⟨_, _, by rw [e16]; exact k1, ?_⟩⟩, fun h => absurd h c0⟩, fun h => absurd h (by omega)⟩⟩) (M_twins_r0 ⟨_, _, M_is1 c, fun h => absurd h (by decide), fun _ => ⟨fun h => absurd h c0, fun _ => ⟨_, _, M_p1 (by rw [e122]; exact c2), fun _ => k2, fun h => absurd h (by decide)⟩⟩⟩)
  rw [w32_eq (by omega) (by omega), show ((fb_ct (lk U x p) n : Nat) : Int) - 1 = ((fb_ct (fun q => !(q == p) && lk U x p q) n : Nat) : Int) from by omega]
