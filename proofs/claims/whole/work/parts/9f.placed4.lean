/-! the reference's answers, asked once -/
def ixA (l me o g v : Nat) : Nat := (((16 * l + me) * 17 + o) * 12 + g) * 7 + v
theorem ixA_lt {l me o g v : Nat} (h1 : l < 8) (h2 : me < 16) (h3 : o < 17) (h4 : g < 12) (h5 : v < 7) : ixA l me o g v < 182784 := by unfold ixA; omega
theorem ixA_inj {l me o g v l' me' o' g' v' : Nat} (h2 : me < 16) (h3 : o < 17) (h4 : g < 12) (h5 : v < 7) (k2 : me' < 16) (k3 : o' < 17) (k4 : g' < 12) (k5 : v' < 7) (h : ixA l me o g v = ixA l' me' o' g' v') : l = l' ∧ me = me' ∧ o = o' ∧ g = g' ∧ v = v' := by
  unfold ixA at h
  have e1 : v = v' ∧ ((16 * l + me) * 17 + o) * 12 + g = ((16 * l' + me') * 17 + o') * 12 + g' := by omega
  have e2 : g = g' ∧ (16 * l + me) * 17 + o = (16 * l' + me') * 17 + o' := by omega
  have e3 : o = o' ∧ 16 * l + me = 16 * l' + me' := by omega
  omega
def otA (U : am_U) (o : Nat) : Int := if o = 0 then 0 else U 17 (o - 1)
def caOk (U W : am_U) (nw n nh : Nat) : Prop := ∀ l, l < nw → ∀ me, me < n → ∀ o, o ≤ n → ∀ g, g < nh → ∀ v, v < 7 → U 128 (ixA l me o g v) = 0 ∨ (U 128 (ixA l me o g v) = 2 ∧ hTV W l me (otA W o) g ((v : Nat) : Int)) ∨ (U 128 (ixA l me o g v) = 1 ∧ ¬ hTV W l me (otA W o) g ((v : Nat) : Int))
/-- what asking may change -/
def fC (U U' : am_U) : Prop := ∀ r j, r ≠ 125 → r ≠ 128 → (r = 86 → j ≠ 61 ∧ j ≠ 62 ∧ j ≠ 63) → U' r j = U r j
theorem fC_trans {U U1 U2 : am_U} (h1 : fC U U1) (h2 : fC U1 U2) : fC U U2 := fun r j a b c => by rw [h2 r j a b c, h1 r j a b c]
theorem fC_row {U U' : am_U} (h : fC U U') {r : Nat} (h1 : r ≠ 125) (h2 : r ≠ 128) (h3 : r ≠ 86) : U' r = U r := funext fun j => h r j h1 h2 (fun e => absurd e h3)
theorem fC_mk {U U' : am_U} (h : mk U U') : fC U U' := fun r j a _ c => h r j a c
theorem agr_fC {U U' : am_U} (h : fC U U') : agr U U' := fun r j e => h r j (fun q => by subst q; simp [scr] at e) (fun q => by subst q; simp [scr] at e) (fun q => ⟨fun z => by subst q; subst z; simp [scr] at e, fun z => by subst q; subst z; simp [scr] at e, fun z => by subst q; subst z; simp [scr] at e⟩)
/-- what the asking stands on -/
def mTX (U W : am_U) (b ns nh nl nw nd cl n : Nat) (H : Nat → Int) : Prop := mCtx U b ns nh nl nw nd cl 1 n H ∧ stq W U ∧ rmOk (U 8) n nh H ∧ ∀ x, x < nh → ∀ y, y < nh → U 129 (12 * x + y) = cb (nbU W b nl x y)
theorem mTX_fC {U U' W : am_U} {b ns nh nl nw nd cl n : Nat} {H : Nat → Int} (h : fC U U') (hx : mTX U W b ns nh nl nw nd cl n H) : mTX U' W b ns nh nl nw nd cl n H := by
  obtain ⟨⟨m1, m2, m3, m4, m5⟩, h2, h3, h4⟩ := hx
  have ag := agr_fC h
  refine ⟨⟨iTown_agr ag m1, m2, ?_, m4, fun p hp => ?_⟩, stq_trans h2 (stq_agrC (agrC_of ag)), ?_, fun x hx y hy => ?_⟩
  · rw [fC_row h (by decide) (by decide) (by decide)]; exact m3
  · rw [fC_row h (r := 123) (by decide) (by decide) (by decide), fC_row h (r := 124) (by decide) (by decide) (by decide), fC_row h (r := 17) (by decide) (by decide) (by decide)]; exact m5 p hp
  · rw [fC_row h (by decide) (by decide) (by decide)]; exact h3
  · rw [fC_row h (by decide) (by decide) (by decide)]; exact h4 x hx y hy
theorem ct_holdsTry {N : Nat} {X : Nat → Int} {d : Nat} {U W : am_U} {b ns nh nl nw nd cl n l me o g : Nat} {H : Nat → Int} {x3 : Int} (hx : mTX U W b ns nh nl nw nd cl n H) (hca : caOk U W nw n nh) (hl : l < nw) (hme : me < n) (ho : o ≤ n) (hx3 : x3 = ((o : Nat) : Int) - 1) (hg : H me = (g : Nat)) : ∃ U', EvK N X (M_holdsTry_s0 (d + 6) (l : Nat) (me : Nat) x3 U) (rI (cb (hTS W n H l me (otA W o))) U') ∧ fC U U' ∧ caOk U' W nw n nh := by
  obtain ⟨hc, hs, hrm, hnx⟩ := hx
  obtain ⟨m1, m2, m3, m4, m5⟩ := hc
  have hc : mCtx U b ns nh nl nw nd cl 1 n H := ⟨m1, m2, m3, m4, m5⟩
  have hw8 := m1.2.2.2.2.2.2.1.2.2.1
  have hnh := m1.2.2.1.2.2.1
  have q := m5 me hme
  have gnh : g < nh := by omega
  have h8 := (m1.2.2.1.2.2.2 g gnh).2.2.1
  have hr := hrm g gnh
  -- how many live there
  have ecn : fb_ct (fun p => U 124 (16 * 1 + p) == ((g : Nat) : Int)) n = fb_ct (fun p => H p == ((g : Nat) : Int)) n := fb_ct_cong (fun p hp => by rw [(m5 p hp).2.1])
  have v7 : fb_ct (fun p => H p == ((g : Nat) : Int)) n < 7 := by omega
  obtain ⟨v, hv⟩ : ∃ v, v = fb_ct (fun p => H p == ((g : Nat) : Int)) n := ⟨_, rfl⟩
  have eH : EvK N X (M_homeOf_s0 (d + 5) 1 (me : Nat) U) (rI ((g : Nat) : Int) U) := by
    have := ct_M_homeOf (N := N) (X := X) (d := d + 5) (U := U) 1 me (by decide) (by omega)
    rw [q.2.1, hg] at this; exact this
  have eL : EvK N X (M_living_s0 (d + 5) 1 ((g : Nat) : Int) U) (rI ((v : Nat) : Int) U) := by
    have := ct_M_living (N := N) (X := X) (d := d + 4) (U := U) 1 ((g : Nat) : Int) (by decide) m3 m4
    rw [ecn, ← hv] at this; exact this
  have eS : hTS W n H l me (otA W o) ↔ hTV W l me (otA W o) g ((v : Nat) : Int) := by rw [hTS_V hg, hv]
  have eix : eqI (w32 (w32 (w32 (w32 (w32 (w32 (w32 (w32 (w32 (16 * ((l : Nat) : Int)) + ((me : Nat) : Int)) * 17) + x3) + 1) * 12) + ((g : Nat) : Int)) * 7) + ((v : Nat) : Int))) ((ixA l me o g v : Nat) : Int) := by
    show _ = _
    have n16 : n ≤ 16 := m4
    rw [w32_eq (x := 16 * ((l : Nat) : Int)) (by omega) (by omega)]
    rw [w32_eq (x := 16 * ((l : Nat) : Int) + ((me : Nat) : Int)) (by omega) (by omega)]
    rw [w32_eq (x := (16 * ((l : Nat) : Int) + ((me : Nat) : Int)) * 17) (by omega) (by omega)]
    rw [w32_eq (x := (16 * ((l : Nat) : Int) + ((me : Nat) : Int)) * 17 + x3) (by omega) (by omega)]
    rw [w32_eq (x := (16 * ((l : Nat) : Int) + ((me : Nat) : Int)) * 17 + x3 + 1) (by omega) (by omega)]
    rw [w32_eq (x := ((16 * ((l : Nat) : Int) + ((me : Nat) : Int)) * 17 + x3 + 1) * 12) (by omega) (by omega)]
    rw [w32_eq (x := ((16 * ((l : Nat) : Int) + ((me : Nat) : Int)) * 17 + x3 + 1) * 12 + ((g : Nat) : Int)) (by omega) (by omega)]
    rw [w32_eq (x := (((16 * ((l : Nat) : Int) + ((me : Nat) : Int)) * 17 + x3 + 1) * 12 + ((g : Nat) : Int)) * 7) (by omega) (by omega)]
    rw [w32_eq (by omega) (by omega)]
    unfold ixA
    omega
  have ilt := ixA_lt (l := l) (me := me) (o := o) (g := g) (v := v) (by omega) (by omega) (by omega) (by omega) (by omega)
  rcases hca l hl me hme o ho g gnh v (by omega) with z | ⟨z1, z2⟩ | ⟨z1, z2⟩
  · -- asked now
    have hob : -1000000000 ≤ otA W o ∧ otA W o ≤ 1000000000 := by
      unfold otA
      by_cases c : o = 0
      · rw [if_pos c]; omega
      · rw [if_neg c, ← hs.1]
        have := (m5 (o - 1) (by omega)).2.2.2
        omega
    obtain ⟨U4, k1, k2⟩ := ct_M_law (N := N) (X := X) (d := d) (ot := otA W o) hc hl hme hob
    rw [propext (hTS_cg hs n H l me (otA W o))] at k1
    have f4 := fC_mk k2
    have ca : ∀ y : Int, ((y = 2 ∧ hTV W l me (otA W o) g ((v : Nat) : Int)) ∨ (y = 1 ∧ ¬ hTV W l me (otA W o) g ((v : Nat) : Int))) → caOk (am_upd U4 128 (ixA l me o g v) y) W nw n nh := fun y hy l' hl' me' hme' o' ho' g' hg' v' hv' => by
      rw [upd_if]
      by_cases c : ixA l' me' o' g' v' = ixA l me o g v
      · obtain ⟨e1, e2, e3, e4, e5⟩ := ixA_inj (by omega) (by omega) (by omega) (by omega) (by omega) (by omega) (by omega) (by omega) c
        subst e1; subst e2; subst e3; subst e4; subst e5
        rw [if_pos rfl]; exact Or.inr hy
      · rw [if_neg c, k2 128 _ (by decide) (by omega)]; exact hca l' hl' me' hme' o' ho' g' hg' v' hv'
    have ff : ∀ y : Int, fC U (am_upd U4 128 (ixA l me o g v) y) := fun y => fC_trans f4 (fun r j _ q2 _ => by rw [upd_row q2])
    have i1 : (Int32.ofInt 1).toInt8.toInt32.toInt = 1 := by decide
    have i2 : (Int32.ofInt 2).toInt8.toInt32.toInt = 2 := by decide
    by_cases c : hTS W n H l me (otA W o)
    · rw [cb_t c] at k1 ⊢
      refine ⟨am_upd U4 128 (ixA l me o g v) 2, M_holdsTry_r0 ⟨_, U, eH, _, U, eL, ?_⟩, ff 2, ca 2 (Or.inl ⟨rfl, eS.mp c⟩)⟩
      rw [eqI_o eix, Int.toNat_natCast, i1, i2]
      refine ⟨by omega, fun y => absurd z y, fun _ => ⟨fun y => ⟨otA W o, U, ?_, 1, U4, k1, fun y => absurd y (by decide), fun _ => ⟨by decide, fun y => absurd (upd_at _ _ _ _) y, fun _ => rfl⟩⟩, fun y => ⟨1, U4, ?_, fun y => absurd y (by decide), fun _ => ⟨by decide, fun y => absurd (upd_at _ _ _ _) y, fun _ => rfl⟩⟩⟩⟩
      · have := ct_M_numberOf (N := N) (X := X) (d := d + 5) (U := U) 1 (o - 1) (by decide) (by omega)
        rw [(m5 (o - 1) (by omega)).1] at this
        unfold otA
        rw [if_neg (show o ≠ 0 by omega), ← hs.1, hx3, show ((o : Nat) : Int) - 1 = ((o - 1 : Nat) : Int) by omega]
        exact this
      · have eo : otA W o = 0 := by unfold otA; rw [if_pos (by omega)]
        rw [eo] at k1; exact k1
    · rw [cb_f c] at k1 ⊢
      refine ⟨am_upd U4 128 (ixA l me o g v) 1, M_holdsTry_r0 ⟨_, U, eH, _, U, eL, ?_⟩, ff 1, ca 1 (Or.inr ⟨rfl, fun y => c (eS.mpr y)⟩)⟩
      rw [eqI_o eix, Int.toNat_natCast, i1, i2]
      refine ⟨by omega, fun y => absurd z y, fun _ => ⟨fun y => ⟨otA W o, U, ?_, 0, U4, k1, fun _ => ⟨by decide, fun _ => rfl, fun y => absurd y (by rw [upd_at]; decide)⟩, fun y => absurd rfl y⟩, fun y => ⟨0, U4, ?_, fun _ => ⟨by decide, fun _ => rfl, fun y => absurd y (by rw [upd_at]; decide)⟩, fun y => absurd rfl y⟩⟩⟩
      · have := ct_M_numberOf (N := N) (X := X) (d := d + 5) (U := U) 1 (o - 1) (by decide) (by omega)
        rw [(m5 (o - 1) (by omega)).1] at this
        unfold otA
        rw [if_neg (show o ≠ 0 by omega), ← hs.1, hx3, show ((o : Nat) : Int) - 1 = ((o - 1 : Nat) : Int) by omega]
        exact this
      · have eo : otA W o = 0 := by unfold otA; rw [if_pos (by omega)]
        rw [eo] at k1; exact k1
  · refine ⟨U, M_holdsTry_r0 ⟨_, U, eH, _, U, eL, ?_⟩, fun _ _ _ _ _ => rfl, hca⟩
    rw [eqI_o eix, Int.toNat_natCast, z1, cb_t (eS.mpr z2)]
    exact ⟨by omega, fun _ => ⟨fun y => absurd rfl y, fun _ => rfl⟩, fun y => absurd y (by decide)⟩
  · refine ⟨U, M_holdsTry_r0 ⟨_, U, eH, _, U, eL, ?_⟩, fun _ _ _ _ _ => rfl, hca⟩
    rw [eqI_o eix, Int.toNat_natCast, z1, cb_f (fun y => z2 (eS.mp y))]
    exact ⟨by omega, fun _ => ⟨fun _ => rfl, fun y => absurd y (by decide)⟩, fun y => absurd y (by decide)⟩
theorem ct_isBrokenBy {N : Nat} {X : Nat → Int} {d : Nat} {U W : am_U} {b ns nh nl nw nd cl n l me : Nat} {H : Nat → Int} (hx : mTX U W b ns nh nl nw nd cl n H) (hca : caOk U W nw n nh) (hl : l < nw) (hme : me < n) : ∃ U', EvK N X (M_isBrokenBy_s0 (d + 7) (l : Nat) (me : Nat) U) (rI (cb (∃ i, i < 32 ∧ brS W b nl n H l me i)) U') ∧ fC U U' ∧ caOk U' W nw n nh := by
  have hx0 := hx
  obtain ⟨⟨m1, m2, m3, m4, m5⟩, hs, hrm, hnx⟩ := hx
  have hb := m1.1.1
  have hb2 := m1.1.2
  have hw8 := m1.2.2.2.2.2.2.1.2.2.1
  have hnh := m1.2.2.1.2.2.1
  have k12 := (m1.2.2.2.2.2.2.1.2.2.2.2.2 l hl).1
  have kind := (m1.2.2.2.2.2.2.1.2.2.2.2.2 l hl).2.1
  have e12 : U 12 = W 12 := hs.2.2.2.1
  have e17 : U 17 = W 17 := hs.1
  rw [e12] at k12
  have q := m5 me hme
  have eix : eqI (w32 (w32 (8 * ((b : Nat) : Int)) + ((l : Nat) : Int))) ((8 * b + l : Nat) : Int) := by show _ = _; rw [w32_eq (x := 8 * ((b : Nat) : Int)) (by omega) (by omega), w32_eq (by omega) (by omega)]; omega
  have eH : ∀ V p, fC U V → p < n → EvK N X (M_homeOf_s0 (d + 6) 1 ((p : Nat) : Int) V) (rI (H p) V) := fun V p f hp => by
    have := ct_M_homeOf (N := N) (X := X) (d := d + 6) (U := V) 1 p (by decide) (by omega)
    rw [fC_row f (r := 124) (by decide) (by decide) (by decide), (m5 p hp).2.1] at this; exact this
  have st : ∀ {R}, ((H me ≠ -1) → ((U 101 (8 * b + l) ≠ 0) → EvK N X (M_isBrokenBy_s54 (d + 7) (l : Nat) (me : Nat) (U 101 (8 * b + l)) (H me) 0 U) R) ∧ ((U 101 (8 * b + l) = 0) → ∃ (r2 : Int) (U2 : am_U), EvK N X (M_holdsTry_s0 (d + 6) (l : Nat) (me : Nat) (-1) U) (rI r2 U2) ∧ ((r2 ≠ 0) → R = rI 0 U2) ∧ ((r2 = 0) → R = rI 1 U2))) ∧ ((H me = -1) → R = rI 0 U) → EvK N X (M_isBrokenBy_s0 (d + 7) (l : Nat) (me : Nat) U) R := fun {R} y => by
    refine M_isBrokenBy_r0 ?_
    rw [hb, eqI_o eix, Int.toNat_natCast]
    exact ⟨by omega, _, U, eH U me (fun _ _ _ _ _ => rfl) hme, y⟩
  by_cases c0 : H me = -1
  · refine ⟨U, st ⟨fun z => absurd c0 z, fun _ => ?_⟩, fun _ _ _ _ _ => rfl, hca⟩
    rw [cb_f]
    rintro ⟨i, i1, z⟩
    rcases z with ⟨_, _, z, _⟩ | ⟨_, ⟨_, z, _⟩, _⟩ <;> omega
  · obtain ⟨g, hg⟩ : ∃ g : Nat, H me = (g : Nat) := ⟨(H me).toNat, by omega⟩
    by_cases ck : U 101 (8 * b + l) = 0
    · obtain ⟨U2, k1, k2, k3⟩ := ct_holdsTry (N := N) (X := X) (d := d) (o := 0) (x3 := -1) hx0 hca hl hme (Nat.zero_le n) (by omega) hg
      have e0 : otA W 0 = 0 := if_pos rfl
      rw [e0] at k1
      have key : (∃ i, i < 32 ∧ brS W b nl n H l me i) ↔ ¬ hTS W n H l me 0 := by
        constructor
        · rintro ⟨i, i1, z⟩
          rcases z with ⟨_, _, _, z⟩ | ⟨z, _⟩
          · exact z
          · omega
        · intro z
          exact ⟨16, by decide, Or.inl ⟨by omega, rfl, by omega, z⟩⟩
      refine ⟨U2, st ⟨fun _ => ⟨fun z => absurd ck z, fun _ => ⟨_, U2, k1, fun z => ?_, fun z => ?_⟩⟩, fun z => absurd z c0⟩, k2, k3⟩
      · rw [cb_f (fun y => key.mp y (cb_ne.mp z))]
      · rw [cb_t (key.mpr (cb_eq.mp z))]
    · have n8 : W 12 l ≠ 8 := by omega
      have loop : ∀ k i : Nat, i + k = n → ∀ V, fC U V → caOk V W nw n nh → (∀ j, j < i → ¬ brS W b nl n H l me j) → ∃ U', EvK N X (M_isBrokenBy_s54 (d + 7) (l : Nat) (me : Nat) (U 101 (8 * b + l)) (H me) (i : Nat) V) (rI (cb (∃ i, i < 32 ∧ brS W b nl n H l me i)) U') ∧ fC U U' ∧ caOk U' W nw n nh := by
        intro k
        induction k with
        | zero =>
          intro i hi V v1 v2 v3
          obtain rfl : i = n := by omega
          have e122 : V 122 1 = (i : Nat) := by rw [fC_row v1 (by decide) (by decide) (by decide)]; exact m3
          refine ⟨V, M_isBrokenBy_r54 ⟨fun _ => ?_, fun z => absurd z (by rw [e122]; omega)⟩, v1, v2⟩
          rw [cb_f]
          rintro ⟨j, j1, z⟩
          rcases Nat.lt_or_ge j i with y | y
          · exact v3 j y z
          · rcases z with ⟨z, _⟩ | ⟨_, ⟨z, _⟩, _⟩ <;> omega
        | succ k ih =>
          intro i hi V v1 v2 v3
          have e122 : V 122 1 = (n : Nat) := by rw [fC_row v1 (by decide) (by decide) (by decide)]; exact m3
          have hi2 : i < n := by omega
          have qi := m5 i hi2
          have nxt : ∀ V', fC U V' → caOk V' W nw n nh → ¬ brS W b nl n H l me i → ∃ U', EvK N X (M_isBrokenBy_s54 (d + 7) (l : Nat) (me : Nat) (U 101 (8 * b + l)) (H me) (w32 (((i : Nat) : Int) + 1)) V') (rI (cb (∃ i, i < 32 ∧ brS W b nl n H l me i)) U') ∧ fC U U' ∧ caOk U' W nw n nh := fun V' w1 w2 w3 => by
            rw [w32_succ (i := i) (by omega)]
            exact ih (i + 1) (by omega) V' w1 w2 (fun j hj => by
              by_cases e : j = i
              · rw [e]; exact w3
              · exact v3 j (by omega))
          have st2 : ∀ {R}, ((((i : Nat) : Int) = (me : Nat)) → EvK N X (M_isBrokenBy_s54 (d + 7) (l : Nat) (me : Nat) (U 101 (8 * b + l)) (H me) (w32 (((i : Nat) : Int) + 1)) V) R) ∧ ((((i : Nat) : Int) ≠ (me : Nat)) → ((H i = (-1)) → EvK N X (M_isBrokenBy_s54 (d + 7) (l : Nat) (me : Nat) (U 101 (8 * b + l)) (H me) (w32 (((i : Nat) : Int) + 1)) V) R) ∧ ((H i ≠ (-1)) → ((U 101 (8 * b + l) ≠ 2) → (0 ≤ (w32 ((w32 (12 * H me)) + H i)) ∧ (w32 ((w32 (12 * H me)) + H i)) < 144) ∧ (((V 129 ((w32 ((w32 (12 * H me)) + H i)).toNat)) = 0) → EvK N X (M_isBrokenBy_s54 (d + 7) (l : Nat) (me : Nat) (U 101 (8 * b + l)) (H me) (w32 (((i : Nat) : Int) + 1)) V) R) ∧ (((V 129 ((w32 ((w32 (12 * H me)) + H i)).toNat)) ≠ 0) → ∃ (r2 : Int) (U2 : am_U), EvK N X (M_holdsTry_s0 (d + 6) (l : Nat) (me : Nat) (i : Nat) V) (rI r2 U2) ∧ ((r2 ≠ 0) → EvK N X (M_isBrokenBy_s54 (d + 7) (l : Nat) (me : Nat) (U 101 (8 * b + l)) (H me) (w32 (((i : Nat) : Int) + 1)) U2) R) ∧ ((r2 = 0) → R = rI 1 U2))) ∧ ((U 101 (8 * b + l) = 2) → ((H i ≠ H me) → EvK N X (M_isBrokenBy_s54 (d + 7) (l : Nat) (me : Nat) (U 101 (8 * b + l)) (H me) (w32 (((i : Nat) : Int) + 1)) V) R) ∧ ((H i = H me) → ∃ (r3 : Int) (U3 : am_U), EvK N X (M_holdsTry_s0 (d + 6) (l : Nat) (me : Nat) (i : Nat) V) (rI r3 U3) ∧ ((r3 ≠ 0) → EvK N X (M_isBrokenBy_s54 (d + 7) (l : Nat) (me : Nat) (U 101 (8 * b + l)) (H me) (w32 (((i : Nat) : Int) + 1)) U3) R) ∧ ((r3 = 0) → R = rI 1 U3))))) → EvK N X (M_isBrokenBy_s54 (d + 7) (l : Nat) (me : Nat) (U 101 (8 * b + l)) (H me) (i : Nat) V) R := fun {R} y => M_isBrokenBy_r54 ⟨fun z => absurd z (by rw [e122]; omega), fun _ => ⟨_, V, eH V i v1 hi2, y⟩⟩
          have eix2 : H i ≠ -1 → ∃ x y : Nat, H me = (x : Nat) ∧ H i = (y : Nat) ∧ x < nh ∧ y < nh ∧ eqI (w32 (w32 (12 * H me) + H i)) ((12 * x + y : Nat) : Int) := fun z => by
            refine ⟨g, (H i).toNat, hg, by omega, by omega, by omega, ?_⟩
            show _ = _
            rw [hg, w32_eq (x := 12 * ((g : Nat) : Int)) (by omega) (by omega), w32_eq (by omega) (by omega)]; omega
          -- is it one to be asked?
          by_cases cm : metS W b nl n H (W 12 l) me i
          · have hxV := mTX_fC v1 hx0
            obtain ⟨V2, k1, k2, k3⟩ := ct_holdsTry (N := N) (X := X) (d := d) (o := i + 1) (x3 := ((i : Nat) : Int)) hxV v2 hl hme (by omega) (by omega) hg
            have eo : otA W (i + 1) = W 17 i := by unfold otA; rw [if_neg (by omega)]; rfl
            rw [eo] at k1
            have f2 := fC_trans v1 k2
            have ne : i ≠ me := fun e => by
              rcases cm.2.2 with ⟨_, z, _⟩ | ⟨_, _, z⟩
              · exact z e
              · subst e; exact z.1 rfl
            have hi0 : H i ≠ -1 := by
              rcases cm.2.2 with ⟨_, _, z⟩ | ⟨_, z, _⟩ <;> omega
            have fin : ∀ {R}, ((cb (hTS W n H l me (W 17 i)) ≠ 0) → EvK N X (M_isBrokenBy_s54 (d + 7) (l : Nat) (me : Nat) (U 101 (8 * b + l)) (H me) (w32 (((i : Nat) : Int) + 1)) V2) R) ∧ ((cb (hTS W n H l me (W 17 i)) = 0) → R = rI 1 V2) → EvK N X (M_isBrokenBy_s54 (d + 7) (l : Nat) (me : Nat) (U 101 (8 * b + l)) (H me) (i : Nat) V) R := fun {R} y => by
              refine st2 ⟨fun z => absurd z (by omega), fun _ => ⟨fun z => absurd z hi0, fun _ => ⟨fun z => ?_, fun z => ⟨fun w => ?_, fun _ => ⟨_, V2, k1, y⟩⟩⟩⟩⟩
              · obtain ⟨x', y', e1, e2, e3, e4, e5⟩ := eix2 hi0
                rw [eqI_o e5, Int.toNat_natCast, fC_row v1 (r := 129) (by decide) (by decide) (by decide), hnx x' e3 y' e4]
                refine ⟨by omega, fun w => ?_, fun _ => ⟨_, V2, k1, y⟩⟩
                rcases cm.2.2 with ⟨w1, _⟩ | ⟨_, _, w1⟩
                · omega
                · rw [e1, e2, Int.toNat_natCast, Int.toNat_natCast] at w1
                  exact absurd w1 (cb_eq.mp w)
              · rcases cm.2.2 with ⟨_, _, w1⟩ | ⟨w1, _⟩
                · exact absurd w1 w
                · omega
            by_cases ch : hTS W n H l me (W 17 i)
            · obtain ⟨U', l1, l2⟩ := nxt V2 f2 k3 (fun z => by
                rcases z with ⟨z, _⟩ | ⟨_, _, z⟩
                · omega
                · exact z ch)
              exact ⟨U', fin ⟨fun _ => l1, fun z => absurd ch (cb_eq.mp z)⟩, l2⟩
            · refine ⟨V2, fin ⟨fun z => absurd (cb_ne.mp z) ch, fun _ => ?_⟩, f2, k3⟩
              rw [cb_t (show ∃ i, i < 32 ∧ brS W b nl n H l me i from ⟨i, by clear eix2; omega, Or.inr ⟨n8, cm, ch⟩⟩)]
          · obtain ⟨U', l1, l2⟩ := nxt V v1 v2 (fun z => by
              rcases z with ⟨z, _⟩ | ⟨_, z, _⟩
              · omega
              · exact cm z)
            refine ⟨U', st2 ⟨fun _ => l1, fun z => ⟨fun _ => l1, fun z2 => ⟨fun z3 => ?_, fun z3 => ⟨fun _ => l1, fun z4 => ?_⟩⟩⟩⟩, l2⟩
            · obtain ⟨x', y', e1, e2, e3, e4, e5⟩ := eix2 z2
              rw [eqI_o e5, Int.toNat_natCast, fC_row v1 (r := 129) (by decide) (by decide) (by decide), hnx x' e3 y' e4]
              refine ⟨by omega, fun _ => l1, fun w => ?_⟩
              refine absurd ⟨hi2, by omega, Or.inr ⟨by omega, by omega, ?_⟩⟩ cm
              rw [e1, e2, Int.toNat_natCast, Int.toNat_natCast]; exact cb_ne.mp w
            · exact absurd ⟨hi2, by omega, Or.inl ⟨by omega, fun e => z (by omega), z4⟩⟩ cm
      obtain ⟨U', k1, k2⟩ := loop n 0 (by omega) U (fun _ _ _ _ _ => rfl) hca (fun j hj => absurd hj (Nat.not_lt_zero j))
      exact ⟨U', st ⟨fun _ => ⟨fun _ => k1, fun z => absurd z ck⟩, fun z => absurd z c0⟩, k2⟩
theorem ct_isTryLawful {N : Nat} {X : Nat → Int} {d : Nat} {U W : am_U} {b ns nh nl nw nd cl n : Nat} {H : Nat → Int} (hx : mTX U W b ns nh nl nw nd cl n H) (hca : caOk U W nw n nh) : ∃ U', EvK N X (M_isTryLawful_s0 (d + 8) U) (rI (cb (lawP W b nl nw n H)) U') ∧ fC U U' ∧ caOk U' W nw n nh := by
  have hb := hx.1.1.1.1
  have hb2 := hx.1.1.1.2
  have hw8 := hx.1.1.2.2.2.2.2.2.1.2.2.1
  have h100 := hx.1.1.2.2.2.2.2.2.1.2.1
  have n16 := hx.1.2.2.2.1
  have m3 := hx.1.2.2.1
  have two : ∀ l, l < nw → ∀ k me : Nat, me + k = n → ∀ V, fC U V → caOk V W nw n nh → (∀ p, p < me → ¬ ∃ i, i < 32 ∧ brS W b nl n H l p i) → ((∃ me, me < n ∧ ∃ i, i < 32 ∧ brS W b nl n H l me i) ∧ ∃ U', EvK N X (M_isTryLawful_s17 (d + 8) (l : Nat) (me : Nat) V) (rI 0 U') ∧ fC U U' ∧ caOk U' W nw n nh) ∨ ((¬ ∃ me, me < n ∧ ∃ i, i < 32 ∧ brS W b nl n H l me i) ∧ ∃ U', fC U U' ∧ caOk U' W nw n nh ∧ ∀ R, EvK N X (M_isTryLawful_s2 (d + 8) ((l + 1 : Nat) : Int) U') R → EvK N X (M_isTryLawful_s17 (d + 8) (l : Nat) (me : Nat) V) R) := by
    intro l hl k
    induction k with
    | zero =>
      intro me hme V v1 v2 v3
      obtain rfl : me = n := by omega
      have e122 : V 122 1 = (me : Nat) := by rw [fC_row v1 (by decide) (by decide) (by decide)]; exact m3
      refine Or.inr ⟨fun ⟨p, p1, p2⟩ => v3 p p1 p2, V, v1, v2, fun R hR => M_isTryLawful_r17 ⟨fun _ => ?_, fun z => absurd z (by rw [e122]; omega)⟩⟩
      rw [w32_succ (i := l) (by omega)]; exact hR
    | succ k ih =>
      intro me hme V v1 v2 v3
      have e122 : V 122 1 = (n : Nat) := by rw [fC_row v1 (by decide) (by decide) (by decide)]; exact m3
      obtain ⟨V1, k1, k2, k3⟩ := ct_isBrokenBy (N := N) (X := X) (d := d) (mTX_fC v1 hx) v2 hl (show me < n by omega)
      have f1 := fC_trans v1 k2
      by_cases c : ∃ i, i < 32 ∧ brS W b nl n H l me i
      · refine Or.inl ⟨⟨me, by omega, c⟩, V1, M_isTryLawful_r17 ⟨fun z => absurd z (by rw [e122]; omega), fun _ => ⟨_, V1, k1, fun z => absurd c (cb_eq.mp z), fun _ => rfl⟩⟩, f1, k3⟩
      · have go : ∀ {R}, EvK N X (M_isTryLawful_s17 (d + 8) (l : Nat) ((me + 1 : Nat) : Int) V1) R → EvK N X (M_isTryLawful_s17 (d + 8) (l : Nat) (me : Nat) V) R := fun {R} hR => M_isTryLawful_r17 ⟨fun z => absurd z (by rw [e122]; omega), fun _ => ⟨_, V1, k1, fun _ => by rw [w32_succ (i := me) (by omega)]; exact hR, fun z => absurd (cb_ne.mp z) c⟩⟩
        rcases ih (me + 1) (by omega) V1 f1 k3 (fun p hp => by
          by_cases e : p = me
          · rw [e]; exact c
          · exact v3 p (by omega)) with ⟨z1, U', z2, z3⟩ | ⟨z1, U', z2, z3, z4⟩
        · exact Or.inl ⟨z1, U', go z2, z3⟩
        · exact Or.inr ⟨z1, U', z2, z3, fun R hR => go (z4 R hR)⟩
  have one : ∀ k l : Nat, l + k = nw → ∀ V, fC U V → caOk V W nw n nh → (∀ j, j < l → ¬ ∃ me, me < n ∧ ∃ i, i < 32 ∧ brS W b nl n H j me i) → ∃ U', EvK N X (M_isTryLawful_s2 (d + 8) (l : Nat) V) (rI (cb (lawP W b nl nw n H)) U') ∧ fC U U' ∧ caOk U' W nw n nh := by
    intro k
    induction k with
    | zero =>
      intro l hl V v1 v2 v3
      obtain rfl : l = nw := by omega
      have eb : V 86 13 = (b : Nat) := by rw [v1 86 13 (by decide) (by decide) (by decide)]; exact hb
      have e100 : V 100 b = (l : Nat) := by rw [fC_row v1 (by decide) (by decide) (by decide)]; exact h100
      refine ⟨V, M_isTryLawful_r2 ?_, v1, v2⟩
      rw [eb, Int.toNat_natCast, e100, cb_t (show lawP W b nl l n H from fun j hj me hme i hi z => v3 j hj ⟨me, hme, i, hi, z⟩)]
      exact ⟨by omega, fun _ => rfl, fun z => absurd z (by omega)⟩
    | succ k ih =>
      intro l hl V v1 v2 v3
      have eb : V 86 13 = (b : Nat) := by rw [v1 86 13 (by decide) (by decide) (by decide)]; exact hb
      have e100 : V 100 b = (nw : Nat) := by rw [fC_row v1 (by decide) (by decide) (by decide)]; exact h100
      have go : ∀ {R}, EvK N X (M_isTryLawful_s17 (d + 8) (l : Nat) 0 V) R → EvK N X (M_isTryLawful_s2 (d + 8) (l : Nat) V) R := fun {R} hR => by
        refine M_isTryLawful_r2 ?_
        rw [eb, Int.toNat_natCast, e100]
        exact ⟨by omega, fun z => absurd z (by omega), fun _ => hR⟩
      rcases two l (by omega) n 0 (by omega) V v1 v2 (fun p hp => absurd hp (Nat.not_lt_zero p)) with ⟨⟨me, z1, i, i1, i2⟩, U', z2, z3⟩ | ⟨z1, U', z2, z3, z4⟩
      · refine ⟨U', go ?_, z3⟩
        rw [cb_f (show ¬ lawP W b nl nw n H from fun y => y l (by omega) me z1 i i1 i2)]; exact z2
      · obtain ⟨U2, k1, k2⟩ := ih (l + 1) (by omega) U' z2 z3 (fun j hj => by
          by_cases e : j = l
          · rw [e]; exact z1
          · exact v3 j (by omega))
        exact ⟨U2, go (z4 _ k1), k2⟩
  obtain ⟨U', k1, k2⟩ := one nw 0 (by omega) U (fun _ _ _ _ _ => rfl) hca (fun j hj => absurd hj (Nat.not_lt_zero j))
  exact ⟨U', M_isTryLawful_r0 k1, k2⟩
