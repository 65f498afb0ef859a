/-! the reference: houses beside each other, breaches of a layer -/
theorem ct_M_placeOf_l {N : Nat} {X : Nat → Int} {d : Nat} {U : am_U} {b h : Nat} (hb2 : b < 2) (hh : h < 12) : ∀ m i : Nat, i + m = h → EvK N X (M_placeOf_s5 d (b : Nat) (h : Nat) ((fb_ct (fun k => U 92 (12 * b + k) == U 92 (12 * b + h)) i : Nat) : Int) (i : Nat) U) (rI ((plc (fun k => U 92 (12 * b + k)) h : Nat) : Int) U) := by
  intro m
  induction m with
  | zero =>
    intro i hi
    obtain rfl : i = h := by omega
    exact M_placeOf_r5 ⟨fun _ => rfl, fun q => absurd q (by omega)⟩
  | succ m ih =>
    intro i hi
    have hl := fb_ct_le (fun k => U 92 (12 * b + k) == U 92 (12 * b + h)) i
    have hs := fb_ct_succ (fun k => U 92 (12 * b + k) == U 92 (12 * b + h)) i
    have := ih (i + 1) (by omega)
    refine M_placeOf_r5 ⟨fun q => absurd q (by omega), fun _ => ?_⟩
    rw [ix_eq (k := 12 * b + i) (by omega) (by omega) (by omega) (by omega), ix_eq (k := 12 * b + h) (by omega) (by omega) (by omega) (by omega), Int.toNat_natCast, Int.toNat_natCast]
    refine ⟨by omega, by omega, fun q => ?_, fun q => ?_⟩
    · rw [hs, if_neg (by simpa using q)] at this
      rw [w32_0 (by omega) (by omega), w32_succ (by omega)]
      exact this
    · rw [hs, if_pos (by simpa using q)] at this
      rw [w32_succ (by omega), w32_succ (by omega)]
      exact this
theorem ct_M_placeOf {N : Nat} {X : Nat → Int} {d : Nat} {U : am_U} {b h : Nat} (hb2 : b < 2) (hh : h < 12) : EvK N X (M_placeOf_s0 d (b : Nat) (h : Nat) U) (rI ((plc (fun k => U 92 (12 * b + k)) h : Nat) : Int) U) :=
  M_placeOf_r0 (ct_M_placeOf_l hb2 hh h 0 (by omega))
theorem ct_M_nb_l {N : Nat} {X : Nat → Int} {d : Nat} {U : am_U} {b nl x y : Nat} (hb2 : b < 2) (hl : U 94 b = (nl : Nat)) (hl2 : nl ≤ 10) : ∀ m i : Nat, i + m = nl → (∀ k, k < i → ¬ ((U 95 (10 * b + k) = (x : Nat) ∧ U 96 (10 * b + k) = (y : Nat)) ∨ (U 95 (10 * b + k) = (y : Nat) ∧ U 96 (10 * b + k) = (x : Nat)))) → EvK N X (M_areNeighbours_s64 (d + 1) (b : Nat) (x : Nat) (y : Nat) (i : Nat) U) (rI (cb (∃ k, k < nl ∧ ((U 95 (10 * b + k) = (x : Nat) ∧ U 96 (10 * b + k) = (y : Nat)) ∨ (U 95 (10 * b + k) = (y : Nat) ∧ U 96 (10 * b + k) = (x : Nat))))) U) := by
  intro m
  induction m with
  | zero =>
    intro i hi hno
    obtain rfl : i = nl := by omega
    refine M_areNeighbours_r64 ⟨by omega, fun _ => ?_, fun q => ?_⟩
    · rw [cb_f]; rintro ⟨k, a, q⟩; exact hno k a q
    · rw [Int.toNat_natCast, hl] at q; omega
  | succ m ih =>
    intro i hi hno
    have go : ¬ ((U 95 (10 * b + i) = (x : Nat) ∧ U 96 (10 * b + i) = (y : Nat)) ∨ (U 95 (10 * b + i) = (y : Nat) ∧ U 96 (10 * b + i) = (x : Nat))) → EvK N X (M_areNeighbours_s64 (d + 1) (b : Nat) (x : Nat) (y : Nat) (w32 ((i : Nat) + 1)) U) (rI (cb (∃ k, k < nl ∧ ((U 95 (10 * b + k) = (x : Nat) ∧ U 96 (10 * b + k) = (y : Nat)) ∨ (U 95 (10 * b + k) = (y : Nat) ∧ U 96 (10 * b + k) = (x : Nat))))) U) := by
      intro hn
      rw [w32_succ (by omega)]
      refine ih (i + 1) (by omega) (fun k hk => ?_)
      rcases Nat.lt_or_ge k i with q | q
      · exact hno k q
      · rw [show k = i from by omega]; exact hn
    have yes : ((U 95 (10 * b + i) = (x : Nat) ∧ U 96 (10 * b + i) = (y : Nat)) ∨ (U 95 (10 * b + i) = (y : Nat) ∧ U 96 (10 * b + i) = (x : Nat))) → rI (cb (∃ k, k < nl ∧ ((U 95 (10 * b + k) = (x : Nat) ∧ U 96 (10 * b + k) = (y : Nat)) ∨ (U 95 (10 * b + k) = (y : Nat) ∧ U 96 (10 * b + k) = (x : Nat))))) U = rI 1 U := fun q => by rw [cb_t ⟨i, by omega, q⟩]
    refine M_areNeighbours_r64 ⟨by omega, fun q => ?_, fun _ => ?_⟩
    · rw [Int.toNat_natCast, hl] at q; omega
    · rw [ix_eq (k := 10 * b + i) (by omega) (by omega) (by omega) (by omega), Int.toNat_natCast]
      refine ⟨by omega, ?_⟩
      (repeat' (first | apply And.intro | intro _)) <;> first | (apply yes; omega) | (apply go; omega) | omega
theorem ct_M_nb {N : Nat} {X : Nat → Int} {d : Nat} {U : am_U} {b nl x y : Nat} (hb2 : b < 2) (hl : U 94 b = (nl : Nat)) (hl2 : nl ≤ 10) (hx : x < 12) (hy : y < 12) : EvK N X (M_areNeighbours_s0 (d + 1) (b : Nat) (x : Nat) (y : Nat) U) (rI (cb (nbP (fun k => U 92 (12 * b + k)) (fun k => U 95 (10 * b + k)) (fun k => U 96 (10 * b + k)) nl x y)) U) := by
  have hloop := ct_M_nb_l (N := N) (X := X) (d := d) (U := U) (x := x) (y := y) hb2 hl hl2 nl 0 (by omega) (fun k h => absurd h (Nat.not_lt_zero _))
  by_cases e : x = y
  · subst e
    refine M_areNeighbours_r0 ⟨fun h => absurd rfl h, fun _ => ?_⟩
    rw [cb_f (fun q => q.1 rfl)]
  · have lx : plc (fun k => U 92 (12 * b + k)) x ≤ x := fb_ct_le _ _
    have ly : plc (fun k => U 92 (12 * b + k)) y ≤ y := fb_ct_le _ _
    have same : ¬ (U 92 (12 * b + x) = U 92 (12 * b + y) ∧ ((plc (fun k => U 92 (12 * b + k)) x : Int) - plc (fun k => U 92 (12 * b + k)) y = 1 ∨ (plc (fun k => U 92 (12 * b + k)) x : Int) - plc (fun k => U 92 (12 * b + k)) y = -1)) → (cb (nbP (fun k => U 92 (12 * b + k)) (fun k => U 95 (10 * b + k)) (fun k => U 96 (10 * b + k)) nl x y)) = (cb (∃ k, k < nl ∧ ((U 95 (10 * b + k) = (x : Nat) ∧ U 96 (10 * b + k) = (y : Nat)) ∨ (U 95 (10 * b + k) = (y : Nat) ∧ U 96 (10 * b + k) = (x : Nat))))) := by
      intro hn
      have : (nbP (fun k => U 92 (12 * b + k)) (fun k => U 95 (10 * b + k)) (fun k => U 96 (10 * b + k)) nl x y) ↔ (∃ k, k < nl ∧ ((U 95 (10 * b + k) = (x : Nat) ∧ U 96 (10 * b + k) = (y : Nat)) ∨ (U 95 (10 * b + k) = (y : Nat) ∧ U 96 (10 * b + k) = (x : Nat)))) := ⟨fun h => h.2.resolve_left hn, fun h => ⟨e, Or.inr h⟩⟩
      rw [propext this]
    refine M_areNeighbours_r0 ⟨fun _ => ?_, fun h => absurd h (by omega)⟩
    rw [ix_eq (k := 12 * b + x) (by omega) (by omega) (by omega) (by omega), ix_eq (k := 12 * b + y) (by omega) (by omega) (by omega) (by omega), Int.toNat_natCast, Int.toNat_natCast]
    refine ⟨by omega, by omega, fun h => ?_, fun h => ⟨_, _, ct_M_placeOf hb2 hx, _, _, ct_M_placeOf hb2 hy, ?_⟩⟩
    · rw [same (fun q => h q.1)]; exact hloop
    · rw [w32_eq (by omega) (by omega)]
      refine ⟨fun q => ?_, fun q => ⟨fun q2 => ?_, fun q2 => ?_⟩⟩
      · rw [cb_t ⟨e, Or.inl ⟨h, Or.inl q⟩⟩]
      · rw [same (fun z => by rcases z.2 with z | z; exact q z; exact q2 z)]; exact hloop
      · rw [cb_t ⟨e, Or.inl ⟨h, Or.inr q2⟩⟩]
theorem plc_cg {st st' : Nat → Int} {nh x : Nat} (h : ∀ k, k < nh → st k = st' k) (hx : x < nh) : plc st x = plc st' x := fb_ct_cong (fun k hk => by rw [h k (by omega), h x hx])
theorem nbP_cg {st st' lf lt : Nat → Int} {nl nh x y : Nat} (h : ∀ k, k < nh → st k = st' k) (hx : x < nh) (hy : y < nh) : nbP st lf lt nl x y ↔ nbP st' lf lt nl x y := by
  unfold nbP; rw [plc_cg h hx, plc_cg h hy, h x hx, h y hy]
/-- a layer of people in a town -/
def mCtx (U : am_U) (b ns nh nl nw nd cl v n : Nat) (hm : Nat → Int) : Prop := iTown U b ns nh nl nw nd cl ∧ v < 22 ∧ U 122 v = (n : Nat) ∧ n ≤ 16 ∧ ∀ p, p < n → U 123 (16 * v + p) = U 17 p ∧ U 124 (16 * v + p) = hm p ∧ (-1 ≤ hm p ∧ hm p < (nh : Nat)) ∧ -999999999 ≤ U 17 p ∧ U 17 p ≤ 999999999
/-- what a scan writes -/
def sk (U U' : am_U) : Prop := ∀ r j, r ≠ 125 → (r = 86 → j < 61 ∨ 67 < j) → U' r j = U r j
theorem sk_refl (U : am_U) : sk U U := fun _ _ _ _ => rfl
theorem sk_trans {U U1 U2 : am_U} (h1 : sk U U1) (h2 : sk U1 U2) : sk U U2 := fun r j a b => by rw [h2 r j a b, h1 r j a b]
theorem sk_row {U U' : am_U} (h : sk U U') {r : Nat} (h1 : r ≠ 125) (h2 : r ≠ 86) : U' r = U r := funext fun j => h r j h1 (fun e => absurd e h2)
theorem sk_mk {U U' : am_U} (h : mk U U') : sk U U' := fun r j a b => h r j a (fun e => by have := b e; omega)
theorem agr_sk {U U' : am_U} (h : sk U U') : agr U U' := by
  intro r j e
  refine h r j (fun q => ?_) (fun q => ?_)
  · subst q; simp [scr] at e
  · subst q
    simp [scr] at e
    omega
theorem stq_sk {U U' : am_U} (h : sk U U') : stq U U' := ⟨sk_row h (by decide) (by decide), sk_row h (by decide) (by decide), sk_row h (by decide) (by decide), sk_row h (by decide) (by decide), sk_row h (by decide) (by decide), sk_row h (by decide) (by decide), sk_row h (by decide) (by decide), sk_row h (by decide) (by decide), sk_row h (by decide) (by decide)⟩
theorem mCtx_sk {U U' : am_U} {b ns nh nl nw nd cl v n : Nat} {hm : Nat → Int} (h : sk U U') (hc : mCtx U b ns nh nl nw nd cl v n hm) : mCtx U' b ns nh nl nw nd cl v n hm := by
  obtain ⟨h1, h2, h3, h4, h5⟩ := hc
  refine ⟨iTown_agr (agr_sk h) h1, h2, ?_, h4, ?_⟩
  · rw [sk_row h (r := 122) (by decide) (by decide)]; exact h3
  · rw [sk_row h (r := 123) (by decide) (by decide), sk_row h (r := 124) (by decide) (by decide), sk_row h (r := 17) (by decide) (by decide)]; exact h5
theorem envM_S {U : am_U} {b ns nh nl nw nd cl v n me : Nat} {hm : Nat → Int} {ot : Int} (hc : mCtx U b ns nh nl nw nd cl v n hm) (hme : me < n) : envM U b v n me ot = envS U n hm me ot := by
  obtain ⟨ht, h2, h3, h4, h5⟩ := hc
  obtain ⟨q1, q2, q3, q4⟩ := h5 me hme
  have hh := ht.2.2.1
  funext c
  unfold envM envS
  rw [q1, q2]
  have e : fb_ct (fun p => U 124 (16 * v + p) == hm me) n = fb_ct (fun p => hm p == hm me) n := fb_ct_cong (fun p hp => by rw [(h5 p hp).2.1])
  rw [e]
  by_cases c0 : 0 ≤ hm me
  · rw [if_pos (show hm me ≠ -1 by omega), if_pos c0]
    obtain ⟨-, ⟨s1, -⟩, ⟨r1, -⟩, -⟩ := hh.2.2.2 (hm me).toNat (by omega)
    rw [s1, r1]
  · rw [if_neg (show ¬ hm me ≠ -1 by omega), if_neg c0]
theorem envS_v {U : am_U} {b ns nh nl nw nd cl v n me : Nat} {hm : Nat → Int} {ot : Int} (hc : mCtx U b ns nh nl nw nd cl v n hm) (hme : me < n) (ho : -1000000000 ≤ ot ∧ ot ≤ 1000000000) : ∀ c, isAsk c → vOk false (envS U n hm me ot c) := by
  intro c _
  obtain ⟨ht, h2, h3, h4, h5⟩ := hc
  obtain ⟨q1, q2, q3, q4⟩ := h5 me hme
  have hh := ht.2.2.1
  show -1000000000 ≤ envS U n hm me ot c ∧ envS U n hm me ot c ≤ 1000000000
  unfold envS
  split
  · omega
  · split
    · omega
    · split
      · rename_i hp
        obtain ⟨-, ⟨-, s1, s2⟩, ⟨-, r1, r2⟩, -⟩ := hh.2.2.2 (hm me).toNat (by omega)
        have := ht.2.1.2.2.1
        have := hh.2.2.1
        have := fb_ct_le (fun p => hm p == hm me) n
        (repeat' split) <;> omega
      · (repeat' split) <;> omega
theorem ct_M_law {N : Nat} {X : Nat → Int} {d : Nat} {U : am_U} {b ns nh nl nw nd cl v n l me : Nat} {hm : Nat → Int} {ot : Int} (hc : mCtx U b ns nh nl nw nd cl v n hm) (hl : l < nw) (hme : me < n) (ho : -1000000000 ≤ ot ∧ ot ≤ 1000000000) : ∃ U', EvK N X (M_lawHolds_s0 (d + 5) (v : Nat) (l : Nat) (me : Nat) ot U) (rI (cb (hTS U n hm l me ot)) U') ∧ mk U U' := by
  have he := envS_v hc hme ho
  have ee := envM_S (ot := ot) hc hme
  obtain ⟨ht, h2, h3, h4, h5⟩ := hc
  obtain ⟨w1, w2, w3, w4, w5, w6⟩ := ht.2.2.2.2.2.2.1
  obtain ⟨-, -, f, m, e1, e2, e3, e4, e5, e6⟩ := w6 l hl
  obtain ⟨q1, q2, q3, q4⟩ := h5 me hme
  have := ht.2.2.1.2.2.1
  obtain ⟨U', g1, g2⟩ := ct_M_lawHolds (N := N) (X := X) (d := d) (U := U) (code := U 15) (ot := ot) (b := b) (v := v) (n := n) (me := me) (f := f) (l := m) (k := l) (by omega) e3 e4 e6 (fun i hi => w5 i (by omega)) (by rw [ee]; exact he) (by omega) ht.1.1 ht.1.2 h2 (by omega) h3 h4 (by rw [q2]; omega)
  refine ⟨U', ?_, g2⟩
  rw [ee] at g1
  have : (cb (hTS U n hm l me ot)) = holdsT (envS U n hm me ot) (U 15) f m := by
    unfold hTS holdsT
    rw [e1, e2, Int.toNat_natCast, show (((f + m : Nat) : Int) - (f : Nat)).toNat = m from by omega]
  rw [this]
  exact g1
theorem ct_M_isPair {N : Nat} {X : Nat → Int} {d : Nat} {U : am_U} {b ns nh nl nw nd cl v n me i : Nat} {hm : Nat → Int} {kind : Int} (hk : kind = 1 ∨ kind = 2) (hc : mCtx U b ns nh nl nw nd cl v n hm) (hme : me < n) (hi : i < n) : EvK N X (M_isPair_s0 (d + 2) (v : Nat) kind (me : Nat) (i : Nat) U) (rI (cb (metS U b nl n hm (8 + kind) me i)) U) := by
  obtain ⟨ht, h2, h3, h4, h5⟩ := hc
  obtain ⟨-, a1, a2, -⟩ := h5 me hme
  obtain ⟨-, b1, b2, -⟩ := h5 i hi
  have hh := ht.2.2.1
  have e1 := ct_M_homeOf (N := N) (X := X) (d := d + 1) (U := U) v me h2 (by omega)
  have e2 := ct_M_homeOf (N := N) (X := X) (d := d + 1) (U := U) v i h2 (by omega)
  rw [a1] at e1
  rw [b1] at e2
  refine M_isPair_r0 ⟨_, _, e1, _, _, e2, fun e => ?_, fun e => ⟨fun q => ?_, fun q => ⟨fun q2 => ⟨fun q3 => ?_, fun q3 => ⟨fun q4 => ?_, fun q4 => ?_⟩⟩, fun q2 => ?_⟩⟩⟩
  · have : me = i := by omega
    subst this
    rw [cb_f]
    rintro ⟨-, -, ⟨-, z, -⟩ | ⟨-, -, z⟩⟩
    · exact z rfl
    · exact z.1 rfl
  · rw [cb_f]; rintro ⟨-, z, -⟩; omega
  · have k1 : kind = 1 := by omega
    subst k1
    obtain ⟨x, hx⟩ : ∃ x : Nat, hm me = x := ⟨(hm me).toNat, by omega⟩
    obtain ⟨y, hy⟩ : ∃ y : Nat, hm i = y := ⟨(hm i).toNat, by omega⟩
    rw [hx, hy, ht.1.1]
    refine ⟨_, _, ct_M_nb ht.1.2 ht.2.2.2.1.2.1 ht.2.2.2.1.2.2.1 (by have := hh.2.2.1; omega) (by have := hh.2.2.1; omega), cb_01 _, ?_⟩
    have : metS U b nl n hm (8 + 1) me i ↔ nbP (fun k => U 92 (12 * b + k)) (fun k => U 95 (10 * b + k)) (fun k => U 96 (10 * b + k)) nl x y := by
      have key := nbP_cg (st := fun k => U 92 (12 * b + k)) (st' := U 6) (lf := fun k => U 95 (10 * b + k)) (lt := fun k => U 96 (10 * b + k)) (nl := nl) (nh := nh) (x := x) (y := y) (fun k hk => (hh.2.2.2 k hk).2.1.1) (by omega) (by omega)
      rw [key]
      unfold metS nbU
      rw [hx, hy, Int.toNat_natCast, Int.toNat_natCast]
      constructor
      · rintro ⟨-, -, ⟨z, -⟩ | ⟨-, -, z⟩⟩
        · omega
        · exact z
      · intro z
        exact ⟨hi, by omega, Or.inr ⟨by omega, by omega, z⟩⟩
    rw [propext this]
  · rw [cb_f]
    rintro ⟨-, -, ⟨-, -, z⟩ | ⟨z, -⟩⟩
    · exact q4 z.symm
    · omega
  · rw [cb_t ⟨hi, by omega, Or.inl ⟨by omega, by omega, q4.symm⟩⟩]
  · rw [cb_f]
    rintro ⟨-, z1, ⟨-, -, z⟩ | ⟨-, z, -⟩⟩ <;> omega
