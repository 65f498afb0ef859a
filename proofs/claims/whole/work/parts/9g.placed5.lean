/-! the reference tries all ways -/
def asW (hm : Nat → Int) (n i : Nat) : Nat := (kth (wtg hm) ((i : Nat) : Int) n).toNat
theorem asW_is (hm : Nat → Int) (n : Nat) : isAs hm n (fb_ct (wtg hm) n) (asW hm n) := by
  refine ⟨rfl, fun i hi => ?_⟩
  obtain ⟨p, p1, p2, p3⟩ := fb_ct_kth hi
  have e : asW hm n i = p := by
    unfold asW
    rw [kth_in p2 (by omega) p1, Int.toNat_natCast]
  rw [e]
  exact ⟨p1, wtg_iff.mp p2, p3⟩
theorem ct_forgetsAnswers {N : Nat} {X : Nat → Int} {d : Nat} {U : am_U} {b ns nh nl nw nd cl : Nat} (ht : iTown U b ns nh nl nw nd cl) : ∃ U', EvK N X (M_forgetsAnswers_s0 (d + 2) U) (rV U') ∧ (∀ r, r ≠ 128 → r ≠ 129 → U' r = U r) ∧ (∀ j, j < 182784 → U' 128 j = 0) ∧ ∀ x, x < nh → ∀ y, y < nh → U' 129 (12 * x + y) = cb (nbU U b nl x y) := by
  have hb := ht.1.1
  have hb2 := ht.1.2
  have hnh := ht.2.2.1.2.2.1
  have h90 := ht.2.2.1.2.1
  have hl := ht.2.2.2.1
  have e92 : ∀ k, k < nh → U 92 (12 * b + k) = U 6 k := fun k hk => (ht.2.2.1.2.2.2 k hk).2.1.1
  -- who lives beside whom
  have two : ∀ x, x < nh → ∀ k y : Nat, y + k = nh → ∀ V, (∀ r, r ≠ 128 → r ≠ 129 → V r = U r) → (∀ x', x' < x → ∀ y, y < nh → V 129 (12 * x' + y) = cb (nbU U b nl x' y)) → (∀ y', y' < y → V 129 (12 * x + y') = cb (nbU U b nl x y')) → ∃ V', (∀ r, r ≠ 128 → r ≠ 129 → V' r = U r) ∧ V' 128 = V 128 ∧ (∀ x', x' < x + 1 → ∀ y, y < nh → V' 129 (12 * x' + y) = cb (nbU U b nl x' y)) ∧ ∀ R, EvK N X (M_forgetsAnswers_s23 (d + 2) ((x + 1 : Nat) : Int) V') R → EvK N X (M_forgetsAnswers_s38 (d + 2) (x : Nat) (y : Nat) V) R := by
    intro x hx k
    induction k with
    | zero =>
      intro y hy V v1 v2 v3
      obtain rfl : y = nh := by omega
      have eb : V 86 13 = (b : Nat) := by rw [v1 86 (by decide) (by decide)]; exact hb
      have e90 : V 90 b = (y : Nat) := by rw [v1 90 (by decide) (by decide)]; exact h90
      refine ⟨V, v1, rfl, fun x' hx' y' hy' => ?_, fun R hR => M_forgetsAnswers_r38 ?_⟩
      · by_cases e : x' = x
        · rw [e]; exact v3 y' hy'
        · exact v2 x' (by omega) y' hy'
      · rw [eb, Int.toNat_natCast, e90, w32_succ (i := x) (by omega)]
        exact ⟨by omega, fun _ => hR, fun z => absurd z (by omega)⟩
    | succ k ih =>
      intro y hy V v1 v2 v3
      have eb : V 86 13 = (b : Nat) := by rw [v1 86 (by decide) (by decide)]; exact hb
      have e90 : V 90 b = (nh : Nat) := by rw [v1 90 (by decide) (by decide)]; exact h90
      have nb := ct_M_nb (N := N) (X := X) (d := d) (U := V) (b := b) (nl := nl) (x := x) (y := y) hb2 (by rw [v1 94 (by decide) (by decide)]; exact hl.2.1) hl.2.2.1 (by omega) (by omega)
      have enb : nbP (fun k => V 92 (12 * b + k)) (fun k => V 95 (10 * b + k)) (fun k => V 96 (10 * b + k)) nl x y ↔ nbU U b nl x y := by
        rw [v1 92 (by decide) (by decide), v1 95 (by decide) (by decide), v1 96 (by decide) (by decide)]
        exact nbP_cg e92 hx (show y < nh by omega)
      rw [propext enb] at nb
      obtain ⟨V', k1, k2, k3, k4⟩ := ih (y + 1) (by omega) (am_upd V 129 (12 * x + y) (cb (nbU U b nl x y))) (fun r q1 q2 => by rw [upd_row q2]; exact v1 r q1 q2) (fun x' hx' y' hy' => by rw [upd_ne (by omega)]; exact v2 x' hx' y' hy') (fun y' hy' => by
        rw [upd_if]
        by_cases e : y' = y
        · rw [e, if_pos rfl]
        · rw [if_neg (by omega)]; exact v3 y' (by omega))
      refine ⟨V', k1, by rw [k2, upd_row (by decide)], k3, fun R hR => M_forgetsAnswers_r38 ?_⟩
      rw [eb, Int.toNat_natCast, e90, w32_eq (x := 12 * ((x : Nat) : Int)) (by omega) (by omega), w32_eq (x := 12 * ((x : Nat) : Int) + ((y : Nat) : Int)) (by omega) (by omega), show 12 * ((x : Nat) : Int) + ((y : Nat) : Int) = ((12 * x + y : Nat) : Int) by omega, Int.toNat_natCast, w32_succ (i := y) (by omega)]
      exact ⟨by omega, fun z => absurd z (by omega), fun _ => ⟨_, V, nb, cb_01 _, by omega, k4 R hR⟩⟩
  have one : ∀ k x : Nat, x + k = nh → ∀ V, (∀ r, r ≠ 128 → r ≠ 129 → V r = U r) → (∀ j, j < 182784 → V 128 j = 0) → (∀ x', x' < x → ∀ y, y < nh → V 129 (12 * x' + y) = cb (nbU U b nl x' y)) → ∃ U', EvK N X (M_forgetsAnswers_s23 (d + 2) (x : Nat) V) (rV U') ∧ (∀ r, r ≠ 128 → r ≠ 129 → U' r = U r) ∧ (∀ j, j < 182784 → U' 128 j = 0) ∧ ∀ x, x < nh → ∀ y, y < nh → U' 129 (12 * x + y) = cb (nbU U b nl x y) := by
    intro k
    induction k with
    | zero =>
      intro x hx V v1 v2 v3
      obtain rfl : x = nh := by omega
      have eb : V 86 13 = (b : Nat) := by rw [v1 86 (by decide) (by decide)]; exact hb
      have e90 : V 90 b = (x : Nat) := by rw [v1 90 (by decide) (by decide)]; exact h90
      refine ⟨V, M_forgetsAnswers_r23 ?_, v1, v2, v3⟩
      rw [eb, Int.toNat_natCast, e90]
      exact ⟨by omega, fun _ => rfl, fun z => absurd z (by omega)⟩
    | succ k ih =>
      intro x hx V v1 v2 v3
      have eb : V 86 13 = (b : Nat) := by rw [v1 86 (by decide) (by decide)]; exact hb
      have e90 : V 90 b = (nh : Nat) := by rw [v1 90 (by decide) (by decide)]; exact h90
      obtain ⟨V', k1, k2, k3, k4⟩ := two x (by omega) nh 0 (by omega) V v1 v3 (fun y' hy' => absurd hy' (Nat.not_lt_zero y'))
      obtain ⟨U', l1, l2⟩ := ih (x + 1) (by omega) V' k1 (fun j hj => by rw [k2]; exact v2 j hj) k3
      refine ⟨U', M_forgetsAnswers_r23 ?_, l2⟩
      rw [eb, Int.toNat_natCast, e90]
      exact ⟨by omega, fun z => absurd z (by omega), fun _ => k4 _ l1⟩
  obtain ⟨U', k1, k2⟩ := one nh 0 (by omega) (fil U 128 182784 0) (fun r q _ => fil_row q) (fun j hj => fil_in hj) (fun x' hx' => absurd hx' (Nat.not_lt_zero x'))
  have zero : ∀ k i : Nat, i + k = 182784 → EvK N X (M_forgetsAnswers_s2 (d + 2) (i : Nat) (fil U 128 i 0)) (rV U') := by
    intro k
    induction k with
    | zero =>
      intro i hi
      obtain rfl : i = 182784 := by omega
      exact M_forgetsAnswers_r2 ⟨fun _ => k1, fun z => absurd z (by omega)⟩
    | succ k ih =>
      intro i hi
      refine M_forgetsAnswers_r2 ⟨fun z => absurd z (by omega), fun _ => ⟨by omega, ?_⟩⟩
      rw [w32_succ (i := i) (by omega), Int.toNat_natCast, fil_succ]
      exact ih (i + 1) (by omega)
  have z := zero 182784 0 (by omega)
  rw [fil_0] at z
  exact ⟨U', M_forgetsAnswers_r0 z, k2⟩
/-- what trying ways may change -/
def fK (B U : am_U) : Prop := ∀ r j, r ≠ 125 → r ≠ 127 → r ≠ 128 → (r = 86 → j ≠ 61 ∧ j ≠ 62 ∧ j ≠ 63) → ¬ (r = 124 ∧ 16 ≤ j ∧ j < 32) → U r j = B r j
theorem fK_trans {U U1 U2 : am_U} (h1 : fK U U1) (h2 : fK U1 U2) : fK U U2 := fun r j a b c e f => by rw [h2 r j a b c e f, h1 r j a b c e f]
theorem fK_fC {U U' : am_U} (h : fC U U') : fK U U' := fun r j a _ c e _ => h r j a c e
theorem fK_row {U U' : am_U} (h : fK U U') {r : Nat} (h1 : r ≠ 125) (h2 : r ≠ 127) (h3 : r ≠ 128) (h4 : r ≠ 86) (h5 : r ≠ 124) : U' r = U r := funext fun j => h r j h1 h2 h3 (fun e => absurd e h4) (fun e => absurd e.1 h5)
theorem agr_fK {U U' : am_U} (h : fK U U') : agr U U' := fun r j e => h r j (fun q => by subst q; simp [scr] at e) (fun q => by subst q; simp [scr] at e) (fun q => by subst q; simp [scr] at e) (fun q => ⟨fun z => by subst q; subst z; simp [scr] at e, fun z => by subst q; subst z; simp [scr] at e, fun z => by subst q; subst z; simp [scr] at e⟩) (fun q => by
  obtain ⟨rfl, q1, q2⟩ := q
  simp [scr] at e; omega)
/-- what the trying stands on -/
def mB (B : am_U) (b ns nh nl nw nd cl n m : Nat) (hm : Nat → Int) (as : Nat → Nat) : Prop := iTown B b ns nh nl nw nd cl ∧ n ≤ 16 ∧ B 122 1 = (n : Nat) ∧ (∀ p, p < n → B 123 (16 + p) = B 17 p ∧ (-1 ≤ hm p ∧ hm p < (nh : Nat)) ∧ -999999999 ≤ B 17 p ∧ B 17 p ≤ 999999999) ∧ m ≤ 3 ∧ isAs hm n m as ∧ B 86 70 = (m : Nat) ∧ (∀ i, i < m → B 126 i = (as i : Nat)) ∧ ∀ x, x < nh → ∀ y, y < nh → B 129 (12 * x + y) = cb (nbU B b nl x y)
def mS (V B : am_U) (b nl nw n nh m : Nat) (hm : Nat → Int) (as : Nat → Nat) (w : Nat) : Prop := fK B V ∧ caOk V B nw n nh ∧ (∀ p, p < n → hm p ≠ -1 → V 124 (16 + p) = hm p) ∧ (0 ≤ (bsP B b nl nw n nh m hm w).1 → ∀ i, i < m → V 127 (as i) = hJ n nh m hm (bsP B b nl nw n nh m hm w).2 0 (as i))
theorem M_dig {N : Nat} {X : Nat → Int} {d : Nat} {B : am_U} {b ns nh nl nw nd cl n m w : Nat} {hm : Nat → Int} {as : Nat → Nat} {x1 x2 : Int} (hB : mB B b ns nh nl nw nd cl n m hm as) (hw : w < 100000) : ∀ j, j ≤ m → ∀ V : am_U, fK B V → (∀ p, p < n → (hm p ≠ -1 → V 124 (16 + p) = hm p) ∧ (hm p = -1 → j ≤ rkW hm p → V 124 (16 + p) = dvH nh (dgH (nh + 1) m w (rkW hm p)))) → ∃ V', fK B V' ∧ V' 127 = V 127 ∧ V' 128 = V 128 ∧ (∀ p, p < n → V' 124 (16 + p) = hJ n nh m hm w 0 p) ∧ ∀ R, EvK N X (M_places_s65 (d + 1) x1 x2 (w : Nat) ((w / (nh + 1) ^ m : Nat) : Int) (plJ nh m w 0 : Nat) (-1) V') R → EvK N X (M_places_s65 (d + 1) x1 x2 (w : Nat) ((w / (nh + 1) ^ (m - j) : Nat) : Int) (plJ nh m w j : Nat) (((j : Nat) : Int) - 1) V) R := by
  obtain ⟨ht, hn, h122, hpp, hm3, ha, h70, h126, hnx⟩ := hB
  have hb := ht.1.1
  have hb2 := ht.1.2
  have hnh := ht.2.2.1.2.2.1
  have h90 := ht.2.2.1.2.1
  intro j
  induction j with
  | zero =>
    intro _ V v1 v2
    refine ⟨V, v1, rfl, rfl, fun p hp => ?_, fun R hR => hR⟩
    by_cases c : hm p = -1
    · rw [(v2 p hp).2 c (Nat.zero_le _)]
      unfold hJ
      rw [if_pos ⟨hp, c, Nat.zero_le _⟩]
    · rw [(v2 p hp).1 c, hJ_off (fun z => c z.2)]
  | succ j ih =>
    intro hj V v1 v2
    obtain ⟨a1, a2, a3⟩ := ha.2 j (by omega)
    have eb : V 86 13 = (b : Nat) := by rw [v1 86 13 (by decide) (by decide) (by decide) (by decide) (by decide)]; exact hb
    have e90 : V 90 b = (nh : Nat) := by rw [fK_row v1 (by decide) (by decide) (by decide) (by decide) (by decide)]; exact h90
    have e126 : V 126 j = (as j : Nat) := by rw [fK_row v1 (by decide) (by decide) (by decide) (by decide) (by decide)]; exact h126 j (by omega)
    have ep := plJ_s (nh := nh) (w := w) (show j < m by omega)
    have pl4 := plJ_le nh m w (j + 1)
    have hle : w / (nh + 1) ^ (m - (j + 1)) ≤ w := Nat.div_le_self _ _
    have emod : Int.tmod ((w / (nh + 1) ^ (m - (j + 1)) : Nat) : Int) ((nh + 1 : Nat) : Int) = ((dgH (nh + 1) m w j : Nat) : Int) := by
      rw [← dg_mod (show j < m by omega)]; exact (Int.ofNat_tmod _ _).symm
    have ediv : eqI (w32 (Int.tdiv ((w / (nh + 1) ^ (m - (j + 1)) : Nat) : Int) ((nh + 1 : Nat) : Int))) (((w / (nh + 1) ^ (m - j) : Nat) : Int)) := by
      show _ = _
      rw [tdiv_nat, dg_div (show j < m by omega)]
      exact w32_nat (Nat.lt_of_le_of_lt (Nat.div_le_self _ _) (by omega))
    have ej : eqI (w32 ((((j + 1 : Nat) : Int) - 1) + (-1))) (((j : Nat) : Int) - 1) := by show _ = _; rw [w32_eq (by omega) (by omega)]; omega
    have glt : dgH (nh + 1) m w j < nh + 1 := Nat.mod_lt _ (by omega)
    obtain ⟨V', k1, k2, k3, k4, k5⟩ := ih (by omega) (am_upd V 124 (16 + as j) (dvH nh (dgH (nh + 1) m w j))) (fun r i q1 q2 q3 q4 q5 => by
        by_cases c : r = 124
        · subst c
          rw [upd_ne (fun e => q5 ⟨rfl, by omega, by omega⟩)]; exact v1 124 i q1 q2 q3 q4 q5
        · rw [upd_row c]; exact v1 r i q1 q2 q3 q4 q5) (fun p hp => by
        rw [upd_if]
        by_cases c : p = as j
        · subst c
          rw [if_pos rfl]
          exact ⟨fun z => absurd a2 z, fun _ _ => by rw [a3]⟩
        · rw [if_neg (by omega)]
          refine ⟨(v2 p hp).1, fun z1 z2 => (v2 p hp).2 z1 ?_⟩
          have o := as_one ha hp z1
          have : rkW hm p ≠ j := fun e => c (by rw [← o.2, e])
          omega)
    refine ⟨V', k1, by rw [k2, upd_row (by decide)], by rw [k3, upd_row (by decide)], k4, fun R hR => M_places_r65 ⟨fun z => absurd z (by omega), fun _ => ?_⟩⟩
    have kR := k5 R hR
    rw [show (((j + 1 : Nat) : Int) - 1).toNat = j by omega, eb, Int.toNat_natCast, e90, w32_succ (i := nh) (by omega), emod, eqI_o ediv, eqI_o ej, e126, w32_eq (x := 16 + ((as j : Nat) : Int)) (by omega) (by omega), show 16 + ((as j : Nat) : Int) = ((16 + as j : Nat) : Int) by omega, Int.toNat_natCast]
    refine ⟨by omega, by omega, by omega, by omega, fun z => ⟨by omega, ?_⟩, fun z => ⟨by omega, ?_⟩⟩
    · have c : dgH (nh + 1) m w j < nh := by omega
      rw [if_pos c] at ep
      unfold dvH at kR
      rw [if_pos c] at kR
      rw [w32_succ (by omega), ← ep]; exact kR
    · have c : ¬ dgH (nh + 1) m w j < nh := by omega
      rw [if_neg c, Nat.add_zero] at ep
      unfold dvH at kR
      rw [if_neg c] at kR
      rw [w32_0 (by omega) (by omega), ← ep]; exact kR
theorem M_way {N : Nat} {X : Nat → Int} {d : Nat} {B V : am_U} {b ns nh nl nw nd cl n m w ways : Nat} {hm : Nat → Int} {as : Nat → Nat} (hB : mB B b ns nh nl nw nd cl n m hm as) (hlt : w < ways) (hways : ways < 100000) (hS : mS V B b nl nw n nh m hm as w) : ∃ V', mS V' B b nl nw n nh m hm as (w + 1) ∧ ∀ R, EvK N X (M_places_s46 (d + 9) (ways : Nat) (bsP B b nl nw n nh m hm (w + 1)).1 ((w + 1 : Nat) : Int) V') R → EvK N X (M_places_s46 (d + 9) (ways : Nat) (bsP B b nl nw n nh m hm w).1 (w : Nat) V) R := by
  have hB0 := hB
  obtain ⟨ht, hn, h122, hpp, hm3, ha, h70, h126, hnx⟩ := hB
  obtain ⟨s1', s2, s3, s4⟩ := hS
  have hnh := ht.2.2.1.2.2.1
  have bin := bsW_in (pl := fun w => plJ nh m w 0) (ok := okPl B b nl nw n nh m hm) (m := m) (fun w => plJ_le nh m w 0) w
  have bin' : -1 ≤ (bsP B b nl nw n nh m hm w).1 ∧ (bsP B b nl nw n nh m hm w).1 ≤ (m : Nat) := bin
  obtain ⟨V1, k1, k2, k3, k4, k5⟩ := M_dig (N := N) (X := X) (d := d + 8) (x1 := (ways : Nat)) (x2 := (bsP B b nl nw n nh m hm w).1) hB0 (show w < 100000 by omega) m (Nat.le_refl m) V s1' (fun p hp => ⟨s3 p hp, fun z1 z2 => by have := (as_one ha hp z1).1; omega⟩)
  have e70 : V 86 70 = (m : Nat) := by rw [s1' 86 70 (by decide) (by decide) (by decide) (by decide) (by decide)]; exact h70
  have st : ∀ {R}, EvK N X (M_places_s65 (d + 9) (ways : Nat) (bsP B b nl nw n nh m hm w).1 (w : Nat) ((w / (nh + 1) ^ m : Nat) : Int) (plJ nh m w 0 : Nat) (-1) V1) R → EvK N X (M_places_s46 (d + 9) (ways : Nat) (bsP B b nl nw n nh m hm w).1 (w : Nat) V) R := fun {R} hR => by
    refine M_places_r46 ⟨fun z => absurd z (by omega), fun _ => ?_⟩
    have := k5 R hR
    rw [Nat.sub_self, Nat.pow_zero, Nat.div_one, plJ_m] at this
    rw [e70, w32_eq (by omega) (by omega)]
    exact this
  have s31 : ∀ p, p < n → hm p ≠ -1 → V1 124 (16 + p) = hm p := fun p hp z => by rw [k4 p hp, hJ_off (fun y => z y.2)]
  have ag1 := agr_fK k1
  have ht1 := iTown_agr ag1 ht
  have q1 : stq B V1 := stq_agrC (agrC_of ag1)
  -- the way isn't taken
  have skip : ∀ V', fK B V' → caOk V' B nw n nh → (∀ p, p < n → hm p ≠ -1 → V' 124 (16 + p) = hm p) → V' 127 = V1 127 → ¬ ((bsP B b nl nw n nh m hm w).1 < (plJ nh m w 0 : Nat) ∧ okPl B b nl nw n nh m hm w) → bsP B b nl nw n nh m hm (w + 1) = bsP B b nl nw n nh m hm w ∧ mS V' B b nl nw n nh m hm as (w + 1) := fun V' w1 w2 w3 w4 hno => by
    have e : bsP B b nl nw n nh m hm (w + 1) = bsP B b nl nw n nh m hm w := bsW_f hno
    refine ⟨e, w1, w2, w3, ?_⟩
    rw [e, w4, k2]; exact s4
  have ca1 : caOk V1 B nw n nh := fun l hl me hme o ho g hg v hv => by rw [k3]; exact s2 l hl me hme o ho g hg v hv
  by_cases c1 : ((plJ nh m w 0 : Nat) : Int) ≤ (bsP B b nl nw n nh m hm w).1
  · obtain ⟨e, mm⟩ := skip V1 k1 ca1 s31 rfl (fun z => by have := z.1; omega)
    refine ⟨V1, mm, fun R hR => st (M_places_r65 ⟨fun _ => ⟨fun _ => ?_, fun z => absurd z (by omega)⟩, fun z => absurd z (by omega)⟩)⟩
    rw [w32_succ (i := w) (by omega), ← e]; exact hR
  · obtain ⟨r, l1, l2⟩ := ct_areRooms (N := N) (X := X) (d := d + 6) (v := 1) (U := V1) (b := b) (n := n) (nh := nh) (by decide) ht1.1.1 ht1.1.2 (by rw [fK_row k1 (by decide) (by decide) (by decide) (by decide) (by decide)]; exact h122) hn ht1.2.2.1.2.1 hnh
    have key : (∀ g, g < nh → ((fb_ct (fun p => V1 124 (16 * 1 + p) == ((g : Nat) : Int)) n : Nat) : Int) ≤ V1 93 (12 * b + g)) ↔ rmOk (B 8) n nh (hJ n nh m hm w 0) := by
      have e8 : V1 8 = B 8 := q1.2.1
      refine forall_congr' (fun g => ?_)
      refine ⟨fun h hg => ?_, fun h hg => ?_⟩
      · have := h hg
        rw [(ht1.2.2.1.2.2.2 g hg).2.2.1.1, e8, fb_ct_cong (q := fun p => hJ n nh m hm w 0 p == ((g : Nat) : Int)) (fun p hp => by rw [show 16 * 1 + p = 16 + p from rfl, k4 p hp])] at this
        exact this
      · rw [(ht1.2.2.1.2.2.2 g hg).2.2.1.1, e8, fb_ct_cong (q := fun p => hJ n nh m hm w 0 p == ((g : Nat) : Int)) (fun p hp => by rw [show 16 * 1 + p = 16 + p from rfl, k4 p hp])]
        exact h hg
    rw [key] at l2
    rcases l2 with ⟨r1, rm⟩ | ⟨r0, nrm⟩
    · subst r1
      have hx : mTX V1 B b ns nh nl nw nd cl n (hJ n nh m hm w 0) := by
        refine ⟨⟨ht1, by decide, ?_, hn, fun p hp => ?_⟩, q1, ?_, fun x hx y hy => ?_⟩
        · rw [fK_row k1 (by decide) (by decide) (by decide) (by decide) (by decide)]; exact h122
        · have hp' := hpp p hp
          rw [fK_row k1 (r := 123) (by decide) (by decide) (by decide) (by decide) (by decide), q1.1]
          refine ⟨hp'.1, k4 p hp, ?_, hp'.2.2⟩
          unfold hJ
          by_cases z : p < n ∧ hm p = -1 ∧ 0 ≤ rkW hm p
          · rw [if_pos z]; exact dvH_in
          · rw [if_neg z]; exact hp'.2.1
        · rw [q1.2.1]; exact rm
        · rw [fK_row k1 (by decide) (by decide) (by decide) (by decide) (by decide)]; exact hnx x hx y hy
      obtain ⟨V2, p1, p2, p3⟩ := ct_isTryLawful (N := N) (X := X) (d := d) hx ca1
      have f2 := fK_trans k1 (fK_fC p2)
      have s32 : ∀ p, p < n → hm p ≠ -1 → V2 124 (16 + p) = hm p := fun p hp z => by rw [fC_row p2 (r := 124) (by decide) (by decide) (by decide)]; exact s31 p hp z
      by_cases c2 : lawP B b nl nw n (hJ n nh m hm w 0)
      · have e : bsP B b nl nw n nh m hm (w + 1) = (((plJ nh m w 0 : Nat) : Int), w) := bsW_t ⟨by
          show (bsP B b nl nw n nh m hm w).1 < _
          omega, rm, c2⟩
        have e1 : (bsP B b nl nw n nh m hm (w + 1)).1 = ((plJ nh m w 0 : Nat) : Int) := by rw [e]
        have loop : ∀ k i : Nat, i + k = m → ∀ V', fK B V' → caOk V' B nw n nh → V' 124 = V2 124 → (∀ t, t < i → V' 127 (as t) = hJ n nh m hm w 0 (as t)) → ∃ V'', mS V'' B b nl nw n nh m hm as (w + 1) ∧ ∀ R, EvK N X (M_places_s46 (d + 9) (ways : Nat) ((plJ nh m w 0 : Nat) : Int) ((w + 1 : Nat) : Int) V'') R → EvK N X (M_places_s197 (d + 9) (ways : Nat) ((plJ nh m w 0 : Nat) : Int) (w : Nat) ((w / (nh + 1) ^ m : Nat) : Int) ((plJ nh m w 0 : Nat) : Int) (i : Nat) V') R := by
          intro k
          induction k with
          | zero =>
            intro i hi V' w1 w2 w3 w4
            obtain rfl : i = m := by omega
            have e70' : V' 86 70 = (i : Nat) := by rw [w1 86 70 (by decide) (by decide) (by decide) (by decide) (by decide)]; exact h70
            refine ⟨V', ⟨w1, w2, fun p hp z => by rw [w3]; exact s32 p hp z, fun _ t ht' => ?_⟩, fun R hR => M_places_r197 ⟨fun _ => ?_, fun z => absurd z (by rw [e70']; omega)⟩⟩
            · rw [e]; exact w4 t ht'
            · rw [w32_succ (i := w) (by omega)]; exact hR
          | succ k ih =>
            intro i hi V' w1 w2 w3 w4
            have e70' : V' 86 70 = (m : Nat) := by rw [w1 86 70 (by decide) (by decide) (by decide) (by decide) (by decide)]; exact h70
            have e126 : V' 126 i = (as i : Nat) := by rw [fK_row w1 (by decide) (by decide) (by decide) (by decide) (by decide)]; exact h126 i (by omega)
            have a1 := (ha.2 i (by omega)).1
            have eh : EvK N X (M_homeOf_s0 (d + 8) 1 ((as i : Nat) : Int) V') (rI (hJ n nh m hm w 0 (as i)) V') := by
              have := ct_M_homeOf (N := N) (X := X) (d := d + 8) (U := V') 1 (as i) (by decide) (by omega)
              rw [w3, fC_row p2 (r := 124) (by decide) (by decide) (by decide), show 16 * 1 + as i = 16 + as i from rfl, k4 (as i) a1] at this
              exact this
            obtain ⟨V'', j1, j2⟩ := ih (i + 1) (by omega) (am_upd V' 127 (as i) (hJ n nh m hm w 0 (as i))) (fun r j' q1 q2 q3 q4 q5 => by rw [upd_row q2]; exact w1 r j' q1 q2 q3 q4 q5) (fun l hl me hme o ho g hg v hv => by rw [upd_row (by decide)]; exact w2 l hl me hme o ho g hg v hv) (by rw [upd_row (by decide)]; exact w3) (fun t ht' => by
              rw [upd_if]
              by_cases c : as t = as i
              · rw [if_pos c, c]
              · rw [if_neg c]
                have : t ≠ i := fun e => c (by rw [e])
                exact w4 t (by omega))
            refine ⟨V'', j1, fun R hR => M_places_r197 ⟨fun z => absurd z (by rw [e70']; omega), fun _ => ⟨by omega, ?_⟩⟩⟩
            rw [Int.toNat_natCast, e126, Int.toNat_natCast, w32_succ (i := i) (by omega)]
            exact ⟨_, V', eh, by omega, j2 R hR⟩
        obtain ⟨V'', j1, j2⟩ := loop m 0 (by omega) V2 f2 p3 rfl (fun t ht' => absurd ht' (Nat.not_lt_zero t))
        refine ⟨V'', j1, fun R hR => st (M_places_r65 ⟨fun _ => ⟨fun z => absurd z c1, fun _ => ⟨1, V1, l1, fun z => absurd z (by decide), fun _ => ⟨_, V2, p1, fun _ => j2 R ?_, fun z => absurd c2 (cb_eq.mp z)⟩⟩⟩, fun z => absurd z (by omega)⟩)⟩
        rw [e1] at hR; exact hR
      · obtain ⟨e, mm⟩ := skip V2 f2 p3 s32 (fC_row p2 (by decide) (by decide) (by decide)) (fun z => c2 z.2.2)
        refine ⟨V2, mm, fun R hR => st (M_places_r65 ⟨fun _ => ⟨fun z => absurd z c1, fun _ => ⟨1, V1, l1, fun z => absurd z (by decide), fun _ => ⟨_, V2, p1, fun z => absurd (cb_ne.mp z) c2, fun _ => ?_⟩⟩⟩, fun z => absurd z (by omega)⟩)⟩
        rw [w32_succ (i := w) (by omega), ← e]; exact hR
    · subst r0
      obtain ⟨e, mm⟩ := skip V1 k1 ca1 s31 rfl (fun z => nrm z.2.1)
      refine ⟨V1, mm, fun R hR => st (M_places_r65 ⟨fun _ => ⟨fun z => absurd z c1, fun _ => ⟨0, V1, l1, fun _ => ?_, fun z => absurd rfl z⟩⟩, fun z => absurd z (by omega)⟩)⟩
      rw [w32_succ (i := w) (by omega), ← e]; exact hR
