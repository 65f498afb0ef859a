/-! who may wed: the reference's rows -/
theorem ct_M_wed {N : Nat} {X : Nat → Int} {d : Nat} {U : am_U} {b ns nh nl nw nd cl n x y : Nat} (ht : iTown U b ns nh nl nw nd cl) (hf : iFolk U n nh) (h104 : U 104 b ≠ -1) (hx : x < n) (hy : y < n) : ∃ U', EvK N X (M_asks_s0 (d + 4) 0 (x : Nat) (U 123 y) (U 104 b) (U 105 b) U) (rI (cb (wdT U n x y)) U') ∧ mk U U' := by
  have b2 := (hf.2.2.2.2.1.1 y hy).2.1
  rcases ht.2.2.2.2.2.2.2 with ⟨w0, _⟩ | ⟨f, m, w0, w1, w2, w3, w4, w5, w6⟩
  · exact absurd w0 h104
  · obtain ⟨U', k1, k2⟩ := ct_M_test (N := N) (X := X) (d := d) (l := 8) (ot := U 17 y) (mCtx_of ht hf) w2 w3 w5 w6 hx (by omega)
    refine ⟨U', ?_, k2⟩
    rw [w0, w1, (hf.2.2.2.1 y hy).1]
    exact k1
theorem ct_M_mayWed {N : Nat} {X : Nat → Int} {d : Nat} {U : am_U} {b ns nh nl nw nd cl n x y : Nat} (ht : iTown U b ns nh nl nw nd cl) (hf : iFolk U n nh) (h104 : U 104 b ≠ -1) (hx : x < n) (hy : y < n) : ∃ U', EvK N X (M_mayWed_s0 (d + 5) (x : Nat) (y : Nat) U) (rI (cb (wdP U n x y)) U') ∧ agr U U' ∧ mk U U' := by
  have hn := hf.1.2.2
  have hb2 := ht.1.2
  obtain ⟨U1, a1, a2⟩ := ct_M_wed (N := N) (X := X) (d := d) ht hf h104 hx hy
  have g1 := agr_mk a2
  have ht1 := iTown_agr g1 ht
  have hf1 := iFolk_agr g1 hf
  have e104 : U1 104 b = U 104 b := a2 104 b (by decide) (by omega)
  have cg : wdT U1 n y x ↔ wdT U n y x := wdT_cg (stq_agrC (agrC_of g1)) (funext fun j => g1 18 j rfl) n y x
  have st : ∀ r, r = cb (wdT U n x y) → EvK N X (M_asks_s0 (d + 4) 0 (x : Nat) (U 123 ((y : Nat) : Int).toNat) (U 104 ((b : Nat) : Int).toNat) (U 105 ((b : Nat) : Int).toNat) U) (rI r U1) := fun r hr => by
    rw [Int.toNat_natCast, Int.toNat_natCast, hr]; exact a1
  by_cases c1 : wdT U n x y
  · obtain ⟨U2, b1, b2⟩ := ct_M_wed (N := N) (X := X) (d := d) ht1 hf1 (by rw [e104]; exact h104) hy hx
    rw [propext cg] at b1
    have mk2 : mk U U2 := fun r j q1 q2 => by rw [b2 r j q1 q2, a2 r j q1 q2]
    refine ⟨U2, M_mayWed_r0 ?_, agr_mk mk2, mk2⟩
    rw [ht.1.1]
    refine ⟨by omega, by omega, 1, U1, st 1 (cb_t c1).symm, fun z => absurd z (by decide), fun _ => ?_⟩
    rw [ht1.1.1, Int.toNat_natCast, Int.toNat_natCast]
    by_cases c2 : wdT U n y x
    · rw [cb_t c2] at b1
      rw [cb_t (show wdP U n x y from ⟨c1, c2⟩)]
      exact ⟨by omega, by omega, 1, U2, b1, fun z => absurd z (by decide), fun _ => rfl⟩
    · rw [cb_f c2] at b1
      rw [cb_f (show ¬ wdP U n x y from fun z => c2 z.2)]
      exact ⟨by omega, by omega, 0, U2, b1, fun _ => rfl, fun z => absurd rfl z⟩
  · refine ⟨U1, M_mayWed_r0 ?_, g1, a2⟩
    rw [ht.1.1, cb_f (show ¬ wdP U n x y from fun z => c1 z.1)]
    exact ⟨by omega, by omega, 0, U1, st 0 (cb_f c1).symm, fun _ => rfl, fun z => absurd rfl z⟩
/-- nothing but the reference's rows of couples has changed -/
def fM (U U' : am_U) : Prop := ∀ r j, r ≠ 130 → r ≠ 131 → r ≠ 132 → r ≠ 125 → (r = 86 → j ≠ 61 ∧ j ≠ 62 ∧ j ≠ 63) → U' r j = U r j
theorem fM_trans {U U1 U2 : am_U} (h1 : fM U U1) (h2 : fM U1 U2) : fM U U2 := fun r j a b c e f => by rw [h2 r j a b c e f, h1 r j a b c e f]
theorem fM_mk {U U' : am_U} (h : mk U U') : fM U U' := fun r j _ _ _ e f => h r j e f
/-- the rows asked so far, the row that is asked -/
def mwR (U U0 : am_U) (n a : Nat) : Prop := ∀ x, x < a → (∀ i, i < 32 → tb (U 130 x) i = pd (i < n ∧ x ≠ i ∧ wdP U0 n x i)) ∧ U 132 x = -1
theorem agr_fM {U U' : am_U} (h : fM U U') (h0 : U' 131 0 = U 131 0) : agr U U' := fun r j e => by
  by_cases c : r = 131
  · subst c
    by_cases z : j = 0
    · rw [z]; exact h0
    · simp [scr] at e; exact absurd e z
  · refine h r j (fun q => ?_) c (fun q => ?_) (fun q => ?_) (fun q => ⟨fun z => ?_, fun z => ?_, fun z => ?_⟩)
    · subst q; simp [scr] at e
    · subst q; simp [scr] at e
    · subst q; simp [scr] at e
    · subst q; subst z; simp [scr] at e
    · subst q; subst z; simp [scr] at e
    · subst q; subst z; simp [scr] at e
theorem M_may_in {N : Nat} {X : Nat → Int} {d : Nat} {U0 : am_U} {b ns nh nl nw nd cl n a : Nat} (ht : iTown U0 b ns nh nl nw nd cl) (hf : iFolk U0 n nh) (ha : a < n) : ∀ m t : Nat, t + m = n → ∀ U, fM U0 U → U 131 = U0 131 → mwR U U0 n a → (∀ i, i < 32 → tb (U 130 a) i = pd (i < t ∧ a ≠ i ∧ wdP U0 n a i)) → ∃ U', fM U0 U' ∧ U' 131 = U0 131 ∧ mwR U' U0 n (a + 1) ∧ ∀ R, EvK N X (M_couples_s9 (d + 6) (n : Nat) ((a + 1 : Nat) : Int) U') R → EvK N X (M_couples_s23 (d + 6) (n : Nat) (a : Nat) (t : Nat) U) R := by
  have hn := hf.1.2.2
  have hb2 := ht.1.2
  intro m
  induction m with
  | zero =>
    intro t hm U h1 h131 h2 h3
    obtain rfl : t = n := by omega
    refine ⟨am_upd U 132 a (-1), fM_trans h1 (fun r j _ _ q _ _ => by rw [upd_row q]), by rw [upd_row (by decide)]; exact h131, fun x hx => ?_, fun R hR => M_couples_r23 ⟨fun _ => ⟨by omega, ?_⟩, fun z => absurd z (by omega)⟩⟩
    · by_cases e : x = a
      · subst e
        exact ⟨fun i hi => by rw [upd_row (by decide)]; exact h3 i hi, upd_at _ _ _ _⟩
      · obtain ⟨q1, q2⟩ := h2 x (by omega)
        exact ⟨fun i hi => by rw [upd_row (by decide)]; exact q1 i hi, by rw [upd_ne e]; exact q2⟩
    · rw [Int.toNat_natCast, w32_succ (i := a) (by omega)]; exact hR
  | succ m ih =>
    intro t hm U h1 h131 h2 h3
    -- one more is asked
    have nx : ∀ (V : am_U) (y : Int), fM U0 V → V 131 = U0 131 → V 130 = U 130 → V 132 = U 132 → (∀ i, i < 32 → tb y i = pd (i = t ∧ a ≠ i ∧ wdP U0 n a i)) → ∃ U', fM U0 U' ∧ U' 131 = U0 131 ∧ mwR U' U0 n (a + 1) ∧ ∀ R, EvK N X (M_couples_s9 (d + 6) (n : Nat) ((a + 1 : Nat) : Int) U') R → EvK N X (M_couples_s23 (d + 6) (n : Nat) (a : Nat) ((t + 1 : Nat) : Int) (am_upd V 130 a (am_or (U 130 a) y))) R := fun V y g1 g2 g3 g4 gy => by
      refine ih (t + 1) (by omega) _ (fM_trans g1 (fun r j q _ _ _ _ => by rw [upd_row q])) (by rw [upd_row (by decide)]; exact g2) (fun x hx => ?_) (fun i hi => ?_)
      · rw [upd_ne (show x ≠ a by omega), upd_row (by decide), g3, g4]; exact h2 x hx
      · rw [upd_at, tb_or, h3 i hi, gy i hi]
        rcases Classical.em (i < t ∧ a ≠ i ∧ wdP U0 n a i) with z | z
        · rw [pd_t z, Bool.true_or]; exact (pd_t ⟨by omega, z.2⟩).symm
        · rw [pd_f z, Bool.false_or]
          refine pd_cg ⟨fun q => ⟨by omega, q.2⟩, fun q => ⟨?_, q.2⟩⟩
          have : ¬ i < t := fun w => z ⟨w, q.2⟩
          omega
    have zero : ∀ i, i < 32 → ¬ (a ≠ t ∧ wdP U0 n a t) → tb 0 i = pd (i = t ∧ a ≠ i ∧ wdP U0 n a i) := fun i _ q => by
      rw [tb_0]
      exact (pd_f (fun z => q (by have e := z.1; rw [e] at z; exact z.2))).symm
    by_cases c0 : a = t
    · obtain ⟨U', k1, k2, k3, k4⟩ := nx U 0 h1 h131 rfl rfl (fun i hi => zero i hi (fun z => z.1 c0))
      refine ⟨U', k1, k2, k3, fun R hR => M_couples_r23 ⟨fun z => absurd z (by omega), fun _ => ⟨by omega, fun _ => ?_, fun z => absurd (by omega) z⟩⟩⟩
      rw [Int.toNat_natCast, w32_succ (i := t) (by omega)]; exact k4 R hR
    · have eb : U 86 13 = (b : Nat) := by rw [h1 86 13 (by decide) (by decide) (by decide) (by decide) (by decide)]; exact ht.1.1
      have e104 : U 104 b = U0 104 b := h1 104 b (by decide) (by decide) (by decide) (by decide) (by omega)
      by_cases c1 : U0 104 b = -1
      · have nw' : ¬ wdP U0 n a t := fun z => by
          rcases ht.2.2.2.2.2.2.2 with ⟨_, f, w1, w2, w3⟩ | ⟨f, m', w0, _⟩
          · have z1 := z.1
            unfold wdT hTS at z1
            rw [w2, w3, Int.sub_self] at z1
            exact absurd z1 (by show ¬ ([] : List Int) = [1]; simp)
          · omega
        obtain ⟨U', k1, k2, k3, k4⟩ := nx U 0 h1 h131 rfl rfl (fun i hi => zero i hi (fun z => nw' z.2))
        refine ⟨U', k1, k2, k3, fun R hR => M_couples_r23 ⟨fun z => absurd z (by omega), fun _ => ⟨by omega, fun z => absurd z (by omega), fun _ => ?_⟩⟩⟩
        rw [eb, Int.toNat_natCast, e104, Int.toNat_natCast, w32_succ (i := t) (by omega)]
        exact ⟨by omega, fun _ => k4 R hR, fun z => absurd c1 z⟩
      · have ag := agr_fM h1 (by rw [h131])
        have htU := iTown_agr ag ht
        have hfU := iFolk_agr ag hf
        obtain ⟨U1, a1, a2, a3⟩ := ct_M_mayWed (N := N) (X := X) (d := d) htU hfU (by rw [e104]; exact c1) ha (show t < n by omega)
        have cgT : ∀ x y, wdT U n x y ↔ wdT U0 n x y := fun x y => wdT_cg (stq_agrC (agrC_of ag)) (funext fun j => ag 18 j rfl) n x y
        have cgP : wdP U n a t ↔ wdP U0 n a t := and_congr (cgT a t) (cgT t a)
        rw [propext cgP] at a1
        have f1 : fM U0 U1 := fM_trans h1 (fM_mk a3)
        have r131 : U1 131 = U0 131 := by rw [← h131]; exact funext fun j => a3 131 j (by decide) (by omega)
        have r130 : U1 130 = U 130 := funext fun j => a3 130 j (by decide) (by omega)
        have r132 : U1 132 = U 132 := funext fun j => a3 132 j (by decide) (by omega)
        by_cases c2 : wdP U0 n a t
        · rw [cb_t c2] at a1
          obtain ⟨U', k1, k2, k3, k4⟩ := nx U1 (am_shl 1 ((t : Nat) : Int)) f1 r131 r130 r132 (fun i hi => by
            rw [tb_bit (by omega) hi]
            by_cases e : i = t
            · rw [decide_eq_true e, e]; exact (pd_t ⟨rfl, c0, c2⟩).symm
            · rw [decide_eq_false e]; exact (pd_f (fun z => e z.1)).symm)
          refine ⟨U', k1, k2, k3, fun R hR => M_couples_r23 ⟨fun z => absurd z (by omega), fun _ => ⟨by omega, fun z => absurd z (by omega), fun _ => ?_⟩⟩⟩
          rw [eb, Int.toNat_natCast, e104, Int.toNat_natCast, w32_succ (i := t) (by omega)]
          exact ⟨by omega, fun z => absurd z c1, fun _ => ⟨1, U1, a1, fun z => absurd z (by decide), fun _ => k4 R hR⟩⟩
        · rw [cb_f c2] at a1
          obtain ⟨U', k1, k2, k3, k4⟩ := nx U1 0 f1 r131 r130 r132 (fun i hi => zero i hi (fun z => c2 z.2))
          refine ⟨U', k1, k2, k3, fun R hR => M_couples_r23 ⟨fun z => absurd z (by omega), fun _ => ⟨by omega, fun z => absurd z (by omega), fun _ => ?_⟩⟩⟩
          rw [eb, Int.toNat_natCast, e104, Int.toNat_natCast, w32_succ (i := t) (by omega)]
          exact ⟨by omega, fun z => absurd z c1, fun _ => ⟨0, U1, a1, fun _ => k4 R hR, fun z => absurd rfl z⟩⟩
theorem M_may_rows {N : Nat} {X : Nat → Int} {d : Nat} {U : am_U} {b ns nh nl nw nd cl n : Nat} (ht : iTown U b ns nh nl nw nd cl) (hf : iFolk U n nh) : ∃ U', fM U U' ∧ U' 131 = U 131 ∧ mwR U' U n n ∧ ∀ R, EvK N X (M_couples_s92 (d + 6) (n : Nat) 1 U') R → EvK N X (M_couples_s0 (d + 6) U) R := by
  have hn := hf.1.2.2
  have loop : ∀ m a : Nat, a + m = n → ∀ V, fM U V → V 131 = U 131 → mwR V U n a → ∃ U', fM U U' ∧ U' 131 = U 131 ∧ mwR U' U n n ∧ ∀ R, EvK N X (M_couples_s92 (d + 6) (n : Nat) 1 U') R → EvK N X (M_couples_s9 (d + 6) (n : Nat) (a : Nat) V) R := by
    intro m
    induction m with
    | zero =>
      intro a ha V h1 h2 h3
      obtain rfl : a = n := by omega
      exact ⟨V, h1, h2, h3, fun R hR => M_couples_r9 ⟨fun _ => hR, fun z => absurd z (by omega)⟩⟩
    | succ m ih =>
      intro a ha V h1 h2 h3
      obtain ⟨V1, a1, a2, a3, a4⟩ := M_may_in (N := N) (X := X) (d := d) ht hf (show a < n by omega) n 0 (by omega) (am_upd V 130 a 0) (fM_trans h1 (fun r j q _ _ _ _ => by rw [upd_row q])) (by rw [upd_row (by decide)]; exact h2) (fun x hx => by rw [upd_ne (show x ≠ a by omega), upd_row (by decide)]; exact h3 x hx) (fun i hi => by
        rw [upd_at, tb_0]; exact (pd_f (fun z => absurd z.1 (Nat.not_lt_zero i))).symm)
      obtain ⟨U', k1, k2, k3, k4⟩ := ih (a + 1) (by omega) V1 a1 a2 a3
      refine ⟨U', k1, k2, k3, fun R hR => M_couples_r9 ⟨fun z => absurd z (by omega), fun _ => ⟨by omega, ?_⟩⟩⟩
      rw [Int.toNat_natCast]
      exact a4 R (k4 R hR)
  obtain ⟨U', k1, k2, k3, k4⟩ := loop n 0 (by omega) U (fun _ _ _ _ _ _ _ => rfl) rfl (fun x hx => absurd hx (Nat.not_lt_zero x))
  refine ⟨U', k1, k2, k3, fun R hR => M_couples_r0 ?_⟩
  rw [hf.1.2.1]
  exact k4 R hR
