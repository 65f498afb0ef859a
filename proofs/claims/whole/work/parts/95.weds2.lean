/-! who may wed: the class's rows -/
def wdT (U : am_U) (n x y : Nat) : Prop := hTS U n (U 18) 8 x (U 17 y)
def wdP (U : am_U) (n x y : Nat) : Prop := wdT U n x y ∧ wdT U n y x
theorem wdP_sym {U : am_U} {n x y : Nat} : wdP U n x y ↔ wdP U n y x := ⟨fun h => ⟨h.2, h.1⟩, fun h => ⟨h.2, h.1⟩⟩
theorem wdT_cg {U U' : am_U} (h : stq U U') (h18 : U' 18 = U 18) (n x y : Nat) : wdT U' n x y ↔ wdT U n x y := by
  unfold wdT
  rw [h18, hTS_cg h, h.1]
theorem ct_wed {N : Nat} {X : Nat → Int} {d : Nat} {U : am_U} {b ns nh nl nw nd cl n x y : Nat} (ht : iTown U b ns nh nl nw nd cl) (hf : iFolk U n nh) (hx : x < n) (hy : y < n) : ∃ U', EvK N X (Jg_isTrue_s0 (d + 3) 8 (x : Nat) (U 17 y) U) (rI (cb (wdT U n x y)) U') ∧ jk U U' := by
  have hc := jCtx_of ht hf
  have b2 := (hf.2.2.2.2.1.1 y hy).2.1
  have hcl := ht.2.2.2.2.2.2.1.2.2.2.1
  rcases ht.2.2.2.2.2.2.2 with ⟨w0, f, w1, w2, w3⟩ | ⟨f, m, w0, w1, w2, w3, w4, w5, w6⟩
  · obtain ⟨U', k1, k2⟩ := ct_isTrue0 (N := N) (X := X) (d := d + 2) (U := U) (law := 8) (me := x) (ot := U 17 y) (by decide) w2 w3 w1
    refine ⟨U', ?_, k2⟩
    have : ¬ wdT U n x y := fun z => by
      unfold wdT hTS at z
      rw [w2, w3, Int.sub_self] at z
      exact absurd z (by show ¬ ([] : List Int) = [1]; simp)
    rw [cb_f this]; exact k1
  · obtain ⟨U', k1, k2⟩ := ct_test (N := N) (X := X) (d := d) (l := 8) (ot := U 17 y) hc (by decide) w2 w3 (by omega) w6 hx (by omega)
    refine ⟨U', ?_, k2⟩
    rw [propext (hT_S hc hx 8 (U 17 y))] at k1
    exact k1
/-- those of the pairs that have been asked -/
def dnW (o t x i : Nat) : Prop := x ≠ i ∧ (min x i < o ∨ (min x i = o ∧ max x i < t))
def alR (U U0 : am_U) (n o t : Nat) : Prop := ∀ x, x < 16 → ∀ i, i < 32 → tb (U 53 x) i = pd (x < n ∧ i < n ∧ dnW o t x i ∧ wdP U0 n x i)
def fAw (U U' : am_U) : Prop := ∀ r j, r ≠ 53 → r ≠ 46 → (r = 45 → j ≠ 3) → U' r j = U r j
theorem fA_trans {U U1 U2 : am_U} (h1 : fAw U U1) (h2 : fAw U1 U2) : fAw U U2 := fun r j a b c => by rw [h2 r j a b c, h1 r j a b c]
theorem fA_jk {U U' : am_U} (h : jk U U') : fAw U U' := fun r j _ b c => h r j b c
theorem agrC_fA {U U' : am_U} (h : fAw U U') : agrC U U' := fun r j e => h r j (fun q => by subst q; simp [scrC] at e) (fun q => by subst q; simp [scrC, scr] at e) (fun q _ => by subst q; simp [scrC] at e)
theorem alR_fr {U U' U0 : am_U} {n o t : Nat} (h : U' 53 = U 53) (ha : alR U U0 n o t) : alR U' U0 n o t := fun x hx i hi => by rw [h]; exact ha x hx i hi
theorem alR_pd {U U' U0 : am_U} {n o t t' o' : Nat} (h : U' 53 = U 53) (ha : alR U U0 n o t) (hd : ∀ x i, x < n → i < n → wdP U0 n x i → (dnW o' t' x i ↔ dnW o t x i)) : alR U' U0 n o' t' := fun x hx i hi => by
  rw [h, ha x hx i hi]
  refine pd_cg ⟨fun z => ⟨z.1, z.2.1, (hd x i z.1 z.2.1 z.2.2.2).mpr z.2.2.1, z.2.2.2⟩, fun z => ⟨z.1, z.2.1, (hd x i z.1 z.2.1 z.2.2.2).mp z.2.2.1, z.2.2.2⟩⟩
theorem alR_set {U U0 : am_U} {n o t : Nat} (hot : o < t) (htn : t < n) (hn : n ≤ 16) (ha : alR U U0 n o t) (hw : wdP U0 n o t) : alR (am_upd (am_upd U 53 o (am_or (U 53 o) (am_shl 1 ((t : Nat) : Int)))) 53 t (am_or (U 53 t) (am_shl 1 ((o : Nat) : Int)))) U0 n o (t + 1) := fun x hx i hi => by
  have step : ∀ P Q : Bool, ∀ A B : Prop, P = pd A → Q = pd B → (P || Q) = pd (A ∨ B) := fun P Q A B e1 e2 => by
    rw [e1, e2]
    rcases Classical.em A with a | a
    · rw [pd_t a, pd_t (Or.inl a : A ∨ B), Bool.true_or]
    · rw [pd_f a, Bool.false_or]
      exact pd_cg ⟨Or.inr, fun z => z.resolve_left a⟩
  have dec : ∀ p : Prop, ∀ inst : Decidable p, @decide p inst = pd p := fun p inst => by
    rcases Classical.em p with a | a
    · rw [decide_eq_true a, pd_t a]
    · rw [decide_eq_false a, pd_f a]
  have dn : ∀ x i, (dnW o t x i ∨ ((x = o ∧ i = t) ∨ (x = t ∧ i = o))) ↔ dnW o (t + 1) x i := fun x i => by unfold dnW; omega
  rw [upd_if, upd_if]
  by_cases e1 : x = t
  · subst e1
    rw [if_pos rfl, tb_or, tb_bit (by omega) hi, step _ _ _ (i = o) (ha x hx i hi) (dec _ _)]
    refine pd_cg ⟨fun z => ?_, fun z => ?_⟩
    · rcases z with z | z
      · exact ⟨z.1, z.2.1, (dn x i).mp (Or.inl z.2.2.1), z.2.2.2⟩
      · subst z; exact ⟨htn, by omega, (dn x i).mp (Or.inr (Or.inr ⟨rfl, rfl⟩)), wdP_sym.mp hw⟩
    · rcases (dn x i).mpr z.2.2.1 with q | q | q
      · exact Or.inl ⟨z.1, z.2.1, q, z.2.2.2⟩
      · exact absurd q.1 (by omega)
      · exact Or.inr q.2
  · rw [if_neg e1]
    by_cases e2 : x = o
    · subst e2
      rw [if_pos rfl, tb_or, tb_bit (by omega) hi, step _ _ _ (i = t) (ha x hx i hi) (dec _ _)]
      refine pd_cg ⟨fun z => ?_, fun z => ?_⟩
      · rcases z with z | z
        · exact ⟨z.1, z.2.1, (dn x i).mp (Or.inl z.2.2.1), z.2.2.2⟩
        · subst z; exact ⟨by omega, htn, (dn x i).mp (Or.inr (Or.inl ⟨rfl, rfl⟩)), hw⟩
      · rcases (dn x i).mpr z.2.2.1 with q | q | q
        · exact Or.inl ⟨z.1, z.2.1, q, z.2.2.2⟩
        · exact Or.inr q.2
        · exact absurd q.1 (by omega)
    · rw [if_neg e2, ha x hx i hi]
      refine pd_cg ⟨fun z => ⟨z.1, z.2.1, (dn x i).mp (Or.inl z.2.2.1), z.2.2.2⟩, fun z => ⟨z.1, z.2.1, ?_, z.2.2.2⟩⟩
      rcases (dn x i).mpr z.2.2.1 with q | q | q
      · exact q
      · exact absurd q.1 e2
      · exact absurd q.1 e1
theorem D_allow_in {N : Nat} {X : Nat → Int} {d : Nat} {U0 : am_U} {b ns nh nl nw nd cl n o : Nat} (ht : iTown U0 b ns nh nl nw nd cl) (hf : iFolk U0 n nh) (ho : o < n) : ∀ m t : Nat, t + m = n → o < t → ∀ U, fAw U0 U → alR U U0 n o t → ∃ U', fAw U0 U' ∧ alR U' U0 n o n ∧ ∀ R, EvK N X (Cp_findAllowed_s10 (d + 4) ((o + 1 : Nat) : Int) U') R → EvK N X (Cp_findAllowed_s25 (d + 4) (o : Nat) (t : Nat) U) R := by
  have hn := hf.1.2.2
  intro m
  induction m with
  | zero =>
    intro t hm hot U h1 h2
    obtain rfl : t = n := by omega
    have e16 : U 16 0 = (t : Nat) := by rw [h1 16 0 (by decide) (by decide) (by decide)]; exact hf.1.1
    refine ⟨U, h1, h2, fun R hR => Cp_findAllowed_r25 ⟨fun _ => ?_, fun z => absurd z (by rw [e16]; omega)⟩⟩
    rw [w32_succ (i := o) (by omega)]; exact hR
  | succ m ih =>
    intro t hm hot U h1 h2
    have e16 : U 16 0 = (n : Nat) := by rw [h1 16 0 (by decide) (by decide) (by decide)]; exact hf.1.1
    have htU := iTown_agrC (agrC_fA h1) ht
    have hfU := iFolk_agrC (agrC_fA h1) hf
    have cg : ∀ V, fAw U0 V → ∀ x y, wdT V n x y ↔ wdT U0 n x y := fun V hV x y => wdT_cg (stq_agrC (agrC_fA hV)) (funext fun j => hV 18 j (by decide) (by decide) (by omega)) n x y
    obtain ⟨U1, a1, a2⟩ := ct_wed (N := N) (X := X) (d := d) htU hfU ho (show t < n by omega)
    rw [propext (cg U h1 o t)] at a1
    have f1 : fAw U0 U1 := fA_trans h1 (fA_jk a2)
    have r53 : U1 53 = U 53 := jk_row a2 (by decide) (by decide)
    have no : ∀ V, V 53 = U 53 → ¬ wdP U0 n o t → alR V U0 n o (t + 1) := fun V hV nw' => alR_pd hV h2 (fun x i hx hi hw => by
      have q1 : ¬ (x = o ∧ i = t) := fun z => nw' (by rw [← z.1, ← z.2]; exact hw)
      have q2 : ¬ (x = t ∧ i = o) := fun z => nw' (wdP_sym.mp (by rw [← z.1, ← z.2]; exact hw))
      unfold dnW; omega)
    have sk : ∀ {R}, (EvK N X (Cp_findAllowed_s25 (d + 4) (o : Nat) ((t + 1 : Nat) : Int) U1) R → EvK N X (Cp_findAllowed_s25 (d + 4) (o : Nat) (w32 (((t : Nat) : Int) + 1)) U1) R) := fun {R} h => by rw [w32_succ (i := t) (by omega)]; exact h
    by_cases c1 : wdT U0 n o t
    · rw [cb_t c1] at a1
      have ht1 := iTown_agrC (agrC_fA f1) ht
      have hf1 := iFolk_agrC (agrC_fA f1) hf
      obtain ⟨U2, b1, b2⟩ := ct_wed (N := N) (X := X) (d := d) ht1 hf1 (show t < n by omega) ho
      rw [propext (cg U1 f1 t o)] at b1
      have f2 : fAw U0 U2 := fA_trans f1 (fA_jk b2)
      have s53 : U2 53 = U 53 := by rw [jk_row b2 (r := 53) (by decide) (by decide), r53]
      by_cases c2 : wdT U0 n t o
      · rw [cb_t c2] at b1
        obtain ⟨U', k1, k2, k3⟩ := ih (t + 1) (by omega) (by omega) (am_upd (am_upd U2 53 o (am_or (U2 53 o) (am_shl 1 ((t : Nat) : Int)))) 53 t (am_or (U2 53 t) (am_shl 1 ((o : Nat) : Int)))) (fA_trans f2 (fun r j q _ _ => by rw [upd_row q, upd_row q])) (alR_set hot (by omega) hn (alR_fr s53 h2) ⟨c1, c2⟩)
        refine ⟨U', k1, k2, fun R hR => Cp_findAllowed_r25 ⟨fun z => absurd z (by rw [e16]; omega), fun _ => ⟨by omega, 1, U1, by rw [Int.toNat_natCast]; exact a1, fun z => absurd z (by decide), fun _ => ⟨by omega, 1, U2, by rw [Int.toNat_natCast]; exact b1, fun z => absurd z (by decide), fun _ => ?_⟩⟩⟩⟩
        rw [Int.toNat_natCast, Int.toNat_natCast, w32_succ (i := t) (by omega), upd_ne (show t ≠ o by omega)]
        exact k3 R hR
      · rw [cb_f c2] at b1
        obtain ⟨U', k1, k2, k3⟩ := ih (t + 1) (by omega) (by omega) U2 f2 (no U2 s53 (fun z => c2 z.2))
        refine ⟨U', k1, k2, fun R hR => Cp_findAllowed_r25 ⟨fun z => absurd z (by rw [e16]; omega), fun _ => ⟨by omega, 1, U1, by rw [Int.toNat_natCast]; exact a1, fun z => absurd z (by decide), fun _ => ⟨by omega, 0, U2, by rw [Int.toNat_natCast]; exact b1, fun _ => ?_, fun z => absurd rfl z⟩⟩⟩⟩
        rw [w32_succ (i := t) (by omega)]
        exact k3 R hR
    · rw [cb_f c1] at a1
      obtain ⟨U', k1, k2, k3⟩ := ih (t + 1) (by omega) (by omega) U1 f1 (no U1 r53 (fun z => c1 z.1))
      exact ⟨U', k1, k2, fun R hR => Cp_findAllowed_r25 ⟨fun z => absurd z (by rw [e16]; omega), fun _ => ⟨by omega, 0, U1, by rw [Int.toNat_natCast]; exact a1, fun _ => sk (k3 R hR), fun z => absurd rfl z⟩⟩⟩
theorem ct_findAllowed {N : Nat} {X : Nat → Int} {d : Nat} {U : am_U} {b ns nh nl nw nd cl n : Nat} (ht : iTown U b ns nh nl nw nd cl) (hf : iFolk U n nh) : ∃ U', EvK N X (Cp_findAllowed_s0 (d + 4) U) (rV U') ∧ fAw U U' ∧ ∀ x, x < 16 → ∀ i, i < 32 → tb (U' 53 x) i = pd (x < n ∧ i < n ∧ x ≠ i ∧ wdP U n x i) := by
  have hn := hf.1.2.2
  have fr0 : fAw U (fil U 53 16 0) := fun r j q _ _ => by rw [fil_row q]
  have loop : ∀ m o : Nat, o + m = n → ∀ V, fAw U V → alR V U n o 0 → ∃ U', EvK N X (Cp_findAllowed_s10 (d + 4) (o : Nat) V) (rV U') ∧ fAw U U' ∧ alR U' U n n 0 := by
    intro m
    induction m with
    | zero =>
      intro o ho V h1 h2
      obtain rfl : o = n := by omega
      have e16 : V 16 0 = (o : Nat) := by rw [h1 16 0 (by decide) (by decide) (by decide)]; exact hf.1.1
      exact ⟨V, Cp_findAllowed_r10 ⟨fun _ => rfl, fun z => absurd z (by rw [e16]; omega)⟩, h1, h2⟩
    | succ m ih =>
      intro o ho V h1 h2
      have e16 : V 16 0 = (n : Nat) := by rw [h1 16 0 (by decide) (by decide) (by decide)]; exact hf.1.1
      obtain ⟨V1, a1, a2, a3⟩ := D_allow_in (N := N) (X := X) (d := d) ht hf (show o < n by omega) m (o + 1) (by omega) (by omega) V h1 (alR_pd rfl h2 (fun x i _ _ _ => by unfold dnW; omega))
      obtain ⟨U', k1, k2⟩ := ih (o + 1) (by omega) V1 a1 (alR_pd rfl a2 (fun x i hx hi _ => by unfold dnW; omega))
      refine ⟨U', Cp_findAllowed_r10 ⟨fun z => absurd z (by rw [e16]; omega), fun _ => ?_⟩, k2⟩
      rw [w32_succ (i := o) (by omega)]
      exact a3 _ k1
  obtain ⟨U', k1, k2, k3⟩ := loop n 0 (by omega) (fil U 53 16 0) fr0 (fun x hx i hi => by
    rw [fil_in hx, tb_0]
    exact (pd_f (fun z => by have := z.2.2.1; unfold dnW at this; omega)).symm)
  refine ⟨U', Cp_findAllowed_r0 ⟨_, ct_fill_53, k1⟩, k2, fun x hx i hi => ?_⟩
  rw [k3 x hx i hi]
  refine pd_cg ⟨fun z => ⟨z.1, z.2.1, z.2.2.1.1, z.2.2.2⟩, fun z => ⟨z.1, z.2.1, ⟨z.2.2.1, by omega⟩, z.2.2.2⟩⟩
