/-! what the class keeps of its answers; breaches counted and found -/
def scrC (r j : Nat) : Bool := scr r j || decide (r = 20 ∨ r = 45 ∨ (47 ≤ r ∧ r ≤ 55))
def mskC (U : am_U) : am_U := fun r j => bif scrC r j then 0 else U r j
def agrC (U U' : am_U) : Prop := ∀ r j, scrC r j = false → U' r j = U r j
theorem agrC_refl (U : am_U) : agrC U U := fun _ _ _ => rfl
theorem agrC_trans {U U1 U2 : am_U} (h1 : agrC U U1) (h2 : agrC U1 U2) : agrC U U2 := fun r j h => by rw [h2 r j h, h1 r j h]
theorem agrC_of {U U' : am_U} (h : agr U U') : agrC U U' := fun r j e => h r j (by unfold scrC at e; simp at e; exact e.1)
theorem agrC_msk {U U' : am_U} (h : agrC U U') : mskC U' = mskC U := by
  funext r j
  unfold mskC
  cases e : scrC r j with
  | true => rfl
  | false => exact h r j e
theorem iTown_mskC {U : am_U} {b ns nh nl nw nd cl : Nat} : iTown (mskC U) b ns nh nl nw nd cl ↔ iTown U b ns nh nl nw nd cl := Iff.rfl
theorem iTown_agrC {U U' : am_U} {b ns nh nl nw nd cl : Nat} (h : agrC U U') (hi : iTown U b ns nh nl nw nd cl) : iTown U' b ns nh nl nw nd cl := by
  rw [← iTown_mskC] at hi ⊢
  rw [agrC_msk h]; exact hi
theorem agrC_row {U U' : am_U} (h : agrC U U') {r : Nat} (q : ∀ j, scrC r j = false) : U' r = U r := funext fun j => h r j (q j)
theorem iFolk_agrC {U U' : am_U} {n nh : Nat} (h : agrC U U') (hi : iFolk U n nh) : iFolk U' n nh := by
  unfold iFolk at hi ⊢
  rw [agrC_row h (r := 17) (fun _ => rfl), agrC_row h (r := 18) (fun _ => rfl), agrC_row h (r := 8) (fun _ => rfl), agrC_row h (r := 19) (fun _ => rfl), agrC_row h (r := 16) (fun _ => rfl), h 122 0 rfl, h 120 0 rfl, h 121 0 rfl]
  refine ⟨hi.1, hi.2.1, hi.2.2.1, fun p hp => ?_, hi.2.2.2.2⟩
  have : p < 16 := by have := hi.1.2.2; omega
  rw [h 123 p (by simp [scrC, scr]; omega), h 124 p (by simp [scrC, scr]; omega)]
  exact hi.2.2.2.1 p hp
theorem iMisc_agrC {U U' : am_U} (h : agrC U U') (hi : iMisc U) : iMisc U' := by
  have e : iMisc (mskC U) ↔ iMisc U := Iff.rfl
  have e' : iMisc (mskC U') ↔ iMisc U' := Iff.rfl
  rw [← e', agrC_msk h, e]; exact hi
theorem iRid_agrC {U U' : am_U} (h : agrC U U') (hi : iRid U) : iRid U' := by
  have e : iRid (mskC U) ↔ iRid U := Iff.rfl
  have e' : iRid (mskC U') ↔ iRid U' := Iff.rfl
  rw [← e', agrC_msk h, e]; exact hi
theorem stq_agrC {U U' : am_U} (h : agrC U U') : stq U U' := ⟨agrC_row h (fun _ => rfl), agrC_row h (fun _ => rfl), agrC_row h (fun _ => rfl), agrC_row h (fun _ => rfl), agrC_row h (fun _ => rfl), agrC_row h (fun _ => rfl), agrC_row h (fun _ => rfl), agrC_row h (fun _ => rfl), agrC_row h (fun _ => rfl)⟩
/-- the rows of the breaches, when they are known -/
def brT (V : am_U) (b nl nw n k : Nat) : Prop := ∀ l, l < 8 → ∀ me, me < 16 → 16 * l + me < k → in32 (V 47 (16 * l + me)) ∧ ∀ i, i < 32 → tb (V 47 (16 * l + me)) i = pd (l < nw ∧ me < n ∧ brS V b nl n (V 18) l me i)
def iJdg (V : am_U) (b nl nw n : Nat) : Prop := V 45 5 = 0 ∨ (V 45 5 = 1 ∧ brT V b nl nw n 128)
/-- what looking writes -/
def lkp (U U' : am_U) : Prop := ∀ r j, r ≠ 46 → r ≠ 47 → (r = 45 → j ≠ 3 ∧ j ≠ 5) → U' r j = U r j
theorem lkp_refl (U : am_U) : lkp U U := fun _ _ _ _ _ => rfl
theorem lkp_trans {U U1 U2 : am_U} (h1 : lkp U U1) (h2 : lkp U1 U2) : lkp U U2 := fun r j a b c => by rw [h2 r j a b c, h1 r j a b c]
theorem lkp_jk {U U' : am_U} (h : jk U U') : lkp U U' := fun r j a b c => h r j a (fun e => (c e).1)
theorem lkp_row {U U' : am_U} (h : lkp U U') {r : Nat} (h1 : r ≠ 46) (h2 : r ≠ 47) (h3 : r ≠ 45) : U' r = U r := funext fun j => h r j h1 h2 (fun e => absurd e h3)
theorem agrC_lkp {U U' : am_U} (h : lkp U U') : agrC U U' := by
  intro r j e
  refine h r j (fun q => ?_) (fun q => ?_) (fun q => ?_)
  · subst q; simp [scrC, scr] at e
  · subst q; simp [scrC, scr] at e
  · subst q; simp [scrC] at e
theorem jCtx_agrC {U U' : am_U} {b ns nh nl nw nd cl n : Nat} (h : agrC U U') (hc : jCtx U b ns nh nl nw nd cl n) : jCtx U' b ns nh nl nw nd cl n := by
  obtain ⟨h1, h2, h3, h4, h5⟩ := hc
  refine ⟨iTown_agrC h h1, ?_, h3, ?_, ?_⟩
  · rw [agrC_row h (r := 16) (fun _ => rfl)]; exact h2
  · rw [agrC_row h (r := 17) (fun _ => rfl), agrC_row h (r := 18) (fun _ => rfl), agrC_row h (r := 8) (fun _ => rfl)]; exact h4
  · rw [agrC_row h (r := 18) (fun _ => rfl), agrC_row h (r := 19) (fun _ => rfl)]; exact h5
/-- the table up to (l, me); all behind is 0 -/
def brU (U0 V : am_U) (b nl nw n k : Nat) : Prop := ∀ l, l < 8 → ∀ me, me < 16 → in32 (V 47 (16 * l + me)) ∧ ∀ i, i < 32 → tb (V 47 (16 * l + me)) i = pd (16 * l + me < k ∧ l < nw ∧ me < n ∧ brS U0 b nl n (U0 18) l me i)
theorem look_l1 {N : Nat} {X : Nat → Int} {d : Nat} {U0 : am_U} {b ns nh nl nw nd cl n l : Nat} (hc : jCtx U0 b ns nh nl nw nd cl n) (hl : l < nw) : ∀ m i : Nat, i + m = n → ∀ U, lkp U0 U → brU U0 U b nl nw n (16 * l + i) → ∃ U', lkp U0 U' ∧ brU U0 U' b nl nw n (16 * (l + 1)) ∧ ∀ R, EvK N X (Jg_look_s18 (d + 5) ((l + 1 : Nat) : Int) U') R → EvK N X (Jg_look_s31 (d + 5) (l : Nat) (i : Nat) U) R := by
  have hn16 : n ≤ 16 := hc.2.2.1
  have hnw8 : nw ≤ 8 := hc.1.2.2.2.2.2.2.1.2.2.1
  intro m
  induction m with
  | zero =>
    intro i hi U h1 h2
    obtain rfl : i = n := by omega
    refine ⟨U, h1, fun l' a me c => ?_, fun R hR => Jg_look_r31 ⟨fun _ => by rw [w32_succ (i := l) (by omega)]; exact hR, fun q => absurd q ?_⟩⟩
    · obtain ⟨q1, q2⟩ := h2 l' a me c
      refine ⟨q1, fun j hj => ?_⟩
      rw [q2 j hj]
      refine pd_cg ⟨fun ⟨z1, z2, z3, z4⟩ => ⟨by omega, z2, z3, z4⟩, fun ⟨z1, z2, z3, z4⟩ => ⟨?_, z2, z3, z4⟩⟩
      omega
    · rw [lkp_row h1 (r := 16) (by decide) (by decide) (by decide), hc.2.1]; omega
  | succ m ih =>
    intro i hi U h1 h2
    have hcU := jCtx_agrC (agrC_lkp h1) hc
    obtain ⟨U1, r, g1, g2, g3, g4⟩ := ct_breaks (N := N) (X := X) (d := d) (asked := -1) hcU hl (show i < n by omega)
    have h3 : lkp U0 (am_upd U1 47 (16 * l + i) r) := fun r' j a e c => by
      rw [upd_row e, lkp_jk g2 r' j a e c, h1 r' j a e c]
    have h4 : brU U0 (am_upd U1 47 (16 * l + i) r) b nl nw n (16 * l + (i + 1)) := by
      intro l' a me c
      obtain ⟨q1, q2⟩ := h2 l' a me c
      rw [upd_if]
      by_cases e : 16 * l' + me = 16 * l + i
      · have e1 : l' = l := by omega
        have e2 : me = i := by omega
        subst e1; subst e2
        rw [if_pos rfl]
        refine ⟨g3, fun j hj => ?_⟩
        rw [g4 j hj, tb_m1 hj, Bool.true_and]
        refine pd_cg ⟨fun q => ⟨by omega, hl, by omega, ?_⟩, fun q => ?_⟩
        · rw [brP_S hcU (by omega), brS_cg (stq_agrC (agrC_lkp h1)), lkp_row h1 (r := 18) (by decide) (by decide) (by decide)] at q; exact q
        · rw [brP_S hcU (by omega), brS_cg (stq_agrC (agrC_lkp h1)), lkp_row h1 (r := 18) (by decide) (by decide) (by decide)]; exact q.2.2.2
      · rw [if_neg e, jk_row g2 (r := 47) (by decide) (by decide)]
        refine ⟨q1, fun j hj => ?_⟩
        rw [q2 j hj]
        exact pd_cg ⟨fun ⟨z1, z2⟩ => ⟨by omega, z2⟩, fun ⟨z1, z2⟩ => ⟨by omega, z2⟩⟩
    obtain ⟨U', k1, k2, k3⟩ := ih (i + 1) (by omega) _ h3 h4
    refine ⟨U', k1, k2, fun R hR => Jg_look_r31 ⟨fun q => absurd q ?_, fun _ => ⟨_, _, g1, ?_⟩⟩⟩
    · rw [lkp_row h1 (r := 16) (by decide) (by decide) (by decide), hc.2.1]; omega
    · rw [ix_eq (k := 16 * l + i) (by omega) (by omega) (by omega) (by omega), Int.toNat_natCast, w32_succ (i := i) (by omega)]
      exact ⟨by omega, k3 R hR⟩
theorem look_l2 {N : Nat} {X : Nat → Int} {d : Nat} {U0 : am_U} {b ns nh nl nw nd cl n : Nat} (hc : jCtx U0 b ns nh nl nw nd cl n) : ∀ m l : Nat, l + m = nw → ∀ U, lkp U0 U → brU U0 U b nl nw n (16 * l) → ∃ U', EvK N X (Jg_look_s18 (d + 5) (l : Nat) U) (rV U') ∧ lkp U0 U' ∧ brU U0 U' b nl nw n (16 * nw) ∧ U' 45 5 = 1 := by
  intro m
  induction m with
  | zero =>
    intro l hl U h1 h2
    obtain rfl : l = nw := by omega
    refine ⟨_, Jg_look_r18 ⟨fun _ => rfl, fun q => absurd q ?_⟩, fun r j a e c => ?_, ?_, upd_at _ _ _ _⟩
    · rw [lkp_row h1 (r := 3) (by decide) (by decide) (by decide), hc.1.2.2.2.2.2.2.1.1]; omega
    · by_cases z : r = 45
      · subst z; rw [upd_ne (c rfl).2]; exact h1 45 j a e c
      · rw [upd_row z]; exact h1 r j a e c
    · intro l' a me c
      rw [upd_row (by decide)]; exact h2 l' a me c
  | succ m ih =>
    intro l hl U h1 h2
    obtain ⟨U1, k1, k2, k3⟩ := look_l1 (N := N) (X := X) (d := d) hc (show l < nw by omega) n 0 (by omega) U h1 (by simpa using h2)
    obtain ⟨U', q1, q2, q3, q4⟩ := ih (l + 1) (by omega) U1 k1 k2
    refine ⟨U', Jg_look_r18 ⟨fun q => absurd q ?_, fun _ => k3 _ q1⟩, q2, q3, q4⟩
    rw [lkp_row h1 (r := 3) (by decide) (by decide) (by decide), hc.1.2.2.2.2.2.2.1.1]; omega
theorem ct_look {N : Nat} {X : Nat → Int} {d : Nat} {U : am_U} {b ns nh nl nw nd cl n : Nat} (hc : jCtx U b ns nh nl nw nd cl n) (hj : iJdg U b nl nw n) : ∃ U', EvK N X (Jg_look_s0 (d + 5) U) (rV U') ∧ lkp U U' ∧ U' 45 5 = 1 ∧ brT U' b nl nw n 128 := by
  rcases hj with h0 | ⟨h1, h2⟩
  · have hl : lkp U (fil U 47 128 0) := fun r j a e c => by rw [fil_row e]
    obtain ⟨U', k1, k2, k3, k4⟩ := look_l2 (N := N) (X := X) (d := d) hc nw 0 (by omega) _ hl (fun l a me c => by
      rw [fil_in (by omega)]
      exact ⟨by unfold in32; omega, fun i hi => by rw [tb_0, pd_f]; rintro ⟨q, -⟩; omega⟩)
    refine ⟨U', Jg_look_r0 ⟨fun _ => ⟨_, ct_fill_47, k1⟩, fun q => absurd h0 q⟩, k2, k4, fun l a me c _ => ?_⟩
    obtain ⟨q1, q2⟩ := k3 l a me c
    refine ⟨q1, fun i hi => ?_⟩
    rw [q2 i hi]
    refine pd_cg ⟨fun ⟨_, z2, z3, z4⟩ => ⟨z2, z3, ?_⟩, fun ⟨z2, z3, z4⟩ => ⟨by omega, z2, z3, ?_⟩⟩
    · rw [brS_cg (stq_agrC (agrC_lkp k2)), lkp_row k2 (r := 18) (by decide) (by decide) (by decide)]; exact z4
    · rw [brS_cg (stq_agrC (agrC_lkp k2)), lkp_row k2 (r := 18) (by decide) (by decide) (by decide)] at z4; exact z4
  · exact ⟨U, Jg_look_r0 ⟨fun q => absurd q (by rw [h1]; decide), fun _ => rfl⟩, lkp_refl _, h1, h2⟩
