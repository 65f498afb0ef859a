/-! persons -/
def brX (U : am_U) (p l : Nat) : Nat := fb_ct (tb (U 47 (16 * l + p))) 32 + fb_ct (fun me => tb (U 47 (16 * l + me)) p) 16
theorem brX_le (U : am_U) (p l : Nat) : brX U p l ≤ 48 := by
  unfold brX
  have := fb_ct_le (tb (U 47 (16 * l + p))) 32
  have := fb_ct_le (fun me => tb (U 47 (16 * l + me)) p) 16
  omega
theorem cbo_in {N : Nat} {X : Nat → Int} {d : Nat} {U : am_U} {p l z : Nat} {R : Option am_V × am_M} (hp : p < 16) (hl : l < 8) (hz : z ≤ 1000) (hgo : EvK N X (Jg_countBreachesOf_s8 (d + 1) (p : Nat) ((z + fb_ct (fun me => tb (U 47 (16 * l + me)) p) 16 : Nat) : Int) ((l + 1 : Nat) : Int) U) R) : ∀ m i : Nat, i + m = 16 → EvK N X (Jg_countBreachesOf_s34 (d + 1) (p : Nat) ((z + fb_ct (fun me => tb (U 47 (16 * l + me)) p) i : Nat) : Int) (l : Nat) (i : Nat) U) R := by
  intro m
  induction m with
  | zero =>
    intro i hi
    obtain rfl : i = 16 := by omega
    exact Jg_countBreachesOf_r34 ⟨fun _ => by rw [w32_succ (i := l) (by omega)]; exact hgo, fun h => absurd h (by decide)⟩
  | succ m ih =>
    intro i hi
    have k1 := ih (i + 1) (by omega)
    have hs := fb_ct_succ (fun me => tb (U 47 (16 * l + me)) p) i
    have hle := fb_ct_le (fun me => tb (U 47 (16 * l + me)) p) i
    have hb : am_and (am_shr (U 47 (16 * l + i)) (p : Nat)) 1 = if tb (U 47 (16 * l + i)) p then 1 else 0 := bit_shr (by omega)
    refine Jg_countBreachesOf_r34 ⟨fun h => absurd h (by omega), fun _ => ?_⟩
    rw [ix_eq (k := 16 * l + i) (by omega) (by omega) (by omega) (by omega), Int.toNat_natCast, hb, w32_succ (i := i) (by omega)]
    refine ⟨by omega, ?_⟩
    have : w32 (((z + fb_ct (fun me => tb (U 47 (16 * l + me)) p) i : Nat) : Int) + (if tb (U 47 (16 * l + i)) p then 1 else 0)) = ((z + fb_ct (fun me => tb (U 47 (16 * l + me)) p) (i + 1) : Nat) : Int) := by
      rw [hs]
      cases tb (U 47 (16 * l + i)) p
      · simp only [Bool.false_eq_true, if_false, Nat.add_zero]
        exact w32_0 (by omega) (by omega)
      · simp only [if_true]
        rw [w32_succ (by omega), Nat.add_assoc]
    rw [this]
    exact k1
theorem sm_le48 (U : am_U) (p : Nat) : ∀ l, fb_sm (brX U p) l ≤ 48 * l
  | 0 => Nat.le_refl _
  | l + 1 => by
    rw [fb_sm_succ]
    have := sm_le48 U p l
    have := brX_le U p l
    omega
theorem cbo_l {N : Nat} {X : Nat → Int} {d : Nat} {U : am_U} {p : Nat} (hp : p < 16) : ∀ m l : Nat, l + m = 8 → EvK N X (Jg_countBreachesOf_s8 (d + 1) (p : Nat) ((fb_sm (brX U p) l : Nat) : Int) (l : Nat) U) (rI ((fb_sm (brX U p) 8 : Nat) : Int) U) := by
  intro m
  induction m with
  | zero =>
    intro l hl
    obtain rfl : l = 8 := by omega
    exact Jg_countBreachesOf_r8 ⟨fun _ => rfl, fun h => absurd h (by decide)⟩
  | succ m ih =>
    intro l hl
    have k1 := ih (l + 1) (by omega)
    have h1 := sm_le48 U p l
    have h2 := fb_ct_le (tb (U 47 (16 * l + p))) 32
    have hs : fb_sm (brX U p) (l + 1) = fb_sm (brX U p) l + fb_ct (tb (U 47 (16 * l + p))) 32 + fb_ct (fun me => tb (U 47 (16 * l + me)) p) 16 := by rw [fb_sm_succ]; unfold brX; omega
    rw [hs] at k1
    have k2 := cbo_in (N := N) (X := X) (d := d) (U := U) (p := p) (l := l) (z := fb_sm (brX U p) l + fb_ct (tb (U 47 (16 * l + p))) 32) hp (by omega) (by omega) k1 16 0 (by omega)
    refine Jg_countBreachesOf_r8 ⟨fun h => absurd h (by omega), fun _ => ?_⟩
    rw [ix_eq (k := 16 * l + p) (by omega) (by omega) (by omega) (by omega), Int.toNat_natCast]
    refine ⟨by omega, _, _, ct_bitCount _, ?_⟩
    rw [w32_eq (by omega) (by omega)]
    simpa [fb_ct] using k2
theorem ct_cbo {N : Nat} {X : Nat → Int} {d : Nat} {U : am_U} {b ns nh nl nw nd cl n p : Nat} (hc : jCtx U b ns nh nl nw nd cl n) (hj : iJdg U b nl nw n) (hp : p < n) : ∃ U', EvK N X (Jg_countBreachesOf_s0 (d + 6) (p : Nat) U) (rI (((brA U b nl nw n (U 18) (p : Nat)).length : Nat) : Int) U') ∧ lkp U U' ∧ iJdg U' b nl nw n := by
  obtain ⟨U', k1, k2, k3, k4⟩ := ct_look (N := N) (X := X) (d := d) hc hj
  have hn := hc.2.2.1
  have hnw := hc.1.2.2.2.2.2.2.1.2.2.1
  have q := cbo_l (N := N) (X := X) (d := d + 5) (U := U') (p := p) (by omega) 8 0 (by omega)
  have key : fb_sm (brX U' p) 8 = (brA U b nl nw n (U 18) (p : Nat)).length := by
    rw [brA_one hn hp]
    have st := stq_agrC (agrC_lkp k2)
    have e18 : U' 18 = U 18 := lkp_row k2 (r := 18) (by decide) (by decide) (by decide)
    have each : ∀ l, l < 8 → brX U' p l = if l < nw then brO U b nl n (U 18) p l else 0 := by
      intro l hl
      unfold brX
      have r1 : fb_ct (tb (U' 47 (16 * l + p))) 32 = if l < nw then fb_ct (fun i => pd (brS U b nl n (U 18) l p i)) 32 else 0 := by
        obtain ⟨-, z⟩ := k4 l hl p (by omega) (by omega)
        split
        · rename_i h
          refine fb_ct_cong (fun i hi => ?_)
          rw [z i hi, e18]
          exact pd_cg ⟨fun y => (brS_cg st b nl n (U 18) l p i).mp y.2.2, fun y => ⟨h, hp, (brS_cg st b nl n (U 18) l p i).mpr y⟩⟩
        · rename_i h
          exact fb_ct_zero.mpr (fun i hi => by rw [z i hi]; exact pd_f (fun y => h y.1))
      have r2 : fb_ct (fun me => tb (U' 47 (16 * l + me)) p) 16 = if l < nw then fb_ct (fun me => pd (brS U b nl n (U 18) l me p)) n else 0 := by
        split
        · rename_i h
          rw [ct_cut (m := n) (by omega) (fun me a c => by
            obtain ⟨-, z⟩ := k4 l hl me (by omega) (by omega)
            rw [z p (by omega)]; exact pd_f (fun y => by have := y.2.1; omega))]
          refine fb_ct_cong (fun me hme => ?_)
          obtain ⟨-, z⟩ := k4 l hl me (by omega) (by omega)
          rw [z p (by omega), e18]
          exact pd_cg ⟨fun y => (brS_cg st b nl n (U 18) l me p).mp y.2.2, fun y => ⟨h, hme, (brS_cg st b nl n (U 18) l me p).mpr y⟩⟩
        · rename_i h
          exact fb_ct_zero.mpr (fun me hme => by
            obtain ⟨-, z⟩ := k4 l hl me (by omega) (by omega)
            rw [z p (by omega)]; exact pd_f (fun y => h y.1))
      rw [r1, r2]
      split
      · rfl
      · rfl
    rw [fb_sm_cong each]
    have split8 : ∀ k, fb_sm (fun l => if l < nw then brO U b nl n (U 18) p l else 0) (nw + k) = fb_sm (brO U b nl n (U 18) p) nw := by
      intro k
      induction k with
      | zero => exact fb_sm_cong (fun l hl => by rw [if_pos (show l < nw from hl)])
      | succ k ih => rw [← Nat.add_assoc, fb_sm_succ, ih, if_neg (by omega)]; rfl
    have := split8 (8 - nw)
    rw [show nw + (8 - nw) = 8 from by omega] at this
    exact this
  rw [key] at q
  exact ⟨U', Jg_countBreachesOf_r0 ⟨_, k1, by simpa [fb_sm] using q⟩, k2, Or.inr ⟨k3, k4⟩⟩
theorem M_person2 {N : Nat} {X : Nat → Int} {d : Nat} {U : am_U} {b ns nh nl nw nd cl n p : Nat} {w : Int} (ht : iTown U b ns nh nl nw nd cl) (hf : iFolk U n nh) (hp : p < n) : ∀ m i : Nat, i + m = n → EvK N X (M_person_s66 (d + 5) (p : Nat) w ((fb_ct (qrB U b nl n p) i : Nat) : Int) (i : Nat) U) (rI ((fb_ct (qrB U b nl n p) n : Nat) : Int) U) := by
  have hn := hf.1.2.2
  have e := hf.1.2.1
  intro m
  induction m with
  | zero =>
    intro i hi
    obtain rfl : i = n := by omega
    exact M_person_r66 ⟨fun _ => rfl, fun h => absurd h (by rw [e]; omega)⟩
  | succ m ih =>
    intro i hi
    have k1 := ih (i + 1) (by omega)
    have hs := fb_ct_succ (qrB U b nl n p) i
    have hl := fb_ct_le (qrB U b nl n p) i
    have qq := ct_M_isQuarrel (N := N) (X := X) (d := d) ht hf hp (show i < n by omega)
    refine M_person_r66 ⟨fun h => absurd h (by rw [e]; omega), fun _ => ⟨_, _, qq, ?_⟩⟩
    rw [w32_succ (i := i) (by omega)]
    refine ⟨fun h => ?_, fun h => ?_⟩
    · rw [hs, if_neg (by unfold qrB; rw [pd_f (cb_eq.mp h)]; decide)] at k1
      rw [w32_0 (by omega) (by omega)]; exact k1
    · rw [hs, if_pos (by unfold qrB; exact pd_t (cb_ne.mp h))] at k1
      rw [w32_succ (by omega)]; exact k1
/-- what a question may leave behind: the judge's table and parts that were found -/
def kJP (U : am_U) (b nl nw n : Nat) (V : am_U) : Prop := (∀ r j, r ≠ 20 → r ≠ 46 → r ≠ 47 → (r = 45 → j ≠ 3 ∧ j ≠ 5) → scr r j = false → V r j = U r j) ∧ iJdg V b nl nw n ∧ iPrt V
theorem iPrt_rows {U V : am_U} (h20 : V 20 = U 20) (h17 : V 17 = U 17) (h : iPrt U) : iPrt V := by unfold iPrt; rw [h20, h17]; exact h
theorem iJdg_ptk {U V : am_U} {b nl nw n : Nat} (h : ptk U V) (hj : iJdg U b nl nw n) : iJdg V b nl nw n := by
  unfold iJdg brT at hj ⊢
  have st : stq U V := ⟨h _ (by decide), h _ (by decide), h _ (by decide), h _ (by decide), h _ (by decide), h _ (by decide), h _ (by decide), h _ (by decide), h _ (by decide)⟩
  simp only [h 45 (by decide), h 47 (by decide), h 18 (by decide), brS_cg st]
  exact hj
theorem pair_person {N : Nat} {X : Nat → Int} {d : Nat} {U : am_U} {b ns nh nl nw nd cl n : Nat} (ht : iTown U b ns nh nl nw nd cl) (hf : iFolk U n nh) (hj : iJdg U b nl nw n) (hk : iPrt U) (x y : Int) : ask3 N X (kJP U b nl nw n) (D_person_s0 (d + 7) x y) (M_person_s0 (d + 7) x y) U := by
  have e16 := hf.1.1
  have e122 := hf.1.2.1
  have hn := hf.1.2.2
  have k0 : kJP U b nl nw n U := ⟨fun _ _ _ _ _ _ _ => rfl, hj, hk⟩
  by_cases c : 0 ≤ x ∧ x < (n : Nat)
  rotate_left
  · have a1 : EvK N X (D_person_s0 (d + 7) x y U) (rI (-1) U) := D_person_r0 ⟨_, _, D_p0 (by rw [e16]; exact c), fun h => absurd rfl h, fun _ => rfl⟩
    have a2 : EvK N X (M_person_s0 (d + 7) x y U) (rI (-1) U) := M_person_r0 ⟨_, _, M_p0 (by rw [e122]; exact c), fun h => absurd rfl h, fun _ => rfl⟩
    exact ⟨_, U, a1, agrC_refl _, k0, U, a2, agr_refl _⟩
  obtain ⟨p, rfl⟩ : ∃ p : Nat, x = p := ⟨x.toNat, by omega⟩
  have hp : p < n := by omega
  have b1 := (hf.2.2.2.2.1.1 p hp).2.1
  -- the rules with their first steps done
  have dD : ∀ R, ((y = 0 → (0 ≤ (p : Int) ∧ (p : Int) < 16) ∧ R = rI (U 18 p) U) ∧ (y = 1 → ∃ (r2 : Int) (U2 : am_U), EvK N X (Jg_countBreachesOf_s0 (d + 6) (p : Nat) U) (rI r2 U2) ∧ R = rI r2 U2) ∧ (y = 2 → ∃ (r3 : Int) (U3 : am_U), EvK N X (D_quarrelling_s0 (d + 6) (p : Nat) U) (rI r3 U3) ∧ ∃ (r4 : Int) (U4 : am_U), EvK N X (In_bitCount_s0 (d + 6) r3 U3) (rI r4 U4) ∧ R = rI r4 U4) ∧ (y = 3 → ∃ (r5 : Int) (U5 : am_U), EvK N X (Nm_isPrime_s0 (d + 6) (((U 17 p).natAbs : Nat) : Int) U) (rI r5 U5) ∧ ((r5 = 0) → R = rI 0 U5) ∧ ((r5 ≠ 0) → R = rI 1 U5)) ∧ (y = 4 → ∃ (r6 : Int) (U6 : am_U), EvK N X (Fk_partsFor_s0 (d + 6) (p : Nat) U) (rJ r6 U6) ∧ ((r6 ≠ (((U 17 p).natAbs : Nat) : Int)) → R = rI 0 U6) ∧ ((r6 = (((U 17 p).natAbs : Nat) : Int)) → R = rI 1 U6)) ∧ (¬ y = 0 ∧ ¬ y = 1 ∧ ¬ y = 2 ∧ ¬ y = 3 ∧ ¬ y = 4 → R = rI (-1) U)) → EvK N X (D_person_s0 (d + 7) (p : Nat) y U) R := by
    intro R h
    refine D_person_r0 ⟨_, _, D_p1 (by rw [e16]; exact c), fun _ => ?_, fun z => absurd z (by decide)⟩
    rw [Int.toNat_natCast, abs_nat b1]
    refine ⟨by omega, fun z => (h.1 z).2, h.2⟩
  by_cases y0 : y = 0
  · have a1 := dD (rI (U 18 p) U) ⟨fun _ => ⟨by omega, rfl⟩, fun z => by omega, fun z => by omega, fun z => by omega, fun z => by omega, fun z => absurd y0 z.1⟩
    have a2 : EvK N X (M_person_s0 (d + 7) (p : Nat) y U) (rI (U 18 p) U) := M_person_r0 ⟨_, _, M_p1 (by rw [e122]; exact c), fun _ => ⟨fun _ => ⟨by omega, by rw [Int.toNat_natCast, (hf.2.2.2.1 p hp).2]⟩, fun z => by omega, fun z => by omega, fun z => by omega, fun z => by omega, fun z => absurd y0 z.1⟩, fun z => absurd z (by decide)⟩
    exact ⟨_, U, a1, agrC_refl _, k0, U, a2, agr_refl _⟩
  by_cases y1 : y = 1
  · obtain ⟨U1, f1, f2, f3⟩ := ct_cbo (N := N) (X := X) (d := d) (jCtx_of ht hf) hj hp
    have ht1 := iTown_agrC (agrC_lkp f2) ht
    have hf1 := iFolk_agrC (agrC_lkp f2) hf
    obtain ⟨U2, g1, g2, g3⟩ := ct_scans (N := N) (X := X) (d := d) (w := (p : Nat)) (k := -1) (by omega) (mCtx_of ht1 hf1)
    rw [brA_cg (stq_agrC (agrC_lkp f2)), lkp_row f2 (r := 18) (by decide) (by decide) (by decide)] at g1
    have a1 := dD (rI (((brA U b nl nw n (U 18) (p : Nat)).length : Nat) : Int) U1) ⟨fun z => by omega, fun _ => ⟨_, _, f1, rfl⟩, fun z => by omega, fun z => by omega, fun z => by omega, fun z => absurd y1 z.2.1⟩
    have a2 : EvK N X (M_person_s0 (d + 7) (p : Nat) y U1) (rI (((brA U b nl nw n (U 18) (p : Nat)).length : Nat) : Int) U2) := M_person_r0 ⟨_, _, M_p1 (by rw [hf1.1.2.1]; exact c), fun _ => ⟨fun z => by omega, fun _ => ⟨_, _, g1, rfl⟩, fun z => by omega, fun z => by omega, fun z => by omega, fun z => absurd y1 z.2.1⟩, fun z => absurd z (by decide)⟩
    refine ⟨_, U1, a1, agrC_lkp f2, ⟨fun r j _ q1 q2 q3 _ => f2 r j q1 q2 q3, f3, iPrt_rows (lkp_row f2 (by decide) (by decide) (by decide)) (lkp_row f2 (by decide) (by decide) (by decide)) hk⟩, U2, a2, agr_sk g2⟩
  by_cases y2 : y = 2
  · obtain ⟨r, q1, q2, q3⟩ := ct_quarrelling (N := N) (X := X) (d := d + 5) (jCtx_of ht hf) hp
    have ec : fb_ct (tb r) 32 = fb_ct (qrB U b nl n p) n := by
      rw [ct_cut (m := n) (by omega) (fun i a z => by rw [q3 i z]; exact pd_f (fun w => by have := w.1; omega))]
      exact fb_ct_cong (fun i hi => by rw [q3 i (by omega)]; exact pd_cg ⟨fun w => w.2, fun w => ⟨hi, w⟩⟩)
    have bc := ct_bitCount (N := N) (X := X) (d := d + 6) (U := U) r
    rw [ec] at bc
    have a1 := dD (rI ((fb_ct (qrB U b nl n p) n : Nat) : Int) U) ⟨fun z => by omega, fun z => by omega, fun _ => ⟨_, _, q1, _, _, bc, rfl⟩, fun z => by omega, fun z => by omega, fun z => absurd y2 z.2.2.1⟩
    have k2 := M_person2 (N := N) (X := X) (d := d + 2) (w := y) ht hf hp n 0 (by omega)
    have a2 : EvK N X (M_person_s0 (d + 7) (p : Nat) y U) (rI ((fb_ct (qrB U b nl n p) n : Nat) : Int) U) := M_person_r0 ⟨_, _, M_p1 (by rw [e122]; exact c), fun _ => ⟨fun z => by omega, fun z => by omega, fun _ => by simpa [fb_ct] using k2, fun z => by omega, fun z => by omega, fun z => absurd y2 z.2.2.1⟩, fun z => absurd z (by decide)⟩
    exact ⟨_, U, a1, agrC_refl _, k0, U, a2, agr_refl _⟩
  have sz := ct_sizeOf (N := N) (X := X) (d := d + 5) hf hp
  by_cases y3 : y = 3
  · have i1 := ct_isPrime (N := N) (X := X) (d := d + 6) (U := U) (((U 17 p).natAbs : Nat) : Int) (by omega)
    have i2 := ct_M_isPrime (N := N) (X := X) (d := d + 4) (U := U) (((U 17 p).natAbs : Nat) : Int) (by omega)
    have a1 := dD (rI (cb (Pr ((((U 17 p).natAbs : Nat) : Int)).toNat)) U) ⟨fun z => by omega, fun z => by omega, fun z => by omega, fun _ => ⟨_, _, i1, fun z => by rw [z], fun z => by rw [cb_t (cb_ne.mp z)]⟩, fun z => by omega, fun z => absurd y3 z.2.2.2.1⟩
    have a2 : EvK N X (M_person_s0 (d + 7) (p : Nat) y U) (rI (cb (Pr ((((U 17 p).natAbs : Nat) : Int)).toNat)) U) := M_person_r0 ⟨_, _, M_p1 (by rw [e122]; exact c), fun _ => ⟨fun z => by omega, fun z => by omega, fun z => by omega, fun _ => ⟨_, _, sz, _, _, i2, fun z => by rw [z], fun z => by rw [cb_t (cb_ne.mp z)]⟩, fun z => by omega, fun z => absurd y3 z.2.2.2.1⟩, fun z => absurd z (by decide)⟩
    exact ⟨_, U, a1, agrC_refl _, k0, U, a2, agr_refl _⟩
  by_cases y4 : y = 4
  · obtain ⟨U1, f1, f2, f3⟩ := ct_partsFor (N := N) (X := X) (d := d + 4) (U := U) (p := p) (by omega) b1 hk
    have hf1 := iFolk_agrC (agrC_ptk f2) hf
    have sz1 := ct_sizeOf (N := N) (X := X) (d := d + 5) hf1 hp
    rw [f2 17 (by decide)] at sz1
    have po := ct_M_partsOf (N := N) (X := X) (d := d + 6) (U := U1) (U 17 p).natAbs (by omega)
    have a1 := dD (rI (if prt (U 17 p).natAbs = (U 17 p).natAbs then 1 else 0) U1) ⟨fun z => by omega, fun z => by omega, fun z => by omega, fun z => by omega, fun _ => ⟨_, _, f1, fun z => by rw [if_neg (by omega)], fun z => by rw [if_pos (by omega)]⟩, fun z => absurd y4 z.2.2.2.2⟩
    have a2 : EvK N X (M_person_s0 (d + 7) (p : Nat) y U1) (rI (if prt (U 17 p).natAbs = (U 17 p).natAbs then 1 else 0) U1) := M_person_r0 ⟨_, _, M_p1 (by rw [hf1.1.2.1]; exact c), fun _ => ⟨fun z => by omega, fun z => by omega, fun z => by omega, fun z => by omega, fun _ => ⟨_, _, sz1, _, _, po, _, _, sz1, fun z => by rw [if_neg (by omega)], fun z => by rw [if_pos (by omega)]⟩, fun z => absurd y4 z.2.2.2.2⟩, fun z => absurd z (by decide)⟩
    exact ⟨_, U1, a1, agrC_ptk f2, ⟨fun r j q _ _ _ _ => by rw [f2 r q], iJdg_ptk f2 hj, f3⟩, U1, a2, agr_refl _⟩
  · have a1 := dD (rI (-1) U) ⟨fun z => absurd z y0, fun z => absurd z y1, fun z => absurd z y2, fun z => absurd z y3, fun z => absurd z y4, fun _ => rfl⟩
    have a2 : EvK N X (M_person_s0 (d + 7) (p : Nat) y U) (rI (-1) U) := M_person_r0 ⟨_, _, M_p1 (by rw [e122]; exact c), fun _ => ⟨fun z => absurd z y0, fun z => absurd z y1, fun z => absurd z y2, fun z => absurd z y3, fun z => absurd z y4, fun _ => rfl⟩, fun z => absurd z (by decide)⟩
    exact ⟨_, U, a1, agrC_refl _, k0, U, a2, agr_refl _⟩
