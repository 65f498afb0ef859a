/-! ways tried: settling and sending back -/
def plY (U : am_U) (hm : Nat → Int) (n m : Nat) (as : Nat → Nat) (wm : Int) : Prop := m ≤ 3 ∧ isAs hm n m as ∧ U 48 6 = (m : Nat) ∧ U 48 7 = wm ∧ (∀ j, j < 32 → tb wm j = decide (j < n ∧ hm j = -1)) ∧ ∀ i, i < m → U 49 i = (as i : Nat)
theorem plY_cg {U U' : am_U} {hm : Nat → Int} {n m : Nat} {as : Nat → Nat} {wm : Int} (h6 : U' 48 6 = U 48 6) (h7 : U' 48 7 = U 48 7) (h49 : U' 49 = U 49) (hy : plY U hm n m as wm) : plY U' hm n m as wm := by
  unfold plY
  rw [h6, h7, h49]
  exact hy
theorem tryOk_hJ (n nh m : Nat) (hm : Nat → Int) (w j : Nat) : tryOk n hm (hJ n nh m hm w j) := fun p hp => hJ_off hp
theorem tryOk_in {n nh : Nat} {hm H : Nat → Int} {num rm : Nat → Int} (hp : pplOk num H rm n nh) : ∀ p, p < n → -1 ≤ H p ∧ H p < (nh : Nat) := fun p h => (hp.1 p h).2.2
theorem settleAll_l {N : Nat} {X : Nat → Int} {d : Nat} {V : am_U} {b ns nh nl nw nd cl n m w : Nat} {as : Nat → Nat} {wm : Int} (hc : jCtx V b ns nh nl nw nd cl n) (hy : plY V (V 18) n m as wm) (hw : w < 100000) : ∀ j, j ≤ m → ∀ U : am_U, (∀ r, r ≠ 18 → r ≠ 19 → U r = V r) → U 18 = hJ n nh m (V 18) w j → DwOk n (U 18) (U 19) → (∀ h, 12 ≤ h → U 19 h = V 19 h) → pplOk (V 17) (U 18) (V 8) n nh → ∃ r U' j', EvK N X (Pl_settleAll_s27 (d + 2) (w : Nat) ((nh + 1 : Nat) : Int) ((w / (nh + 1) ^ (m - j) : Nat) : Int) (plJ nh m w j : Nat) (((j : Nat) : Int) - 1) U) (rI r U') ∧ (∀ r, r ≠ 18 → r ≠ 19 → U' r = V r) ∧ U' 18 = hJ n nh m (V 18) w j' ∧ DwOk n (U' 18) (U' 19) ∧ (∀ h, 12 ≤ h → U' 19 h = V 19 h) ∧ pplOk (V 17) (U' 18) (V 8) n nh ∧ ((j' = 0 ∧ r = (plJ nh m w 0 : Nat)) ∨ (r = -1 ∧ ¬ rmOk (V 8) n nh (hJ n nh m (V 18) w 0))) := by
  obtain ⟨ht, hn0, hn, hpp, hdw⟩ := hc
  obtain ⟨hm3, ha, y6, y7, yb, y49⟩ := hy
  have hnh := ht.2.2.1.2.2.1
  have h31 := ht.2.2.1.1
  intro j
  induction j with
  | zero =>
    intro _ U u1 u2 u3 u4 u5
    exact ⟨_, U, 0, Pl_settleAll_r27 ⟨fun _ => rfl, fun z => absurd z (by omega)⟩, u1, u2, u3, u4, u5, Or.inl ⟨rfl, rfl⟩⟩
  | succ j ih =>
    intro hj U u1 u2 u3 u4 u5
    obtain ⟨a1, a2, a3⟩ := ha.2 j (by omega)
    have e3 : U 3 1 = (nh : Nat) := by rw [u1 3 (by decide) (by decide)]; exact h31
    have es := hJ_s (nh := nh) ha (show j < m by omega) w
    have ep := plJ_s (nh := nh) (w := w) (show j < m by omega)
    have hle : w / (nh + 1) ^ (m - (j + 1)) ≤ w := Nat.div_le_self _ _
    have emod : Int.tmod ((w / (nh + 1) ^ (m - (j + 1)) : Nat) : Int) ((nh + 1 : Nat) : Int) = ((dgH (nh + 1) m w j : Nat) : Int) := by
      rw [← dg_mod (show j < m by omega)]; exact (Int.ofNat_tmod _ _).symm
    have ediv : eqI (w32 (Int.tdiv ((w / (nh + 1) ^ (m - (j + 1)) : Nat) : Int) ((nh + 1 : Nat) : Int))) (((w / (nh + 1) ^ (m - j) : Nat) : Int)) := by
      show _ = _
      rw [tdiv_nat, dg_div (show j < m by omega)]
      exact w32_nat (Nat.lt_of_le_of_lt (Nat.div_le_self _ _) (by omega))
    have ej : eqI (w32 ((((j + 1 : Nat) : Int) - 1) + (-1))) (((j : Nat) : Int) - 1) := by show _ = _; rw [w32_eq (by omega) (by omega)]; omega
    have h0 : hJ n nh m (V 18) w (j + 1) (as j) = -1 := by rw [hJ_at ha (by omega), if_neg (by omega)]
    have glt : dgH (nh + 1) m w j < nh + 1 := Nat.mod_lt _ (by omega)
    by_cases c : dgH (nh + 1) m w j < nh
    · rw [if_pos c] at ep
      have ed : dvH nh (dgH (nh + 1) m w j) = ((dgH (nh + 1) m w j : Nat) : Int) := by unfold dvH; rw [if_pos c]
      rw [ed] at es
      have liv : fb_ct (tb (U 19 (dgH (nh + 1) m w j))) 32 = fb_ct (fun p => U 18 p == ((dgH (nh + 1) m w j : Nat) : Int)) n := dw_ct u3 hn (by omega)
      have pl4 := plJ_le nh m w (j + 1)
      by_cases c2 : ((fb_ct (fun p => U 18 p == ((dgH (nh + 1) m w j : Nat) : Int)) n : Nat) : Int) < V 8 (dgH (nh + 1) m w j)
      · have h18 : U 18 (as j) = -1 := by rw [u2]; exact h0
        obtain ⟨U2, k1, k2, k3, k4, k5⟩ := ct_settle_16 (N := N) (X := X) (d := d + 1) (U := U) (n := n) (p := as j) (hs := ((dgH (nh + 1) m w j : Nat) : Int)) a1 hn (by omega) (by omega)
        have e18 : U2 18 = hJ n nh m (V 18) w j := by rw [k2, u2, es]
        obtain ⟨r, U', j', l1, l2⟩ := ih (by omega) U2 (fun r q1 q2 => by rw [k5 r q1 q2, u1 r q1 q2]) e18 (k3 u3) (fun h hh => by rw [k4 h hh, u4 h hh]) (by rw [k2]; exact ppl_move a1 c u5 c2)
        refine ⟨r, U', j', Pl_settleAll_r27 ⟨fun z => absurd z (by omega), fun _ => ⟨by omega, by omega, ?_⟩⟩, l2⟩
        rw [emod, eqI_o ediv, eqI_o ej, e3]
        refine ⟨fun z => absurd z (by omega), fun _ => ⟨_, U, ct_Fk_living_16 (dgH (nh + 1) m w j) (by omega), by omega, fun _ => ⟨by omega, U2, ?_, ?_⟩, fun z => absurd z ?_⟩⟩
        · rw [show (((j + 1 : Nat) : Int) - 1).toNat = j by omega, u1 49 (by decide) (by decide), y49 j (by omega)]; exact k1
        · rw [w32_succ (by omega), ← ep]; exact l1
        · rw [Int.toNat_natCast, liv, u1 8 (by decide) (by decide)]; omega
      · refine ⟨-1, U, j + 1, Pl_settleAll_r27 ⟨fun z => absurd z (by omega), fun _ => ⟨by omega, by omega, ?_⟩⟩, u1, u2, u3, u4, u5, Or.inr ⟨rfl, fun z => ?_⟩⟩
        · rw [emod, e3]
          refine ⟨fun z => absurd z (by omega), fun _ => ⟨_, U, ct_Fk_living_16 (dgH (nh + 1) m w j) (by omega), by omega, fun z => absurd z ?_, fun _ => rfl⟩⟩
          rw [Int.toNat_natCast, liv, u1 8 (by decide) (by decide)]; omega
        · have z1 := z _ c
          have up := cnt_up (n := n) (nh := nh) (m := m) (hm := V 18) (w := w) (j := j) (g := dgH (nh + 1) m w j)
          have mv := ct_move (hm := hJ n nh m (V 18) w (j + 1)) a1 ((dgH (nh + 1) m w j : Nat) : Int) ((dgH (nh + 1) m w j : Nat) : Int)
          rw [← es, if_pos rfl, h0, if_neg (by omega), ← u2] at mv
          omega
    · rw [if_neg c, Nat.add_zero] at ep
      have ed : dvH nh (dgH (nh + 1) m w j) = -1 := by unfold dvH; rw [if_neg c]
      rw [ed, s1_same h0] at es
      obtain ⟨r, U', j', l1, l2⟩ := ih (by omega) U u1 (by rw [u2, es]) u3 u4 u5
      refine ⟨r, U', j', Pl_settleAll_r27 ⟨fun z => absurd z (by omega), fun _ => ⟨by omega, by omega, ?_⟩⟩, l2⟩
      rw [emod, eqI_o ediv, eqI_o ej, e3]
      refine ⟨fun _ => ?_, fun z => absurd z (by omega)⟩
      rw [← ep]; exact l1
theorem ct_settleAll {N : Nat} {X : Nat → Int} {d : Nat} {V : am_U} {b ns nh nl nw nd cl n m w : Nat} {as : Nat → Nat} {wm : Int} (hc : jCtx V b ns nh nl nw nd cl n) (hy : plY V (V 18) n m as wm) (hw : w < 100000) : ∃ r U' j', EvK N X (Pl_settleAll_s0 (d + 2) (w : Nat) V) (rI r U') ∧ (∀ r, r ≠ 18 → r ≠ 19 → U' r = V r) ∧ U' 18 = hJ n nh m (V 18) w j' ∧ DwOk n (U' 18) (U' 19) ∧ (∀ h, 12 ≤ h → U' 19 h = V 19 h) ∧ pplOk (V 17) (U' 18) (V 8) n nh ∧ ((j' = 0 ∧ r = (plJ nh m w 0 : Nat)) ∨ (r = -1 ∧ ¬ rmOk (V 8) n nh (hJ n nh m (V 18) w 0))) := by
  have e0 := hJ_m (nh := nh) hy.2.1 w
  obtain ⟨r, U', j', l1, l2⟩ := settleAll_l (N := N) (X := X) (d := d) hc hy hw m (Nat.le_refl m) V (fun _ _ _ => rfl) e0.symm hc.2.2.2.2 (fun _ _ => rfl) hc.2.2.2.1
  refine ⟨r, U', j', Pl_settleAll_r0 ?_, l2⟩
  have h31 := hc.1.2.2.1.1
  have hnh := hc.1.2.2.1.2.2.1
  have hm3 := hy.1
  rw [Nat.sub_self, Nat.pow_zero, Nat.div_one, plJ_m] at l1
  have eh : eqI (w32 ((if 0 < V 3 1 then V 3 1 else 0) + 1)) ((nh + 1 : Nat) : Int) := by
    show _ = _
    rw [h31]
    by_cases c : (0 : Int) < ((nh : Nat) : Int)
    · rw [if_pos c, w32_succ (by omega)]
    · rw [if_neg c, w32_eq (by omega) (by omega)]; omega
  rw [eqI_o eh, hy.2.2.1, w32_eq (by omega) (by omega)]
  exact l1
theorem sendBack_l {N : Nat} {X : Nat → Int} {d n m : Nat} {hm dw0 : Nat → Int} {as : Nat → Nat} {wm : Int} (hn : n ≤ 16) (hdw : DwOk n hm dw0) : ∀ k i : Nat, i + k = m → ∀ U : am_U, plY U hm n m as wm → tryOk n hm (U 18) → (∀ p, p < n → -1 ≤ U 18 p ∧ U 18 p < 12) → (∀ p, p < n → hm p = -1 → rkW hm p < i → U 18 p = -1) → DwOk n (U 18) (U 19) → (∀ h, 12 ≤ h → U 19 h = dw0 h) → ∃ U', EvK N X (Pl_sendBack_s2 (d + 1) (i : Nat) U) (rV U') ∧ (∀ r, r ≠ 18 → r ≠ 19 → U' r = U r) ∧ U' 18 = hm ∧ U' 19 = dw0 := by
  intro k
  induction k with
  | zero =>
    intro i hi U hy ht hr h1 h2 h3
    obtain rfl : i = m := by omega
    have e18 : U 18 = hm := funext fun p => by
      by_cases c : p < n ∧ hm p = -1
      · rw [h1 p c.1 c.2 (as_one hy.2.1 c.1 c.2).1, c.2]
      · exact ht p c
    refine ⟨U, Pl_sendBack_r2 ⟨fun _ => rfl, fun z => absurd z (by rw [hy.2.2.1]; omega)⟩, fun _ _ _ => rfl, e18, funext fun h => ?_⟩
    rcases Nat.lt_or_ge h 12 with q | q
    · rw [e18] at h2; exact dw_one h2 hdw q
    · exact h3 h q
  | succ k ih =>
    intro i hi U hy ht hr h1 h2 h3
    obtain ⟨a1, a2, a3⟩ := hy.2.1.2 i (by omega)
    obtain ⟨U1, k1, k2, k3, k4, k5⟩ := ct_settle_16 (N := N) (X := X) (d := d) (U := U) (n := n) (p := as i) (hs := -1) a1 hn (by omega) (hr (as i) a1)
    obtain ⟨U', l1, l2, l3⟩ := ih (i + 1) (by omega) U1 (plY_cg (by rw [k5 48 (by decide) (by decide)]) (by rw [k5 48 (by decide) (by decide)]) (k5 49 (by decide) (by decide)) hy) (fun p hp => by
        rw [k2]
        by_cases c : p = as i
        · exact absurd ⟨by rw [c]; exact a1, by rw [c]; exact a2⟩ hp
        · rw [s1_ne c]; exact ht p hp) (fun p hp => by
        rw [k2]
        by_cases c : p = as i
        · rw [c, s1_at]; omega
        · rw [s1_ne c]; exact hr p hp) (fun p hp q1 q2 => by
        rw [k2]
        by_cases c : p = as i
        · rw [c, s1_at]
        · rw [s1_ne c]
          refine h1 p hp q1 ?_
          have o := as_one hy.2.1 hp q1
          have : rkW hm p ≠ i := fun e => c (by rw [← o.2, e])
          omega) (k3 h2) (fun h hh => by rw [k4 h hh, h3 h hh])
    have hm3 := hy.1
    refine ⟨U', Pl_sendBack_r2 ⟨fun z => absurd z (by rw [hy.2.2.1]; omega), fun _ => ⟨by omega, U1, ?_, ?_⟩⟩, fun r q1 q2 => by rw [l2 r q1 q2, k5 r q1 q2], l3⟩
    · rw [Int.toNat_natCast, hy.2.2.2.2.2 i (by omega)]; exact k1
    · rw [w32_succ (i := i) (by omega)]; exact l1
theorem ct_sendBack {N : Nat} {X : Nat → Int} {d n m : Nat} {hm dw0 : Nat → Int} {as : Nat → Nat} {wm : Int} {U : am_U} (hn : n ≤ 16) (hdw : DwOk n hm dw0) (hy : plY U hm n m as wm) (ht : tryOk n hm (U 18)) (hr : ∀ p, p < n → -1 ≤ U 18 p ∧ U 18 p < 12) (h2 : DwOk n (U 18) (U 19)) (h3 : ∀ h, 12 ≤ h → U 19 h = dw0 h) : ∃ U', EvK N X (Pl_sendBack_s0 (d + 1) U) (rV U') ∧ (∀ r, r ≠ 18 → r ≠ 19 → U' r = U r) ∧ U' 18 = hm ∧ U' 19 = dw0 := by
  obtain ⟨U', k1, k2⟩ := sendBack_l (N := N) (X := X) (d := d) hn hdw m 0 (by omega) U hy ht hr (fun p _ _ z => absurd z (Nat.not_lt_zero _)) h2 h3
  exact ⟨U', Pl_sendBack_r0 k1, k2⟩
/-! how those who were housed before get on -/
def fL (U U' : am_U) : Prop := ∀ r j, r ≠ 46 → (r = 45 → j ≠ 3) → r ≠ 51 → U' r j = U r j
theorem fL_trans {U U1 U2 : am_U} (h1 : fL U U1) (h2 : fL U1 U2) : fL U U2 := fun r j a b c => by rw [h2 r j a b c, h1 r j a b c]
theorem fL_row {U U' : am_U} (h : fL U U') {r : Nat} (h1 : r ≠ 46) (h2 : r ≠ 45) (h3 : r ≠ 51) : U' r = U r := funext fun j => h r j h1 (fun e => absurd e h2) h3
theorem agrC_fL {U U' : am_U} (h : fL U U') : agrC U U' := fun r j e => h r j (fun q => by subst q; simp [scrC, scr] at e) (fun q _ => by subst q; simp [scrC] at e) (fun q => by subst q; simp [scrC] at e)
theorem plY_fL {U U' : am_U} {hm : Nat → Int} {n m : Nat} {as : Nat → Nat} {wm : Int} (h : fL U U') (hy : plY U hm n m as wm) : plY U' hm n m as wm := plY_cg (by rw [fL_row h (by decide) (by decide) (by decide)]) (by rw [fL_row h (by decide) (by decide) (by decide)]) (fL_row h (by decide) (by decide) (by decide)) hy
def mdOk (U W : am_U) (b nl nw n nh : Nat) (hm : Nat → Int) : Prop := ∀ g, g < nh → ∀ c, c ≤ 3 → U 51 (4 * g + c) = 0 ∨ (U 51 (4 * g + c) = 1 ∧ ¬ torn W b nl nw n hm g c) ∨ (U 51 (4 * g + c) = 2 ∧ torn W b nl nw n hm g c)
/-- one of those before breaks a law -/
def brk (W : am_U) (b nl n : Nat) (hm : Nat → Int) (g c me l : Nat) : Prop := hm me = (g : Nat) ∧ ∃ i, i < 32 ∧ ¬ (i < n ∧ hm i = -1) ∧ brV W b nl n hm l me i g ((fb_ct (fun p => hm p == ((g : Nat) : Int)) n + c : Nat) : Int)
def brA2 (W : am_U) (b nl nw n : Nat) (hm : Nat → Int) (g c me0 l0 : Nat) : Prop := ∃ me, me < n ∧ ∃ l, l < nw ∧ brk W b nl n hm g c me l ∧ (me < me0 ∨ (me = me0 ∧ l < l0))
theorem brA2_all {W : am_U} {b nl nw n : Nat} {hm : Nat → Int} {g c : Nat} : brA2 W b nl nw n hm g c n 0 ↔ torn W b nl nw n hm g c := by
  constructor
  · rintro ⟨me, h1, l, h2, ⟨h3, h4⟩, _⟩
    exact ⟨me, h1, h3, l, h2, h4⟩
  · rintro ⟨me, h1, h3, l, h2, h4⟩
    exact ⟨me, h1, l, h2, ⟨h3, h4⟩, Or.inl h1⟩
def mood (U : am_U) (row : Nat) (P : Prop) : Prop := (U 51 row = 2 ∧ P) ∨ (U 51 row = 1 ∧ ¬ P)
theorem mood_cg {U U' : am_U} {row : Nat} {P Q : Prop} (h : U' 51 row = U 51 row) (hp : P ↔ Q) (hm : mood U row P) : mood U' row Q := by
  unfold mood
  rw [h, ← propext hp]; exact hm
def fR (row : Nat) (U U' : am_U) : Prop := fL U U' ∧ ∀ j, j ≠ row → U' 51 j = U 51 j
theorem torn_l {N : Nat} {X : Nat → Int} {d : Nat} {U0 W : am_U} {b ns nh nl nw nd cl n m g c me row : Nat} {hm : Nat → Int} {as : Nat → Nat} {wm x3 : Int} (hc : jCtx U0 b ns nh nl nw nd cl n) (hy : plY U0 hm n m as wm) (ht : tryOk n hm (U0 18)) (hs : stq W U0) (hcc : c = cmW n hm (U0 18) g) (hrow : row < 48) (hme : me < n) (hbit : tb x3 me = true) (hg : hm me = (g : Nat)) : ∀ k l : Nat, l + k = nw → ∀ U, fR row U0 U → mood U row (brA2 W b nl nw n hm g c me l) → ∃ U', fR row U0 U' ∧ mood U' row (brA2 W b nl nw n hm g c (me + 1) 0) ∧ ∀ R, EvK N X (Pl_isTorn_s85 (d + 5) (g : Nat) (row : Nat) x3 ((me + 1 : Nat) : Int) U') R → EvK N X (Pl_isTorn_s100 (d + 5) (g : Nat) (row : Nat) x3 (me : Nat) (l : Nat) U) R := by
  have hn := hc.2.2.1
  have hw8 := hc.1.2.2.2.2.2.2.1.2.2.1
  intro k
  induction k with
  | zero =>
    intro l hl U h1 h2
    obtain rfl : l = nw := by omega
    have e34 : U 3 4 = (l : Nat) := by rw [fL_row h1.1 (by decide) (by decide) (by decide)]; exact hc.1.2.2.2.2.2.2.1.1
    refine ⟨U, h1, mood_cg rfl ?_ h2, fun R hR => Pl_isTorn_r100 ⟨fun _ => ?_, fun z => absurd z (by rw [e34]; omega)⟩⟩
    · constructor
      · rintro ⟨a, b1, b2, b3, b4, b5⟩
        exact ⟨a, b1, b2, b3, b4, by omega⟩
      · rintro ⟨a, b1, b2, b3, b4, b5⟩
        exact ⟨a, b1, b2, b3, b4, by omega⟩
    · rw [w32_succ (i := me) (by omega)]; exact hR
  | succ k ih =>
    intro l hl U h1 h2
    have gC := agrC_fL h1.1
    have hcU := jCtx_agrC gC hc
    have e34 : U 3 4 = (nw : Nat) := hcU.1.2.2.2.2.2.2.1.1
    have e18 : U 18 = U0 18 := fL_row h1.1 (by decide) (by decide) (by decide)
    have e487 : U 48 7 = wm := by rw [fL_row h1.1 (by decide) (by decide) (by decide)]; exact hy.2.2.2.1
    obtain ⟨U1, r, k1, k2, k3, k4⟩ := ct_breaks (N := N) (X := X) (d := d) (asked := am_xor wm (-1)) hcU (show l < nw by omega) hme
    have j1 : fR row U0 U1 := ⟨fL_trans h1.1 (fun r j a b' _ => k2 r j a b'), fun j hj => by rw [k2 51 j (by decide) (by omega)]; exact h1.2 j hj⟩
    have e51 : U1 51 = U 51 := jk_row k2 (by decide) (by decide)
    -- breaks tells what it should
    have key : r ≠ 0 ↔ brk W b nl n hm g c me l := by
      rw [ne_eq, r0_bits k3]
      have one : ∀ i, i < 32 → (tb r i = true ↔ ¬ (i < n ∧ hm i = -1) ∧ brV W b nl n hm l me i g ((fb_ct (fun p => hm p == ((g : Nat) : Int)) n + c : Nat) : Int)) := fun i hi => by
        rw [k4 i hi, tb_not hi, hy.2.2.2.2.1 i hi, Bool.and_eq_true, Bool.not_eq_true', decide_eq_false_iff_not, pd_iff]
        refine and_congr_right (fun hw => ?_)
        have tU : tryOk n hm (U 18) := by rw [e18]; exact ht
        rw [brP_S hcU hme, e18, brS_cg (stq_trans hs (stq_agrC gC)), brS_V ht hn hg hw, hcc]
      constructor
      · intro z
        rcases Classical.em (∃ i, i < 32 ∧ tb r i = true) with q | q
        · obtain ⟨i, i1, i2⟩ := q
          have := (one i i1).mp i2
          exact ⟨hg, i, i1, this⟩
        · exact absurd (fun i hi => Bool.eq_false_iff.mpr (fun y => q ⟨i, hi, y⟩)) z
      · rintro ⟨_, i, i1, i2⟩ z
        have := (one i i1).mpr i2
        rw [z i i1] at this; exact absurd this (by decide)
    have run : ∀ {U2 : am_U} {R}, ((r = 0 → U2 = U1) ∧ (r ≠ 0 → U2 = am_upd U1 51 row 2)) → EvK N X (Pl_isTorn_s100 (d + 5) (g : Nat) (row : Nat) x3 (me : Nat) ((l + 1 : Nat) : Int) U2) R → EvK N X (Pl_isTorn_s100 (d + 5) (g : Nat) (row : Nat) x3 (me : Nat) (l : Nat) U) R := fun {U2 R} q hR => by
      refine Pl_isTorn_r100 ⟨fun z => absurd z (by rw [e34]; omega), fun _ => ?_⟩
      rw [bit_shr (by omega), hbit, e487, w32_succ (i := l) (by omega), Int.toNat_natCast]
      refine ⟨fun z => absurd rfl z, fun _ => ⟨r, U1, k1, fun z => ?_, fun z => ⟨by omega, ?_⟩⟩⟩
      · rw [← q.1 z]; exact hR
      · rw [← q.2 z]; exact hR
    by_cases cr : r = 0
    · have nb : ¬ brk W b nl n hm g c me l := fun z => key.mpr z cr
      obtain ⟨U', l1, l2, l3⟩ := ih (l + 1) (by omega) U1 j1 (mood_cg (by rw [e51]) ⟨fun ⟨a, b1, b2, b3, b4, b5⟩ => ⟨a, b1, b2, b3, b4, by omega⟩, fun ⟨a, b1, b2, b3, b4, b5⟩ => by
        refine ⟨a, b1, b2, b3, b4, ?_⟩
        rcases b5 with z | ⟨z1, z2⟩
        · exact Or.inl z
        · refine Or.inr ⟨z1, ?_⟩
          have : b2 ≠ l := fun e => nb (by rw [← e, ← z1]; exact b4)
          omega⟩ h2)
      exact ⟨U', l1, l2, fun R hR => run ⟨fun _ => rfl, fun z => absurd cr z⟩ (l3 R hR)⟩
    · have nb := key.mp cr
      obtain ⟨U', l1, l2, l3⟩ := ih (l + 1) (by omega) (am_upd U1 51 row 2) ⟨fL_trans j1.1 (fun r j _ _ q => by rw [upd_row q]), fun j hj => by rw [upd_ne hj]; exact j1.2 j hj⟩ (Or.inl ⟨upd_at _ _ _ _, me, hme, l, by omega, nb, Or.inr ⟨rfl, by omega⟩⟩)
      exact ⟨U', l1, l2, fun R hR => run ⟨fun z => absurd z cr, fun _ => rfl⟩ (l3 R hR)⟩
theorem cm_bits {n g : Nat} {hm H dw : Nat → Int} {wm : Int} (hn : n ≤ 16) (hd : DwOk n H dw) (hg : g < 12) (hb : ∀ j, j < 32 → tb wm j = decide (j < n ∧ hm j = -1)) : fb_ct (tb (am_and (dw g) wm)) 32 = cmW n hm H g := by
  unfold cmW
  have e1 : fb_ct (tb (am_and (dw g) wm)) 32 = fb_ct (tb (am_and (dw g) wm)) n := ct_cut (by omega) (fun i h1 h2 => by
    rw [tb_and, (hd g hg).2 i h2, decide_eq_false (fun z => by omega), Bool.false_and])
  rw [e1]
  refine fb_ct_cong (fun k hk => ?_)
  rw [tb_and, (hd g hg).2 k (by omega), hb k (by omega)]
  by_cases c : hm k = -1
  · rw [decide_eq_true (p := k < n ∧ hm k = -1) ⟨hk, c⟩, Bool.and_true, wtg_iff.mpr c, Bool.true_and]
    by_cases c2 : H k = ((g : Nat) : Int)
    · rw [decide_eq_true ⟨hk, c2⟩, c2]; exact (beq_self_eq_true _).symm
    · rw [decide_eq_false (fun z => c2 z.2)]; exact (beq_eq_false_iff_ne.mpr c2).symm
  · have w0 : wtg hm k = false := Bool.eq_false_iff.mpr (fun z => c (wtg_iff.mp z))
    rw [decide_eq_false (p := k < n ∧ hm k = -1) (fun z => c z.2), Bool.and_false, w0, Bool.false_and]
theorem ct_isTorn {N : Nat} {X : Nat → Int} {d : Nat} {U W : am_U} {b ns nh nl nw nd cl n m g : Nat} {hm : Nat → Int} {as : Nat → Nat} {wm : Int} (hc : jCtx U b ns nh nl nw nd cl n) (hy : plY U hm n m as wm) (ht : tryOk n hm (U 18)) (hs : stq W U) (hmd : mdOk U W b nl nw n nh hm) (hg : g < nh) : ∃ U', EvK N X (Pl_isTorn_s0 (d + 5) (g : Nat) U) (rI (cb (torn W b nl nw n hm g (cmW n hm (U 18) g))) U') ∧ fL U U' ∧ mdOk U' W b nl nw n nh hm := by
  have hn := hc.2.2.1
  have hnh := hc.1.2.2.1.2.2.1
  have hm3 := hy.1
  have c3 := cm_le (H := U 18) hy.2.1.1 g
  have e16 : U 16 0 = (n : Nat) := hc.2.1
  have ec := cm_bits hn hc.2.2.2.2 (show g < 12 by omega) hy.2.2.2.2.1
  have erow : eqI (w32 (w32 (4 * ((g : Nat) : Int)) + ((fb_ct (tb (am_and (U 19 g) wm)) 32 : Nat) : Int))) ((4 * g + cmW n hm (U 18) g : Nat) : Int) := by
    show _ = _
    rw [ec, w32_eq (x := 4 * ((g : Nat) : Int)) (by omega) (by omega), w32_eq (by omega) (by omega)]
    omega
  have st : ∀ {R}, ((U 51 (4 * g + cmW n hm (U 18) g) = 0) → EvK N X (Pl_isTorn_s85 (d + 5) (g : Nat) ((4 * g + cmW n hm (U 18) g : Nat) : Int) (am_and (U 19 g) (am_xor wm (-1))) 0 (am_upd U 51 (4 * g + cmW n hm (U 18) g) 1)) R) ∧ ((U 51 (4 * g + cmW n hm (U 18) g) ≠ 0) → ((U 51 (4 * g + cmW n hm (U 18) g) ≠ 2) → R = rI 0 U) ∧ ((U 51 (4 * g + cmW n hm (U 18) g) = 2) → R = rI 1 U)) → EvK N X (Pl_isTorn_s0 (d + 5) (g : Nat) U) R := fun {R} q => by
    refine Pl_isTorn_r0 ⟨by omega, _, U, ct_bitCount _, ?_⟩
    rw [Int.toNat_natCast, hy.2.2.2.1, eqI_o erow, Int.toNat_natCast]
    exact ⟨fun _ => ⟨by omega, q⟩, fun z => absurd z (by omega)⟩
  rcases hmd g hg _ (show cmW n hm (U 18) g ≤ 3 by omega) with z | ⟨z1, z2⟩ | ⟨z1, z2⟩
  · -- it is asked now
    have loop : ∀ k me : Nat, me + k = n → ∀ V, fR (4 * g + cmW n hm (U 18) g) U V → mood V (4 * g + cmW n hm (U 18) g) (brA2 W b nl nw n hm g (cmW n hm (U 18) g) me 0) → ∃ U', EvK N X (Pl_isTorn_s85 (d + 5) (g : Nat) ((4 * g + cmW n hm (U 18) g : Nat) : Int) (am_and (U 19 g) (am_xor wm (-1))) (me : Nat) V) (rI (cb (torn W b nl nw n hm g (cmW n hm (U 18) g))) U') ∧ fR (4 * g + cmW n hm (U 18) g) U U' ∧ mood U' (4 * g + cmW n hm (U 18) g) (torn W b nl nw n hm g (cmW n hm (U 18) g)) := by
      intro k
      induction k with
      | zero =>
        intro me hme V v1 v2
        obtain rfl : me = n := by omega
        have e16V : V 16 0 = (me : Nat) := by rw [fL_row v1.1 (by decide) (by decide) (by decide)]; exact e16
        have v3 : mood V (4 * g + cmW me hm (U 18) g) (torn W b nl nw me hm g (cmW me hm (U 18) g)) := mood_cg rfl brA2_all v2
        refine ⟨V, Pl_isTorn_r85 ⟨fun _ => ⟨by omega, ?_⟩, fun q => absurd q (by rw [e16V]; omega)⟩, v1, v3⟩
        rw [Int.toNat_natCast]
        rcases v3 with ⟨w1, w2⟩ | ⟨w1, w2⟩
        · rw [w1, cb_t w2]; exact ⟨fun q => absurd rfl q, fun _ => rfl⟩
        · rw [w1, cb_f w2]; exact ⟨fun _ => rfl, fun q => absurd q (by decide)⟩
      | succ k ih =>
        intro me hme V v1 v2
        have e16V : V 16 0 = (n : Nat) := by rw [fL_row v1.1 (by decide) (by decide) (by decide)]; exact e16
        have eb : tb (am_and (U 19 g) (am_xor wm (-1))) me = decide (hm me = (g : Nat)) := by
          rw [tb_and, tb_not (by omega), (hc.2.2.2.2 g (by omega)).2 me (by omega), hy.2.2.2.2.1 me (by omega)]
          by_cases c : hm me = -1
          · rw [decide_eq_true (p := me < n ∧ hm me = -1) ⟨by omega, c⟩, decide_eq_false (p := hm me = (g : Nat)) (by omega)]; simp
          · rw [decide_eq_false (p := me < n ∧ hm me = -1) (fun z => c z.2), ht me (fun z => c z.2), Bool.not_false, Bool.and_true]
            exact decide_eq_decide.mpr ⟨fun z => z.2, fun z => ⟨by omega, z⟩⟩
        by_cases c : hm me = (g : Nat)
        · rw [decide_eq_true c] at eb
          obtain ⟨V1, w1, w2, w3⟩ := torn_l (N := N) (X := X) (d := d) hc hy ht hs rfl (show 4 * g + cmW n hm (U 18) g < 48 by omega) (show me < n by omega) eb c nw 0 (by omega) V v1 v2
          obtain ⟨U', l1, l2, l3⟩ := ih (me + 1) (by omega) V1 w1 w2
          exact ⟨U', Pl_isTorn_r85 ⟨fun q => absurd q (by rw [e16V]; omega), fun _ => w3 _ l1⟩, l2, l3⟩
        · rw [decide_eq_false c] at eb
          obtain ⟨U', l1, l2, l3⟩ := ih (me + 1) (by omega) V v1 (mood_cg rfl ⟨fun ⟨a, b1, b2, b3, b4, b5⟩ => ⟨a, b1, b2, b3, b4, by omega⟩, fun ⟨a, b1, b2, b3, b4, b5⟩ => by
            refine ⟨a, b1, b2, b3, b4, ?_⟩
            have : a ≠ me := fun e => c (by rw [← e]; exact b4.1)
            omega⟩ v2)
          refine ⟨U', Pl_isTorn_r85 ⟨fun q => absurd q (by rw [e16V]; omega), fun _ => Pl_isTorn_r100 ⟨fun _ => ?_, fun _ => ⟨fun _ => ?_, fun q => absurd q ?_⟩⟩⟩, l2, l3⟩
          · rw [w32_succ (i := me) (by omega)]; exact l1
          · rw [w32_succ (i := me) (by omega)]; exact l1
          · rw [bit_shr (by omega), eb]; decide
    obtain ⟨U', k1, k2, k3⟩ := loop n 0 (by omega) (am_upd U 51 (4 * g + cmW n hm (U 18) g) 1) ⟨fun r j _ _ q => by rw [upd_row q], fun j hj => by rw [upd_ne hj]⟩ (Or.inr ⟨upd_at _ _ _ _, fun ⟨a, b1, b2, b3, b4, b5⟩ => by omega⟩)
    refine ⟨U', st ⟨fun _ => k1, fun q => absurd z q⟩, k2.1, fun g' hg' c' hc' => ?_⟩
    by_cases e : 4 * g' + c' = 4 * g + cmW n hm (U 18) g
    · have e1 : g' = g := by omega
      have e2 : c' = cmW n hm (U 18) g := by omega
      rw [e, e1, e2]
      rcases k3 with q | q
      · exact Or.inr (Or.inr q)
      · exact Or.inr (Or.inl q)
    · rw [k2.2 _ e]; exact hmd g' hg' c' hc'
  · refine ⟨U, st ⟨fun q => absurd q (by omega), fun _ => ⟨fun _ => ?_, fun q => absurd q (by omega)⟩⟩, fun _ _ _ _ _ => rfl, hmd⟩
    rw [cb_f z2]
  · refine ⟨U, st ⟨fun q => absurd q (by omega), fun _ => ⟨fun q => absurd z1 q, fun _ => ?_⟩⟩, fun _ _ _ _ _ => rfl, hmd⟩
    rw [cb_t z2]
