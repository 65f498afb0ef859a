/-! breaches counted and found by the class's table -/
theorem brB_all (U : am_U) (b nl n : Nat) (hm : Nat → Int) (l me j : Nat) : brB U b nl n hm (-1) l me j = pd (brS U b nl n hm l me j) := pd_cg ⟨fun h => h.1, fun h => ⟨h, Or.inl rfl⟩⟩
theorem brS_17 {U : am_U} {b nl n : Nat} {hm : Nat → Int} {l me j : Nat} (hn : n ≤ 16) (h : brS U b nl n hm l me j) : j < 17 := by
  rcases h with ⟨-, z, -⟩ | ⟨-, ⟨z, -⟩, -⟩ <;> omega
noncomputable def cX (U : am_U) (b nl nw n : Nat) (l me : Nat) : List (Nat × Nat × Nat) := if l < nw ∧ me < n then brC U b nl n (U 18) (-1) l me else []
noncomputable def cR (U : am_U) (b nl nw n : Nat) (r : Nat) : List (Nat × Nat × Nat) := cX U b nl nw n (r / 16) (r % 16)
theorem brA_rows {U : am_U} {b nl nw n : Nat} (hw : nw ≤ 8) (hn : n ≤ 16) : brA U b nl nw n (U 18) (-1) = fr (cR U b nl nw n) 128 := by
  have h := fr_two (fun l me => cX U b nl nw n l me) 16 (by decide) 8
  have e : fr (cR U b nl nw n) 128 = fr (fun l => fr (fun me => cX U b nl nw n l me) 16) 8 := h
  rw [e]
  unfold brA
  rw [fr_cut (m := nw) (n := 8) hw (fun l a _ => fr_nil (fun me _ => by unfold cX; rw [if_neg (by omega)]))]
  refine fr_cong (fun l hl => ?_)
  rw [fr_cut (m := n) (n := 16) hn (fun me a _ => by unfold cX; rw [if_neg (by omega)])]
  refine fr_cong (fun me hme => ?_)
  unfold cX
  rw [if_pos ⟨hl, hme⟩]
/-- a row's bits are its breaches -/
theorem row_bits {U : am_U} {b nl nw n r : Nat} (hn : n ≤ 16) (ht : brT U b nl nw n 128) (hr : r < 128) : (cR U b nl nw n r).length = fb_ct (tb (U 47 r)) 32 ∧ ∀ (k : Nat) x, (cR U b nl nw n r)[k]? = some x → x.1 = r / 16 ∧ x.2.1 = r % 16 ∧ x.2.2 < 17 ∧ kth (tb (U 47 r)) (k : Nat) 32 = (x.2.2 : Nat) := by
  obtain ⟨q1, q2⟩ := ht (r / 16) (by omega) (r % 16) (by omega) (by omega)
  rw [show 16 * (r / 16) + r % 16 = r from by omega] at q1 q2
  unfold cR cX
  by_cases c : r / 16 < nw ∧ r % 16 < n
  · rw [if_pos c]
    have hb : ∀ i, i < 32 → tb (U 47 r) i = brB U b nl n (U 18) (-1) (r / 16) (r % 16) i := fun i hi => by
      rw [q2 i hi, brB_all]
      exact pd_cg ⟨fun h => h.2.2, fun h => ⟨c.1, c.2, h⟩⟩
    have hz : ∀ i, 17 ≤ i → i < 32 → tb (U 47 r) i = false := fun i a e => by
      rw [hb i e, brB_all, pd_f]
      intro h
      have := brS_17 hn h
      omega
    constructor
    · unfold brC
      rw [List.length_map, fl_len, ct_cut (m := 17) (n := 32) (by decide) hz]
      exact fb_ct_cong (fun i hi => (hb i (by omega)).symm)
    · intro k x hx
      unfold brC at hx
      rw [List.getElem?_map] at hx
      cases e : (fl (brB U b nl n (U 18) (-1) (r / 16) (r % 16)) 17)[k]? with
      | none => rw [e] at hx; simp at hx
      | some j =>
        rw [e] at hx
        simp at hx
        obtain ⟨z1, z2, z3⟩ := fl_kth e
        subst hx
        refine ⟨rfl, rfl, z2, ?_⟩
        rw [kth_cut (m := 17) (n := 32) (by decide) hz, kth_cong (fun i hi => hb i (by omega))]
        exact z1
  · rw [if_neg c]
    have hz : ∀ i, i < 32 → tb (U 47 r) i = false := fun i hi => by
      rw [q2 i hi, pd_f]
      rintro ⟨a, e, -⟩; exact c ⟨a, e⟩
    constructor
    · rw [fb_ct_zero.mpr hz]; rfl
    · intro k x hx; simp at hx
theorem cR_len {U : am_U} {b nl nw n : Nat} (r : Nat) : (cR U b nl nw n r).length ≤ 17 := by
  unfold cR cX
  split
  · exact brC_len _ _ _ _ _ _ _ _
  · simp
theorem frR_len {U : am_U} {b nl nw n : Nat} : ∀ i, (fr (cR U b nl nw n) i).length ≤ 17 * i
  | 0 => by simp [fr]
  | i + 1 => by
    have e : (fr (cR U b nl nw n) (i + 1)).length = (fr (cR U b nl nw n) i).length + (cR U b nl nw n i).length := by rw [fr_succ, List.length_append]
    have := frR_len (U := U) (b := b) (nl := nl) (nw := nw) (n := n) i
    have := cR_len (U := U) (b := b) (nl := nl) (nw := nw) (n := n) i
    omega
theorem cnt_l {N : Nat} {X : Nat → Int} {d : Nat} {U : am_U} {b nl nw n : Nat} (hn : n ≤ 16) (ht : brT U b nl nw n 128) : ∀ m i : Nat, i + m = 128 → EvK N X (Jg_countBreaches_s8 (d + 1) (((fr (cR U b nl nw n) i).length : Nat) : Int) (i : Nat) U) (rI (((fr (cR U b nl nw n) 128).length : Nat) : Int) U) := by
  intro m
  induction m with
  | zero =>
    intro i hi
    obtain rfl : i = 128 := by omega
    exact Jg_countBreaches_r8 ⟨fun _ => rfl, fun h => absurd h (by decide)⟩
  | succ m ih =>
    intro i hi
    have k1 := ih (i + 1) (by omega)
    have e : (fr (cR U b nl nw n) (i + 1)).length = (fr (cR U b nl nw n) i).length + fb_ct (tb (U 47 i)) 32 := by rw [fr_succ, List.length_append, (row_bits hn ht (show i < 128 by omega)).1]
    have l1 := frR_len (U := U) (b := b) (nl := nl) (nw := nw) (n := n) i
    have l2 := fb_ct_le (tb (U 47 i)) 32
    refine Jg_countBreaches_r8 ⟨fun h => absurd h (by omega), fun _ => ⟨by omega, _, _, ct_bitCount _, ?_⟩⟩
    rw [Int.toNat_natCast, w32_succ (i := i) (by omega), w32_eq (by omega) (by omega), show (((fr (cR U b nl nw n) i).length : Nat) : Int) + ((fb_ct (tb (U 47 i)) 32 : Nat) : Int) = (((fr (cR U b nl nw n) (i + 1)).length : Nat) : Int) from by omega]
    exact k1
theorem ct_countBreaches {N : Nat} {X : Nat → Int} {d : Nat} {U : am_U} {b ns nh nl nw nd cl n : Nat} (hc : jCtx U b ns nh nl nw nd cl n) (hj : iJdg U b nl nw n) : ∃ U', EvK N X (Jg_countBreaches_s0 (d + 6) U) (rI (((brA U b nl nw n (U 18) (-1)).length : Nat) : Int) U') ∧ lkp U U' ∧ iJdg U' b nl nw n := by
  obtain ⟨U', k1, k2, k3, k4⟩ := ct_look (N := N) (X := X) (d := d) hc hj
  have q := cnt_l (N := N) (X := X) (d := d + 5) hc.2.2.1 k4 128 0 (by omega)
  rw [← brA_rows hc.1.2.2.2.2.2.2.1.2.2.1 hc.2.2.1, brA_cg (stq_agrC (agrC_lkp k2)), lkp_row k2 (r := 18) (by decide) (by decide) (by decide)] at q
  exact ⟨U', Jg_countBreaches_r0 ⟨_, k1, by simpa [fr] using q⟩, k2, Or.inr ⟨k3, k4⟩⟩
def fndC (L : List (Nat × Nat × Nat)) (k : Int) : Int := if k < 0 then -1 else match L[k.toNat]? with
  | some x => ((32 * (16 * x.1 + x.2.1) + x.2.2 : Nat) : Int)
  | none => -1
theorem fnd_l {N : Nat} {X : Nat → Int} {d : Nat} {U : am_U} {b nl nw n : Nat} {k0 : Int} {k : Nat} (hk : (k : Int) < 2147483648) (hn : n ≤ 16) (ht : brT U b nl nw n 128) : ∀ m i : Nat, i + m = 128 → (fr (cR U b nl nw n) i).length ≤ k → EvK N X (Jg_findBreach_s8 (d + 1) k0 (((k - (fr (cR U b nl nw n) i).length : Nat)) : Int) (i : Nat) U) (rI (fndC (fr (cR U b nl nw n) 128) (k : Nat)) U) := by
  intro m
  induction m with
  | zero =>
    intro i hi hle
    obtain rfl : i = 128 := by omega
    refine Jg_findBreach_r8 ⟨fun _ => ?_, fun h => absurd h (by decide)⟩
    unfold fndC
    rw [if_neg (by omega), Int.toNat_natCast, List.getElem?_eq_none hle]
  | succ m ih =>
    intro i hi hle
    obtain ⟨c1, c2⟩ := row_bits hn ht (show i < 128 by omega)
    have e : (fr (cR U b nl nw n) (i + 1)).length = (fr (cR U b nl nw n) i).length + fb_ct (tb (U 47 i)) 32 := by rw [fr_succ, List.length_append, c1]
    refine Jg_findBreach_r8 ⟨fun h => absurd h (by omega), fun _ => ⟨fun h => absurd h (by omega), fun _ => ⟨by omega, _, _, ct_bitCount _, fun h => ?_, fun h => ?_⟩⟩⟩
    · rw [Int.toNat_natCast] at h ⊢
      have k1 := ih (i + 1) (by omega) (by omega)
      rw [w32_succ (i := i) (by omega), w32_eq (by omega) (by omega), show (((k - (fr (cR U b nl nw n) i).length : Nat)) : Int) - ((fb_ct (tb (U 47 i)) 32 : Nat) : Int) = (((k - (fr (cR U b nl nw n) (i + 1)).length : Nat)) : Int) from by omega]
      exact k1
    · rw [Int.toNat_natCast] at h ⊢
      refine ⟨_, _, ct_bitAt _ _ (by omega), ?_⟩
      have hlt : k - (fr (cR U b nl nw n) i).length < (cR U b nl nw n i).length := by omega
      have e1 : (fr (cR U b nl nw n) 128)[k]? = (cR U b nl nw n i)[k - (fr (cR U b nl nw n) i).length]? := by
        rw [show (128 : Nat) = (i + 1) + (128 - (i + 1)) from by omega, fr_split, fr_succ, List.append_assoc, List.getElem?_append_right hle, List.getElem?_append_left hlt]
      have e2 : (cR U b nl nw n i)[k - (fr (cR U b nl nw n) i).length]? = some (cR U b nl nw n i)[k - (fr (cR U b nl nw n) i).length] := List.getElem?_eq_getElem hlt
      obtain ⟨z1, z2, z3, z4⟩ := c2 _ _ e2
      rw [e2] at e1
      unfold fndC
      rw [if_neg (by omega), Int.toNat_natCast, e1, z4]
      simp only
      rw [z1, z2, w32_eq (x := 32 * ((i : Nat) : Int)) (by omega) (by omega), w32_eq (by omega) (by omega)]
      have : ((32 * (16 * (i / 16) + i % 16) + ((cR U b nl nw n i)[k - (fr (cR U b nl nw n) i).length]).2.2 : Nat) : Int) = 32 * ((i : Nat) : Int) + ((((cR U b nl nw n i)[k - (fr (cR U b nl nw n) i).length]).2.2 : Nat) : Int) := by omega
      rw [this]
theorem ct_findBreach {N : Nat} {X : Nat → Int} {d : Nat} {U : am_U} {b ns nh nl nw nd cl n : Nat} (hc : jCtx U b ns nh nl nw nd cl n) (hj : iJdg U b nl nw n) (k : Int) (hk : k < 2147483648) : ∃ U', EvK N X (Jg_findBreach_s0 (d + 6) k U) (rI (fndC (brA U b nl nw n (U 18) (-1)) k) U') ∧ lkp U U' ∧ iJdg U' b nl nw n := by
  obtain ⟨U', k1, k2, k3, k4⟩ := ct_look (N := N) (X := X) (d := d) hc hj
  refine ⟨U', Jg_findBreach_r0 ⟨_, k1, ?_⟩, k2, Or.inr ⟨k3, k4⟩⟩
  by_cases c : k < 0
  · unfold fndC
    rw [if_pos c]
    exact Jg_findBreach_r8 ⟨fun _ => rfl, fun _ => ⟨fun _ => rfl, fun h => absurd h (by omega)⟩⟩
  · obtain ⟨j, rfl⟩ : ∃ j : Nat, k = j := ⟨k.toNat, by omega⟩
    have q := fnd_l (N := N) (X := X) (d := d + 5) (U := U') (k0 := (j : Nat)) (k := j) (by omega) hc.2.2.1 k4 128 0 (by omega) (by simp [fr])
    rw [← brA_rows hc.1.2.2.2.2.2.2.1.2.2.1 hc.2.2.1, brA_cg (stq_agrC (agrC_lkp k2)), lkp_row k2 (r := 18) (by decide) (by decide) (by decide)] at q
    simpa [fr] using q
/-- a question whose answer the class keeps -/
def ask3 (N : Nat) (X : Nat → Int) (K : am_U → Prop) (sD sM : am_U → am_S) (U : am_U) : Prop := ∃ r U1, EvK N X (sD U) (rI r U1) ∧ agrC U U1 ∧ K U1 ∧ ∃ U2, EvK N X (sM U1) (rI r U2) ∧ agr U1 U2
theorem tdiv_nat (a c : Nat) : Int.tdiv (a : Int) (c : Int) = ((a / c : Nat) : Int) := (Int.ofNat_tdiv a c).symm
theorem pair_breach {N : Nat} {X : Nat → Int} {d : Nat} {U : am_U} {b ns nh nl nw nd cl n : Nat} (ht : iTown U b ns nh nl nw nd cl) (hf : iFolk U n nh) (hj : iJdg U b nl nw n) (x y : Int) (hx : x < 2147483648) : ask3 N X (fun V => iJdg V b nl nw n ∧ ∃ U0, lkp U0 V ∧ U0 = U) (D_breach_s0 (d + 7) x y) (M_breach_s0 (d + 7) x y) U := by
  obtain ⟨U1, f1, f2, f3⟩ := ct_findBreach (N := N) (X := X) (d := d) (jCtx_of ht hf) hj x hx
  have ht1 := iTown_agrC (agrC_lkp f2) ht
  have hf1 := iFolk_agrC (agrC_lkp f2) hf
  obtain ⟨U2, g1, g2, g3⟩ := ct_scans (N := N) (X := X) (d := d) (w := -1) (k := x) (by decide) (mCtx_of ht1 hf1)
  rw [brA_cg (stq_agrC (agrC_lkp f2)), lkp_row f2 (r := 18) (by decide) (by decide) (by decide)] at g1 g3
  have mem : ∀ (k : Nat) (z : Nat × Nat × Nat), (brA U b nl nw n (U 18) (-1))[k]? = some z → z.1 < 8 ∧ z.2.1 < 16 ∧ z.2.2 < 17 := fun k z hz => by
    obtain ⟨l, me, j⟩ := z
    obtain ⟨a1, a2, a3, -⟩ := mem_brA.mp (List.mem_of_getElem? hz)
    have := ht.2.2.2.2.2.2.1.2.2.1
    have := hf.1.2.2
    exact ⟨show l < 8 by omega, show me < 16 by omega, a3⟩
  generalize brA U b nl nw n (U 18) (-1) = L at *
  by_cases c : 0 ≤ x ∧ x < (L.length : Nat)
  · obtain ⟨k, rfl⟩ : ∃ k : Nat, x = k := ⟨x.toNat, by omega⟩
    have hk : k < L.length := by omega
    have e1 : L[k]? = some L[k] := List.getElem?_eq_getElem hk
    obtain ⟨m1, m2, m3⟩ := mem k _ e1
    obtain ⟨s1, s2, s3⟩ := g3.2 k L[k] rfl e1
    have ef : fndC L (k : Nat) = ((32 * (16 * (L[k]).1 + (L[k]).2.1) + (L[k]).2.2 : Nat) : Int) := by
      unfold fndC
      rw [if_neg (by omega), Int.toNat_natCast, e1]
    rw [ef] at f1
    clear ef
    generalize L[k] = z at *
    obtain ⟨l, me, j⟩ := z
    simp only at *
    have dD : ∀ r : Int, (y = 0 → r = (l : Nat)) → (y = 1 → r = (me : Nat)) → (y = 2 → r = (if j = 16 then -1 else ((j : Nat) : Int))) → (¬ y = 0 ∧ ¬ y = 1 ∧ ¬ y = 2 → r = -1) → EvK N X (D_breach_s0 (d + 7) (k : Nat) y U) (rI r U1) := by
      intro r q0 q1 q2 q3
      refine D_breach_r0 ⟨_, _, f1, fun _ => ⟨fun h => ⟨_, _, Jg_lawOf_r0 rfl, ?_⟩, fun h => ⟨_, _, Jg_meOf_r0 rfl, ?_⟩, fun h => ⟨r, U1, Jg_otherOf_r0 ?_, rfl⟩, fun h => by rw [q3 h]⟩, fun h => absurd h (by omega)⟩
      · rw [show Int.tdiv (((32 * (16 * l + me) + j : Nat)) : Int) 32 = (((32 * (16 * l + me) + j) / 32 : Nat) : Int) from tdiv_nat _ 32, w32_eq (x := (((32 * (16 * l + me) + j) / 32 : Nat) : Int)) (by omega) (by omega), show Int.tdiv ((((32 * (16 * l + me) + j) / 32 : Nat)) : Int) 16 = (((32 * (16 * l + me) + j) / 32 / 16 : Nat) : Int) from tdiv_nat _ 16, w32_eq (by omega) (by omega), q0 h, show (32 * (16 * l + me) + j) / 32 / 16 = l from by omega]
      · rw [show Int.tdiv (((32 * (16 * l + me) + j : Nat)) : Int) 32 = (((32 * (16 * l + me) + j) / 32 : Nat) : Int) from tdiv_nat _ 32, w32_eq (x := (((32 * (16 * l + me) + j) / 32 : Nat) : Int)) (by omega) (by omega), show Int.tmod ((((32 * (16 * l + me) + j) / 32 : Nat)) : Int) 16 = (((32 * (16 * l + me) + j) / 32 % 16 : Nat) : Int) from tmod_nat _ 16, q1 h, show (32 * (16 * l + me) + j) / 32 % 16 = me from by omega]
      · rw [show Int.tmod (((32 * (16 * l + me) + j : Nat)) : Int) 32 = (((32 * (16 * l + me) + j) % 32 : Nat) : Int) from tmod_nat _ 32, show (32 * (16 * l + me) + j) % 32 = j from by omega, q2 h]
        refine ⟨fun z => by rw [if_neg (by omega)], fun z => by rw [if_pos (by omega)]⟩
    have dM : ∀ r : Int, (y = 0 → r = (l : Nat)) → (y = 1 → r = (me : Nat)) → (y = 2 → r = (if j = 16 then -1 else ((j : Nat) : Int))) → (¬ y = 0 ∧ ¬ y = 1 ∧ ¬ y = 2 → r = -1) → ∃ U2, EvK N X (M_breach_s0 (d + 7) (k : Nat) y U1) (rI r U2) ∧ agr U1 U2 := by
      intro r q0 q1 q2 q3
      by_cases cy : 0 ≤ y ∧ y ≤ 2
      · refine ⟨U2, M_breach_r0 ⟨fun h => absurd h (by omega), fun _ => ⟨_, _, M_is1 cy, fun h => absurd h (by decide), fun _ => ⟨_, _, g1, fun _ => ⟨fun h => ⟨fun h2 => ?_, fun h2 => ?_⟩, fun h => ?_⟩, fun h => absurd h (by omega)⟩⟩⟩, agr_sk g2⟩
        · rw [q2 (by omega), s3]
        · rw [q1 h2, s2]
        · rw [q0 h, s1]
      · refine ⟨U1, M_breach_r0 ⟨fun h => absurd h (by omega), fun _ => ⟨_, _, M_is0 cy, fun _ => by rw [q3 (by omega)], fun h => absurd rfl h⟩⟩, agr_refl _⟩
    have fin : ∀ r, (y = 0 → r = ((l : Nat) : Int)) → (y = 1 → r = ((me : Nat) : Int)) → (y = 2 → r = (if j = 16 then -1 else ((j : Nat) : Int))) → (¬ y = 0 ∧ ¬ y = 1 ∧ ¬ y = 2 → r = -1) → ask3 N X (fun V => iJdg V b nl nw n ∧ ∃ U0, lkp U0 V ∧ U0 = U) (D_breach_s0 (d + 7) (k : Nat) y) (M_breach_s0 (d + 7) (k : Nat) y) U := fun r a0 a1 a2 a3 => by
      obtain ⟨U3, z1, z2⟩ := dM r a0 a1 a2 a3
      exact ⟨r, U1, dD r a0 a1 a2 a3, agrC_lkp f2, ⟨f3, U, f2, rfl⟩, U3, z1, z2⟩
    by_cases y0 : y = 0
    · exact fin _ (fun _ => rfl) (fun h => by omega) (fun h => by omega) (fun h => absurd y0 h.1)
    by_cases y1 : y = 1
    · exact fin _ (fun h => by omega) (fun _ => rfl) (fun h => by omega) (fun h => absurd y1 h.2.1)
    by_cases y2 : y = 2
    · exact fin _ (fun h => by omega) (fun h => by omega) (fun _ => rfl) (fun h => absurd y2 h.2.2)
    · exact fin (-1) (fun h => absurd h y0) (fun h => absurd h y1) (fun h => absurd h y2) (fun _ => rfl)
  · have ef : fndC L x = -1 := by
      unfold fndC
      by_cases cx : x < 0
      · rw [if_pos cx]
      · rw [if_neg cx, List.getElem?_eq_none (by omega)]
    rw [ef] at f1
    have dD : EvK N X (D_breach_s0 (d + 7) x y U) (rI (-1) U1) := D_breach_r0 ⟨_, _, f1, fun h => absurd h (by decide), fun _ => rfl⟩
    have dM : ∃ U2, EvK N X (M_breach_s0 (d + 7) x y U1) (rI (-1) U2) ∧ agr U1 U2 := by
      by_cases cx : x < 0
      · exact ⟨U1, M_breach_r0 ⟨fun _ => rfl, fun h => absurd h (by omega)⟩, agr_refl _⟩
      · by_cases cy : 0 ≤ y ∧ y ≤ 2
        · exact ⟨U2, M_breach_r0 ⟨fun h => absurd h cx, fun _ => ⟨_, _, M_is1 cy, fun h => absurd h (by decide), fun _ => ⟨_, _, g1, fun h => absurd c (by omega), fun _ => rfl⟩⟩⟩, agr_sk g2⟩
        · exact ⟨U1, M_breach_r0 ⟨fun _ => rfl, fun _ => ⟨_, _, M_is0 cy, fun _ => rfl, fun h => absurd rfl h⟩⟩, agr_refl _⟩
    obtain ⟨U3, z1, z2⟩ := dM
    exact ⟨-1, U1, dD, agrC_lkp f2, ⟨f3, U, f2, rfl⟩, U3, z1, z2⟩
