/-! struck: both count alike -/
def frR (U U' : am_U) (R : Nat) : Prop := ∀ r, r ≠ R → U' r = U r
theorem agr_134 {U U' : am_U} (h : frR U U' 134) : agr U U' := fun r j e => by
  rw [h r (fun q => by subst q; simp [scr] at e)]
theorem M_str_in {N : Nat} {X : Nat → Int} {d : Nat} {U : am_U} {n S : Nat} {f : Nat → Int} {E : Nat → Nat} (hn : n ≤ 12) (hS0 : 0 < S) (hS : S < 2 ^ n) (hb : ∀ k, k < n → -160000 ≤ f k ∧ f k ≤ 160000) (hnet : ∀ h, h < n → EvK N X (M_netOf_s0 d (h : Nat) U) (rI (f h) U)) (hE : isE f n E S) (hU : ∀ t, t < S → U 134 t = (E t : Nat)) : ∀ m h : Nat, h + m = n → ∀ R, EvK N X (M_struck_s19 (d + 1) (n : Nat) ((S + 1 : Nat) : Int) (am_upd U 134 S ((mxE E S n + (if smE f S n = 0 then 1 else 0) : Nat) : Int))) R → EvK N X (M_struck_s34 (d + 1) (n : Nat) (S : Nat) (smE f S h) ((mxE E S h : Nat) : Int) (h : Nat) U) R := by
  have hS12 : S < 4096 := Nat.lt_of_lt_of_le hS (Nat.pow_le_pow_right (by decide) hn : 2 ^ n ≤ 2 ^ 12)
  have mx12 : ∀ h, h ≤ n → mxE E S h ≤ 12 := fun h hh => mxE_le (fun g g1 g2 => isE_12 hE hn (clr_lt g2) (by have := clr_lt g2; omega))
  intro m
  induction m with
  | zero =>
    intro h hh R k1
    obtain rfl : h = n := by omega
    have b1 := mx12 h (Nat.le_refl h)
    refine M_struck_r34 ⟨fun _ => ⟨fun c => ⟨by omega, ?_⟩, fun c => ⟨by omega, ?_⟩⟩, fun z => absurd z (by omega)⟩
    · rw [if_neg c] at k1
      rw [Int.toNat_natCast, w32_0 (by omega) (by omega), w32_succ (i := S) (by omega)]; exact k1
    · rw [if_pos c] at k1
      rw [Int.toNat_natCast, w32_succ (i := mxE E S h) (by omega), w32_succ (i := S) (by omega)]; exact k1
  | succ m ih =>
    intro h hh R k1
    have k2 := ih (h + 1) (by omega) R k1
    have sb := smE_bd (S := S) (n := h) (fun k hk => hb k (by omega))
    have fb := hb h (by omega)
    rw [smE_s, mxE_s] at k2
    refine M_struck_r34 ⟨fun z => absurd z (by omega), fun _ => ?_⟩
    rw [bit_nat (by omega) (by omega), and_clr (by omega) (by omega), w32_succ (i := h) (by omega)]
    by_cases c : S.testBit h = true
    · have cl := clr_lt c
      rw [if_pos c, if_pos c] at k2
      rw [if_pos c]
      refine ⟨fun _ => ⟨_, _, hnet h (by omega), by omega, fun q => ?_, fun q => ?_⟩, fun z => absurd z (by decide)⟩
      · rw [Int.toNat_natCast, hU _ cl] at q
        rw [if_neg (by omega)] at k2
        rw [w32_eq (x := smE f S h + f h) (by omega) (by omega)]; exact k2
      · rw [Int.toNat_natCast, hU _ cl] at q
        rw [if_pos (by omega)] at k2
        rw [Int.toNat_natCast, hU _ cl, w32_eq (x := smE f S h + f h) (by omega) (by omega)]; exact k2
    · rw [if_neg c, if_neg c] at k2
      rw [if_neg c]
      exact ⟨fun z => absurd rfl z, fun _ => k2⟩
theorem two_lt {n : Nat} (hn : n ≤ 12) : 2 ^ n ≤ 4096 := (Nat.pow_le_pow_right (by decide) hn : 2 ^ n ≤ 2 ^ 12)
theorem M_str_out {N : Nat} {X : Nat → Int} {d : Nat} {U0 : am_U} {n : Nat} {f : Nat → Int} (hn : n ≤ 12) (hb : ∀ k, k < n → -160000 ≤ f k ∧ f k ≤ 160000) (hnet : ∀ U, frR U0 U 134 → ∀ h, h < n → EvK N X (M_netOf_s0 d (h : Nat) U) (rI (f h) U)) : ∀ m S : Nat, S + m = 2 ^ n → 0 < S → ∀ U E, frR U0 U 134 → isE f n E S → (∀ t, t < S → U 134 t = (E t : Nat)) → ∃ U' E', EvK N X (M_struck_s19 (d + 1) (n : Nat) (S : Nat) U) (rI (((n : Nat) : Int) - ((E' (2 ^ n - 1) : Nat) : Int)) U') ∧ frR U0 U' 134 ∧ isE f n E' (2 ^ n) := by
  have h4 := two_lt hn
  intro m
  induction m with
  | zero =>
    intro S hm hS0 U E h1 h2 h3
    obtain rfl : S = 2 ^ n := by omega
    have b1 := isE_12 h2 hn (S := 2 ^ n - 1) (by omega) (by omega)
    refine ⟨U, E, M_struck_r19 ?_, h1, h2⟩
    rw [shl1 (by omega), w32_eq (x := ((2 ^ n : Nat) : Int) - 1) (by omega) (by omega), show (((2 ^ n : Nat) : Int) - 1).toNat = 2 ^ n - 1 from by omega, h3 _ (by omega), w32_eq (x := ((n : Nat) : Int) - ((E (2 ^ n - 1) : Nat) : Int)) (by omega) (by omega)]
    exact ⟨fun _ => ⟨by omega, rfl⟩, fun z => absurd z (by omega)⟩
  | succ m ih =>
    intro S hm hS0 U E h1 h2 h3
    obtain ⟨U', E', k1, k2⟩ := ih (S + 1) (by omega) (by omega) (am_upd U 134 S ((mxE E S n + (if smE f S n = 0 then 1 else 0) : Nat) : Int)) (fun t => if t = S then mxE E S n + (if smE f S n = 0 then 1 else 0) else E t) (fun r q => by rw [upd_row q]; exact h1 r q) (isE_step h2 hS0 rfl) (fun t ht => by
      rw [upd_if]
      by_cases c : t = S
      · rw [if_pos c, if_pos c]
      · rw [if_neg c, if_neg c]; exact h3 t (by omega))
    refine ⟨U', E', M_struck_r19 ?_, k2⟩
    rw [shl1 (by omega)]
    exact ⟨fun z => absurd z (by omega), fun _ => M_str_in hn hS0 (by omega) hb (hnet U h1) h2 h3 n 0 (by omega) _ k1⟩
/-! the class -/
def tbE (f : Nat → Int) (m : Nat) (E : Nat → Nat) (t : Nat) : Int := 16 * smE f t m + ((E t : Nat) : Int)
theorem D_fill {N : Nat} {X : Nat → Int} {d : Nat} {U : am_U} {m S : Nat} {f : Nat → Int} {E : Nat → Nat} (hm : m ≤ 12) (hS0 : 0 < S) (hS : S < 2 ^ m) (hb : ∀ k, k < m → -160000 ≤ f k ∧ f k ≤ 160000) (hf : ∀ k, k < m → U 11 k = f k) (hE : isE f m E S) (hU : ∀ t, t < S → U 44 t = tbE f m E t) : ∀ k h : Nat, h + k = m → ∀ x5, (x5 = smE f S m ∨ (x5 = 0 ∧ ∀ g, g < h → S.testBit g = false)) → EvK N X (Tw_fillSet_s9 (d + 1) (S : Nat) (m : Nat) ((mxE E S h : Nat) : Int) x5 (h : Nat) U) (rV (am_upd U 44 S (16 * smE f S m + ((mxE E S m + (if smE f S m = 0 then 1 else 0) : Nat) : Int)))) := by
  have hS12 : S < 4096 := Nat.lt_of_lt_of_le hS (two_lt hm)
  have mx12 : ∀ h, h ≤ m → mxE E S h ≤ 12 := fun h hh => mxE_le (fun g g1 g2 => isE_12 hE hm (clr_lt g2) (by have := clr_lt g2; omega))
  have sbd : ∀ t, -2000000 ≤ smE f t m ∧ smE f t m ≤ 2000000 := fun t => by have := smE_bd (S := t) hb; omega
  intro k
  induction k with
  | zero =>
    intro h hh x5 hx
    obtain rfl : h = m := by omega
    have b1 := mx12 h (Nat.le_refl h)
    have b2 := sbd S
    have ex : x5 = smE f S h := by
      rcases hx with q | ⟨-, q⟩
      · exact q
      · obtain ⟨g, g1, g2⟩ := some_bit hS0 hS
        rw [q g g1] at g2; exact absurd g2 (by decide)
    subst ex
    refine Tw_fillSet_r9 ⟨fun _ => ⟨fun c => ⟨by omega, ?_⟩, fun c => ⟨by omega, ?_⟩⟩, fun z => absurd z (by omega)⟩
    · rw [if_neg c, Int.toNat_natCast, w32_eq (x := smE f S h * 16) (by omega) (by omega), w32_eq (by omega) (by omega), Nat.add_zero, Int.mul_comm]
    · rw [if_pos c, Int.toNat_natCast, w32_eq (x := smE f S h * 16) (by omega) (by omega), w32_succ (i := mxE E S h) (by omega), w32_eq (by omega) (by omega), Int.mul_comm]
  | succ k ih =>
    intro h hh x5 hx
    refine Tw_fillSet_r9 ⟨fun z => absurd z (by omega), fun _ => ?_⟩
    rw [bit_nat (by omega) (by omega), and_clr (by omega) (by omega), w32_succ (i := h) (by omega)]
    by_cases c : S.testBit h = true
    · have cl := clr_lt c
      have e12 := isE_12 hE hm cl (by omega)
      have b2 := sbd (clr S h)
      have fbd := hb h (by omega)
      have k2 := ih (h + 1) (by omega) (smE f S m) (Or.inl rfl)
      rw [mxE_s, if_pos c] at k2
      have sc := smE_clr (f := f) c (n := m)
      rw [if_pos (by omega)] at sc
      rw [if_pos c]
      refine ⟨fun z => absurd rfl z, fun _ => ⟨by omega, by omega, ?_⟩⟩
      rw [Int.toNat_natCast, Int.toNat_natCast, hU _ cl, hf h (by omega)]
      unfold tbE
      rw [and15 (by omega), shr4 (by omega) (by omega), w32_eq (x := smE f (clr S h) m + f h) (by omega) (by omega), sc]
      have ei : (if ((mxE E S h : Nat) : Int) < ((E (clr S h) : Nat) : Int) then ((E (clr S h) : Nat) : Int) else ((mxE E S h : Nat) : Int)) = ((if mxE E S h < E (clr S h) then E (clr S h) else mxE E S h : Nat) : Int) := by
        by_cases q : mxE E S h < E (clr S h)
        · rw [if_pos q, if_pos (by omega)]
        · rw [if_neg q, if_neg (by omega)]
      rw [ei]; exact k2
    · have k2 := ih (h + 1) (by omega) x5 (by
        rcases hx with q | ⟨q1, q2⟩
        · exact Or.inl q
        · refine Or.inr ⟨q1, fun g hg => ?_⟩
          by_cases e : g = h
          · rw [e]; exact Bool.eq_false_iff.mpr c
          · exact q2 g (by omega))
      rw [mxE_s, if_neg c] at k2
      rw [if_neg c]
      exact ⟨fun _ => k2, fun z => absurd z (by decide)⟩
theorem D_str_out {N : Nat} {X : Nat → Int} {d : Nat} {U0 : am_U} {n : Nat} {f : Nat → Int} (hn : n ≤ 12) (hb : ∀ k, k < n → -160000 ≤ f k ∧ f k ≤ 160000) (hf : ∀ k, k < n → U0 11 k = f k) : ∀ m S : Nat, S + m = 2 ^ n → 0 < S → ∀ U E, frR U0 U 44 → isE f n E S → (∀ t, t < S → U 44 t = tbE f n E t) → ∃ U' E', EvK N X (Tw_fewestPayments_s58 (d + 2) (n : Nat) (S : Nat) U) (rI (((n : Nat) : Int) - ((E' (2 ^ n - 1) : Nat) : Int)) U') ∧ frR U0 U' 44 ∧ isE f n E' (2 ^ n) := by
  have h4 := two_lt hn
  intro m
  induction m with
  | zero =>
    intro S hm hS0 U E h1 h2 h3
    obtain rfl : S = 2 ^ n := by omega
    have b1 := isE_12 h2 hn (S := 2 ^ n - 1) (by omega) (by omega)
    refine ⟨U, E, Tw_fewestPayments_r58 ?_, h1, h2⟩
    rw [shl1 (by omega), w32_eq (x := ((2 ^ n : Nat) : Int) - 1) (by omega) (by omega), show (((2 ^ n : Nat) : Int) - 1).toNat = 2 ^ n - 1 from by omega, h3 _ (by omega)]
    unfold tbE
    rw [and15 (by omega), w32_eq (x := ((n : Nat) : Int) - ((E (2 ^ n - 1) : Nat) : Int)) (by omega) (by omega)]
    exact ⟨fun _ => ⟨by omega, rfl⟩, fun z => absurd z (by omega)⟩
  | succ m ih =>
    intro S hm hS0 U E h1 h2 h3
    obtain ⟨U', E', k1, k2⟩ := ih (S + 1) (by omega) (by omega) (am_upd U 44 S (16 * smE f S n + ((mxE E S n + (if smE f S n = 0 then 1 else 0) : Nat) : Int))) (fun t => if t = S then mxE E S n + (if smE f S n = 0 then 1 else 0) else E t) (fun r q => by rw [upd_row q]; exact h1 r q) (isE_step h2 hS0 rfl) (fun t ht => by
      rw [upd_if]
      show _ = 16 * smE f t n + (((if t = S then mxE E S n + (if smE f S n = 0 then 1 else 0) else E t) : Nat) : Int)
      by_cases c : t = S
      · rw [if_pos c, if_pos c, c]
      · rw [if_neg c, if_neg c]; exact h3 t (by omega))
    refine ⟨U', E', Tw_fewestPayments_r58 ?_, k2⟩
    rw [shl1 (by omega), w32_succ (i := S) (by omega)]
    exact ⟨fun z => absurd z (by omega), fun _ => ⟨_, Tw_fillSet_r0 (D_fill hn hS0 (by omega) hb (fun k hk => by rw [h1 11 (by decide)]; exact hf k hk) h2 h3 n 0 (by omega) 0 (Or.inr ⟨rfl, fun g hg => absurd hg (Nat.not_lt_zero g)⟩)), k1⟩⟩
theorem D_str_first {N : Nat} {X : Nat → Int} {d : Nat} {U0 : am_U} {n : Nat} {f : Nat → Int} (hn : n ≤ 12) (h31 : U0 3 1 = (n : Nat)) (hf : ∀ k, k < n → U0 10 k = f k) : ∀ m h : Nat, h + m = n → ∀ U, frR U0 U 11 → (∀ k, k < h → nz f k = true → U 11 (rkE f k) = f k) → ∃ U', frR U0 U' 11 ∧ (∀ k, k < n → nz f k = true → U' 11 (rkE f k) = f k) ∧ ∀ R, EvK N X (Tw_fewestPayments_s58 (d + 1) ((rkE f n : Nat) : Int) 1 (am_upd U' 44 0 0)) R → EvK N X (Tw_fewestPayments_s4 (d + 1) ((rkE f h : Nat) : Int) (h : Nat) U) R := by
  have rl : ∀ k, rkE f k ≤ k := fun k => fb_ct_le _ k
  intro m
  induction m with
  | zero =>
    intro h hh U h1 h2
    obtain rfl : h = n := by omega
    have := rl h
    have p := two_lt (show rkE f h ≤ 12 by omega)
    refine ⟨U, h1, h2, fun R k1 => Tw_fewestPayments_r4 ?_⟩
    rw [h1 3 (by decide), h31, shl1 (by omega)]
    exact ⟨fun _ => ⟨fun _ => k1, fun z => absurd z (by omega)⟩, fun z => absurd z (by omega)⟩
  | succ m ih =>
    intro h hh U h1 h2
    have := rl h
    have u10 : U 10 h = f h := by rw [h1 10 (by decide)]; exact hf h (by omega)
    by_cases c : f h = 0
    · have cz : nz f h = false := by unfold nz; rw [c]; rfl
      obtain ⟨U', k1, k2, k3⟩ := ih (h + 1) (by omega) U h1 (fun k hk hz => by
        by_cases e : k = h
        · rw [e, cz] at hz; exact absurd hz (by decide)
        · exact h2 k (by omega) hz)
      refine ⟨U', k1, k2, fun R q => Tw_fewestPayments_r4 ?_⟩
      have k4 := k3 R q
      rw [rkE_s, cz, if_neg (by decide), Nat.add_zero] at k4
      rw [h1 3 (by decide), h31, Int.toNat_natCast, u10, w32_succ (i := h) (by omega)]
      exact ⟨fun z => absurd z (by omega), fun _ => ⟨by omega, fun _ => k4, fun z => absurd c z⟩⟩
    · have cz : nz f h = true := by unfold nz; simpa using c
      obtain ⟨U', k1, k2, k3⟩ := ih (h + 1) (by omega) (am_upd U 11 (rkE f h) (f h)) (fun r q => by rw [upd_row q]; exact h1 r q) (fun k hk hz => by
        rw [upd_if]
        by_cases e : k = h
        · rw [e, if_pos rfl]
        · have : rkE f k ≠ rkE f h := fun q => e (fb_ct_kth_one hz cz q)
          rw [if_neg this]; exact h2 k (by omega) hz)
      refine ⟨U', k1, k2, fun R q => Tw_fewestPayments_r4 ?_⟩
      have k4 := k3 R q
      rw [rkE_s, cz, if_pos rfl] at k4
      rw [h1 3 (by decide), h31, Int.toNat_natCast, Int.toNat_natCast, u10, w32_succ (i := h) (by omega), w32_succ (i := rkE f h) (by omega)]
      exact ⟨fun z => absurd z (by omega), fun _ => ⟨by omega, fun z => absurd z c, fun _ => ⟨by omega, k4⟩⟩⟩
theorem pair_struck {N : Nat} {X : Nat → Int} {d : Nat} {U : am_U} {b ns nh nl nw nd cl : Nat} (ht : iTown U b ns nh nl nw nd cl) : ask2 N X (D_struck_s0 (d + 3)) (M_struck_s0 (d + 2)) U := by
  have e31 := ht.2.2.1.1
  have e90 := ht.2.2.1.2.1
  have hn := ht.2.2.1.2.2.1
  obtain ⟨d1, d2, d3, d4, d5⟩ := ht.2.2.2.2.1
  have hb : ∀ k, k < nh → -160000 ≤ U 10 k ∧ U 10 k ≤ 160000 := fun k hk => by
    rw [d5 k hk]
    have := fb_si_bound (f := fun i => (if U 108 (16 * b + i) = (k : Nat) then U 109 (16 * b + i) else 0) - (if U 107 (16 * b + i) = (k : Nat) then U 109 (16 * b + i) else 0)) (c := 9999) (by decide) (n := nd) (fun i hi => by
      have := (d4 i hi).1
      show -9999 ≤ (if U 108 (16 * b + i) = (k : Nat) then U 109 (16 * b + i) else 0) - (if U 107 (16 * b + i) = (k : Nat) then U 109 (16 * b + i) else 0) ∧ (if U 108 (16 * b + i) = (k : Nat) then U 109 (16 * b + i) else 0) - (if U 107 (16 * b + i) = (k : Nat) then U 109 (16 * b + i) else 0) ≤ 9999
      (repeat' split) <;> omega)
    omega
  have rl : rkE (U 10) nh ≤ nh := fb_ct_le _ nh
  obtain ⟨U1, a1, a2, a3⟩ := D_str_first (N := N) (X := X) (d := d + 1) (U0 := U) (f := U 10) hn e31 (fun _ _ => rfl) nh 0 (by omega) U (fun _ _ => rfl) (fun k hk => absurd hk (Nat.not_lt_zero k))
  -- what the class counts with
  have gb : ∀ k, k < rkE (U 10) nh → -160000 ≤ U1 11 k ∧ U1 11 k ≤ 160000 := fun k hk => by
    obtain ⟨i, i1, i2, i3⟩ := fb_ct_kth hk
    have := a2 i i1 i2
    have e : rkE (U 10) i = k := i3
    rw [e] at this
    rw [this]; exact hb i i1
  have p0 : 0 < 2 ^ rkE (U 10) nh := Nat.pow_pos (by decide)
  obtain ⟨U2, F, b1, b2, b3⟩ := D_str_out (N := N) (X := X) (d := d) (U0 := am_upd U1 44 0 0) (f := U1 11) (by omega) gb (fun k _ => by rw [upd_row (by decide)]) (2 ^ rkE (U 10) nh - 1) 1 (by omega) (by decide) (am_upd U1 44 0 0) (fun _ => 0) (fun _ _ => rfl) ⟨rfl, fun S h1 h2 => absurd h2 (by omega)⟩ (fun t ht => by
    obtain rfl : t = 0 := by omega
    have z : ∀ k, smE (U1 11) 0 k = 0 := fun k => by
      induction k with
      | zero => rfl
      | succ k ih => rw [smE_s, Nat.zero_testBit, if_neg (by decide)]; exact ih
    rw [upd_at]
    unfold tbE
    rw [z]; rfl)
  have dU : EvK N X (D_struck_s0 (d + 3) U) (rI (((rkE (U 10) nh : Nat) : Int) - ((F (2 ^ rkE (U 10) nh - 1) : Nat) : Int)) U2) := D_struck_r0 ⟨_, _, Tw_fewestPayments_r0 (a3 _ b1), rfl⟩
  have ag : agr U U2 := fun r j e => by
    have q1 : r ≠ 44 := fun q => by subst q; simp [scr] at e
    have q2 : r ≠ 11 := fun q => by subst q; simp [scr] at e
    rw [b2 r q1, upd_row q1, a1 r q2]
  have ht2 : iTown U2 b ns nh nl nw nd cl := iTown_agr ag ht
  have e10 : U2 10 = U 10 := funext fun j => ag 10 j rfl
  obtain ⟨U3, E, c1, c2, c3⟩ := M_str_out (N := N) (X := X) (d := d + 1) (U0 := U2) (f := U 10) hn hb (fun V hV h hh => by
    have htV : iTown V b ns nh nl nw nd cl := iTown_agr (agr_134 hV) ht2
    have := ct_M_netOf (N := N) (X := X) (d := d + 1) htV hh
    rwa [hV 10 (by decide), e10] at this) (2 ^ nh - 1) 1 (by have : 0 < 2 ^ nh := Nat.pow_pos (by decide); omega) (by decide) (am_upd U2 134 0 0) (fun _ => 0) (fun r q => upd_row q) ⟨rfl, fun S h1 h2 => absurd h2 (by omega)⟩ (fun t ht => by
    obtain rfl : t = 0 := by omega
    rw [upd_at]; rfl)
  have same := E_same c3 b3 (fun h hh hz => a2 h hh hz)
  have eq : ((rkE (U 10) nh : Nat) : Int) - ((F (2 ^ rkE (U 10) nh - 1) : Nat) : Int) = ((nh : Nat) : Int) - ((E (2 ^ nh - 1) : Nat) : Int) := by omega
  rw [eq] at dU
  refine ⟨_, U2, dU, ag, U3, M_struck_r0 ?_, agr_134 c2⟩
  rw [ht2.1.1, Int.toNat_natCast, ht2.2.2.1.2.1]
  have := ht2.1.2
  exact ⟨by omega, c1⟩
