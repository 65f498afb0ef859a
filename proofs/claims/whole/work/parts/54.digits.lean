/-! numbers digit by digit; parts -/
def isLen (v L : Nat) : Prop := 1 ≤ L ∧ v < 10 ^ L ∧ (L = 1 ∨ 10 ^ (L - 1) ≤ v)
theorem isLen_one {v L M : Nat} (h1 : isLen v L) (h2 : isLen v M) : L = M := by
  obtain ⟨a1, a2, a3⟩ := h1
  obtain ⟨b1, b2, b3⟩ := h2
  rcases Nat.lt_trichotomy L M with q | q | q
  · have : 10 ^ L ≤ 10 ^ (M - 1) := Nat.pow_le_pow_right (by decide) (by omega)
    omega
  · exact q
  · have : 10 ^ M ≤ 10 ^ (L - 1) := Nat.pow_le_pow_right (by decide) (by omega)
    omega
theorem dv_succ (v k : Nat) : v / 10 ^ (k + 1) = v / 10 ^ k / 10 := by rw [Nat.pow_succ, Nat.div_div_eq_div_mul]
def dgt (v k : Nat) : Nat := v / 10 ^ k % 10
/-- the class's digits hold a number -/
def dgS (U : am_U) (v L : Nat) : Prop := U 82 1 = (L : Nat) ∧ isLen v L ∧ L ≤ 64 ∧ ∀ k, k < 64 → U 83 k = (dgt v k : Nat)
def dgk (U U' : am_U) : Prop := ∀ r, r ≠ 82 → r ≠ 83 → U' r = U r
theorem agr_dgk {U U' : am_U} (h : dgk U U') : agr U U' := by
  intro r j e
  rw [h r (fun q => by subst q; simp [scr] at e) (fun q => by subst q; simp [scr] at e)]
theorem ct_set_l {N : Nat} {X : Nat → Int} {d : Nat} {v : Nat} (hv : v < 10000000000000000000) (hv2 : v < 9223372036854775808) : ∀ m i : Nat, i + m = 64 → ∀ U : am_U, (∀ k, k < 64 → U 83 k = if k < i then ((dgt v k : Nat) : Int) else 0) → U 82 1 = (if i = 0 then 1 else ((i : Nat) : Int)) → (i = 0 ∨ 10 ^ (i - 1) ≤ v) → ∃ U' L, EvK N X (Dg_set_s28 (d + 1) (v : Nat) ((v / 10 ^ i : Nat) : Int) (i : Nat) U) (rV U') ∧ dgS U' v L ∧ (∀ r, r ≠ 82 → r ≠ 83 → U' r = U r) ∧ U' 82 2 = U 82 2 ∧ U' 82 3 = U 82 3 := by
  intro m
  induction m with
  | zero =>
    intro i hi U h1 h2 h3
    obtain rfl : i = 64 := by omega
    have : v < 10 ^ (64 - 1) := Nat.lt_of_lt_of_le hv (by decide)
    omega
  | succ m ih =>
    intro i hi U h1 h2 h3
    by_cases c : v / 10 ^ i = 0
    · rw [c]
      have hlt : v < 10 ^ i := by
        rcases Nat.lt_or_ge v (10 ^ i) with q | q
        · exact q
        · have := Nat.div_pos q (Nat.pow_pos (n := i) (by decide : 0 < 10)); omega
      refine ⟨U, if i = 0 then 1 else i, Dg_set_r28 ⟨fun _ => rfl, fun _ => ⟨fun _ => rfl, fun h => absurd h (by omega)⟩⟩, ⟨?_, ?_, ?_, fun k hk => ?_⟩, fun _ _ _ => rfl, rfl, rfl⟩
      · rw [h2]; split <;> rfl
      · by_cases e : i = 0
        · subst e; rw [if_pos rfl]; exact ⟨by decide, by simp at hlt; omega, Or.inl rfl⟩
        · rw [if_neg e]; exact ⟨by omega, hlt, Or.inr (h3.resolve_left e)⟩
      · split <;> omega
      · rw [h1 k hk]
        split
        · rfl
        · rename_i q
          have : v < 10 ^ k := Nat.lt_of_lt_of_le hlt (Nat.pow_le_pow_right (by decide) (by omega))
          unfold dgt
          rw [Nat.div_eq_of_lt this]; rfl
    · have hpos : 0 < v / 10 ^ i := Nat.pos_of_ne_zero c
      have hle : v / 10 ^ i ≤ v := Nat.div_le_self _ _
      have h10 : 10 ^ i ≤ v := by
        rcases Nat.lt_or_ge v (10 ^ i) with q | q
        · rw [Nat.div_eq_of_lt q] at c; exact absurd rfl c
        · exact q
      have e1 : w64 (Int.tdiv ((v / 10 ^ i : Nat) : Int) 10) = ((v / 10 ^ (i + 1) : Nat) : Int) := by
        rw [show Int.tdiv ((v / 10 ^ i : Nat) : Int) 10 = ((v / 10 ^ i / 10 : Nat) : Int) from tdiv_nat _ 10, dv_succ]
        generalize v / 10 ^ i = z at *
        exact w64_eq (by omega) (by omega)
      have e2 : w32 (Int.tmod ((v / 10 ^ i : Nat) : Int) 10) = ((dgt v i : Nat) : Int) := by
        rw [show Int.tmod ((v / 10 ^ i : Nat) : Int) 10 = ((v / 10 ^ i % 10 : Nat) : Int) from tmod_nat _ 10]
        show _ = ((v / 10 ^ i % 10 : Nat) : Int)
        generalize v / 10 ^ i = z at *
        exact w32_eq (by omega) (by omega)
      have e3 : w32 (((i : Nat) : Int) + 1) = ((i + 1 : Nat) : Int) := w32_succ (by omega)
      obtain ⟨U', L, k1, k2, k3, k4, k5⟩ := ih (i + 1) (by clear e1 e2 e3; omega) (am_upd (am_upd U 83 i ((dgt v i : Nat) : Int)) 82 1 ((i + 1 : Nat) : Int)) (fun k hk => by
        clear e1 e2 e3
        rw [upd_row (by decide), upd_if]
        by_cases e : k = i
        · subst e; rw [if_pos rfl, if_pos (by omega)]
        · rw [if_neg e, h1 k hk]
          by_cases e4 : k < i
          · rw [if_pos e4, if_pos (by omega)]
          · rw [if_neg e4, if_neg (by omega)]) (by rw [upd_at, if_neg (Nat.succ_ne_zero i)]) (Or.inr h10)
      refine ⟨U', L, Dg_set_r28 ⟨fun h => absurd h (by clear e1 e2 e3; omega), fun _ => ⟨fun h => absurd h (by clear e1 e2 e3 k1; generalize v / 10 ^ i = z at *; omega), fun _ => ⟨by clear e1 e2 e3; omega, ?_⟩⟩⟩, k2, fun r a e => ?_, ?_, ?_⟩
      · rw [e1, e2, e3, Int.toNat_natCast]; exact k1
      · rw [k3 r a e, upd_row a, upd_row e]
      · rw [k4, upd_ne (by decide), upd_row (by decide)]
      · rw [k5, upd_ne (by decide), upd_row (by decide)]
theorem ct_set {N : Nat} {X : Nat → Int} {d : Nat} {U : am_U} (v : Nat) (hv2 : v < 9223372036854775808) : ∃ U' L, EvK N X (Dg_set_s0 (d + 1) (v : Nat) U) (rV U') ∧ dgS U' v L ∧ dgk U U' ∧ U' 82 2 = 0 ∧ U' 82 3 = 0 := by
  obtain ⟨U', L, k1, k2, k3, k4, k5⟩ := ct_set_l (N := N) (X := X) (d := d) (v := v) (by omega) hv2 64 0 (by omega) (am_upd (am_upd (am_upd (fil U 83 64 0) 82 2 0) 82 3 0) 82 1 1) (fun k hk => by
    rw [upd_row (by decide), upd_row (by decide), upd_row (by decide), fil_in hk, if_neg (Nat.not_lt_zero k)]) (by rw [upd_at]; rfl) (Or.inl rfl)
  refine ⟨U', L, Dg_set_r0 ⟨_, ct_fill_83, by simpa using k1⟩, k2, fun r a e => ?_, ?_, ?_⟩
  · rw [k3 r a e, upd_row a, upd_row a, upd_row a, fil_row e]
  · rw [k4, upd_ne (by decide), upd_ne (by decide), upd_at]
  · rw [k5, upd_ne (by decide), upd_at]
def tellS (v L : Nat) (k : Int) : Int := if k = -1 then (L : Nat) else if 0 ≤ k ∧ k < (L : Nat) then (dgt v k.toNat : Nat) else -1
theorem ct_tellOf {N : Nat} {X : Nat → Int} {d : Nat} {U : am_U} {v L : Nat} (h : dgS U v L) (k : Int) : EvK N X (Dg_tellOf_s0 d k U) (rI (tellS v L k) U) := by
  obtain ⟨h1, h2, h3, h4⟩ := h
  unfold tellS
  refine Dg_tellOf_r0 ⟨fun c => ⟨fun c2 => ?_, fun c2 => ⟨fun c3 => ?_, fun c3 => ⟨by omega, ?_⟩⟩⟩, fun c => ?_⟩
  · rw [if_neg c, if_neg (by omega)]
  · rw [if_neg c, if_neg (by omega)]
  · rw [if_neg c, if_pos (by omega), h4 k.toNat (by omega)]
  · rw [if_pos c, h1]
theorem ct_M_digits_l {N : Nat} {X : Nat → Int} {d : Nat} {U : am_U} {v : Nat} (hv2 : v < 9223372036854775808) : ∀ m i : Nat, i + m = 20 → 1 ≤ i → (i = 1 ∨ 10 ^ (i - 1) ≤ v) → ∃ L : Nat, EvK N X (M_digits_s8 d (v : Nat) (i : Nat) ((v / 10 ^ i : Nat) : Int) U) (rI (L : Nat) U) ∧ isLen v L ∧ L ≤ 20 := by
  intro m
  induction m with
  | zero =>
    intro i hi h1 h3
    obtain rfl : i = 20 := by omega
    have : (10000000000000000000 : Nat) ≤ 10 ^ (20 - 1) := by decide
    omega
  | succ m ih =>
    intro i hi h1 h3
    by_cases c : v / 10 ^ i = 0
    · rw [c]
      have hlt : v < 10 ^ i := by
        rcases Nat.lt_or_ge v (10 ^ i) with q | q
        · exact q
        · have := Nat.div_pos q (Nat.pow_pos (n := i) (by decide : 0 < 10)); omega
      exact ⟨i, M_digits_r8 ⟨fun _ => rfl, fun h => absurd h (by omega)⟩, ⟨h1, hlt, h3⟩, by omega⟩
    · have h10 : 10 ^ i ≤ v := by
        rcases Nat.lt_or_ge v (10 ^ i) with q | q
        · rw [Nat.div_eq_of_lt q] at c; exact absurd rfl c
        · exact q
      have hle : v / 10 ^ i ≤ v := Nat.div_le_self _ _
      obtain ⟨L, k1, k2, k3⟩ := ih (i + 1) (by omega) (by omega) (Or.inr h10)
      have hpos : 0 < v / 10 ^ i := Nat.pos_of_ne_zero c
      refine ⟨L, M_digits_r8 ⟨fun h => absurd h (by clear k1; generalize v / 10 ^ i = z at *; omega), fun _ => ?_⟩, k2, k3⟩
      rw [show Int.tdiv ((v / 10 ^ i : Nat) : Int) 10 = ((v / 10 ^ i / 10 : Nat) : Int) from tdiv_nat _ 10, w32_succ (i := i) (by omega)]
      rw [dv_succ] at k1
      generalize v / 10 ^ i = z at *
      rw [w64_eq (by omega) (by omega)]
      exact k1
theorem ct_M_digits {N : Nat} {X : Nat → Int} {d : Nat} {U : am_U} {v L : Nat} (hv2 : v < 9223372036854775808) (hL : isLen v L) : EvK N X (M_digits_s0 d (v : Nat) U) (rI (L : Nat) U) ∧ L ≤ 20 := by
  obtain ⟨M, k1, k2, k3⟩ := ct_M_digits_l (N := N) (X := X) (d := d) (U := U) hv2 19 1 (by omega) (by omega) (Or.inl rfl)
  have e := isLen_one hL k2
  subst e
  refine ⟨M_digits_r0 ?_, k3⟩
  rw [show Int.tdiv ((v : Nat) : Int) 10 = ((v / 10 : Nat) : Int) from tdiv_nat _ 10, w64_eq (by omega) (by omega)]
  simpa using k1
theorem ct_M_digit {N : Nat} {X : Nat → Int} {d : Nat} {U : am_U} {v L : Nat} (hv2 : v < 9223372036854775808) (hL : isLen v L) (k : Int) (hk : k ≠ -1) : EvK N X (M_digit_s0 (d + 1) (v : Nat) k U) (rI (tellS v L k) U) := by
  obtain ⟨q1, q2⟩ := ct_M_digits (N := N) (X := X) (d := d) (U := U) hv2 hL
  unfold tellS
  rw [if_neg hk]
  refine M_digit_r0 ⟨fun c => by rw [if_neg (by omega)], fun c => ⟨_, _, q1, fun c2 => ?_, fun c2 => by rw [if_neg (by omega)]⟩⟩
  obtain ⟨j, rfl⟩ : ∃ j : Nat, k = j := ⟨k.toNat, by omega⟩
  rw [if_pos (by omega), Int.toNat_natCast]
  have loop : ∀ m i : Nat, i + m = j → EvK N X (M_digit_s19 (d + 1) (v : Nat) (j : Nat) ((v / 10 ^ i : Nat) : Int) (i : Nat) U) (rI ((dgt v j : Nat) : Int) U) := by
    intro m
    induction m with
    | zero =>
      intro i hi
      obtain rfl : i = j := by omega
      refine M_digit_r19 ⟨fun _ => ?_, fun h => absurd h (by omega)⟩
      rw [show Int.tmod ((v / 10 ^ i : Nat) : Int) 10 = ((v / 10 ^ i % 10 : Nat) : Int) from tmod_nat _ 10]
      unfold dgt
      generalize v / 10 ^ i = z at *
      rw [w32_eq (by omega) (by omega)]
    | succ m ih =>
      intro i hi
      have hle : v / 10 ^ i ≤ v := Nat.div_le_self _ _
      have k1 := ih (i + 1) (by omega)
      refine M_digit_r19 ⟨fun h => absurd h (by omega), fun _ => ?_⟩
      rw [show Int.tdiv ((v / 10 ^ i : Nat) : Int) 10 = ((v / 10 ^ i / 10 : Nat) : Int) from tdiv_nat _ 10, w32_succ (i := i) (by omega)]
      rw [dv_succ] at k1
      clear ih
      generalize v / 10 ^ i = z at *
      rw [w64_eq (by omega) (by omega)]
      exact k1
  simpa using loop j 0 (by omega)
/-! parts, kept as long as the number stays -/
def iPrt (V : am_U) : Prop := ∀ p, p < 16 → V 20 p < 0 ∨ V 20 p = ((prt (V 17 p).natAbs : Nat) : Int)
theorem prt_le (n : Nat) (hn : n ≤ 999999999) : prt n < 1000000000000000000 := by
  unfold prt
  have := fb_sm_bound (f := fun k => if n % k = 0 then k else 0) (c := n) (n := n) (fun k hk => by show (if n % k = 0 then k else 0) ≤ n; split <;> omega)
  have h2 : n * n ≤ 999999999 * 999999999 := Nat.mul_le_mul hn hn
  omega
theorem abs_nat {x : Int} (h : -999999999 ≤ x ∧ x ≤ 999999999) : (if 0 ≤ x then x else w32 (-x)) = ((x.natAbs : Nat) : Int) := by
  split
  · omega
  · rw [w32_eq (by omega) (by omega)]; omega
def ptk (U U' : am_U) : Prop := ∀ r, r ≠ 20 → U' r = U r
theorem agrC_ptk {U U' : am_U} (h : ptk U U') : agrC U U' := by
  intro r j e
  rw [h r (fun q => by subst q; simp [scrC] at e)]
theorem ct_partsFor {N : Nat} {X : Nat → Int} {d : Nat} {U : am_U} {p : Nat} (hp : p < 16) (hb : -999999999 ≤ U 17 p ∧ U 17 p ≤ 999999999) (hk : iPrt U) : ∃ U', EvK N X (Fk_partsFor_s0 (d + 2) (p : Nat) U) (rJ ((prt (U 17 p).natAbs : Nat) : Int) U') ∧ ptk U U' ∧ iPrt U' := by
  by_cases c : U 20 p < 0
  · refine ⟨am_upd U 20 p ((prt (U 17 p).natAbs : Nat) : Int), Fk_partsFor_r0 ⟨by omega, fun h => absurd h (by rw [Int.toNat_natCast]; omega), fun _ => ⟨((prt (U 17 p).natAbs : Nat) : Int), U, ?_, ?_⟩⟩, fun r a => upd_row a, fun q hq => ?_⟩
    · rw [Int.toNat_natCast, abs_nat hb]
      exact ct_partsOf _ (by omega)
    · rw [Int.toNat_natCast, upd_at]
    · rw [upd_if, upd_row (show 17 ≠ 20 by decide)]
      by_cases e : q = p
      · subst e; rw [if_pos rfl]; right; rfl
      · rw [if_neg e]; exact hk q hq
  · have e := (hk p hp).resolve_left c
    refine ⟨U, Fk_partsFor_r0 ⟨by omega, fun _ => by rw [Int.toNat_natCast, e], fun h => absurd h (by rw [Int.toNat_natCast]; exact c)⟩, fun _ _ => rfl, hk⟩
theorem ct_sizeOf {N : Nat} {X : Nat → Int} {d : Nat} {U : am_U} {n nh p : Nat} (hf : iFolk U n nh) (hp : p < n) : EvK N X (M_sizeOf_s0 (d + 1) (p : Nat) U) (rJ (((U 17 p).natAbs : Nat) : Int) U) := by
  have b1 := (hf.2.2.2.2.1.1 p hp).2.1
  have hn := hf.1.2.2
  have m1 := (hf.2.2.2.1 p hp).1
  refine M_sizeOf_r0 ⟨by omega, _, _, ct_M_size _ ?_, ?_⟩
  · rw [Int.toNat_natCast, m1]; omega
  · rw [Int.toNat_natCast, m1]
/-- what a question may leave behind: parts that were found -/
def kP (U V : am_U) : Prop := (∀ r j, r ≠ 20 → scr r j = false → V r j = U r j) ∧ iPrt V
theorem pair_parts {N : Nat} {X : Nat → Int} {d : Nat} {U : am_U} {n nh : Nat} (hf : iFolk U n nh) (hk : iPrt U) (x y : Int) : ask3 N X (kP U) (D_parts_s0 (d + 3) x y) (M_parts_s0 (d + 3) x y) U := by
  have e16 := hf.1.1
  have e122 := hf.1.2.1
  have hn := hf.1.2.2
  by_cases c : 0 ≤ x ∧ x < (n : Nat)
  · obtain ⟨p, rfl⟩ : ∃ p : Nat, x = p := ⟨x.toNat, by omega⟩
    have b1 := (hf.2.2.2.2.1.1 p (by omega)).2.1
    obtain ⟨U1, f1, f2, f3⟩ := ct_partsFor (N := N) (X := X) (d := d) (U := U) (p := p) (by omega) b1 hk
    have hv := prt_le (U 17 p).natAbs (by omega)
    obtain ⟨U2, L, g1, g2, g3, -, -⟩ := ct_set (N := N) (X := X) (d := d + 1) (U := U1) (prt (U 17 p).natAbs) (by omega)
    have hf2 : iFolk U2 n nh := iFolk_agrC (agrC_trans (agrC_ptk f2) (agrC_of (agr_dgk g3))) hf
    have e17 : U2 17 p = U 17 p := by rw [g3 17 (by decide) (by decide), f2 17 (by decide)]
    have sz := ct_sizeOf (N := N) (X := X) (d := d + 1) hf2 (show p < n by omega)
    rw [e17] at sz
    have po := ct_M_partsOf (N := N) (X := X) (d := d + 2) (U := U2) (U 17 p).natAbs (by omega)
    have a1 : EvK N X (D_parts_s0 (d + 3) (p : Nat) y U) (rI (tellS (prt (U 17 p).natAbs) L y) U2) := D_parts_r0 ⟨_, _, D_p1 (by rw [e16]; exact c), fun _ => ⟨_, _, f1, _, g1, _, _, ct_tellOf g2 y, rfl⟩, fun h => absurd h (by decide)⟩
    have a2 : EvK N X (M_parts_s0 (d + 3) (p : Nat) y U2) (rI (tellS (prt (U 17 p).natAbs) L y) U2) := by
      refine M_parts_r0 ⟨_, _, M_p1 (by rw [hf2.1.2.1]; exact c), fun _ => ⟨_, _, sz, _, _, po, fun h => ⟨_, _, ct_M_digit (by omega) g2.2.1 y h, rfl⟩, fun h => ⟨_, _, (ct_M_digits (by omega) g2.2.1).1, ?_⟩⟩, fun h => absurd h (by decide)⟩
      unfold tellS; rw [if_pos h]
    refine ⟨_, U2, a1, agrC_trans (agrC_ptk f2) (agrC_of (agr_dgk g3)), ⟨fun r j a e => ?_, ?_⟩, U2, a2, agr_refl _⟩
    · rw [agr_dgk g3 r j e, f2 r a]
    · intro q hq
      rw [g3 20 (by decide) (by decide), g3 17 (by decide) (by decide)]
      exact f3 q hq
  · have a1 : EvK N X (D_parts_s0 (d + 3) x y U) (rI (-1) U) := D_parts_r0 ⟨_, _, D_p0 (by rw [e16]; exact c), fun h => absurd rfl h, fun _ => rfl⟩
    have a2 : EvK N X (M_parts_s0 (d + 3) x y U) (rI (-1) U) := M_parts_r0 ⟨_, _, M_p0 (by rw [e122]; exact c), fun h => absurd rfl h, fun _ => rfl⟩
    exact ⟨_, U, a1, agrC_refl _, ⟨fun _ _ _ _ => rfl, hk⟩, U, a2, agr_refl _⟩
