/-! rent: both multiply alike -/
theorem tm_a {a x c : Nat} (ha : a ≤ 9) (hx : x ≤ 999999999) (hc : c < 1000000000) : w64 (w64 (((a : Nat) : Int) * ((x : Nat) : Int)) + ((c : Nat) : Int)) = ((a * x + c : Nat) : Int) := by
  have hm : a * x ≤ 9 * 999999999 := Nat.mul_le_mul ha hx
  rw [← Int.natCast_mul, w64_eq (x := ((a * x : Nat) : Int)) (by omega) (by omega), ← Int.natCast_add, w64_eq (by omega) (by omega)]
theorem tm_b {a x c : Nat} (ha : a ≤ 9) (hx : x ≤ 999999999) (hc : c < 1000000000) : w64 (((c : Nat) : Int) + w64 (((a : Nat) : Int) * ((x : Nat) : Int))) = ((a * x + c : Nat) : Int) := by
  have hm : a * x ≤ 9 * 999999999 := Nat.mul_le_mul ha hx
  rw [← Int.natCast_mul, w64_eq (x := ((a * x : Nat) : Int)) (by omega) (by omega), ← Int.natCast_add, w64_eq (by omega) (by omega), Nat.add_comm]
theorem tm_m (z : Nat) : w32 (Int.tmod ((z : Nat) : Int) 10) = ((z % 10 : Nat) : Int) := by
  rw [show Int.tmod ((z : Nat) : Int) 10 = ((z % 10 : Nat) : Int) from tmod_nat _ 10, w32_eq (by omega) (by omega)]
theorem tm_d {z : Nat} (hz : z < 9223372036854775808) : w64 (Int.tdiv ((z : Nat) : Int) 10) = ((z / 10 : Nat) : Int) := by
  rw [show Int.tdiv ((z : Nat) : Int) 10 = ((z / 10 : Nat) : Int) from tdiv_nat _ 10, w64_eq (by omega) (by omega)]
theorem dgt_9 (v k : Nat) : dgt v k ≤ 9 := by unfold dgt; omega
theorem cry_big {v x L : Nat} (l2 : v < 10 ^ L) (i : Nat) (hi : L ≤ i) : cry v x i = v * x / 10 ^ i := by
  unfold cry
  rw [Nat.mod_eq_of_lt (Nat.lt_of_lt_of_le l2 (Nat.pow_le_pow_right (by decide) hi))]
theorem pow_of_div {w i : Nat} (h : 0 < w / 10 ^ i) : 10 ^ i ≤ w := by
  rcases Nat.lt_or_ge w (10 ^ i) with q | q
  · rw [Nat.div_eq_of_lt q] at h; exact absurd h (by decide)
  · exact q
theorem lt_of_div {w i : Nat} (h : w / 10 ^ i = 0) : w < 10 ^ i := by
  rcases Nat.lt_or_ge w (10 ^ i) with q | q
  · exact q
  · have := Nat.div_pos q (Nat.pow_pos (n := i) (by decide : 0 < 10)); omega
theorem isLen_60 {v L : Nat} (h : isLen v L) (hv : v < 10 ^ 60) : L ≤ 60 := by
  obtain ⟨h1, h2, h3⟩ := h
  rcases h3 with q | q
  · omega
  · rcases Nat.lt_or_ge 60 L with z | z
    · have := Nat.lt_of_le_of_lt q hv
      exact absurd this (Nat.not_lt.mpr (Nat.pow_le_pow_right (by decide) (by omega)))
    · exact z
theorem tm_top {v x L i : Nat} (l2 : v < 10 ^ L) (hL2 : L ≤ 60) (hv : v * x < 10 ^ 60) (h : i < L ∨ 0 < cry v x i) : i < 60 := by
  by_cases c : i < L
  · omega
  · have h2 := h.resolve_left c
    rw [cry_big l2 i (by omega)] at h2
    have := Nat.lt_of_le_of_lt (pow_of_div h2) hv
    exact (Nat.pow_lt_pow_iff_right (by decide)).mp this
theorem ct_times_l {N : Nat} {X : Nat → Int} {d v x L : Nat} {U0 : am_U} (hx : 1 ≤ x ∧ x ≤ 999999999) (hL : isLen v L) (hL2 : L ≤ 60) (hv : v * x < 10 ^ 60) : ∀ m i : Nat, i + m = 64 → ∀ U : am_U, (∀ k, k < 64 → U 83 k = if k < i then ((dgt (v * x) k : Nat) : Int) else ((dgt v k : Nat) : Int)) → (0 < i → U 82 1 = (i : Nat)) → (i ≤ L ∨ 10 ^ (i - 1) ≤ v * x) → dgk U0 U → ∃ U' L', EvK N X (Dg_times_s10 d (x : Nat) (L : Nat) ((cry v x i : Nat) : Int) (i : Nat) U) (rV U') ∧ dgS U' (v * x) L' ∧ dgk U0 U' := by
  obtain ⟨l1, l2, l3⟩ := hL
  intro m
  induction m with
  | zero =>
    intro i hi U h1 h2 h3 h4
    obtain rfl : i = 64 := by omega
    exfalso
    rcases h3 with z | z
    · omega
    · exact absurd (Nat.lt_of_le_of_lt z hv) (Nat.not_lt.mpr (Nat.pow_le_pow_right (by decide) (by decide)))
  | succ m ih =>
    intro i hi U h1 h2 h3 h4
    by_cases c : i < L ∨ 0 < cry v x i
    · have ht := tm_top l2 hL2 hv c
      have hc : cry v x i < 1000000000 := Nat.lt_of_lt_of_le (cry_lt (v := v) hx.1 i) (by omega)
      have hd := dgt_9 v i
      have u83 : U 83 i = ((dgt v i : Nat) : Int) := by rw [h1 i (by omega), if_neg (by omega)]
      have hm : dgt v i * x ≤ 9 * 999999999 := Nat.mul_le_mul hd hx.2
      obtain ⟨U', L', k1, k2⟩ := ih (i + 1) (by omega) (am_upd (am_upd U 83 i ((dgt (v * x) i : Nat) : Int)) 82 1 ((i + 1 : Nat) : Int)) (fun k hk => by
        rw [upd_row (by decide), upd_if]
        by_cases z : k = i
        · rw [if_pos z, z, if_pos (Nat.lt_succ_self i)]
        · rw [if_neg z, h1 k hk]
          by_cases z2 : k < i
          · rw [if_pos z2, if_pos (Nat.lt_succ_of_lt z2)]
          · rw [if_neg z2, if_neg (by omega)]) (fun _ => upd_at _ _ _ _) (by
        by_cases z : i < L
        · left; omega
        · right
          have z2 := c.resolve_left z
          rw [cry_big l2 i (by omega)] at z2
          rw [Nat.add_sub_cancel]
          exact pow_of_div z2) (fun r q1 q2 => by rw [upd_row q1, upd_row q2]; exact h4 r q1 q2)
      refine ⟨U', L', Dg_times_r10 ⟨fun z => absurd z (by omega), fun _ => ?_⟩, k2⟩
      rw [Int.toNat_natCast, u83, tm_a hd hx.2 hc, tm_m, cry_dgt, tm_d (by omega), cry_succ, w32_succ (i := i) (by omega)]
      exact ⟨fun _ => ⟨by omega, k1⟩, fun _ => ⟨fun q => by omega, fun _ => ⟨by omega, k1⟩⟩⟩
    · have c1 : L ≤ i := by omega
      have c2 : cry v x i = 0 := by omega
      have lt : v * x < 10 ^ i := by
        rw [cry_big l2 i c1] at c2
        exact lt_of_div c2
      refine ⟨U, i, Dg_times_r10 ⟨fun _ => rfl, fun _ => ⟨fun z => absurd z (by omega), fun _ => ⟨fun _ => rfl, fun z => absurd z (by omega)⟩⟩⟩, ⟨h2 (by omega), ⟨by omega, lt, ?_⟩, by omega, fun k hk => ?_⟩, h4⟩
      · rcases h3 with z | z
        · have : i = L := by omega
          subst this
          rcases l3 with q | q
          · exact Or.inl q
          · exact Or.inr (Nat.le_trans q (Nat.le_mul_of_pos_right v hx.1))
        · exact Or.inr z
      · rw [h1 k hk]
        by_cases z : k < i
        · rw [if_pos z]
        · rw [if_neg z]
          have p : 10 ^ i ≤ 10 ^ k := Nat.pow_le_pow_right (by decide) (by omega)
          have p2 : v < 10 ^ k := Nat.lt_of_lt_of_le l2 (Nat.pow_le_pow_right (by decide) (by omega))
          unfold dgt
          rw [Nat.div_eq_of_lt p2, Nat.div_eq_of_lt (Nat.lt_of_lt_of_le lt p)]
theorem ct_times {N : Nat} {X : Nat → Int} {d v x L : Nat} {U : am_U} (hx : 1 ≤ x ∧ x ≤ 999999999) (hv : v * x < 10 ^ 60) (hs : dgS U v L) : ∃ U' L', EvK N X (Dg_times_s0 d (x : Nat) U) (rV U') ∧ dgS U' (v * x) L' ∧ dgk U U' := by
  obtain ⟨s1, s2, s3, s4⟩ := hs
  have hv1 : v < 10 ^ 60 := Nat.lt_of_le_of_lt (Nat.le_mul_of_pos_right v hx.1) hv
  obtain ⟨U', L', k1, k2, k3⟩ := ct_times_l (N := N) (X := X) (d := d) (U0 := U) hx s2 (isLen_60 s2 hv1) hv 64 0 (by omega) U (fun k hk => by rw [s4 k hk, if_neg (Nat.not_lt_zero k)]) (fun h => absurd h (by decide)) (Or.inl (Nat.zero_le L)) (fun _ _ _ => rfl)
  rw [cry_0] at k1
  refine ⟨U', L', Dg_times_r0 ?_, k2, k3⟩
  rw [s1]; exact k1
/-- the reference's digits hold a number -/
def dgM (U : am_U) (v L : Nat) : Prop := U 86 80 = (L : Nat) ∧ isLen v L ∧ ∀ k, k < L → U 133 k = (dgt v k : Nat)
def dgm (U U' : am_U) : Prop := ∀ r j, r ≠ 133 → ¬ (r = 86 ∧ j = 80) → U' r j = U r j
theorem dgm_refl (U : am_U) : dgm U U := fun _ _ _ _ => rfl
theorem dgm_trans {U U1 U2 : am_U} (h1 : dgm U U1) (h2 : dgm U1 U2) : dgm U U2 := fun r j a b => by rw [h2 r j a b, h1 r j a b]
theorem dgm_upd (U : am_U) (k : Nat) (x y : Int) : dgm U (am_upd (am_upd U 133 k x) 86 80 y) := fun r j a b => by
  unfold am_upd
  rw [if_neg (fun e => b e), if_neg (fun e => a e.1)]
theorem agr_dgm {U U' : am_U} (h : dgm U U') : agr U U' := fun r j e => h r j (fun q => by subst q; simp [scr] at e) (fun q => by obtain ⟨rfl, rfl⟩ := q; simp [scr] at e)
theorem ct_timesBig_2 {N : Nat} {X : Nat → Int} {d w : Nat} {xv x5 : Int} (hw : w < 10 ^ 60) : ∀ m j : Nat, j + m = 61 → ∀ U : am_U, U 86 80 = (j : Nat) → 1 ≤ j → (j = 1 ∨ 10 ^ (j - 1) ≤ w) → w / 10 ^ j < 1000000000 → (∀ k, k < j → U 133 k = ((dgt w k : Nat) : Int)) → ∃ U' L', EvK N X (M_timesBig_s52 d xv ((w / 10 ^ j : Nat) : Int) x5 U) (rV U') ∧ dgM U' w L' ∧ dgm U U' := by
  intro m
  induction m with
  | zero =>
    intro j hj U h1 h2 h3 h4 h5
    obtain rfl : j = 61 := by omega
    exfalso
    rcases h3 with z | z
    · omega
    · exact absurd (Nat.lt_of_le_of_lt z hw) (Nat.not_lt.mpr (Nat.pow_le_pow_right (by decide) (by decide)))
  | succ m ih =>
    intro j hj U h1 h2 h3 h4 h5
    by_cases c : w / 10 ^ j = 0
    · rw [c]
      exact ⟨U, j, M_timesBig_r52 ⟨fun _ => rfl, fun h => absurd h (by decide)⟩, ⟨h1, ⟨h2, lt_of_div c, h3⟩, h5⟩, dgm_refl _⟩
    · have hpos : 0 < w / 10 ^ j := Nat.pos_of_ne_zero c
      have k0 := ih (j + 1) (by omega) (am_upd (am_upd U 133 j ((dgt w j : Nat) : Int)) 86 80 ((j + 1 : Nat) : Int)) (upd_at _ _ _ _) (by omega) (Or.inr (by rw [Nat.add_sub_cancel]; exact pow_of_div hpos)) (by rw [dv_succ]; omega) (fun k hk => by
        rw [upd_row (by decide), upd_if]
        by_cases z : k = j
        · rw [if_pos z, z]
        · rw [if_neg z]; exact h5 k (by omega))
      obtain ⟨U', L', k1, k2, k3⟩ := k0
      refine ⟨U', L', M_timesBig_r52 ⟨fun h => absurd h (by omega), fun _ => ⟨by rw [h1]; omega, ?_⟩⟩, k2, dgm_trans (dgm_upd _ _ _ _) k3⟩
      rw [h1, Int.toNat_natCast, tm_m, tm_d (by omega), w32_succ (i := j) (by omega)]
      rw [dv_succ] at k1
      exact k1
theorem ct_timesBig_1 {N : Nat} {X : Nat → Int} {d v x L : Nat} (hx : 1 ≤ x ∧ x ≤ 999999999) (hL : isLen v L) (hL2 : L ≤ 60) (hv : v * x < 10 ^ 60) : ∀ m i : Nat, i + m = L → ∀ U : am_U, U 86 80 = (L : Nat) → (∀ k, k < L → U 133 k = if k < i then ((dgt (v * x) k : Nat) : Int) else ((dgt v k : Nat) : Int)) → ∃ U' L', EvK N X (M_timesBig_s5 d (x : Nat) ((cry v x i : Nat) : Int) (i : Nat) U) (rV U') ∧ dgM U' (v * x) L' ∧ dgm U U' := by
  obtain ⟨l1, l2, l3⟩ := hL
  intro m
  induction m with
  | zero =>
    intro i hi U h1 h2
    obtain rfl : i = L := by omega
    have hc : cry v x i < 1000000000 := Nat.lt_of_lt_of_le (cry_lt (v := v) hx.1 i) (by omega)
    have e := cry_big (x := x) l2 i (Nat.le_refl i)
    obtain ⟨U', L', k1, k2, k3⟩ := ct_timesBig_2 (N := N) (X := X) (d := d) (xv := (x : Nat)) (x5 := (i : Nat)) hv (61 - i) i (by omega) U h1 l1 (l3.elim Or.inl (fun q => Or.inr (Nat.le_trans q (Nat.le_mul_of_pos_right v hx.1)))) (by rw [← e]; exact hc) (fun k hk => by rw [h2 k hk, if_pos hk])
    refine ⟨U', L', M_timesBig_r5 ⟨fun _ => ?_, fun h => absurd h (by rw [h1]; omega)⟩, k2, k3⟩
    rw [e]; exact k1
  | succ m ih =>
    intro i hi U h1 h2
    have hc : cry v x i < 1000000000 := Nat.lt_of_lt_of_le (cry_lt (v := v) hx.1 i) (by omega)
    have hd := dgt_9 v i
    have u133 : U 133 i = ((dgt v i : Nat) : Int) := by rw [h2 i (by omega), if_neg (by omega)]
    have hm : dgt v i * x ≤ 9 * 999999999 := Nat.mul_le_mul hd hx.2
    obtain ⟨U', L', k1, k2, k3⟩ := ih (i + 1) (by omega) (am_upd U 133 i ((dgt (v * x) i : Nat) : Int)) (by rw [upd_row (by decide)]; exact h1) (fun k hk => by
      rw [upd_if]
      by_cases z : k = i
      · rw [if_pos z, z, if_pos (Nat.lt_succ_self i)]
      · rw [if_neg z, h2 k hk]
        by_cases z2 : k < i
        · rw [if_pos z2, if_pos (Nat.lt_succ_of_lt z2)]
        · rw [if_neg z2, if_neg (by omega)])
    refine ⟨U', L', M_timesBig_r5 ⟨fun h => absurd h (by rw [h1]; omega), fun _ => ⟨by omega, ?_⟩⟩, k2, fun r j a b => by rw [k3 r j a b, upd_row a]⟩
    rw [Int.toNat_natCast, u133, tm_b hd hx.2 hc, tm_m, cry_dgt, tm_d (by omega), cry_succ, w32_succ (i := i) (by omega)]
    exact k1
theorem ct_timesBig {N : Nat} {X : Nat → Int} {d v x L : Nat} {U : am_U} (hx : 1 ≤ x ∧ x ≤ 999999999) (hv : v * x < 10 ^ 60) (hs : dgM U v L) : ∃ U' L', EvK N X (M_timesBig_s0 d (x : Nat) U) (rV U') ∧ dgM U' (v * x) L' ∧ dgm U U' := by
  obtain ⟨s1, s2, s4⟩ := hs
  have hv1 : v < 10 ^ 60 := Nat.lt_of_le_of_lt (Nat.le_mul_of_pos_right v hx.1) hv
  obtain ⟨U', L', k1, k2, k3⟩ := ct_timesBig_1 (N := N) (X := X) (d := d) hx s2 (isLen_60 s2 hv1) hv L 0 (by omega) U s1 (fun k hk => by rw [s4 k hk, if_neg (Nat.not_lt_zero k)])
  rw [cry_0] at k1
  exact ⟨U', L', M_timesBig_r0 k1, k2, k3⟩
/-! all who live in a house multiplied -/
def rnt (f : Nat → Bool) (g : Nat → Nat) (s : Nat) : Nat → Nat
  | 0 => s
  | n + 1 => if f n then rnt f g s n * g n else rnt f g s n
theorem rnt_le {f : Nat → Bool} {g : Nat → Nat} {s B : Nat} (hs : s ≤ 1) : ∀ {n : Nat}, (∀ p, p < n → g p ≤ B) → rnt f g s n ≤ B ^ fb_ct f n
  | 0, _ => by
    show s ≤ B ^ 0
    rw [Nat.pow_zero]; exact hs
  | n + 1, h => by
    have ih := rnt_le hs (n := n) (f := f) (fun p hp => h p (by omega))
    rw [rnt, fb_ct_succ]
    by_cases c : f n = true
    · rw [if_pos c, if_pos c, Nat.pow_succ]; exact Nat.mul_le_mul ih (h n (by omega))
    · rw [if_neg c, if_neg c, Nat.add_zero]; exact ih
theorem rnt_60 {f : Nat → Bool} {g : Nat → Nat} {s n : Nat} (hs : s ≤ 1) (h : ∀ p, p < n → g p ≤ 1000000000) (hc : fb_ct f n ≤ 6) : rnt f g s n < 10 ^ 60 := by
  have h2 : (1000000000 : Nat) ^ 6 < 10 ^ 60 := by decide
  exact Nat.lt_of_le_of_lt (Nat.le_trans (rnt_le hs h) (Nat.pow_le_pow_right (by decide) hc)) h2
