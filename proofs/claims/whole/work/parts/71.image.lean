/-! the picture -/
theorem and255 (x : Int) : am_and x 255 = ((byt x 0 : Nat) : Int) := by
  have e : u32 (am_and x 255) = byt x 0 := by
    rw [u32_and, show u32 255 = 2 ^ 8 - 1 from rfl, Nat.and_two_pow_sub_one_eq_mod]
    unfold byt
    rw [Nat.pow_zero, Nat.div_one]
  exact u32_inv (and_in _ _) e (by have := byt_lt x 0; omega)
theorem and255s {x : Int} (h : 0 ≤ x ∧ x ≤ 255) : am_and x 255 = x := by
  rw [and255]
  unfold byt u32
  rw [Nat.pow_zero, Nat.div_one]
  omega
theorem ushr_n (x : Int) {n : Nat} (hn : n < 32) (h : u32 x / 2 ^ n < 256) : am_ushr x (n : Nat) = ((byt x n : Nat) : Int) := by
  have e : u32 (am_ushr x (n : Nat)) = byt x n := by
    rw [u32_ushr x hn]; unfold byt; rw [Nat.mod_eq_of_lt h]
  exact u32_inv (ushr_in _ _) e (by have := byt_lt x n; omega)
theorem shr_pos {x : Int} {n : Nat} (hx : 0 ≤ x ∧ x < 2147483648) (hn : n < 32) : am_shr x (n : Nat) = am_ushr x (n : Nat) := by
  have h31 : tb x 31 = false := by
    rw [tb_u32 x (by decide)]
    have : u32 x < 2 ^ 31 := by unfold u32; omega
    exact Nat.testBit_lt_two_pow this
  refine tb_ext (shr_in _ _) (ushr_in _ _) (fun i hi => ?_)
  rw [tb_shr hn hi, tb_ushr hn]
  by_cases c : n + i < 32
  · rw [if_pos c]
  · rw [if_neg c, h31, tb_big (by omega)]
theorem year_hi {y : Int} (h : 0 ≤ y ∧ y ≤ 9999) : am_shr y 8 = ((byt y 8 : Nat) : Int) := by
  have := shr_pos (x := y) (n := 8) (by omega) (by decide)
  rw [show ((8 : Nat) : Int) = 8 from rfl] at this
  rw [this]
  exact ushr_n y (n := 8) (by decide) (by unfold u32; omega)
theorem num_hi (x : Int) : am_ushr x 24 = ((byt x 24 : Nat) : Int) := ushr_n x (n := 24) (by decide) (by have := u32_lt x; omega)
def imB (y ni : Int) (n : Nat) (num hm : Nat → Int) (j : Nat) : Int := if j = 0 then ((byt y 8 : Nat) : Int) else if j = 1 then ((byt y 0 : Nat) : Int) else if j = 2 then ni else if j = 3 then ((n : Nat) : Int) else if (j - 4) % 5 = 4 then hm ((j - 4) / 5) + 1 else ((byt (num ((j - 4) / 5)) (24 - 8 * ((j - 4) % 5)) : Nat) : Int)
theorem imB_p {y ni : Int} {n : Nat} {num hm : Nat → Int} {p q : Nat} (hq : q < 5) : imB y ni n num hm (4 + 5 * p + q) = if q = 4 then hm p + 1 else ((byt (num p) (24 - 8 * q) : Nat) : Int) := by
  unfold imB
  rw [if_neg (by omega), if_neg (by omega), if_neg (by omega), if_neg (by omega), show (4 + 5 * p + q - 4) % 5 = q from by omega, show (4 + 5 * p + q - 4) / 5 = p from by omega]
theorem imB_in {y ni : Int} {n : Nat} {num hm : Nat → Int} (hni : ni = 0 ∨ ni = 1) (hn : n ≤ 16) (hh : ∀ p, p < n → -1 ≤ hm p ∧ hm p < 12) {j : Nat} (hj : j < 4 + 5 * n) : 0 ≤ imB y ni n num hm j ∧ imB y ni n num hm j ≤ 255 := by
  by_cases c : j < 4
  · unfold imB
    have b1 := byt_lt y 8
    have b2 := byt_lt y 0
    by_cases c0 : j = 0
    · rw [if_pos c0]; omega
    rw [if_neg c0]
    by_cases c1 : j = 1
    · rw [if_pos c1]; omega
    rw [if_neg c1]
    by_cases c2 : j = 2
    · rw [if_pos c2]; omega
    rw [if_neg c2, if_pos (by omega)]; omega
  · rw [show j = 4 + 5 * ((j - 4) / 5) + (j - 4) % 5 from by omega, imB_p (Nat.mod_lt _ (by decide))]
    have b3 := byt_lt (num ((j - 4) / 5)) (24 - 8 * ((j - 4) % 5))
    have b4 := hh ((j - 4) / 5) (by omega)
    split <;> omega
def ck (B : Nat → Int) : Nat → Int
  | 0 => 73
  | m + 1 => Int.tmod (5 * ck B m + B m) 251
theorem ck_in {B : Nat → Int} : ∀ m : Nat, (∀ j, j < m → 0 ≤ B j ∧ B j ≤ 255) → 0 ≤ ck B m ∧ ck B m < 251
  | 0, _ => ⟨show (0 : Int) ≤ 73 by decide, show (73 : Int) < 251 by decide⟩
  | m + 1, h => by
    have h1 := ck_in m (fun j hj => h j (by omega))
    have h2 := h m (by omega)
    exact ⟨Int.tmod_nonneg _ (by omega), Int.tmod_lt_of_pos _ (by decide)⟩
theorem ct_check_84 {N : Nat} {X : Nat → Int} {d L : Nat} {U : am_U} {B : Nat → Int} (hL : L ≤ 85) (h1 : ∀ j, j < L → U 84 j = B j) (h2 : ∀ j, j < L → 0 ≤ B j ∧ B j ≤ 255) : ∀ m i : Nat, i + m = L → EvK N X (Fk_checkOf_84_s5 d (L : Nat) (ck B i) (i : Nat) U) (rI (ck B L) U) := by
  intro m
  induction m with
  | zero =>
    intro i hi
    obtain rfl : i = L := by omega
    exact Fk_checkOf_84_r5 ⟨fun _ => rfl, fun z => absurd z (by omega)⟩
  | succ m ih =>
    intro i hi
    have b := ck_in (B := B) i (fun j hj => h2 j (by omega))
    have b2 := h2 i (by omega)
    have nx := ih (i + 1) (by omega)
    refine Fk_checkOf_84_r5 ⟨fun z => absurd z (by omega), fun _ => ⟨fun z => absurd z (by omega), fun _ => ⟨by omega, ?_⟩⟩⟩
    rw [Int.toNat_natCast, h1 i (by omega), w32_eq (x := 5 * ck B i) (by omega) (by omega), w32_eq (x := 5 * ck B i + B i) (by omega) (by omega), w32_succ (i := i) (by omega)]
    exact nx
theorem D_im_l {N : Nat} {X : Nat → Int} {d n : Nat} {U0 : am_U} {y ni : Int} (hn : U0 16 0 = (n : Nat)) (hn2 : n ≤ 16) (hni : ni = 0 ∨ ni = 1) (hh : ∀ p, p < n → -1 ≤ U0 18 p ∧ U0 18 p < 12) : ∀ m p : Nat, p + m = n → ∀ U : am_U, (∀ r, r ≠ 84 → U r = U0 r) → (∀ j, j < 4 + 5 * p → U 84 j = imB y ni n (U0 17) (U0 18) j) → ∃ U', EvK N X (Fk_writeTo_s62 (d + 1) ((5 + 5 * n : Nat) : Int) (p : Nat) U) (rI ((5 + 5 * n : Nat) : Int) U') ∧ (∀ r, r ≠ 84 → U' r = U0 r) ∧ (∀ j, j < 4 + 5 * n → U' 84 j = imB y ni n (U0 17) (U0 18) j) ∧ U' 84 (4 + 5 * n) = ck (imB y ni n (U0 17) (U0 18)) (4 + 5 * n) := by
  intro m
  induction m with
  | zero =>
    intro p hp U h1 h2
    obtain rfl : p = n := by omega
    have cc := ct_check_84 (N := N) (X := X) (d := d) (L := 4 + 5 * p) (U := U) (B := imB y ni p (U0 17) (U0 18)) (by omega) h2 (fun j hj => imB_in hni hn2 hh hj) (4 + 5 * p) 0 (by omega)
    have e : w32 (((5 + 5 * p : Nat) : Int) - 1) = ((4 + 5 * p : Nat) : Int) := by rw [w32_eq (by omega) (by omega)]; omega
    refine ⟨am_upd U 84 (4 + 5 * p) (ck (imB y ni p (U0 17) (U0 18)) (4 + 5 * p)), Fk_writeTo_r62 ⟨fun _ => ⟨_, _, by rw [e]; exact Fk_checkOf_84_r0 cc, ?_⟩, fun z => absurd z (by rw [h1 16 (by decide), hn]; clear e; omega)⟩, fun r hr => by rw [upd_row hr, h1 r hr], fun j hj => by rw [upd_ne (by clear e; omega)]; exact h2 j hj, upd_at _ _ _ _⟩
    rw [e, Int.toNat_natCast]
    clear e
    exact ⟨by omega, rfl⟩
  | succ m ih =>
    intro p hp U h1 h2
    have e16 : U 16 = U0 16 := h1 16 (by decide)
    have e17 : U 17 = U0 17 := h1 17 (by decide)
    have e18 : U 18 = U0 18 := h1 18 (by decide)
    have hhp := hh p (by omega)
    obtain ⟨U', k1, k2⟩ := ih (p + 1) (by omega) (am_upd (am_upd (am_upd (am_upd (am_upd U 84 (4 + 5 * p) ((byt (U0 17 p) 24 : Nat) : Int)) 84 (4 + 5 * p + 1) ((byt (U0 17 p) 16 : Nat) : Int)) 84 (4 + 5 * p + 2) ((byt (U0 17 p) 8 : Nat) : Int)) 84 (4 + 5 * p + 3) ((byt (U0 17 p) 0 : Nat) : Int)) 84 (4 + 5 * p + 4) (U0 18 p + 1)) (fun r hr => by rw [upd_row hr, upd_row hr, upd_row hr, upd_row hr, upd_row hr, h1 r hr]) (fun j hj => by
      rw [upd_if, upd_if, upd_if, upd_if, upd_if]
      by_cases c4 : j = 4 + 5 * p + 4
      · rw [if_pos c4, c4, imB_p (by decide), if_pos rfl]
      rw [if_neg c4]
      by_cases c3 : j = 4 + 5 * p + 3
      · rw [if_pos c3, c3, imB_p (by decide), if_neg (by decide)]
      rw [if_neg c3]
      by_cases c2 : j = 4 + 5 * p + 2
      · rw [if_pos c2, c2, imB_p (by decide), if_neg (by decide)]
      rw [if_neg c2]
      by_cases c1 : j = 4 + 5 * p + 1
      · rw [if_pos c1, c1, imB_p (by decide), if_neg (by decide)]
      rw [if_neg c1]
      by_cases c0 : j = 4 + 5 * p
      · have z := imB_p (y := y) (ni := ni) (n := n) (num := U0 17) (hm := U0 18) (p := p) (q := 0) (by decide)
        rw [Nat.add_zero, if_neg (by decide)] at z
        rw [if_pos c0, c0, z]
      rw [if_neg c0]; exact h2 j (by omega))
    refine ⟨U', Fk_writeTo_r62 ⟨fun z => absurd z (by rw [e16, hn]; omega), fun _ => ⟨by omega, ?_⟩⟩, k2⟩
    rw [Int.toNat_natCast, e17, e18, w32_eq (x := 5 * ((p : Nat) : Int)) (by omega) (by omega), w32_eq (x := 4 + 5 * ((p : Nat) : Int)) (by omega) (by omega), w32_eq (x := 4 + 5 * ((p : Nat) : Int) + 1) (by omega) (by omega), w32_eq (x := 4 + 5 * ((p : Nat) : Int) + 2) (by omega) (by omega), w32_eq (x := 4 + 5 * ((p : Nat) : Int) + 3) (by omega) (by omega), w32_eq (x := 4 + 5 * ((p : Nat) : Int) + 4) (by omega) (by omega), w32_succ (i := p) (by omega), show (4 + 5 * ((p : Nat) : Int)).toNat = 4 + 5 * p from by omega, show (4 + 5 * ((p : Nat) : Int) + 1).toNat = 4 + 5 * p + 1 from by omega, show (4 + 5 * ((p : Nat) : Int) + 2).toNat = 4 + 5 * p + 2 from by omega, show (4 + 5 * ((p : Nat) : Int) + 3).toNat = 4 + 5 * p + 3 from by omega, show (4 + 5 * ((p : Nat) : Int) + 4).toNat = 4 + 5 * p + 4 from by omega, num_hi, show am_and (am_shr (U0 17 p) 16) 255 = ((byt (U0 17 p) 16 : Nat) : Int) from byte_shr _ (n := 16) (by decide), show am_and (am_shr (U0 17 p) 8) 255 = ((byt (U0 17 p) 8 : Nat) : Int) from byte_shr _ (n := 8) (by decide), and255, w32_eq (x := U0 18 p + 1) (by omega) (by omega)]
    exact ⟨by omega, by omega, by omega, by omega, by omega, k1⟩
theorem ct_writeTo {N : Nat} {X : Nat → Int} {d n : Nat} {U : am_U} (hn : U 16 0 = (n : Nat)) (hn2 : n ≤ 16) (hy : 0 ≤ U 16 1 ∧ U 16 1 ≤ 9999) (hni : U 16 2 = 0 ∨ U 16 2 = 1) (hh : ∀ p, p < n → -1 ≤ U 18 p ∧ U 18 p < 12) : ∃ U', EvK N X (Fk_writeTo_s0 (d + 1) U) (rI ((5 + 5 * n : Nat) : Int) U') ∧ (∀ r, r ≠ 84 → U' r = U r) ∧ (∀ j, j < 4 + 5 * n → U' 84 j = imB (U 16 1) (U 16 2) n (U 17) (U 18) j) ∧ U' 84 (4 + 5 * n) = ck (imB (U 16 1) (U 16 2) n (U 17) (U 18)) (4 + 5 * n) := by
  obtain ⟨U', k1, k2⟩ := D_im_l (N := N) (X := X) (d := d) (U0 := U) (y := U 16 1) hn hn2 hni hh n 0 (by omega) (am_upd (am_upd (am_upd (am_upd U 84 0 ((byt (U 16 1) 8 : Nat) : Int)) 84 1 ((byt (U 16 1) 0 : Nat) : Int)) 84 2 (U 16 2)) 84 3 (n : Nat)) (fun r hr => by rw [upd_row hr, upd_row hr, upd_row hr, upd_row hr]) (fun j hj => by
    rw [upd_if, upd_if, upd_if, upd_if]
    unfold imB
    by_cases c0 : j = 0
    · rw [if_neg (by omega), if_neg (by omega), if_neg (by omega), if_pos c0, if_pos c0]
    by_cases c1 : j = 1
    · rw [if_neg (by omega), if_neg (by omega), if_pos c1, if_neg c0, if_pos c1]
    by_cases c2 : j = 2
    · rw [if_neg (by omega), if_pos c2, if_neg c0, if_neg c1, if_pos c2]
    have c3 : j = 3 := by omega
    rw [if_pos c3, if_neg c0, if_neg c1, if_neg c2, if_pos c3])
  refine ⟨U', Fk_writeTo_r0 ?_, k2⟩
  have e : w32 (5 + w32 (5 * U 16 0)) = ((5 + 5 * n : Nat) : Int) := by rw [hn, w32_eq (x := 5 * ((n : Nat) : Int)) (by omega) (by omega), w32_eq (by omega) (by omega)]; omega
  rw [e]
  clear e
  refine ⟨fun _ => ?_, fun z => absurd z (by omega)⟩
  rw [year_hi hy, and255, hn]
  rcases hni with h | h
  · rw [h] at k1; rw [h]; exact ⟨fun _ => k1, fun z => absurd rfl z⟩
  · rw [h] at k1; rw [h]; exact ⟨fun z => absurd z (by decide), fun _ => k1⟩
