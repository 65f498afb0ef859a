theorem ct_fill_51_l {N : Nat} {X : Nat → Int} {d : Nat} {v : Int} (U : am_U) : ∀ m i : Nat, i + m = 48 → EvK N X (Ar_fill_II_51_s5 d v (i : Nat) 48 (fil U 51 i v)) (rV (fil U 51 48 v)) := by
  intro m
  induction m with
  | zero =>
    intro i hi
    obtain rfl : i = 48 := by omega
    exact Ar_fill_II_51_r5 ⟨fun _ => rfl, fun h => absurd h (by omega)⟩
  | succ m ih =>
    intro i hi
    refine Ar_fill_II_51_r5 ⟨fun h => absurd h (by omega), fun _ => ⟨by omega, ?_⟩⟩
    rw [w32_succ (by omega), Int.toNat_natCast, fil_succ]
    exact ih (i + 1) (by omega)
theorem ct_fill_51 {N : Nat} {X : Nat → Int} {d : Nat} {v : Int} {U : am_U} : EvK N X (Ar_fill_II_51_s0 d v U) (rV (fil U 51 48 v)) := by
  refine Ar_fill_II_51_r0 ?_
  have := ct_fill_51_l (N := N) (X := X) (d := d) (v := v) U 48 0 rfl
  rw [fil_0] at this
  exact this
theorem ct_fill_83_l {N : Nat} {X : Nat → Int} {d : Nat} {v : Int} (U : am_U) : ∀ m i : Nat, i + m = 64 → EvK N X (Ar_fill_II_83_s5 d v (i : Nat) 64 (fil U 83 i v)) (rV (fil U 83 64 v)) := by
  intro m
  induction m with
  | zero =>
    intro i hi
    obtain rfl : i = 64 := by omega
    exact Ar_fill_II_83_r5 ⟨fun _ => rfl, fun h => absurd h (by omega)⟩
  | succ m ih =>
    intro i hi
    refine Ar_fill_II_83_r5 ⟨fun h => absurd h (by omega), fun _ => ⟨by omega, ?_⟩⟩
    rw [w32_succ (by omega), Int.toNat_natCast, fil_succ]
    exact ih (i + 1) (by omega)
theorem ct_fill_83 {N : Nat} {X : Nat → Int} {d : Nat} {v : Int} {U : am_U} : EvK N X (Ar_fill_II_83_s0 d v U) (rV (fil U 83 64 v)) := by
  refine Ar_fill_II_83_r0 ?_
  have := ct_fill_83_l (N := N) (X := X) (d := d) (v := v) U 64 0 rfl
  rw [fil_0] at this
  exact this
theorem ct_fill_24_l {N : Nat} {X : Nat → Int} {d : Nat} {v : Int} (U : am_U) : ∀ m i : Nat, i + m = 12 → EvK N X (Ar_fill_II_24_s5 d v (i : Nat) 12 (fil U 24 i v)) (rV (fil U 24 12 v)) := by
  intro m
  induction m with
  | zero =>
    intro i hi
    obtain rfl : i = 12 := by omega
    exact Ar_fill_II_24_r5 ⟨fun _ => rfl, fun h => absurd h (by omega)⟩
  | succ m ih =>
    intro i hi
    refine Ar_fill_II_24_r5 ⟨fun h => absurd h (by omega), fun _ => ⟨by omega, ?_⟩⟩
    rw [w32_succ (by omega), Int.toNat_natCast, fil_succ]
    exact ih (i + 1) (by omega)
theorem ct_fill_24 {N : Nat} {X : Nat → Int} {d : Nat} {v : Int} {U : am_U} : EvK N X (Ar_fill_II_24_s0 d v U) (rV (fil U 24 12 v)) := by
  refine Ar_fill_II_24_r0 ?_
  have := ct_fill_24_l (N := N) (X := X) (d := d) (v := v) U 12 0 rfl
  rw [fil_0] at this
  exact this
theorem ct_fill_19_l {N : Nat} {X : Nat → Int} {d : Nat} {v : Int} (U : am_U) : ∀ m i : Nat, i + m = 12 → EvK N X (Ar_fill_II_19_s5 d v (i : Nat) 12 (fil U 19 i v)) (rV (fil U 19 12 v)) := by
  intro m
  induction m with
  | zero =>
    intro i hi
    obtain rfl : i = 12 := by omega
    exact Ar_fill_II_19_r5 ⟨fun _ => rfl, fun h => absurd h (by omega)⟩
  | succ m ih =>
    intro i hi
    refine Ar_fill_II_19_r5 ⟨fun h => absurd h (by omega), fun _ => ⟨by omega, ?_⟩⟩
    rw [w32_succ (by omega), Int.toNat_natCast, fil_succ]
    exact ih (i + 1) (by omega)
theorem ct_fill_19 {N : Nat} {X : Nat → Int} {d : Nat} {v : Int} {U : am_U} : EvK N X (Ar_fill_II_19_s0 d v U) (rV (fil U 19 12 v)) := by
  refine Ar_fill_II_19_r0 ?_
  have := ct_fill_19_l (N := N) (X := X) (d := d) (v := v) U 12 0 rfl
  rw [fil_0] at this
  exact this
theorem ct_fill_47_l {N : Nat} {X : Nat → Int} {d : Nat} {v : Int} (U : am_U) : ∀ m i : Nat, i + m = 128 → EvK N X (Ar_fill_II_47_s5 d v (i : Nat) 128 (fil U 47 i v)) (rV (fil U 47 128 v)) := by
  intro m
  induction m with
  | zero =>
    intro i hi
    obtain rfl : i = 128 := by omega
    exact Ar_fill_II_47_r5 ⟨fun _ => rfl, fun h => absurd h (by omega)⟩
  | succ m ih =>
    intro i hi
    refine Ar_fill_II_47_r5 ⟨fun h => absurd h (by omega), fun _ => ⟨by omega, ?_⟩⟩
    rw [w32_succ (by omega), Int.toNat_natCast, fil_succ]
    exact ih (i + 1) (by omega)
theorem ct_fill_47 {N : Nat} {X : Nat → Int} {d : Nat} {v : Int} {U : am_U} : EvK N X (Ar_fill_II_47_s0 d v U) (rV (fil U 47 128 v)) := by
  refine Ar_fill_II_47_r0 ?_
  have := ct_fill_47_l (N := N) (X := X) (d := d) (v := v) U 128 0 rfl
  rw [fil_0] at this
  exact this
theorem ct_fill_54_l {N : Nat} {X : Nat → Int} {d : Nat} {v : Int} (U : am_U) : ∀ m i : Nat, i + m = 16 → EvK N X (Ar_fill_II_54_s5 d v (i : Nat) 16 (fil U 54 i v)) (rV (fil U 54 16 v)) := by
  intro m
  induction m with
  | zero =>
    intro i hi
    obtain rfl : i = 16 := by omega
    exact Ar_fill_II_54_r5 ⟨fun _ => rfl, fun h => absurd h (by omega)⟩
  | succ m ih =>
    intro i hi
    refine Ar_fill_II_54_r5 ⟨fun h => absurd h (by omega), fun _ => ⟨by omega, ?_⟩⟩
    rw [w32_succ (by omega), Int.toNat_natCast, fil_succ]
    exact ih (i + 1) (by omega)
theorem ct_fill_54 {N : Nat} {X : Nat → Int} {d : Nat} {v : Int} {U : am_U} : EvK N X (Ar_fill_II_54_s0 d v U) (rV (fil U 54 16 v)) := by
  refine Ar_fill_II_54_r0 ?_
  have := ct_fill_54_l (N := N) (X := X) (d := d) (v := v) U 16 0 rfl
  rw [fil_0] at this
  exact this
theorem ct_fill_53_l {N : Nat} {X : Nat → Int} {d : Nat} {v : Int} (U : am_U) : ∀ m i : Nat, i + m = 16 → EvK N X (Ar_fill_II_53_s5 d v (i : Nat) 16 (fil U 53 i v)) (rV (fil U 53 16 v)) := by
  intro m
  induction m with
  | zero =>
    intro i hi
    obtain rfl : i = 16 := by omega
    exact Ar_fill_II_53_r5 ⟨fun _ => rfl, fun h => absurd h (by omega)⟩
  | succ m ih =>
    intro i hi
    refine Ar_fill_II_53_r5 ⟨fun h => absurd h (by omega), fun _ => ⟨by omega, ?_⟩⟩
    rw [w32_succ (by omega), Int.toNat_natCast, fil_succ]
    exact ih (i + 1) (by omega)
theorem ct_fill_53 {N : Nat} {X : Nat → Int} {d : Nat} {v : Int} {U : am_U} : EvK N X (Ar_fill_II_53_s0 d v U) (rV (fil U 53 16 v)) := by
  refine Ar_fill_II_53_r0 ?_
  have := ct_fill_53_l (N := N) (X := X) (d := d) (v := v) U 16 0 rfl
  rw [fil_0] at this
  exact this
theorem ct_D_isPerson {N : Nat} {X : Nat → Int} {d : Nat} {U : am_U} (x : Int) : EvK N X (D_isPerson_s0 d x U) (rI (b2i (0 ≤ x ∧ x < U 16 0)) U) := by
  refine D_isPerson_r0 ?_
  (repeat' (first | apply And.intro | intro _)) <;> (unfold b2i; split <;> first | rfl | (exfalso; omega))
theorem ct_D_isHouse {N : Nat} {X : Nat → Int} {d : Nat} {U : am_U} (x : Int) : EvK N X (D_isHouse_s0 d x U) (rI (b2i (0 ≤ x ∧ x < U 3 1)) U) := by
  refine D_isHouse_r0 ?_
  (repeat' (first | apply And.intro | intro _)) <;> (unfold b2i; split <;> first | rfl | (exfalso; omega))
theorem ct_M_isPerson {N : Nat} {X : Nat → Int} {d : Nat} {U : am_U} (x : Int) : EvK N X (M_isPerson_s0 d x U) (rI (b2i (0 ≤ x ∧ x < U 122 0)) U) := by
  refine M_isPerson_r0 ?_
  (repeat' (first | apply And.intro | intro _)) <;> (unfold b2i; split <;> first | rfl | (exfalso; omega))
theorem ct_M_is {N : Nat} {X : Nat → Int} {d : Nat} {U : am_U} (x y z : Int) : EvK N X (M_is_s0 d x y z U) (rI (b2i (y ≤ x ∧ x ≤ z)) U) := by
  refine M_is_r0 ?_
  (repeat' (first | apply And.intro | intro _)) <;> (unfold b2i; split <;> first | rfl | (exfalso; omega))
theorem ct_M_isHouse {N : Nat} {X : Nat → Int} {d : Nat} {U : am_U} (x : Int) {b : Nat} (hb : U 86 13 = b) (hb2 : b < 2) : EvK N X (M_isHouse_s0 d x U) (rI (b2i (0 ≤ x ∧ x < U 90 b)) U) := by
  refine M_isHouse_r0 ?_
  rw [hb, Int.toNat_natCast]
  refine ⟨fun h => by rw [b2i_f (by omega)], fun h => ⟨by omega, fun h => by rw [b2i_f (by omega)], fun h => by rw [b2i_t (by omega)]⟩⟩
theorem ct_M_isStreet {N : Nat} {X : Nat → Int} {d : Nat} {U : am_U} (x : Int) {b : Nat} (hb : U 86 13 = b) (hb2 : b < 2) : EvK N X (M_isStreet_s0 d x U) (rI (b2i (0 ≤ x ∧ x < U 88 b)) U) := by
  refine M_isStreet_r0 ?_
  rw [hb, Int.toNat_natCast]
  refine ⟨fun h => by rw [b2i_f (by omega)], fun h => ⟨by omega, fun h => by rw [b2i_f (by omega)], fun h => by rw [b2i_t (by omega)]⟩⟩
theorem ix_eq {a b c : Int} {k : Nat} (hk : a * b + c = (k : Nat)) (h1 : 0 ≤ a * b) (h2 : a * b < 2000000000) (h3 : k < 2000000000) : w32 (w32 (a * b) + c) = (k : Nat) := by
  rw [w32_eq (x := a * b) (by omega) (by omega), hk, w32_eq (by omega) (by omega)]
theorem ct_M_roomsOf {N : Nat} {X : Nat → Int} {d : Nat} {U : am_U} (h : Nat) {b : Nat} (hb : U 86 13 = b) (hb2 : b < 2) (hh : h < 12) : EvK N X (M_roomsOf_s0 d (h : Nat) U) (rI (U 93 (12 * b + h)) U) := by
  refine M_roomsOf_r0 ?_
  rw [hb, ix_eq (k := 12 * b + h) (by omega) (by omega) (by omega) (by omega), Int.toNat_natCast]
  exact ⟨by omega, rfl⟩
theorem ct_M_streetOf {N : Nat} {X : Nat → Int} {d : Nat} {U : am_U} (h : Nat) {b : Nat} (hb : U 86 13 = b) (hb2 : b < 2) (hh : h < 12) : EvK N X (M_streetOf_s0 d (h : Nat) U) (rI (U 92 (12 * b + h)) U) := by
  refine M_streetOf_r0 ?_
  rw [hb, ix_eq (k := 12 * b + h) (by omega) (by omega) (by omega) (by omega), Int.toNat_natCast]
  exact ⟨by omega, rfl⟩
theorem ct_M_numberOf {N : Nat} {X : Nat → Int} {d : Nat} {U : am_U} (v p : Nat) (hv : v < 22) (hp : p < 16) : EvK N X (M_numberOf_s0 d (v : Nat) (p : Nat) U) (rI (U 123 (16 * v + p)) U) := by
  refine M_numberOf_r0 ?_
  rw [ix_eq (k := 16 * v + p) (by omega) (by omega) (by omega) (by omega), Int.toNat_natCast]
  exact ⟨by omega, rfl⟩
theorem ct_M_homeOf {N : Nat} {X : Nat → Int} {d : Nat} {U : am_U} (v p : Nat) (hv : v < 22) (hp : p < 16) : EvK N X (M_homeOf_s0 d (v : Nat) (p : Nat) U) (rI (U 124 (16 * v + p)) U) := by
  refine M_homeOf_r0 ?_
  rw [ix_eq (k := 16 * v + p) (by omega) (by omega) (by omega) (by omega), Int.toNat_natCast]
  exact ⟨by omega, rfl⟩
theorem ct_M_refuses {N : Nat} {X : Nat → Int} {d : Nat} {U : am_U} (k : Nat) (hk : k < 6) : EvK N X (M_refuses_s0 d (k : Nat) U) (rI (-1) (am_upd U 119 k (w32 (U 119 k + 1)))) := by
  refine M_refuses_r0 ⟨by omega, ?_⟩
  rw [Int.toNat_natCast]
theorem ct_D_refuse {N : Nat} {X : Nat → Int} {d : Nat} {U : am_U} (k : Nat) (hk : k < 6) : EvK N X (D_refuse_s0 d (k : Nat) U) (rI 0 (am_upd U 85 k (w32 (U 85 k + 1)))) := by
  refine D_refuse_r0 ⟨fun h => absurd h (by omega), fun _ => ⟨fun h => absurd h (by omega), fun _ => ⟨by omega, ?_⟩⟩⟩
  rw [Int.toNat_natCast]
theorem ct_bitCount {N : Nat} {X : Nat → Int} {d : Nat} {U : am_U} (x : Int) : EvK N X (In_bitCount_s0 d x U) (rI ((fb_ct (tb x) 32 : Nat) : Int) U) := by
  refine In_bitCount_r0 ?_
  show rI _ U = rI (am_and (je5 (je4 (je3 (je2 (je1 x))))) 63) U
  rw [je_all]
theorem ct_bitAt_l {N : Nat} {X : Nat → Int} {d : Nat} {U : am_U} (x k : Int) (hk : k < 2147483648) : ∀ m i : Nat, i + m = 32 → (fb_ct (tb x) i : Int) ≤ k → EvK N X (D_bitAt_s10 d x k (k - (fb_ct (tb x) i : Nat)) (i : Nat) U) (rI (kth (tb x) k 32) U) := by
  intro m
  induction m with
  | zero =>
    intro i hi hle
    obtain rfl : i = 32 := by omega
    exact D_bitAt_r10 ⟨fun _ => by rw [kth_m1 hle], fun h => absurd h (by omega)⟩
  | succ m ih =>
    intro i hi hle
    have hs := fb_ct_succ (tb x) i
    have hl := fb_ct_le (tb x) i
    refine D_bitAt_r10 ⟨fun h => absurd h (by omega), fun _ => ?_⟩
    rw [bit_ushr (by omega), w32_succ (by omega)]
    cases hb : tb x i with
    | false =>
      refine ⟨fun _ => ?_, fun h => absurd h (by simp)⟩
      have := ih (i + 1) (by omega) (by rw [hs, hb]; simpa using hle)
      rw [hs, hb] at this
      simpa using this
    | true =>
      refine ⟨fun h => absurd h (by simp), fun _ => ⟨fun h0 => ?_, fun h0 => ?_⟩⟩
      · have e : fb_ct (tb x) (i + 1) = fb_ct (tb x) i + 1 := by rw [hs, hb]; rfl
        have := ih (i + 1) (by omega) (by rw [e]; omega)
        rw [e] at this
        rw [w32_eq (by omega) (by omega)]
        rw [show k - (fb_ct (tb x) i : Int) + (-1) = k - ((fb_ct (tb x) i + 1 : Nat) : Int) from by omega]
        exact this
      · rw [kth_in hb (by omega) (by omega)]
theorem ct_bitAt {N : Nat} {X : Nat → Int} {d : Nat} {U : am_U} (x k : Int) (hk : k < 2147483648) : EvK N X (D_bitAt_s0 d x k U) (rI (kth (tb x) k 32) U) := by
  refine D_bitAt_r0 ⟨fun h => ?_, fun h => by rw [kth_neg h]⟩
  have := ct_bitAt_l (N := N) (X := X) (d := d) (U := U) x k hk 32 0 rfl (by simpa [fb_ct] using h)
  simpa [fb_ct] using this
theorem ct_M_living_l {N : Nat} {X : Nat → Int} {d : Nat} {U : am_U} (v : Nat) (h : Int) {n : Nat} (hv : v < 22) (hn : U 122 v = n) (hn2 : n ≤ 16) : ∀ m i : Nat, i + m = n → EvK N X (M_living_s5 (d + 1) (v : Nat) h ((fb_ct (fun p => U 124 (16 * v + p) == h) i : Nat) : Int) (i : Nat) U) (rI ((fb_ct (fun p => U 124 (16 * v + p) == h) n : Nat) : Int) U) := by
  intro m
  induction m with
  | zero =>
    intro i hi
    obtain rfl : i = n := by omega
    refine M_living_r5 ⟨by omega, fun _ => rfl, fun q => ?_⟩
    rw [Int.toNat_natCast, hn] at q
    exact absurd q (by omega)
  | succ m ih =>
    intro i hi
    have hl := fb_ct_le (fun p => U 124 (16 * v + p) == h) i
    have hs := fb_ct_succ (fun p => U 124 (16 * v + p) == h) i
    have := ih (i + 1) (by omega)
    refine M_living_r5 ⟨by omega, fun q => ?_, fun _ => ⟨_, _, ct_M_homeOf v i hv (by omega), fun q => ?_, fun q => ?_⟩⟩
    · rw [Int.toNat_natCast, hn] at q
      exact absurd q (by omega)
    · rw [hs, if_neg (by simpa using q)] at this
      rw [w32_0 (by omega) (by omega), w32_succ (by omega)]
      exact this
    · rw [hs, if_pos (by simpa using q)] at this
      rw [w32_succ (by omega), w32_succ (by omega)]
      exact this
theorem ct_M_living {N : Nat} {X : Nat → Int} {d : Nat} {U : am_U} (v : Nat) (h : Int) {n : Nat} (hv : v < 22) (hn : U 122 v = n) (hn2 : n ≤ 16) : EvK N X (M_living_s0 (d + 1) (v : Nat) h U) (rI ((fb_ct (fun p => U 124 (16 * v + p) == h) n : Nat) : Int) U) :=
  M_living_r0 (ct_M_living_l v h hv hn hn2 n 0 (by omega))
theorem ct_Fk_living_16 {N : Nat} {X : Nat → Int} {d : Nat} {U : am_U} (h : Nat) (hh : h < 12) : EvK N X (Fk_living_16_s0 (d + 1) (h : Nat) U) (rI ((fb_ct (tb (U 19 h)) 32 : Nat) : Int) U) :=
  Fk_living_16_r0 ⟨by omega, _, _, ct_bitCount _, rfl⟩
theorem ct_Fk_living_21 {N : Nat} {X : Nat → Int} {d : Nat} {U : am_U} (h : Nat) (hh : h < 12) : EvK N X (Fk_living_21_s0 (d + 1) (h : Nat) U) (rI ((fb_ct (tb (U 24 h)) 32 : Nat) : Int) U) :=
  Fk_living_21_r0 ⟨by omega, _, _, ct_bitCount _, rfl⟩
