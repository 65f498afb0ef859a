/-! the tape, the seed -/
def byt (x : Int) (n : Nat) : Nat := u32 x / 2 ^ n % 256
theorem byt_lt (x : Int) (n : Nat) : byt x n < 256 := Nat.mod_lt _ (by decide)
theorem tb_255 {i : Nat} (h : i < 32) : tb 255 i = decide (i < 8) := (by decide +kernel : ∀ i, i < 32 → tb 255 i = decide (i < 8)) i h
theorem byte_ushr (x : Int) {n : Nat} (hn : n < 32) : am_and (am_ushr x (n : Nat)) 255 = ((byt x n : Nat) : Int) := by
  have e : u32 (am_and (am_ushr x (n : Nat)) 255) = byt x n := by
    rw [u32_and, u32_ushr x hn, show u32 255 = 2 ^ 8 - 1 from rfl, Nat.and_two_pow_sub_one_eq_mod]; rfl
  exact u32_inv (and_in _ _) e (by have := byt_lt x n; omega)
theorem byte_shr (x : Int) {n : Nat} (hn : n ≤ 24) : am_and (am_shr x (n : Nat)) 255 = ((byt x n : Nat) : Int) := by
  rw [← byte_ushr x (n := n) (by omega)]
  refine tb_ext (and_in _ _) (and_in _ _) (fun i hi => ?_)
  rw [tb_and, tb_and, tb_shr (by omega) hi, tb_ushr (by omega), tb_255 hi]
  by_cases c : i < 8
  · rw [if_pos (by omega)]
  · rw [decide_eq_false c, Bool.and_false, Bool.and_false]
def tpv (o : Nat → Int) (L : Nat) (x : Int) : Nat → Int := s1 (s1 (s1 (s1 o L ((byt x 24 : Nat) : Int)) (L + 1) ((byt x 16 : Nat) : Int)) (L + 2) ((byt x 8 : Nat) : Int)) (L + 3) ((byt x 0 : Nat) : Int)
def tpR (a c : Nat → Int) : Prop := ∀ j, j < 1600 → a j = c j ∧ 0 ≤ c j ∧ c j ≤ 255
theorem tpR_s1 {a c : Nat → Int} {L n : Nat} {x : Int} (h : tpR a c) : tpR (s1 a L ((byt x n : Nat) : Int)) (s1 c L ((byt x n : Nat) : Int)) := by
  intro j hj
  by_cases e : j = L
  · rw [e, s1_at, s1_at]; have := byt_lt x n; omega
  · rw [s1_ne e, s1_ne e]; exact h j hj
theorem tpR_v {a c : Nat → Int} {L : Nat} {x : Int} (h : tpR a c) : tpR (tpv a L x) (tpv c L x) := tpR_s1 (tpR_s1 (tpR_s1 (tpR_s1 h)))
theorem ct_putFour {N : Nat} {X : Nat → Int} {d L : Nat} {U : am_U} (x : Int) (hL : U 1 1 = (L : Nat)) (hL2 : L + 4 ≤ 1600) : ∃ U', EvK N X (D_putFour_s0 d x U) (rV U') ∧ U' 2 = tpv (U 2) L x ∧ U' 1 1 = ((L + 4 : Nat) : Int) ∧ ∀ r j, r ≠ 2 → ¬ (r = 1 ∧ j = 1) → U' r j = U r j := by
  have st : ∀ {V : am_U} {i k : Nat} {R}, V 1 1 = (i : Nat) → i < 1600 → k < 32 → EvK N X (D_putFour_s3 d x (((k : Nat) : Int) - 8) (am_upd (am_upd V 2 i ((byt x k : Nat) : Int)) 1 1 ((i + 1 : Nat) : Int))) R → EvK N X (D_putFour_s3 d x ((k : Nat) : Int) V) R := fun {V i k R} h1 h2 h3 h => by
    refine D_putFour_r3 ⟨fun z => absurd z (by omega), fun _ => ⟨fun z => absurd z (by rw [h1]; omega), fun _ => ?_⟩⟩
    rw [h1, Int.toNat_natCast, byte_ushr x h3, w32_succ (i := i) (by omega), w32_eq (x := ((k : Nat) : Int) + -8) (by omega) (by omega)]
    exact ⟨by omega, h⟩
  refine ⟨_, D_putFour_r0 (st (k := 24) hL (by omega) (by decide) (st (k := 16) (i := L + 1) (upd_at _ _ _ _) (by omega) (by decide) (st (k := 8) (i := L + 2) (upd_at _ _ _ _) (by omega) (by decide) (st (k := 0) (i := L + 3) (upd_at _ _ _ _) (by omega) (by decide) (D_putFour_r3 ⟨fun _ => rfl, fun z => absurd z (by decide)⟩))))), ?_, upd_at _ _ _ _, fun r j q1 q2 => ?_⟩
  · rw [upd_row (by decide), upd_s1, upd_row (by decide), upd_s1, upd_row (by decide), upd_s1, upd_row (by decide), upd_s1]; rfl
  · rw [upd_if2 q2, upd_row q1, upd_if2 q2, upd_row q1, upd_if2 q2, upd_row q1, upd_if2 q2, upd_row q1]
theorem ct_M_put {N : Nat} {X : Nat → Int} {d L : Nat} {U : am_U} (x : Int) (hL : U 86 1 = (L : Nat)) (hL2 : L + 4 ≤ 1600) : ∃ U', EvK N X (M_put_s0 d x U) (rV U') ∧ U' 87 = tpv (U 87) L x ∧ U' 86 1 = ((L + 4 : Nat) : Int) ∧ ∀ r j, r ≠ 87 → ¬ (r = 86 ∧ j = 1) → U' r j = U r j := by
  have st : ∀ {V : am_U} {i k : Nat} {R}, V 86 1 = (i : Nat) → i < 1600 → k ≤ 24 → EvK N X (M_put_s3 d x (((k : Nat) : Int) - 8) (am_upd (am_upd V 87 i ((byt x k : Nat) : Int)) 86 1 ((i + 1 : Nat) : Int))) R → EvK N X (M_put_s3 d x ((k : Nat) : Int) V) R := fun {V i k R} h1 h2 h3 h => by
    refine M_put_r3 ⟨fun z => absurd z (by omega), fun _ => ?_⟩
    rw [h1, Int.toNat_natCast, byte_shr x h3, w32_succ (i := i) (by omega), w32_eq (x := ((k : Nat) : Int) + -8) (by omega) (by omega)]
    exact ⟨by omega, h⟩
  refine ⟨_, M_put_r0 (st (k := 24) hL (by omega) (by decide) (st (k := 16) (i := L + 1) (upd_at _ _ _ _) (by omega) (by decide) (st (k := 8) (i := L + 2) (upd_at _ _ _ _) (by omega) (by decide) (st (k := 0) (i := L + 3) (upd_at _ _ _ _) (by omega) (by decide) (M_put_r3 ⟨fun _ => rfl, fun z => absurd z (by decide)⟩))))), ?_, upd_at _ _ _ _, fun r j q1 q2 => ?_⟩
  · rw [upd_row (by decide), upd_s1, upd_row (by decide), upd_s1, upd_row (by decide), upd_s1, upd_row (by decide), upd_s1]; rfl
  · rw [upd_if2 q2, upd_row q1, upd_if2 q2, upd_row q1, upd_if2 q2, upd_row q1, upd_if2 q2, upd_row q1]
def iTape (V : am_U) : Prop := (V 86 1 = V 1 1 ∧ 0 ≤ V 1 1 ∧ V 1 1 ≤ 1600) ∧ tpR (V 87) (V 2)
/-- nothing but the tape and the refusals has changed -/
def kT (U V : am_U) : Prop := ∀ r j, r ≠ 2 → r ≠ 87 → r ≠ 85 → r ≠ 119 → ¬ (r = 1 ∧ j = 1) → ¬ (r = 86 ∧ j = 1) → V r j = U r j
def tp2 (N : Nat) (X : Nat → Int) (sD sM : am_U → am_S) (U : am_U) : Prop := ∃ r U1 U2, EvK N X (sD U) (rI r U1) ∧ EvK N X (sM U1) (rI r U2) ∧ kT U U2 ∧ iTape U2 ∧ ∀ k, k < 6 → U2 119 k = U2 85 k
theorem tp_refused {N : Nat} {X : Nat → Int} {sD sM : am_U → am_S} {U : am_U} {c : Nat} {ra : Int} (ht : iTape U) (hs : ∀ k, k < 6 → U 119 k = U 85 k) (hc : c < 6) (hD : EvK N X (sD U) (rI ra (am_upd U 85 c (w32 (U 85 c + 1))))) (hM : EvK N X (sM (am_upd U 85 c (w32 (U 85 c + 1)))) (rI ra (am_upd (am_upd U 85 c (w32 (U 85 c + 1))) 119 c (w32 (U 119 c + 1))))) : tp2 N X sD sM U := by
  refine ⟨ra, _, _, hD, hM, fun r j _ _ q1 q2 _ _ => by rw [upd_row q2, upd_row q1], ?_, fun k hk => ?_⟩
  · unfold iTape
    rw [upd_row (show 86 ≠ 119 by decide), upd_row (show 86 ≠ 85 by decide), upd_row (show 1 ≠ 119 by decide), upd_row (show 1 ≠ 85 by decide), upd_row (show 87 ≠ 119 by decide), upd_row (show 87 ≠ 85 by decide), upd_row (show 2 ≠ 119 by decide), upd_row (show 2 ≠ 85 by decide)]
    exact ht
  · rw [upd_if, upd_row (show 119 ≠ 85 by decide), upd_row (show 85 ≠ 119 by decide), upd_if, hs k hk, hs c hc]
theorem pair_end {N : Nat} {X : Nat → Int} {d : Nat} {U : am_U} (ht : iTape U) (hs : ∀ k, k < 6 → U 119 k = U 85 k) (x : Int) : tp2 N X (D_end_s0 (d + 1) x) (M_end_s0 (d + 1) x) U := by
  obtain ⟨⟨h1, h2, h3⟩, h4⟩ := ht
  by_cases c : 0 ≤ x ∧ x ≤ U 1 1
  · refine ⟨1, am_upd U 1 1 x, am_upd (am_upd U 1 1 x) 86 1 x, D_end_r0 ⟨fun z => absurd z (by omega), fun _ => ⟨fun _ => rfl, fun z => absurd z (by omega)⟩⟩, M_end_r0 ?_, fun r j _ _ _ _ q1 q2 => by rw [upd_if2 q2, upd_if2 q1], ⟨⟨by rw [upd_at, upd_row (by decide), upd_at], by rw [upd_row (by decide), upd_at]; omega⟩, by rw [upd_row (by decide), upd_row (by decide), upd_row (by decide), upd_row (by decide)]; exact h4⟩, fun k hk => by rw [upd_row (by decide), upd_row (by decide), upd_row (by decide), upd_row (by decide)]; exact hs k hk⟩
    rw [upd_row (show 86 ≠ 1 by decide), h1]
    exact ⟨fun z => absurd z (by omega), fun _ => ⟨fun _ => rfl, fun z => absurd z (by omega)⟩⟩
  · have s119 : (am_upd U 85 0 (w32 (U 85 0 + 1))) 119 0 = U 119 0 := by rw [upd_row (by decide)]
    have mr := ct_M_refuses (N := N) (X := X) (d := d) (U := am_upd U 85 0 (w32 (U 85 0 + 1))) 0 (by decide)
    rw [s119] at mr
    clear s119
    refine tp_refused (c := 0) (ra := 0) ⟨⟨h1, h2, h3⟩, h4⟩ hs (by decide) (D_end_r0 ⟨fun _ => ⟨_, _, ct_D_refuse 0 (by decide), Or.inl rfl, rfl⟩, fun z => ⟨fun z2 => absurd ⟨z, z2⟩ c, fun _ => ⟨_, _, ct_D_refuse 0 (by decide), Or.inl rfl, rfl⟩⟩⟩) (M_end_r0 ?_)
    rw [upd_row (show 86 ≠ 85 by decide), h1]
    exact ⟨fun _ => ⟨_, _, mr, fun _ => rfl, fun z => absurd z (by decide)⟩, fun z => ⟨fun z2 => absurd ⟨z, z2⟩ c, fun _ => ⟨_, _, mr, fun _ => rfl, fun z => absurd z (by decide)⟩⟩⟩
theorem pair_feed {N : Nat} {X : Nat → Int} {d : Nat} {U : am_U} (ht : iTape U) (hs : ∀ k, k < 6 → U 119 k = U 85 k) (x1 x2 x3 x4 x5 : Int) : tp2 N X (D_feed_s0 (d + 1) x1 x2 x3 x4 x5) (M_feed_s0 (d + 1) x1 x2 x3 x4 x5) U := by
  obtain ⟨⟨h1, h2, h3⟩, h4⟩ := ht
  obtain ⟨L, hL⟩ : ∃ L : Nat, U 1 1 = L := ⟨(U 1 1).toNat, by omega⟩
  by_cases c : L + 20 ≤ 1600
  · obtain ⟨U1, a1, a2, a3, a4⟩ := ct_putFour (N := N) (X := X) (d := d) x1 hL (by omega)
    obtain ⟨U2, b1, b2, b3, b4⟩ := ct_putFour (N := N) (X := X) (d := d) x2 a3 (by omega)
    obtain ⟨U3, c1, c2, c3, c4⟩ := ct_putFour (N := N) (X := X) (d := d) x3 b3 (by omega)
    obtain ⟨U4, d1, d2, d3, d4⟩ := ct_putFour (N := N) (X := X) (d := d) x4 c3 (by omega)
    obtain ⟨U5, e1, e2, e3, e4⟩ := ct_putFour (N := N) (X := X) (d := d) x5 d3 (by omega)
    have fr : ∀ r j, r ≠ 2 → ¬ (r = 1 ∧ j = 1) → U5 r j = U r j := fun r j q1 q2 => by rw [e4 r j q1 q2, d4 r j q1 q2, c4 r j q1 q2, b4 r j q1 q2, a4 r j q1 q2]
    have u2 : U5 2 = tpv (tpv (tpv (tpv (tpv (U 2) L x1) (L + 4) x2) (L + 4 + 4) x3) (L + 4 + 4 + 4) x4) (L + 4 + 4 + 4 + 4) x5 := by rw [e2, d2, c2, b2, a2]
    have u87 : U5 87 = U 87 := funext fun j => fr 87 j (by decide) (by omega)
    have hM : U5 86 1 = (L : Nat) := by rw [fr 86 1 (by decide) (by decide), h1]; exact hL
    obtain ⟨V1, i1, i2, i3, i4⟩ := ct_M_put (N := N) (X := X) (d := d) x1 hM (by omega)
    obtain ⟨V2, j1, j2, j3, j4⟩ := ct_M_put (N := N) (X := X) (d := d) x2 i3 (by omega)
    obtain ⟨V3, k1, k2, k3, k4⟩ := ct_M_put (N := N) (X := X) (d := d) x3 j3 (by omega)
    obtain ⟨V4, l1, l2, l3, l4⟩ := ct_M_put (N := N) (X := X) (d := d) x4 k3 (by omega)
    obtain ⟨V5, m1, m2, m3, m4⟩ := ct_M_put (N := N) (X := X) (d := d) x5 l3 (by omega)
    have gr : ∀ r j, r ≠ 87 → ¬ (r = 86 ∧ j = 1) → V5 r j = U5 r j := fun r j q1 q2 => by rw [m4 r j q1 q2, l4 r j q1 q2, k4 r j q1 q2, j4 r j q1 q2, i4 r j q1 q2]
    have v87 : V5 87 = tpv (tpv (tpv (tpv (tpv (U 87) L x1) (L + 4) x2) (L + 4 + 4) x3) (L + 4 + 4 + 4) x4) (L + 4 + 4 + 4 + 4) x5 := by rw [m2, l2, k2, j2, i2, u87]
    have v2 : V5 2 = U5 2 := funext fun j => gr 2 j (by decide) (by omega)
    refine ⟨((L + 4 + 4 + 4 + 4 + 4 : Nat) : Int), U5, V5, D_feed_r0 ?_, M_feed_r0 ?_, fun r j q1 q2 q3 q4 q5 q6 => by rw [gr r j q2 q6, fr r j q1 q5], ⟨⟨?_, ?_⟩, ?_⟩, fun k hk => ?_⟩
    · rw [hL, w32_eq (x := ((L : Nat) : Int) + 20) (by omega) (by omega)]
      exact ⟨fun _ => ⟨_, a1, _, b1, _, c1, _, d1, _, e1, by rw [e3]⟩, fun z => absurd z (by omega)⟩
    · rw [hM, w32_eq (x := ((L : Nat) : Int) + 20) (by omega) (by omega)]
      exact ⟨fun _ => ⟨_, i1, _, j1, _, k1, _, l1, _, m1, by rw [m3]⟩, fun z => absurd z (by omega)⟩
    · rw [m3, gr 1 1 (by decide) (by decide), e3]
    · rw [gr 1 1 (by decide) (by decide), e3]; omega
    · rw [v87, v2, u2]; exact tpR_v (tpR_v (tpR_v (tpR_v (tpR_v h4))))
    · rw [gr 119 k (by decide) (by omega), gr 85 k (by decide) (by omega), fr 119 k (by decide) (by omega), fr 85 k (by decide) (by omega)]; exact hs k hk
  · have s119 : (am_upd U 85 0 (w32 (U 85 0 + 1))) 119 0 = U 119 0 := by rw [upd_row (by decide)]
    have mr := ct_M_refuses (N := N) (X := X) (d := d) (U := am_upd U 85 0 (w32 (U 85 0 + 1))) 0 (by decide)
    rw [s119] at mr
    clear s119
    refine tp_refused (c := 0) (ra := -1) ⟨⟨h1, h2, h3⟩, h4⟩ hs (by decide) (D_feed_r0 ?_) (M_feed_r0 ?_)
    · rw [hL, w32_eq (x := ((L : Nat) : Int) + 20) (by omega) (by omega)]
      exact ⟨fun z => absurd z (by omega), fun _ => ⟨_, _, ct_D_refuse 0 (by decide), rfl⟩⟩
    · rw [upd_row (show 86 ≠ 85 by decide), h1, hL, w32_eq (x := ((L : Nat) : Int) + 20) (by omega) (by omega)]
      exact ⟨fun z => absurd z (by omega), fun _ => ⟨_, _, mr, rfl⟩⟩
theorem pair_seed {N : Nat} {X : Nat → Int} {d : Nat} {U : am_U} {n nh k w g : Nat} (hf : iFolk U n nh) (hs : iRS U) (hh : iHist U nh k w g) (hp : iPrt U) (x : Int) (hx : x < 2147483648) : act2 N X (D_seed_s0 (d + 1) x) (M_seed_s0 (d + 1) x) U nh n := by
  by_cases c : 0 ≤ x
  · have fr : ∀ r j, ¬ (r = 1 ∧ j = 18) → ¬ (r = 86 ∧ j = 59) → am_upd (am_upd U 1 18 x) 86 59 x r j = U r j := fun r j q1 q2 => by rw [upd_if2 q2, upd_if2 q1]
    have v1 : am_upd (am_upd U 1 18 x) 86 59 x 1 18 = x := by rw [upd_row (by decide), upd_at]
    have v2 : am_upd (am_upd U 1 18 x) 86 59 x 86 59 = x := upd_at _ _ _ _
    refine ⟨1, am_upd U 1 18 x, am_upd (am_upd U 1 18 x) 86 59 x, n, D_seed_r0 ⟨fun _ => rfl, fun z => absurd z (by omega)⟩, M_seed_r0 ⟨fun _ => rfl, fun z => absurd z (by omega)⟩, ?_⟩
    generalize am_upd (am_upd U 1 18 x) 86 59 x = V at fr v1 v2
    have r : ∀ r, r ≠ 1 → r ≠ 86 → V r = U r := fun r q1 q2 => funext fun j => fr r j (fun z => q1 z.1) (fun z => q2 z.1)
    refine ⟨fun r' j e => fr r' j (by rintro ⟨rfl, rfl⟩; exact absurd e (by decide)) (by rintro ⟨rfl, rfl⟩; exact absurd e (by decide)), ?_, ⟨fun j hj => ?_, ?_⟩, ⟨k, w, g, ?_⟩, ?_, Or.inr ⟨rfl, by rw [r 16 (by decide) (by decide)], r 17 (by decide) (by decide), r 18 (by decide) (by decide), r 19 (by decide) (by decide), r 20 (by decide) (by decide), fun j _ => by rw [r 45 (by decide) (by decide)], r 48 (by decide) (by decide), r 52 (by decide) (by decide)⟩⟩
    · unfold iFolk; rw [r 16 (by decide) (by decide), r 122 (by decide) (by decide), r 120 (by decide) (by decide), r 121 (by decide) (by decide), r 123 (by decide) (by decide), r 124 (by decide) (by decide), r 17 (by decide) (by decide), r 18 (by decide) (by decide), r 8 (by decide) (by decide), r 19 (by decide) (by decide)]; exact hf
    · rw [r 119 (by decide) (by decide), r 85 (by decide) (by decide)]; exact hs.1 j hj
    · rw [v1, v2]; exact ⟨rfl, c, hx⟩
    · obtain ⟨a1, a2, a3, a4⟩ := hh
      refine ⟨?_, ?_, ?_, fun i hi => ?_⟩
      · rw [r 56 (by decide) (by decide), fr 86 58 (by decide) (by decide)]; exact a1
      · rw [r 56 (by decide) (by decide)]; exact a2
      · rw [fr 86 57 (by decide) (by decide)]; exact a3
      · have b1 : (w + 20 - i) % 20 < 20 := Nat.mod_lt _ (by decide)
        exact hRow_cg (r 8 (by decide) (by decide)) (r _ (by omega) (by omega)) (by rw [r 120 (by decide) (by decide)]) (by rw [r 121 (by decide) (by decide)]) (by rw [r 122 (by decide) (by decide)]) (fun p _ => by rw [r 123 (by decide) (by decide), r 124 (by decide) (by decide)]; exact ⟨rfl, rfl⟩) (a4 i hi)
    · unfold iPrt; rw [r 20 (by decide) (by decide), r 17 (by decide) (by decide)]; exact hp
  · have s119 : (am_upd U 85 5 (w32 (U 85 5 + 1))) 119 5 = U 119 5 := by rw [upd_row (by decide)]
    have mr := ct_M_refuses (N := N) (X := X) (d := d) (U := am_upd U 85 5 (w32 (U 85 5 + 1))) 5 (by decide)
    rw [s119] at mr
    clear s119
    exact act_refused (c := 5) hf hs hh hp (by decide) (D_seed_r0 ⟨fun z => absurd z c, fun _ => ⟨_, _, ct_D_refuse 5 (by decide), Or.inl rfl, rfl⟩⟩) (M_seed_r0 ⟨fun z => absurd z c, fun _ => ⟨_, _, mr, fun _ => rfl, fun z => absurd z (by decide)⟩⟩)
