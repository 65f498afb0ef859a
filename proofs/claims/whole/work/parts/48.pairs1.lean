/-! questions that are answered at once -/
def iMisc (V : am_U) : Prop := (V 86 10 = V 1 3 ∧ V 86 11 = V 1 4) ∧ (∀ k, k < 6 → V 119 k = V 85 k) ∧ (V 86 59 = V 1 18 ∧ 0 ≤ V 1 18 ∧ V 1 18 < 2147483648) ∧ (V 86 89 = V 1 16 ∧ 0 ≤ V 1 16 ∧ V 1 16 ≤ 85 ∧ ∀ k : Nat, (k : Int) < V 1 16 → V 138 k = V 84 k)
def iRid (V : am_U) : Prop := (V 78 5 = 0 ∧ (V 86 82 = 0 ∨ V 86 84 = 0)) ∨ (0 < V 78 5 ∧ 0 < V 86 84 ∧ V 78 3 = V 86 82 ∧ V 86 82 ≤ 4 ∧ ∀ k : Nat, (k : Int) < V 86 82 → V 81 k = V 137 k)
theorem iMisc_agr {U U' : am_U} (h : agr U U') (hi : iMisc U) : iMisc U' := by
  have e : iMisc (msk U) ↔ iMisc U := Iff.rfl
  have e' : iMisc (msk U') ↔ iMisc U' := Iff.rfl
  rw [← e', agr_msk h, e]; exact hi
theorem iRid_agr {U U' : am_U} (h : agr U U') (hi : iRid U) : iRid U' := by
  have e : iRid (msk U) ↔ iRid U := Iff.rfl
  have e' : iRid (msk U') ↔ iRid U' := Iff.rfl
  rw [← e', agr_msk h, e]; exact hi
theorem ask2_of {N : Nat} {X : Nat → Int} {sD sM : am_U → am_S} {U : am_U} {r : Int} (h1 : EvK N X (sD U) (rI r U)) (h2 : EvK N X (sM U) (rI r U)) : ask2 N X sD sM U := ⟨r, U, h1, agr_refl _, U, h2, agr_refl _⟩
theorem M_is1 {N : Nat} {X : Nat → Int} {d : Nat} {U : am_U} {x y z : Int} (h : y ≤ x ∧ x ≤ z) : EvK N X (M_is_s0 d x y z U) (rI 1 U) := by
  have := ct_M_is (N := N) (X := X) (d := d) (U := U) x y z
  rwa [b2i_t h] at this
theorem M_is0 {N : Nat} {X : Nat → Int} {d : Nat} {U : am_U} {x y z : Int} (h : ¬ (y ≤ x ∧ x ≤ z)) : EvK N X (M_is_s0 d x y z U) (rI 0 U) := by
  have := ct_M_is (N := N) (X := X) (d := d) (U := U) x y z
  rwa [b2i_f h] at this
theorem pair_fault {N : Nat} {X : Nat → Int} {d : Nat} {U : am_U} (hm : iMisc U) (x : Int) : ask2 N X (D_fault_s0 d x) (M_fault_s0 d x) U := by
  refine ask2_of (r := if x = 0 then U 1 3 else if x = 1 then U 1 4 else -1) (D_fault_r0 ⟨fun h => ⟨fun h2 => by rw [if_neg h, if_neg h2], fun h2 => by rw [if_neg h, if_pos h2]⟩, fun h => by rw [if_pos h]⟩) (M_fault_r0 ?_)
  rw [hm.1.1, hm.1.2]
  exact ⟨fun h => ⟨fun h2 => by rw [if_neg h, if_neg h2], fun h2 => by rw [if_neg h, if_pos h2]⟩, fun h => by rw [if_pos h]⟩
theorem pair_status {N : Nat} {X : Nat → Int} {d : Nat} {U : am_U} (hm : iMisc U) (x : Int) : ask2 N X (D_status_s0 d x) (M_status_s0 (d + 1) x) U := by
  by_cases c : 0 ≤ x ∧ x ≤ 5
  · obtain ⟨k, rfl⟩ : ∃ k : Nat, x = k := ⟨x.toNat, by omega⟩
    refine ask2_of (r := U 85 k) (D_status_r0 ⟨fun h => absurd h (by omega), fun _ => ⟨fun h => absurd h (by omega), fun _ => ⟨by omega, by rw [Int.toNat_natCast]⟩⟩⟩) (M_status_r0 ⟨_, _, M_is1 c, fun h => absurd h (by decide), fun _ => ⟨by omega, ?_⟩⟩)
    rw [Int.toNat_natCast, hm.2.1 k (by omega)]
  · exact ask2_of (r := -1) (D_status_r0 ⟨fun _ => rfl, fun _ => ⟨fun _ => rfl, fun _ => absurd c (by omega)⟩⟩) (M_status_r0 ⟨_, _, M_is0 c, fun _ => rfl, fun h => absurd rfl h⟩)
theorem pair_octet {N : Nat} {X : Nat → Int} {d : Nat} {U : am_U} (hm : iMisc U) (x : Int) : ask2 N X (D_octet_s0 d x) (M_octet_s0 (d + 1) x) U := by
  obtain ⟨h1, h2, h3, h4⟩ := hm.2.2.2
  have e : w32 (U 86 89 - 1) = U 1 16 - 1 := by rw [h1]; exact w32_eq (by omega) (by omega)
  have a2 : ∀ r, (¬ (0 ≤ x ∧ x ≤ U 1 16 - 1) → rI r U = rI (-1) U) → ((0 ≤ x ∧ x ≤ U 1 16 - 1) → rI r U = rI (U 138 x.toNat) U) → EvK N X (M_octet_s0 (d + 1) x U) (rI r U) := by
    intro r q1 q2
    refine M_octet_r0 ?_
    rw [e]; clear e
    by_cases c : 0 ≤ x ∧ x ≤ U 1 16 - 1
    · exact ⟨_, _, M_is1 c, fun h => absurd h (by decide), fun _ => ⟨by omega, q2 c⟩⟩
    · exact ⟨_, _, M_is0 c, fun _ => q1 c, fun h => absurd rfl h⟩
  clear e
  by_cases c : 0 ≤ x ∧ x < U 1 16
  · refine ask2_of (r := U 84 x.toNat) (D_octet_r0 ⟨fun h => absurd h (by omega), fun _ => ⟨fun h => absurd h (by omega), fun _ => ⟨by omega, rfl⟩⟩⟩) (a2 _ (fun q => absurd c (by omega)) (fun _ => ?_))
    rw [h4 x.toNat (by omega)]
  · exact ask2_of (r := -1) (D_octet_r0 ⟨fun _ => rfl, fun _ => ⟨fun _ => rfl, fun _ => absurd c (by omega)⟩⟩) (a2 _ (fun _ => rfl) (fun q => absurd c (by omega)))
theorem pair_hidden {N : Nat} {X : Nat → Int} {d : Nat} {U : am_U} (hr : iRid U) (h82 : -1000 ≤ U 86 82 ∧ U 86 82 ≤ 1000) (x : Int) : ask2 N X (D_hidden_s0 (d + 1) x) (M_hidden_s0 (d + 1) x) U := by
  have a2 : ∀ r, (¬ (0 ≤ x ∧ x ≤ U 86 82 - 1) → rI r U = rI (-1) U) → ((0 ≤ x ∧ x ≤ U 86 82 - 1) → (U 86 84 ≤ 0 → rI r U = rI (-1) U) ∧ (0 < U 86 84 → (0 ≤ x ∧ x < 4) ∧ rI r U = rI (U 137 x.toNat) U)) → EvK N X (M_hidden_s0 (d + 1) x U) (rI r U) := by
    intro r q1 q2
    refine M_hidden_r0 ?_
    rw [w32_eq (x := U 86 82 - 1) (by omega) (by omega)]
    by_cases c : 0 ≤ x ∧ x ≤ U 86 82 - 1
    · exact ⟨_, _, M_is1 c, fun h => absurd h (by decide), fun _ => q2 c⟩
    · exact ⟨_, _, M_is0 c, fun _ => q1 c, fun h => absurd rfl h⟩
  rcases hr with ⟨h1, h2⟩ | ⟨h1, h2, h3, h4, h5⟩
  · refine ask2_of (r := -1) (D_hidden_r0 ⟨_, _, Rl_tellOf_r0 ⟨fun _ => rfl, fun h => absurd h (by omega)⟩, rfl⟩) (a2 _ (fun _ => rfl) (fun q => ⟨fun _ => rfl, fun q2 => ?_⟩))
    omega
  · by_cases c : 0 ≤ x ∧ x < U 86 82
    · refine ask2_of (r := U 81 x.toNat) (D_hidden_r0 ⟨_, _, Rl_tellOf_r0 ⟨fun h => absurd h (by omega), fun _ => ⟨fun h => absurd h (by omega), fun _ => ⟨fun h => absurd h (by omega), fun _ => ⟨by omega, rfl⟩⟩⟩⟩, rfl⟩) (a2 _ (fun q => absurd c (by omega)) (fun _ => ⟨fun h => absurd h (by omega), fun _ => ⟨by omega, ?_⟩⟩))
      rw [h5 x.toNat (by omega)]
    · refine ask2_of (r := -1) (D_hidden_r0 ⟨_, _, Rl_tellOf_r0 ⟨fun _ => rfl, fun _ => ⟨fun _ => rfl, fun _ => ⟨fun _ => rfl, fun h => absurd c (by omega)⟩⟩⟩, rfl⟩) (a2 _ (fun _ => rfl) (fun q => absurd c (by omega)))
theorem pair_number {N : Nat} {X : Nat → Int} {d : Nat} {U : am_U} {n nh : Nat} (hf : iFolk U n nh) (x : Int) : ask2 N X (D_number_s0 (d + 1) x) (M_number_s0 (d + 1) x) U := by
  have e16 := hf.1.1
  have e122 := hf.1.2.1
  have hn := hf.1.2.2
  by_cases c : 0 ≤ x ∧ x < (n : Nat)
  · obtain ⟨p, rfl⟩ : ∃ p : Nat, x = p := ⟨x.toNat, by omega⟩
    refine ask2_of (r := U 17 p) (D_number_r0 ⟨_, _, D_p1 (by rw [e16]; exact c), fun h => absurd h (by decide), fun _ => ⟨by omega, by rw [Int.toNat_natCast]⟩⟩) (M_number_r0 ⟨_, _, M_p1 (by rw [e122]; exact c), fun h => absurd h (by decide), fun _ => ⟨by omega, ?_⟩⟩)
    rw [Int.toNat_natCast, (hf.2.2.2.1 p (by omega)).1]
  · exact ask2_of (r := -1000000000) (D_number_r0 ⟨_, _, D_p0 (by rw [e16]; exact c), fun _ => rfl, fun h => absurd rfl h⟩) (M_number_r0 ⟨_, _, M_p0 (by rw [e122]; exact c), fun _ => rfl, fun h => absurd rfl h⟩)
theorem pair_factor {N : Nat} {X : Nat → Int} {d : Nat} {U : am_U} {n nh : Nat} (hf : iFolk U n nh) (x y : Int) : ask2 N X (D_factor_s0 (d + 2) x y) (M_factor_s0 (d + 2) x y) U := by
  have e16 := hf.1.1
  have e122 := hf.1.2.1
  have hn := hf.1.2.2
  by_cases c : 0 ≤ x ∧ x < (n : Nat)
  · by_cases c2 : 0 ≤ y ∧ y < (n : Nat)
    · obtain ⟨p, rfl⟩ : ∃ p : Nat, x = p := ⟨x.toNat, by omega⟩
      obtain ⟨q, rfl⟩ : ∃ q : Nat, y = q := ⟨y.toNat, by omega⟩
      obtain ⟨-, b1, -⟩ := hf.2.2.2.2.1.1 p (by omega)
      obtain ⟨-, b2, -⟩ := hf.2.2.2.2.1.1 q (by omega)
      have m1 := (hf.2.2.2.1 p (by omega)).1
      have m2 := (hf.2.2.2.1 q (by omega)).1
      refine ask2_of (r := ((Nat.gcd (U 17 p).natAbs (U 17 q).natAbs : Nat) : Int)) (D_factor_r0 ⟨_, _, D_p1 (by rw [e16]; exact c), fun h => absurd h (by decide), fun _ => ⟨_, _, D_p1 (by rw [e16]; exact c2), fun _ => ⟨by omega, by omega, _, _, ct_commonFactor _ _ ?_ ?_, ?_⟩, fun h => absurd h (by decide)⟩⟩) (M_factor_r0 ⟨_, _, M_p1 (by rw [e122]; exact c), fun h => absurd h (by decide), fun _ => ⟨_, _, M_p1 (by rw [e122]; exact c2), fun h => absurd h (by decide), fun _ => ⟨by omega, by omega, _, _, ct_M_gcd _ _ ?_ ?_, ?_⟩⟩⟩)
      · rw [Int.toNat_natCast]; omega
      · rw [Int.toNat_natCast]; omega
      · rw [Int.toNat_natCast, Int.toNat_natCast]
      · rw [Int.toNat_natCast, m1]; omega
      · rw [Int.toNat_natCast, m2]; omega
      · rw [Int.toNat_natCast, Int.toNat_natCast, m1, m2]
        have g := gcd_v (a := U 17 p) (b := U 17 q) (by show _ ∧ _; omega) (by show _ ∧ _; omega)
        have g' : -1000000000 ≤ ((Nat.gcd (U 17 p).natAbs (U 17 q).natAbs : Nat) : Int) ∧ ((Nat.gcd (U 17 p).natAbs (U 17 q).natAbs : Nat) : Int) ≤ 1000000000 := g
        rw [w32_eq (by omega) (by omega)]
    · exact ask2_of (r := -1) (D_factor_r0 ⟨_, _, D_p1 (by rw [e16]; exact c), fun h => absurd h (by decide), fun _ => ⟨_, _, D_p0 (by rw [e16]; exact c2), fun h => absurd rfl h, fun _ => rfl⟩⟩) (M_factor_r0 ⟨_, _, M_p1 (by rw [e122]; exact c), fun h => absurd h (by decide), fun _ => ⟨_, _, M_p0 (by rw [e122]; exact c2), fun _ => rfl, fun h => absurd rfl h⟩⟩)
  · exact ask2_of (r := -1) (D_factor_r0 ⟨_, _, D_p0 (by rw [e16]; exact c), fun _ => rfl, fun h => absurd rfl h⟩) (M_factor_r0 ⟨_, _, M_p0 (by rw [e122]; exact c), fun _ => rfl, fun h => absurd rfl h⟩)
/-! nets -/
def netF (U : am_U) (b h k : Nat) : Int := (if U 108 (16 * b + k) = (h : Nat) then U 109 (16 * b + k) else 0) - (if U 107 (16 * b + k) = (h : Nat) then U 109 (16 * b + k) else 0)
theorem ct_M_netOf_l {N : Nat} {X : Nat → Int} {d : Nat} {U : am_U} {b nd h : Nat} (hb : U 86 13 = (b : Nat)) (hb2 : b < 2) (hd : U 106 b = (nd : Nat)) (hd2 : nd ≤ 16) (hr : ∀ k, k < nd → 1 ≤ U 109 (16 * b + k) ∧ U 109 (16 * b + k) ≤ 9999) : ∀ m i : Nat, i + m = nd → EvK N X (M_netOf_s4 d (h : Nat) (fb_si (netF U b h) i) (i : Nat) U) (rI (fb_si (netF U b h) nd) U) := by
  have bnd : ∀ i, i ≤ nd → -(i * 9999) ≤ fb_si (netF U b h) i ∧ fb_si (netF U b h) i ≤ i * 9999 := fun i hi => fb_si_bound (by decide) (fun k hk => by
    have := hr k (by omega)
    unfold netF
    (repeat' split) <;> omega)
  intro m
  induction m with
  | zero =>
    intro i hi
    obtain rfl : i = nd := by omega
    refine M_netOf_r4 ?_
    rw [hb, Int.toNat_natCast, hd]
    exact ⟨by omega, fun _ => rfl, fun q => absurd q (by omega)⟩
  | succ m ih =>
    intro i hi
    have k1 := ih (i + 1) (by omega)
    rw [fb_si_succ] at k1
    obtain ⟨b1, b2⟩ := bnd i (by omega)
    have r1 := hr i (by omega)
    have hf : netF U b h i = (if U 108 (16 * b + i) = (h : Nat) then U 109 (16 * b + i) else 0) - (if U 107 (16 * b + i) = (h : Nat) then U 109 (16 * b + i) else 0) := rfl
    generalize fb_si (netF U b h) i = z at *
    have b3 : -160000 ≤ z ∧ z ≤ 160000 := by
      have : (i : Int) * 9999 ≤ 16 * 9999 := Int.mul_le_mul_of_nonneg_right (by omega) (by decide)
      omega
    clear b1 b2 bnd
    refine M_netOf_r4 ?_
    rw [hb, Int.toNat_natCast, hd, ix_eq (k := 16 * b + i) (by omega) (by omega) (by omega) (by omega), Int.toNat_natCast, w32_succ (i := i) (by omega)]
    refine ⟨by omega, fun q => absurd q (by omega), fun _ => ⟨by omega, fun q1 => ⟨fun q2 => ?_, fun q2 => ?_⟩, fun q1 => ⟨fun q2 => ?_, fun q2 => ?_⟩⟩⟩
    · rw [if_neg q1, if_neg q2] at hf
      rw [w32_eq (x := z + 0) (by omega) (by omega), w32_eq (by omega) (by omega), show z + 0 - 0 = z + netF U b h i from by omega]; exact k1
    · rw [if_neg q1, if_pos q2] at hf
      rw [w32_eq (x := z + 0) (by omega) (by omega), w32_eq (by omega) (by omega), show z + 0 - U 109 (16 * b + i) = z + netF U b h i from by omega]; exact k1
    · rw [if_pos q1, if_neg q2] at hf
      rw [w32_eq (x := z + U 109 (16 * b + i)) (by omega) (by omega), w32_eq (by omega) (by omega), show z + U 109 (16 * b + i) - 0 = z + netF U b h i from by omega]; exact k1
    · rw [if_pos q1, if_pos q2] at hf
      rw [w32_eq (x := z + U 109 (16 * b + i)) (by omega) (by omega), w32_eq (by omega) (by omega), show z + U 109 (16 * b + i) - U 109 (16 * b + i) = z + netF U b h i from by omega]; exact k1
theorem ct_M_netOf {N : Nat} {X : Nat → Int} {d : Nat} {U : am_U} {b ns nh nl nw nd cl h : Nat} (ht : iTown U b ns nh nl nw nd cl) (hh : h < nh) : EvK N X (M_netOf_s0 d (h : Nat) U) (rI (U 10 h) U) := by
  obtain ⟨d1, d2, d3, d4, d5⟩ := ht.2.2.2.2.1
  rw [d5 h hh]
  exact M_netOf_r0 (ct_M_netOf_l (h := h) ht.1.1 ht.1.2 d2 d3 (fun k hk => (d4 k hk).1) nd 0 (by omega))
theorem pair_net {N : Nat} {X : Nat → Int} {d : Nat} {U : am_U} {b ns nh nl nw nd cl : Nat} (ht : iTown U b ns nh nl nw nd cl) (x : Int) : ask2 N X (D_net_s0 (d + 1) x) (M_net_s0 (d + 1) x) U := by
  have e31 := ht.2.2.1.1
  have e90 := ht.2.2.1.2.1
  have := ht.2.2.1.2.2.1
  by_cases c : 0 ≤ x ∧ x < (nh : Nat)
  · obtain ⟨p, rfl⟩ : ∃ p : Nat, x = p := ⟨x.toNat, by omega⟩
    exact ask2_of (r := U 10 p) (D_net_r0 ⟨_, _, D_h1 (by rw [e31]; exact c), fun h => absurd h (by decide), fun _ => ⟨by omega, by rw [Int.toNat_natCast]⟩⟩) (M_net_r0 ⟨_, _, M_h1 ht.1.1 ht.1.2 (by rw [e90]; exact c), fun h => absurd h (by decide), fun _ => ⟨_, _, ct_M_netOf ht (by omega), rfl⟩⟩)
  · exact ask2_of (r := -1000000000) (D_net_r0 ⟨_, _, D_h0 (by rw [e31]; exact c), fun _ => rfl, fun h => absurd rfl h⟩) (M_net_r0 ⟨_, _, M_h0 ht.1.1 ht.1.2 (by rw [e90]; exact c), fun _ => rfl, fun h => absurd rfl h⟩)
