theorem M_let_l {N : Nat} {X : Nat → Int} {d yn L k : Nat} {U : am_U} {x1 x2 : Int} {R : Option am_V × am_M} (hL : 1 ≤ L ∧ L ≤ 6) (hy : yn < 256 ^ L) (hk : k < 6) (h1 : k < L → 96 ≤ yn / 2 ^ (8 * (L - 1 - k)) % 256 ∧ R = rI ((yn / 2 ^ (8 * (L - 1 - k)) % 256 - 96 : Nat) : Int) U) (h2 : L ≤ k → R = rI 0 U) : ∀ m i z : Nat, i + m = L → (m = 0 → z = 0) → (0 < m → 256 ^ (m - 1) ≤ z) → z < 256 ^ m → EvK N X (M_letter_s58 (d + 1) x1 x2 (k : Nat) (yn : Nat) (i : Nat) (z : Nat) U) R := by
  have y63 : yn < 9223372036854775808 := Nat.lt_of_lt_of_le hy (Nat.le_trans (Nat.pow_le_pow_right (by decide) hL.2) (by decide))
  intro m
  induction m with
  | zero =>
    intro i z hi hz _ _
    obtain rfl : i = L := by omega
    obtain rfl : z = 0 := hz rfl
    refine M_letter_r58 ⟨fun _ => ⟨fun c => ?_, fun c => h2 (by omega)⟩, fun q => absurd q (by decide)⟩
    have hkl : k < i := by omega
    obtain ⟨b1, b2⟩ := h1 hkl
    rw [b2, w32_eq (x := ((i : Nat) : Int) - 1) (by omega) (by omega), w32_eq (x := ((i : Nat) : Int) - 1 - ((k : Nat) : Int)) (by omega) (by omega), w32_eq (x := 8 * (((i : Nat) : Int) - 1 - ((k : Nat) : Int))) (by omega) (by omega), show 8 * (((i : Nat) : Int) - 1 - ((k : Nat) : Int)) = ((8 * (i - 1 - k) : Nat) : Int) from by omega, lshr_n y63 (by omega), land_255 (Nat.lt_of_le_of_lt (Nat.div_le_self _ _) y63)]
    have b3 : yn / 2 ^ (8 * (i - 1 - k)) % 256 < 256 := Nat.mod_lt _ (by decide)
    generalize yn / 2 ^ (8 * (i - 1 - k)) % 256 = v at b1 b3
    rw [w32_eq (x := ((v : Nat) : Int)) (by omega) (by omega), w32_eq (x := ((v : Nat) : Int) - 97) (by omega) (by omega), w32_eq (x := ((v : Nat) : Int) - 97 + 1) (by omega) (by omega)]
    congr 1
    omega
  | succ m ih =>
    intro i z hi _ hz hz2
    have hz' := hz (by omega)
    rw [Nat.add_sub_cancel] at hz'
    have hp : 0 < 256 ^ m := Nat.pow_pos (by decide)
    have z63 : z < 9223372036854775808 := Nat.lt_of_lt_of_le hz2 (Nat.le_trans (Nat.pow_le_pow_right (by decide) (show m + 1 ≤ 6 by omega)) (by decide))
    have hzd : z / 256 < 256 ^ m := by
      rw [Nat.div_lt_iff_lt_mul (by decide), ← Nat.pow_succ]; exact hz2
    have nx := ih (i + 1) (z / 256) (by omega) (fun e => by subst e; simpa using hzd) (fun e => by
      rw [Nat.le_div_iff_mul_le (by decide), ← Nat.pow_succ, show (m - 1).succ = m from by omega]; exact hz') hzd
    refine M_letter_r58 ⟨fun q => absurd q (by omega), fun _ => ?_⟩
    have e : am_lshr ((z : Nat) : Int) 8 = ((z / 256 : Nat) : Int) := lshr_n (n := 8) z63 (by decide)
    rw [e, w32_succ (i := i) (by omega)]
    exact nx
/-- one name, both ways -/
theorem let_pair {N : Nat} {X : Nat → Int} {d k : Nat} {U : am_U} {x y x1 x2 : Int} (h : nmR x y) (hk : k < 6) : ∃ r, EvK N X (Tk_letterOf_s0 d x (k : Nat) U) (rI r U) ∧ EvK N X (M_letter_s58 (d + 1) x1 x2 (k : Nat) y 0 y U) (rI r U) := by
  obtain ⟨xn, yn, L, rfl, c2, rfl, c4, c5, c6, c7, c8⟩ := nm_let h
  obtain ⟨e1, e2⟩ := c8 k hk
  refine ⟨((xn / 2 ^ (25 - 5 * k) % 32 : Nat) : Int), Tk_letterOf_r0 ?_, M_let_l ⟨c4, c5⟩ c7 hk (fun q => ⟨by have := e1 q; omega, ?_⟩) (fun q => by rw [e2 q]; rfl) L 0 yn (by omega) (fun q => by omega) (fun _ => c6) c7⟩
  · rw [w32_eq (x := 5 * ((k : Nat) : Int)) (by omega) (by omega), w32_eq (x := 25 - 5 * ((k : Nat) : Int)) (by omega) (by omega), show 25 - 5 * ((k : Nat) : Int) = ((25 - 5 * k : Nat) : Int) from by omega, let_D c2 (by omega)]
  · rw [← e1 q, Nat.add_sub_cancel]
theorem pair_letter {N : Nat} {X : Nat → Int} {d : Nat} {U : am_U} {b ns nh nl nw nd cl : Nat} (ht : iTown U b ns nh nl nw nd cl) (x1 x2 x3 : Int) : ask2 N X (D_letter_s0 (d + 1) x1 x2 x3) (M_letter_s0 (d + 1) x1 x2 x3) U := by
  have hb := ht.1.1
  have hb2 := ht.1.2
  obtain ⟨t30, t88, tns, tnm⟩ := ht.2.1
  obtain ⟨t31, t90, t12, thm⟩ := ht.2.2.1
  have mn : ∀ {many : Nat} {nm : Int} {r : Int}, (0 ≤ x1 ∧ x1 ≤ 1) → (x1 = 0 → U 88 b = (many : Nat)) → (x1 = 1 → U 90 b = (many : Nat)) → many ≤ 12 → (¬ (0 ≤ x2 ∧ x2 < (many : Nat)) → r = -1) → ((0 ≤ x2 ∧ x2 < (many : Nat)) → ¬ (0 ≤ x3 ∧ x3 ≤ 5) → r = -1) → ((0 ≤ x2 ∧ x2 < (many : Nat)) → (0 ≤ x3 ∧ x3 ≤ 5) → EvK N X (M_nameOf_s0 d (b : Nat) x1 x2 U) (rJ nm U) ∧ EvK N X (M_letter_s58 (d + 1) x1 x2 x3 nm 0 nm U) (rI r U)) → EvK N X (M_letter_s0 (d + 1) x1 x2 x3 U) (rI r U) := fun {many nm r} c1 a0 a1 hm q1 q2 q3 => by
    refine M_letter_r0 ⟨1, U, M_is1 c1, fun z => absurd z (by decide), fun _ => ⟨((many : Nat) : Int), U, ?_, ?_⟩⟩
    · rw [hb]
      refine M_manyOf_r0 ?_
      rw [Int.toNat_natCast]
      exact ⟨fun z => ⟨by omega, by rw [a1 (by omega)]⟩, fun z => ⟨by omega, by rw [a0 z]⟩⟩
    · rw [w32_eq (x := ((many : Nat) : Int) - 1) (by omega) (by omega)]
      by_cases c2 : 0 ≤ x2 ∧ x2 ≤ ((many : Nat) : Int) - 1
      · refine ⟨1, U, M_is1 c2, fun z => absurd z (by decide), fun _ => ?_⟩
        by_cases c3 : 0 ≤ x3 ∧ x3 ≤ 5
        · have := q3 (by omega) c3
          exact ⟨1, U, M_is1 c3, fun _ => ⟨_, _, by rw [hb]; exact this.1, this.2⟩, fun z => absurd z (by decide)⟩
        · exact ⟨0, U, M_is0 c3, fun z => absurd rfl z, fun _ => by rw [q2 (by omega) c3]⟩
      · exact ⟨0, U, M_is0 c2, fun _ => by rw [q1 (by omega)], fun z => absurd rfl z⟩
  by_cases c1 : 0 ≤ x1 ∧ x1 ≤ 1
  · by_cases c0 : x1 = 0
    · by_cases c2 : 0 ≤ x2 ∧ x2 < (ns : Nat)
      · by_cases c3 : 0 ≤ x3 ∧ x3 ≤ 5
        · obtain ⟨s, rfl⟩ : ∃ s : Nat, x2 = s := ⟨x2.toNat, by omega⟩
          obtain ⟨k, rfl⟩ : ∃ k : Nat, x3 = k := ⟨x3.toNat, by omega⟩
          obtain ⟨r, p1, p2⟩ := let_pair (N := N) (X := X) (d := d) (U := U) (x1 := x1) (x2 := ((s : Nat) : Int)) (tnm s (by omega)) (show k < 6 by omega)
          refine ask2_of (r := r) (D_letter_r0 ⟨fun z => absurd z (by omega), fun _ => ⟨fun _ => ⟨fun z => absurd c0 z, fun _ => ⟨fun z => absurd z (by omega), fun _ => ⟨fun z => absurd z (by rw [t30]; omega), fun _ => ⟨by omega, _, _, by rw [Int.toNat_natCast]; exact p1, rfl⟩⟩⟩⟩, fun z => absurd z (by omega)⟩⟩) (mn (many := ns) (nm := U 89 (4 * b + s)) c1 (fun _ => t88) (fun z => by omega) (by omega) (fun z => absurd c2 z) (fun _ z => absurd c3 z) (fun _ _ => ⟨M_nameOf_r0 ⟨fun z => absurd c0 z, fun _ => ?_⟩, p2⟩))
          rw [ix_eq (k := 4 * b + s) (by omega) (by omega) (by omega) (by omega), Int.toNat_natCast]
          exact ⟨by omega, rfl⟩
        · refine ask2_of (r := -1) (D_letter_r0 ⟨fun _ => rfl, fun z => ⟨fun z2 => absurd ⟨z, z2⟩ c3, fun _ => rfl⟩⟩) (mn (many := ns) (nm := 0) c1 (fun _ => t88) (fun z => by omega) (by omega) (fun z => absurd c2 z) (fun _ _ => rfl) (fun _ z => absurd z c3))
      · refine ask2_of (r := -1) (D_letter_r0 ⟨fun _ => rfl, fun _ => ⟨fun _ => ⟨fun z => absurd c0 z, fun _ => ⟨fun _ => ⟨fun _ => rfl, fun z => by omega⟩, fun z => ⟨fun _ => ⟨fun _ => rfl, fun z => by omega⟩, fun z2 => absurd ⟨z, by rw [t30] at z2; exact z2⟩ c2⟩⟩⟩, fun _ => rfl⟩⟩) (mn (many := ns) (nm := 0) c1 (fun _ => t88) (fun z => by omega) (by omega) (fun _ => rfl) (fun z => absurd z c2) (fun z => absurd z c2))
    · have c1' : x1 = 1 := by omega
      by_cases c2 : 0 ≤ x2 ∧ x2 < (nh : Nat)
      · by_cases c3 : 0 ≤ x3 ∧ x3 ≤ 5
        · obtain ⟨s, rfl⟩ : ∃ s : Nat, x2 = s := ⟨x2.toNat, by omega⟩
          obtain ⟨k, rfl⟩ : ∃ k : Nat, x3 = k := ⟨x3.toNat, by omega⟩
          obtain ⟨r, p1, p2⟩ := let_pair (N := N) (X := X) (d := d) (U := U) (x1 := x1) (x2 := ((s : Nat) : Int)) (thm s (by omega)).1 (show k < 6 by omega)
          refine ask2_of (r := r) (D_letter_r0 ⟨fun z => absurd z (by omega), fun _ => ⟨fun _ => ⟨fun _ => ⟨fun z => absurd c1' z, fun _ => ⟨1, U, D_h1 (by rw [t31]; omega), fun z => absurd z (by decide), fun _ => ⟨by omega, _, _, by rw [Int.toNat_natCast]; exact p1, rfl⟩⟩⟩, fun z => absurd z c0⟩, fun z => absurd z (by omega)⟩⟩) (mn (many := nh) (nm := U 91 (12 * b + s)) c1 (fun z => absurd z c0) (fun _ => t90) t12 (fun z => absurd c2 z) (fun _ z => absurd c3 z) (fun _ _ => ⟨M_nameOf_r0 ⟨fun _ => ?_, fun z => absurd z c0⟩, p2⟩))
          rw [ix_eq (k := 12 * b + s) (by omega) (by omega) (by omega) (by omega), Int.toNat_natCast]
          exact ⟨by omega, rfl⟩
        · refine ask2_of (r := -1) (D_letter_r0 ⟨fun _ => rfl, fun z => ⟨fun z2 => absurd ⟨z, z2⟩ c3, fun _ => rfl⟩⟩) (mn (many := nh) (nm := 0) c1 (fun z => absurd z c0) (fun _ => t90) t12 (fun z => absurd c2 z) (fun _ _ => rfl) (fun _ z => absurd z c3))
      · refine ask2_of (r := -1) (D_letter_r0 ⟨fun _ => rfl, fun _ => ⟨fun _ => ⟨fun _ => ⟨fun z => absurd c1' z, fun _ => ⟨0, U, D_h0 (by rw [t31]; exact c2), fun _ => rfl, fun z => absurd rfl z⟩⟩, fun z => absurd z c0⟩, fun _ => rfl⟩⟩) (mn (many := nh) (nm := 0) c1 (fun z => absurd z c0) (fun _ => t90) t12 (fun _ => rfl) (fun z => absurd z c2) (fun z => absurd z c2))
  · refine ask2_of (r := -1) (D_letter_r0 ⟨fun _ => rfl, fun _ => ⟨fun _ => ⟨fun _ => ⟨fun _ => rfl, fun z => absurd c1 (by omega)⟩, fun z => absurd c1 (by omega)⟩, fun _ => rfl⟩⟩) (M_letter_r0 ⟨0, U, M_is0 c1, fun _ => rfl, fun z => absurd rfl z⟩)
