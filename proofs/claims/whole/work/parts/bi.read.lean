/-! a town is read: how it begins -/
def RST (V : am_U) (b : Nat) : am_U := am_upd (am_upd (am_upd (am_upd (am_upd (am_upd (am_upd (am_upd (am_upd (am_upd (am_upd (am_upd (am_upd (am_upd (am_upd V 86 2 (V 86 1)) 86 1 0) 86 5 0) 86 8 0) 86 9 (-1)) 86 40 (b : Nat)) 88 b 0) 90 b 0) 94 b 0) 97 b 0) 100 b 0) 104 b (-1)) 106 b 0) 110 b 0) 86 39 0
section RDT
variable {N : Nat} {X : Nat → Int} {b : Nat} {V U0 : am_U}
theorem RST_rows : RST V b 88 b = 0 ∧ RST V b 90 b = 0 ∧ RST V b 94 b = 0 ∧ RST V b 97 b = 0 ∧ RST V b 100 b = 0 ∧ RST V b 104 b = -1 ∧ RST V b 106 b = 0 ∧ RST V b 110 b = 0 := by
  unfold RST am_upd
  refine ⟨?_, ?_, ?_, ?_, ?_, ?_, ?_, ?_⟩ <;> simp
theorem RST_86 : RST V b 86 1 = 0 ∧ RST V b 86 2 = V 86 1 ∧ RST V b 86 5 = 0 ∧ RST V b 86 8 = 0 ∧ RST V b 86 40 = (b : Nat) ∧ RST V b 86 39 = 0 := by
  unfold RST am_upd
  refine ⟨?_, ?_, ?_, ?_, ?_, ?_⟩ <;> simp
theorem RST_9 : RST V b 86 9 = -1 := by
  unfold RST am_upd
  simp
theorem RST_87 : RST V b 87 = V 87 := by
  unfold RST
  rw [upd_row (by decide), upd_row (by decide), upd_row (by decide), upd_row (by decide), upd_row (by decide), upd_row (by decide), upd_row (by decide), upd_row (by decide), upd_row (by decide), upd_row (by decide), upd_row (by decide), upd_row (by decide), upd_row (by decide), upd_row (by decide), upd_row (by decide)]
theorem RST_cg {r : Nat} (hr : r ≠ 86) (h : V r = U0 r) : RST V b r = RST U0 b r := by
  unfold RST
  refine upd_cgr (upd_cgr (upd_cgr (upd_cgr (upd_cgr (upd_cgr (upd_cgr (upd_cgr (upd_cgr (upd_cgr (upd_cgr (upd_cgr (upd_cgr (upd_cgr ?_)))))))))))))
  rw [upd_row hr, upd_row hr]; exact h
theorem RST_fr {r j : Nat} (h : ¬ scY b r j) (h2 : ¬ (r = 86 ∧ (j = 1 ∨ j = 2 ∨ j = 40))) : RST V b r j = V r j := by
  have n8 : ∀ q, q = 5 ∨ q = 8 ∨ q = 9 ∨ q = 39 → ¬ (r = 86 ∧ j = q) := fun q hq z => h (Or.inl ⟨z.1, by omega⟩)
  have n1 : ∀ q, q = 1 ∨ q = 2 ∨ q = 40 → ¬ (r = 86 ∧ j = q) := fun q hq z => h2 ⟨z.1, by omega⟩
  have nr : ∀ q, q = 88 ∨ q = 90 ∨ q = 94 ∨ q = 97 ∨ q = 100 ∨ q = 104 ∨ q = 106 ∨ q = 110 → ¬ (r = q ∧ j = b) := fun q hq z => h (Or.inr (Or.inr ⟨by omega, by omega, by
    obtain ⟨rfl, rfl⟩ := z
    have w1 : wdt r = 1 := by
      rcases hq with rfl | rfl | rfl | rfl | rfl | rfl | rfl | rfl <;> rfl
    rw [w1]; omega⟩))
  unfold RST
  rw [upd_if2 (n8 39 (by omega)), upd_if2 (nr 110 (by omega)), upd_if2 (nr 106 (by omega)), upd_if2 (nr 104 (by omega)), upd_if2 (nr 100 (by omega)), upd_if2 (nr 97 (by omega)), upd_if2 (nr 94 (by omega)), upd_if2 (nr 90 (by omega)), upd_if2 (nr 88 (by omega)), upd_if2 (n1 40 (by omega)), upd_if2 (n8 9 (by omega)), upd_if2 (n8 8 (by omega)), upd_if2 (n8 5 (by omega)), upd_if2 (n1 1 (by omega)), upd_if2 (n1 2 (by omega))]
/-- what a town's reading may change in the reference -/
def fYt (b : Nat) (V V' : am_U) : Prop := (∀ r j, ¬ scY b r j → ¬ (r = 86 ∧ (j = 1 ∨ j = 2 ∨ j = 40)) → V' r j = V r j) ∧ V' 86 1 = 0 ∧ V' 86 40 = (b : Nat)
theorem ct_next0 {d : Nat} {U : am_U} (h6 : U 26 6 = -1) (h3 : 1 ≤ U 27 1) (hb : tokB U 0) : EvK N X (Rd_next_s0 (d + 1) U) (rV (am_upd (am_upd (am_upd (am_upd U 26 6 0) 26 7 (tK U 0)) 26 8 (tV U 0)) 26 9 (tP U 0))) :=
  ct_next1 (n := 0) (by rw [h6]; decide) (by omega) (by decide) hb
/-- a whole town is read, on both sides -/
theorem town_read {b0 L : Nat} (d : Nat) (h1 : U0 1 1 = (L : Nat)) (hL : L ≤ 1600) (h86 : U0 86 1 = (L : Nat)) (htp : tpR (U0 87) (U0 2)) (hb0 : U0 86 13 = (b0 : Nat)) (hb02 : b0 < 2) (hb : b = 1 - b0) : ∃ q : Option (Nat × am_U) × Int × Int, (q.1 = none → 1 ≤ q.2.1) ∧ (∀ s' W', q.1 = some (s', W') → s' ≤ 80 ∧ ∃ ns nh nl nw nd cl n, gIn W' b ns nh nl nw nd cl n ∧ cl ≤ 1600) ∧ (∃ U' r, EvK N X (Rd_read_s0 (d + 91) (U0 1 1) U0) (rI r U') ∧ fCr U0 U' ∧ (∀ s' W', q.1 = some (s', W') → r = 1 ∧ cW U' W' ∧ U' 26 3 = (s' : Nat) ∧ U' 26 4 = 0 ∧ U' 26 5 = -1) ∧ (q.1 = none → r = 0 ∧ U' 26 4 = q.2.1 ∧ U' 26 5 = q.2.2)) ∧ (∀ (d2 : Nat) (V : am_U), (∀ r, 86 ≤ r → r ≤ 118 → V r = U0 r) → ∃ (V' : am_U) (n' : Nat), fYt b V V' ∧ (∀ R, EvK N X (M_town_s129 (d2 + 9) (n' : Nat) V') R → EvK N X (M_town_s0 (d2 + 9) V) R) ∧ (∀ s' W', q.1 = some (s', W') → n' = s' ∧ V' 86 8 = 0 ∧ V' 86 3 = 0 ∧ V' 86 9 = -1 ∧ rW V' W' b) ∧ (q.1 = none → V' 86 8 = q.2.1 ∧ V' 86 9 = q.2.2)) := by
  have hb2 : b < 2 := by omega
  have hT : ∀ j, j < L → U0 2 j = U0 2 j ∧ 0 ≤ U0 2 j ∧ U0 2 j ≤ 255 := fun j hj => ⟨rfl, (htp j (by omega)).2⟩
  obtain ⟨U1, K, c1, c2, c3⟩ := ct_Tk_cut (N := N) (X := X) (d := d + 82) (L := L) (T := U0 2) (U := U0) hL hT
  obtain ⟨o1, o2, o3, o4, o5⟩ := c3
  have hk : tkS (U0 2) L K (tK U1) (tV U1) (U1 27 2) := ⟨hL, o1, fun j hj => (hT j hj).2, fun j hj => (o2 j hj).1, o3, o4⟩
  -- cleared
  obtain ⟨U2, hU2⟩ : ∃ U2, U2 = am_upd (am_upd (am_upd (am_upd (am_upd (am_upd (am_upd (am_upd (am_upd U1 31 0 0) 31 1 0) 31 2 0) 31 3 0) 31 4 0) 31 5 0) 31 18 0) 41 8 0) 42 8 0 := ⟨_, rfl⟩
  have u2 : ∀ r, r ≠ 31 → r ≠ 41 → r ≠ 42 → U2 r = U1 r := fun r q1 q2 q3 => by rw [hU2, upd_row q3, upd_row q2, upd_row q1, upd_row q1, upd_row q1, upd_row q1, upd_row q1, upd_row q1, upd_row q1]
  have u31 : ∀ j, j ≤ 5 ∨ j = 18 → U2 31 j = 0 := fun j hj => by
    rw [hU2]
    unfold am_upd
    rcases hj with hj | rfl
    · have : j = 0 ∨ j = 1 ∨ j = 2 ∨ j = 3 ∨ j = 4 ∨ j = 5 := by omega
      rcases this with rfl | rfl | rfl | rfl | rfl | rfl <;> simp
    · simp
  have u41 : U2 41 8 = 0 := by rw [hU2, upd_row (by decide), upd_at]
  have u42 : U2 42 8 = 0 := by rw [hU2, upd_at]
  obtain ⟨U3, e1, e2, e3, e4, e5, e6⟩ := ct_clear_21 (N := N) (X := X) (d := d + 89) (U := U2)
  obtain ⟨Z, hZ⟩ : ∃ Z, Z = am_upd (am_upd (am_upd (am_upd U3 26 3 0) 26 4 0) 26 5 (-1)) 26 6 (-1) := ⟨_, rfl⟩
  have zr : ∀ r, r ≠ 26 → Z r = U3 r := fun r q => by rw [hZ, upd_row q, upd_row q, upd_row q, upd_row q]
  have z3 : ∀ r, 27 ≤ r → r ≤ 30 → Z r = U1 r := fun r q1 q2 => by rw [zr r (by omega), e6 r (by omega) (by omega), u2 r (by omega) (by omega) (by omega)]
  obtain ⟨U4, hU4⟩ : ∃ U4, U4 = am_upd (am_upd (am_upd (am_upd Z 26 6 0) 26 7 (tK Z 0)) 26 8 (tV Z 0)) 26 9 (tP Z 0) := ⟨_, rfl⟩
  obtain ⟨tz1, tz2, tz3, tz4⟩ := t_cg (z3 28 (by omega) (by omega))
  have n1 : EvK N X (Rd_next_s0 (d + 90) Z) (rV U4) := by
    rw [hU4]
    exact ct_next0 (by rw [hZ, upd_at]) (by rw [z3 27 (by omega) (by omega)]; omega) (by rw [tz4]; exact (o2 0 (Nat.zero_le K)).2.2)
  have u4r : ∀ r, r ≠ 26 → U4 r = Z r := fun r q => by rw [hU4, upd_row q, upd_row q, upd_row q, upd_row q]
  have u4z : ∀ r, r ≠ 26 → r ≠ 21 → r ≠ 24 → r ≠ 31 → r ≠ 41 → r ≠ 42 → U4 r = U1 r := fun r q1 q2 q3 q4 q5 q6 => by rw [u4r r q1, zr r q1, e6 r q2 q3, u2 r q4 q5 q6]
  have zj : Z 26 3 = 0 ∧ Z 26 4 = 0 ∧ Z 26 5 = -1 := by
    rw [hZ]
    refine ⟨?_, ?_, ?_⟩
    · rw [upd_ne (by decide), upd_ne (by decide), upd_ne (by decide), upd_at]
    · rw [upd_ne (by decide), upd_ne (by decide), upd_at]
    · rw [upd_ne (by decide), upd_at]
  have u4j : ∀ j, j ≠ 6 → j ≠ 7 → j ≠ 8 → j ≠ 9 → U4 26 j = Z 26 j := fun j q1 q2 q3 q4 => by rw [hU4, upd_ne q4, upd_ne q3, upd_ne q2, upd_ne q1]
  have hcS : cS U4 (U0 2) L K (tK U1) (tV U1) (U1 27 2) 0 := by
    refine ⟨fun j hj => ?_, ?_, ⟨?_, ?_, ?_, ?_⟩, Nat.zero_le K, ?_, ?_, ?_, ?_⟩
    · obtain ⟨t1, t2, t3, t4⟩ := t_cg (u4z 28 (by decide) (by decide) (by decide) (by decide) (by decide) (by decide))
      rw [t1, t2, t3, t4]
      exact ⟨rfl, rfl, (o2 j hj).2⟩
    · rw [u4z 27 (by decide) (by decide) (by decide) (by decide) (by decide) (by decide)]
    · rw [u4z 27 (by decide) (by decide) (by decide) (by decide) (by decide) (by decide)]; exact o5.1
    · rw [u4z 27 (by decide) (by decide) (by decide) (by decide) (by decide) (by decide)]; exact o5.2
    · rw [u4j 4 (by decide) (by decide) (by decide) (by decide)]; exact zj.2.1
    · rw [u4j 5 (by decide) (by decide) (by decide) (by decide)]; exact zj.2.2
    · rw [hU4, upd_ne (by decide), upd_ne (by decide), upd_ne (by decide), upd_at]; rfl
    · rw [hU4, upd_ne (by decide), upd_ne (by decide), upd_at, tz1]
    · rw [hU4, upd_ne (by decide), upd_at, tz2]
    · rw [hU4, upd_at, tz3]; exact (o2 0 (Nat.zero_le K)).2.1
  -- what both hold of it
  obtain ⟨W, hW⟩ : ∃ W : am_U, W = fun r => if r ≤ 15 then U4 (r + 28) else if r ≤ 18 then U4 (r + 5) else RST U0 b r := ⟨_, rfl⟩
  have wA : ∀ r, r ≤ 15 → W r = U4 (r + 28) := fun r hr => by rw [hW]; exact if_pos hr
  have wB : ∀ r, 16 ≤ r → r ≤ 18 → W r = U4 (r + 5) := fun r q1 q2 => by
    rw [hW]
    show (if r ≤ 15 then _ else if r ≤ 18 then _ else _) = _
    rw [if_neg (by omega), if_pos q2]
  have wC : ∀ r, 19 ≤ r → W r = RST U0 b r := fun r q => by
    rw [hW]
    show (if r ≤ 15 then _ else if r ≤ 18 then _ else _) = _
    rw [if_neg (by omega), if_neg (by omega)]
  have u31' : ∀ j, j ≤ 5 ∨ j = 18 → U4 31 j = 0 := fun j hj => by rw [u4r 31 (by decide), zr 31 (by decide), e6 31 (by decide) (by decide)]; exact u31 j hj
  have w3 : ∀ j, j ≤ 5 ∨ j = 18 → W 3 j = 0 := fun j hj => by rw [wA 3 (by omega)]; exact u31' j hj
  have f21 : U4 21 = U3 21 := by rw [u4r 21 (by decide), zr 21 (by decide)]
  have w16 : W 16 0 = ((0 : Nat) : Int) := by rw [wB 16 (by omega) (by omega)]; show U4 21 0 = _; rw [f21]; exact e2
  have hcW : cW U4 W := by
    refine ⟨fun r q1 q2 q3 => ?_, fun j hj => ?_, ⟨?_, ?_, ?_⟩, 0, w16, ?_⟩
    · rw [wA (r - 28) (by omega), show r - 28 + 28 = r by omega]
    · rw [w3 18 (by omega)] at hj; omega
    · rw [wB 16 (by omega) (by omega)]
    · rw [wB 17 (by omega) (by omega)]
    · rw [wB 18 (by omega) (by omega)]
    · rw [u4r 23 (by decide), zr 23 (by decide), u4r 24 (by decide), zr 24 (by decide)]; exact e5
  obtain ⟨s88, s90, s94, s97, s100, s104, s106, s110⟩ := RST_rows (V := U0) (b := b)
  have hG : gIn W b 0 0 0 0 0 0 0 := by
    refine ⟨hb2, by rw [w3 18 (by omega)]; rfl, ⟨by rw [w3 0 (by omega)]; rfl, by rw [wC 88 (by omega), s88]; rfl, by omega, fun s hs => absurd hs (Nat.not_lt_zero s)⟩, ⟨by rw [w3 1 (by omega)]; rfl, by rw [wC 90 (by omega), s90]; rfl, by omega, fun s hs => absurd hs (Nat.not_lt_zero s)⟩, ⟨by rw [w3 2 (by omega)]; rfl, by rw [wC 94 (by omega), s94]; rfl, by omega, fun s hs => absurd hs (Nat.not_lt_zero s)⟩, ⟨by rw [w3 3 (by omega)]; rfl, by rw [wC 106 (by omega), s106]; rfl, by omega, fun s hs => absurd hs (Nat.not_lt_zero s), fun s hs => absurd hs (Nat.not_lt_zero s)⟩, ⟨by rw [wC 110 (by omega), s110, w3 5 (by omega)], by rw [w3 5 (by omega)]; omega, by rw [w3 5 (by omega)]; omega⟩, ⟨by rw [w3 4 (by omega)]; rfl, by rw [wC 100 (by omega), s100]; rfl, by omega, fun s hs => absurd hs (Nat.not_lt_zero s)⟩, Or.inl ⟨by rw [wC 104 (by omega), s104], ?_, ?_⟩, ⟨w16, by rw [wC 97 (by omega), s97]; rfl, by omega, fun s hs => absurd hs (Nat.not_lt_zero s), ⟨fun s hs => absurd hs (Nat.not_lt_zero s), fun p q _ hs => absurd hs (Nat.not_lt_zero q), fun s hs => absurd hs (Nat.not_lt_zero s)⟩, ?_, ?_⟩⟩
    · rw [wA 13 (by omega)]
      show U4 41 8 = 0
      rw [u4r 41 (by decide), zr 41 (by decide), e6 41 (by decide) (by decide)]; exact u41
    · rw [wA 14 (by omega)]
      show U4 42 8 = 0
      rw [u4r 42 (by decide), zr 42 (by decide), e6 42 (by decide) (by decide)]; exact u42
    · rw [wB 16 (by omega) (by omega)]
      show U4 21 1 = 0
      rw [f21]; exact e3
    · rw [wB 16 (by omega) (by omega)]
      show U4 21 2 = 0
      rw [f21]; exact e4
  obtain ⟨q, q1, q2, q3, q4⟩ := rd_all (N := N) (X := X) hk K 0 (by omega) 0 W 0 0 0 0 0 0 0 (by omega) (by omega) hG (Nat.le_refl 0)
  refine ⟨q, q1, fun s' W' e => ?_, ?_, fun d2 V hV => ?_⟩
  · obtain ⟨a1, ns, nh, nl, nw, nd, cl, n, a2, a3⟩ := q2 s' W' e
    exact ⟨a1, ns, nh, nl, nw, nd, cl, n, a2, by omega⟩
  · obtain ⟨U', r, k1, k2, k3, k4⟩ := q3 d ((L : Nat) : Int) U4 hcS hcW (by rw [u4j 3 (by decide) (by decide) (by decide) (by decide)]; exact zj.1)
    refine ⟨U', r, ?_, fun r hr => ?_, k3, k4⟩
    · rw [h1]
      refine Rd_read_r0 ⟨U1, c1, U2, Tw_clear_r0 (by rw [hU2]), U3, e1, U4, by rw [← hZ]; exact n1, k1⟩
    · rw [k2 r hr, u4z r (by omega) (by omega) (by omega) (by omega) (by omega) (by omega)]
      exact funext fun j => c2 r j (by omega) (by omega) (by omega) (by omega)
  · have v86 : V 86 = U0 86 := hV 86 (by omega) (by omega)
    obtain ⟨t1, t2, t3, t4, t5, t6⟩ := RST_86 (V := V) (b := b)
    have t9 := RST_9 (V := V) (b := b)
    have tp : tpL (RST V b) (U0 2) L := by
      refine ⟨⟨hL, t9⟩, by rw [t2, v86]; exact h86, fun j hj => ?_⟩
      rw [RST_87, hV 87 (by omega) (by omega)]
      exact ⟨(htp j (by omega)).1, (htp j (by omega)).2⟩
    obtain ⟨V1, a1, a2, a3⟩ := ct_ahead (N := N) (X := X) (d := d2 + 7) (e := 0) tp (by rw [t3]; rfl) (Nat.zero_le L)
    have hr0 : rT V1 (U0 2) L 0 := ⟨tpL_fA6 a2 tp, a3, by rw [a2 86 8 (by decide)]; exact t4⟩
    have hr1 : rW V1 W b := by
      refine ⟨by rw [a2 86 40 (by decide)]; exact t5, fun r q1 q2 => ?_, ?_, fun j hj => ?_⟩
      · rw [fA6_row a2 (by omega), wC r (by omega)]
        exact RST_cg (by omega) (hV r (by omega) (by omega))
      · rw [a2 86 39 (by decide), t6, w3 18 (by omega)]
      · rw [w3 18 (by omega)] at hj; omega
    obtain ⟨V', n', k1, k2, k3, k4⟩ := q4 d2 V1 hr0 hr1
    have xb : eqI (w32 (1 - ((b0 : Nat) : Int))) ((b : Nat) : Int) := by show _ = _; rw [w32_eq (by omega) (by omega)]; omega
    refine ⟨V', n', ⟨fun r j h2 h3 => ?_, ?_, ?_⟩, fun R hR => M_town_r0 ?_, k3, k4⟩
    · rw [k1 r j h2, a2 r j (fun z => h2 (Or.inl ⟨z.1, by omega⟩))]; exact RST_fr h2 h3
    · rw [k1 86 1 (fun z => by unfold scY at z; omega), a2 86 1 (by decide)]; exact t1
    · rw [k1 86 40 (fun z => by unfold scY at z; omega), a2 86 40 (by decide)]; exact t5
    · rw [v86, hb0, eqI_o xb, Int.toNat_natCast, ← v86]
      exact ⟨by omega, V1, a1, k2 R hR⟩
end RDT
