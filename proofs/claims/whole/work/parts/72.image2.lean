/-! the picture: reference -/
/-- the reference's picture, L bytes written -/
def picM (U U0 : am_U) (B : Nat → Int) (L : Nat) : Prop := U 86 89 = (L : Nat) ∧ (∀ j, j < L → U 138 j = B j) ∧ ∀ r j, r ≠ 138 → ¬ (r = 86 ∧ j = 89) → U r j = U0 r j
theorem M_wr {N : Nat} {X : Nat → Int} {d L : Nat} {U U0 : am_U} {B : Nat → Int} {x : Int} (h : picM U U0 B L) (hL : L < 90) (hx : am_and x 255 = B L) : ∃ U', EvK N X (M_writes_s0 d x U) (rV U') ∧ picM U' U0 B (L + 1) := by
  obtain ⟨h1, h2, h3⟩ := h
  refine ⟨am_upd (am_upd U 138 L (B L)) 86 89 ((L + 1 : Nat) : Int), M_writes_r0 ?_, upd_at _ _ _ _, fun j hj => ?_, fun r j q1 q2 => by rw [upd_if2 q2, upd_row q1]; exact h3 r j q1 q2⟩
  · rw [h1, Int.toNat_natCast, hx, w32_succ (i := L) (by omega)]
    exact ⟨by omega, rfl⟩
  · rw [upd_row (by decide), upd_if]
    by_cases c : j = L
    · rw [if_pos c, c]
    · rw [if_neg c]; exact h2 j (by omega)
theorem M_ck {N : Nat} {X : Nat → Int} {d L : Nat} {U U0 : am_U} {B : Nat → Int} (h : picM U U0 B L) (hL : L ≤ 84) (h2 : ∀ j, j < L → 0 ≤ B j ∧ B j ≤ 255) (hB : B L = ck B L) : ∀ m i : Nat, i + m = L → ∃ U', EvK N X (M_image_s108 (d + 1) (ck B i) (i : Nat) U) (rI ((L + 1 : Nat) : Int) U') ∧ picM U' U0 B (L + 1) := by
  intro m
  induction m with
  | zero =>
    intro i hi
    obtain rfl : i = L := by omega
    have b := ck_in (B := B) i h2
    obtain ⟨U', k1, k2⟩ := M_wr (N := N) (X := X) (d := d) (x := ck B i) h (by omega) (by rw [hB]; exact and255s (by omega))
    exact ⟨U', M_image_r108 ⟨fun _ => ⟨U', k1, by rw [k2.1]⟩, fun z => absurd z (by rw [h.1]; omega)⟩, k2⟩
  | succ m ih =>
    intro i hi
    have b := ck_in (B := B) i (fun j hj => h2 j (by omega))
    have b2 := h2 i (by omega)
    obtain ⟨U', k1, k2⟩ := ih (i + 1) (by omega)
    refine ⟨U', M_image_r108 ⟨fun z => absurd z (by rw [h.1]; omega), fun _ => ⟨by omega, ?_⟩⟩, k2⟩
    rw [Int.toNat_natCast, h.2.1 i (by omega), w32_eq (x := 5 * ck B i) (by omega) (by omega), w32_eq (x := 5 * ck B i + B i) (by omega) (by omega), w32_succ (i := i) (by omega)]
    exact k1
theorem M_one {N : Nat} {X : Nat → Int} {d p : Nat} {U U0 : am_U} {B : Nat → Int} (hp : p < 16) (h : picM U U0 B (4 + 5 * p)) (h0 : B (4 + 5 * p) = ((byt (U0 123 p) 24 : Nat) : Int)) (h1 : B (4 + 5 * p + 1) = ((byt (U0 123 p) 16 : Nat) : Int)) (h2 : B (4 + 5 * p + 2) = ((byt (U0 123 p) 8 : Nat) : Int)) (h3 : B (4 + 5 * p + 3) = ((byt (U0 123 p) 0 : Nat) : Int)) (h4 : B (4 + 5 * p + 4) = U0 124 p + 1) (hh : -1 ≤ U0 124 p ∧ U0 124 p < 12) : ∃ U', picM U' U0 B (4 + 5 * (p + 1)) ∧ ∀ R, EvK N X (M_image_s50 (d + 1) ((p + 1 : Nat) : Int) U') R → EvK N X (M_image_s63 (d + 1) (p : Nat) 24 U) R := by
  have e123 : ∀ {V : am_U} {L : Nat}, picM V U0 B L → V 123 p = U0 123 p := fun z => z.2.2 123 p (by decide) (by omega)
  obtain ⟨U1, a1, a2⟩ := M_wr (N := N) (X := X) (d := d) (x := am_shr (U 123 p) 24) h (by omega) (by rw [e123 h, h0]; exact byte_shr _ (n := 24) (by decide))
  obtain ⟨U2, b1, b2⟩ := M_wr (N := N) (X := X) (d := d) (x := am_shr (U1 123 p) 16) a2 (by omega) (by rw [e123 a2, h1]; exact byte_shr _ (n := 16) (by decide))
  obtain ⟨U3, c1, c2⟩ := M_wr (N := N) (X := X) (d := d) (x := am_shr (U2 123 p) 8) b2 (by omega) (by rw [e123 b2]; exact (byte_shr _ (n := 8) (by decide)).trans h2.symm)
  obtain ⟨U4, d1, d2⟩ := M_wr (N := N) (X := X) (d := d) (x := am_shr (U3 123 p) 0) c2 (by omega) (by rw [e123 c2]; exact (byte_shr _ (n := 0) (by decide)).trans h3.symm)
  obtain ⟨U5, e1, e2⟩ := M_wr (N := N) (X := X) (d := d) (x := w32 (U4 124 p + 1)) d2 (by omega) (by rw [d2.2.2 124 p (by decide) (by omega), w32_eq (x := U0 124 p + 1) (by omega) (by omega), and255s (by omega)]; exact h4.symm)
  have st : ∀ {V W : am_U} {k : Nat} {R}, k ≤ 24 → EvK N X (M_writes_s0 d (am_shr (V 123 p) (k : Nat)) V) (rV W) → EvK N X (M_image_s63 (d + 1) (p : Nat) (((k : Nat) : Int) - 8) W) R → EvK N X (M_image_s63 (d + 1) (p : Nat) ((k : Nat) : Int) V) R := fun {V W k R} q1 q2 q3 => by
    refine M_image_r63 ⟨fun z => absurd z (by omega), fun _ => ⟨by omega, W, ?_, ?_⟩⟩
    · rw [Int.toNat_natCast]; exact q2
    · rw [w32_eq (x := ((k : Nat) : Int) + -8) (by omega) (by omega)]; exact q3
  refine ⟨U5, e2, fun R hR => st (k := 24) (by decide) a1 (st (k := 16) (by decide) b1 (st (k := 8) (by decide) c1 (st (k := 0) (by decide) d1 (M_image_r63 ⟨fun _ => ⟨by omega, U5, ?_, ?_⟩, fun z => absurd z (by decide)⟩))))⟩
  · rw [Int.toNat_natCast]; exact e1
  · rw [w32_succ (i := p) (by omega)]; exact hR
theorem M_im_l {N : Nat} {X : Nat → Int} {d n : Nat} {U0 : am_U} {B : Nat → Int} (hn : U0 122 0 = (n : Nat)) (hn2 : n ≤ 16) (hB : ∀ p, p < n → B (4 + 5 * p) = ((byt (U0 123 p) 24 : Nat) : Int) ∧ B (4 + 5 * p + 1) = ((byt (U0 123 p) 16 : Nat) : Int) ∧ B (4 + 5 * p + 2) = ((byt (U0 123 p) 8 : Nat) : Int) ∧ B (4 + 5 * p + 3) = ((byt (U0 123 p) 0 : Nat) : Int) ∧ B (4 + 5 * p + 4) = U0 124 p + 1 ∧ -1 ≤ U0 124 p ∧ U0 124 p < 12) (h2 : ∀ j, j < 4 + 5 * n → 0 ≤ B j ∧ B j ≤ 255) (hc : B (4 + 5 * n) = ck B (4 + 5 * n)) : ∀ m p : Nat, p + m = n → ∀ U : am_U, picM U U0 B (4 + 5 * p) → ∃ U', EvK N X (M_image_s50 (d + 1) (p : Nat) U) (rI ((4 + 5 * n + 1 : Nat) : Int) U') ∧ picM U' U0 B (4 + 5 * n + 1) := by
  intro m
  induction m with
  | zero =>
    intro p hp U h
    obtain rfl : p = n := by omega
    obtain ⟨U', k1, k2⟩ := M_ck (N := N) (X := X) (d := d) h (by omega) h2 hc (4 + 5 * p) 0 (by omega)
    have e : U 122 0 = (p : Nat) := by rw [h.2.2 122 0 (by decide) (by decide)]; exact hn
    exact ⟨U', M_image_r50 ⟨fun _ => k1, fun z => absurd z (by rw [e]; omega)⟩, k2⟩
  | succ m ih =>
    intro p hp U h
    obtain ⟨q0, q1, q2, q3, q4, q5⟩ := hB p (by omega)
    obtain ⟨U1, k1, k2⟩ := M_one (N := N) (X := X) (d := d) (show p < 16 by omega) h q0 q1 q2 q3 q4 q5
    obtain ⟨U', m1, m2⟩ := ih (p + 1) (by omega) U1 k1
    have e : U 122 0 = (n : Nat) := by rw [h.2.2 122 0 (by decide) (by decide)]; exact hn
    exact ⟨U', M_image_r50 ⟨fun z => absurd z (by rw [e]; omega), fun _ => k2 _ m1⟩, m2⟩
/-- nothing but the picture has changed -/
def kI (U V : am_U) : Prop := ∀ r j, r ≠ 84 → r ≠ 138 → ¬ (r = 1 ∧ j = 16) → ¬ (r = 86 ∧ j = 89) → V r j = U r j
theorem pair_image {N : Nat} {X : Nat → Int} {d : Nat} {U : am_U} {n nh : Nat} (hnh : nh ≤ 12) (hf : iFolk U n nh) : ∃ r U1 U2, EvK N X (D_image_s0 (d + 2) U) (rI r U1) ∧ EvK N X (M_image_s0 (d + 2) U1) (rI r U2) ∧ kI U U2 ∧ (U2 86 89 = U2 1 16 ∧ 0 ≤ U2 1 16 ∧ U2 1 16 ≤ 85 ∧ ∀ k : Nat, (k : Int) < U2 1 16 → U2 138 k = U2 84 k) := by
  obtain ⟨⟨f1, f2, f3⟩, ⟨f4, f5⟩, ⟨f6, f7⟩, f8, f9, f10⟩ := hf
  have hh : ∀ p, p < n → -1 ≤ U 18 p ∧ U 18 p < 12 := fun p hp => by have := (f9.1 p hp).2.2; omega
  obtain ⟨U', k1, k2, k3, k4⟩ := ct_writeTo (N := N) (X := X) (d := d) f1 f3 f5 f7 hh
  generalize hB0 : imB (U 16 1) (U 16 2) n (U 17) (U 18) = B0 at k3 k4
  have hin : ∀ j, j < 4 + 5 * n → 0 ≤ B0 j ∧ B0 j ≤ 255 := fun j hj => by rw [← hB0]; exact imB_in f7 f3 hh hj
  have w4 : ∀ r j, r ≠ 84 → ¬ (r = 1 ∧ j = 16) → am_upd U' 1 16 ((5 + 5 * n : Nat) : Int) r j = U r j := fun r j q1 q2 => by rw [upd_if2 q2, k2 r q1]
  have u84 : am_upd U' 1 16 ((5 + 5 * n : Nat) : Int) 84 = U' 84 := upd_row (by decide)
  have u16 : am_upd U' 1 16 ((5 + 5 * n : Nat) : Int) 1 16 = ((5 + 5 * n : Nat) : Int) := upd_at _ _ _ _
  have eD : EvK N X (D_image_s0 (d + 2) U) (rI ((5 + 5 * n : Nat) : Int) (am_upd U' 1 16 ((5 + 5 * n : Nat) : Int))) := D_image_r0 ⟨_, _, k1, rfl⟩
  generalize am_upd U' 1 16 ((5 + 5 * n : Nat) : Int) = U1 at w4 u84 u16 eD
  -- the whole picture, its check at the end
  have hBf : ∀ j, j < 4 + 5 * n → s1 B0 (4 + 5 * n) (ck B0 (4 + 5 * n)) j = B0 j := fun j hj => s1_ne (by omega)
  have hck : ∀ m, m ≤ 4 + 5 * n → ck (s1 B0 (4 + 5 * n) (ck B0 (4 + 5 * n))) m = ck B0 m := by
    intro m
    induction m with
    | zero => intro _; rfl
    | succ m ih => intro hm; rw [ck, ck, ih (by omega), hBf m (by omega)]
  have hB : ∀ p q, p < n → q < 5 → s1 B0 (4 + 5 * n) (ck B0 (4 + 5 * n)) (4 + 5 * p + q) = if q = 4 then U 18 p + 1 else ((byt (U 17 p) (24 - 8 * q) : Nat) : Int) := fun p q hp hq => by rw [hBf _ (by omega), ← hB0, imB_p hq]
  have b03 : B0 0 = ((byt (U 16 1) 8 : Nat) : Int) ∧ B0 1 = ((byt (U 16 1) 0 : Nat) : Int) ∧ B0 2 = U 16 2 ∧ B0 3 = (n : Nat) := by rw [← hB0]; exact ⟨rfl, rfl, rfl, rfl⟩
  generalize hBB : s1 B0 (4 + 5 * n) (ck B0 (4 + 5 * n)) = B at hBf hck hB
  have hBl : B (4 + 5 * n) = ck B0 (4 + 5 * n) := by rw [← hBB, s1_at]
  have c120 : U1 120 0 = U 16 1 := by rw [w4 120 0 (by decide) (by decide)]; exact f4
  have c121 : U1 121 0 = U 16 2 := by rw [w4 121 0 (by decide) (by decide)]; exact f6
  have c122 : U1 122 0 = (n : Nat) := by rw [w4 122 0 (by decide) (by decide)]; exact f2
  have p0 : picM (am_upd U1 86 89 0) U1 B 0 := ⟨upd_at _ _ _ _, fun j hj => absurd hj (Nat.not_lt_zero j), fun r j _ q2 => by rw [upd_if2 q2]⟩
  obtain ⟨V1, a1, a2⟩ := M_wr (N := N) (X := X) (d := d + 1) (x := am_shr (U1 120 0) 8) p0 (by decide) (by rw [c120, hBf 0 (by omega), b03.1]; exact byte_shr _ (n := 8) (by decide))
  obtain ⟨V2, b1, b2⟩ := M_wr (N := N) (X := X) (d := d + 1) (x := V1 120 0) a2 (by decide) (by rw [a2.2.2 120 0 (by decide) (by decide), c120, hBf 1 (by omega), b03.2.1]; exact and255 _)
  obtain ⟨V3, c1, c2⟩ := M_wr (N := N) (X := X) (d := d + 1) (x := V2 121 0) b2 (by decide) (by rw [b2.2.2 121 0 (by decide) (by decide), c121, hBf 2 (by omega), b03.2.2.1]; exact and255s (by omega))
  obtain ⟨V4, d1, d2⟩ := M_wr (N := N) (X := X) (d := d + 1) (x := V3 122 0) c2 (by decide) (by rw [c2.2.2 122 0 (by decide) (by decide), c122, hBf 3 (by omega), b03.2.2.2]; exact and255s (by omega))
  obtain ⟨V, e1, e2⟩ := M_im_l (N := N) (X := X) (d := d + 1) (n := n) (U0 := U1) (B := B) c122 f3 (fun p hp => by
    rw [w4 123 p (by decide) (by omega), w4 124 p (by decide) (by omega), (f8 p hp).1, (f8 p hp).2]
    have z0 := hB p 0 hp (by decide)
    rw [Nat.add_zero, if_neg (by decide)] at z0
    exact ⟨z0, hB p 1 hp (by decide), hB p 2 hp (by decide), hB p 3 hp (by decide), hB p 4 hp (by decide), hh p hp⟩) (fun j hj => by rw [hBf j hj]; exact hin j hj) (by rw [hBl, hck _ (Nat.le_refl _)]) n 0 (by omega) V4 d2
  refine ⟨((5 + 5 * n : Nat) : Int), U1, V, eD, M_image_r0 ⟨V1, ?_, V2, b1, V3, c1, V4, d1, ?_⟩, fun r j q1 q2 q3 q4 => by rw [e2.2.2 r j q2 q4, w4 r j q1 q3], ?_⟩
  · exact a1
  · rw [show 5 + 5 * n = 4 + 5 * n + 1 from by omega]; exact e1
  · rw [e2.1, e2.2.2 1 16 (by decide) (by decide), u16]
    refine ⟨by omega, by omega, by omega, fun k hk => ?_⟩
    rw [e2.2.1 k (by omega), e2.2.2 84 k (by decide) (by omega), u84]
    by_cases c : k = 4 + 5 * n
    · rw [c, hBl, k4]
    · rw [hBf k (by omega), k3 k (by omega)]
