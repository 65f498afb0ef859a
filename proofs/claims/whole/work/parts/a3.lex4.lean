/-! the class cuts the tape -/
/-- what the class knows of the one at e -/
def cTok (T : Nat → Int) (L e : Nat) (k v bp : Int) : Prop :=
  (tkA T L e = L ∧ k = 0) ∨
  (tkA T L e < L ∧ isL (T (tkA T L e)) = true ∧ ∃ len, tkE T L e = tkA T L e + len ∧ 1 ≤ len ∧ (∀ j, j < len → isL (T (tkA T L e + j)) = true) ∧ ((k = 5 ∧ bp = lxA T (tkA T L e) len 6 ∧ bp ≠ -1) ∨ (lxA T (tkA T L e) len 6 = -1 ∧ len ≤ 6 ∧ ((k = 1 ∧ ∃ w : Nat, w < 26 ∧ v = (w : Nat) ∧ ((w8 T (tkA T L e) len : Nat) : Int) = ow8 w) ∨ (k = 2 ∧ v = (w5 T (tkA T L e) len : Nat) ∧ ∀ w, w < 26 → ((w8 T (tkA T L e) len : Nat) : Int) ≠ ow8 w))))) ∨
  (tkA T L e < L ∧ isD (T (tkA T L e)) = true ∧ ∃ len, tkE T L e = tkA T L e + len ∧ 1 ≤ len ∧ (∀ j, j < len → isD (T (tkA T L e + j)) = true) ∧ ((k = 5 ∧ bp = lxA T (tkA T L e) len 9 ∧ bp ≠ -1) ∨ (lxA T (tkA T L e) len 9 = -1 ∧ len ≤ 9 ∧ k = 3 ∧ v = (v10 T (tkA T L e) len : Nat)))) ∨
  (tkA T L e < L ∧ isL (T (tkA T L e)) = false ∧ isD (T (tkA T L e)) = false ∧ ((k = 4 ∧ v = T (tkA T L e) ∧ isG v = true) ∨ (k = 5 ∧ bp = ((tkA T L e : Nat) : Int) ∧ isG (T (tkA T L e)) = false)))
theorem ct_T_isL {N : Nat} {X : Nat → Int} {d : Nat} {U : am_U} (c : Int) : EvK N X (Tk_isLetter_s0 d c U) (rI (b2i (isL c = true)) U) := by
  rw [show b2i (isL c = true) = b2i (97 ≤ c ∧ c ≤ 122) from b2i_cg isL_iff]
  refine Tk_isLetter_r0 ?_
  (repeat' (first | apply And.intro | intro _)) <;> (unfold b2i; split <;> first | rfl | (exfalso; omega))
theorem ct_T_isD {N : Nat} {X : Nat → Int} {d : Nat} {U : am_U} (c : Int) : EvK N X (Tk_isDigit_s0 d c U) (rI (b2i (isD c = true)) U) := by
  rw [show b2i (isD c = true) = b2i (48 ≤ c ∧ c ≤ 57) from b2i_cg isD_iff]
  refine Tk_isDigit_r0 ?_
  (repeat' (first | apply And.intro | intro _)) <;> (unfold b2i; split <;> first | rfl | (exfalso; omega))
/-- what cutting may change -/
def fT4 (U U' : am_U) : Prop := ∀ r j, r ≠ 28 → r ≠ 29 → r ≠ 30 → ¬ (r = 27 ∧ (j = 1 ∨ j = 2 ∨ j = 3)) → U' r j = U r j
theorem fT4_trans {U U1 U2 : am_U} (h1 : fT4 U U1) (h2 : fT4 U1 U2) : fT4 U U2 := fun r j a b c e => by rw [h2 r j a b c e, h1 r j a b c e]
/-- one is put -/
theorem ct_Tk_put {N : Nat} {X : Nat → Int} {d i : Nat} {U : am_U} {k v p : Int} (hk : 0 ≤ k ∧ k < 8) (hv : 0 ≤ v ∧ v < 1073741824) (hp : 0 ≤ p ∧ p < 2048) (hc : U 27 1 = (i : Nat)) (hi : i < 1601) : ∃ U', EvK N X (Tk_put_s0 d k v p U) (rV U') ∧ fT4 U U' ∧ U' 27 1 = ((i + 1 : Nat) : Int) ∧ U' 27 2 = U 27 2 ∧ U' 27 3 = U 27 3 ∧ (tK U' i = k ∧ tV U' i = v ∧ tP U' i = p ∧ tokB U' i) ∧ ∀ j, j ≠ i → tQ U U' j := by
  refine ⟨am_upd (am_upd U 28 i (16384 * v + 8 * p + k)) 27 1 ((i + 1 : Nat) : Int), Tk_put_r0 ?_, fun r j q1 q2 q3 q4 => ?_, upd_at _ _ _ _, ?_, ?_, told_of hk hv hp ?_, fun j hj => tQ_of ?_⟩
  · rw [hc, Int.toNat_natCast, w32_succ (i := i) (by omega), told_i hk hv hp]
    exact ⟨fun z => absurd z (by omega), fun _ => ⟨by omega, rfl⟩⟩
  · by_cases c : r = 27
    · subst c
      rw [upd_ne (fun z => q4 ⟨rfl, Or.inl z⟩), upd_row (by decide)]
    · rw [upd_row c, upd_row q1]
  · rw [upd_ne (by decide), upd_row (by decide)]
  · rw [upd_ne (by decide), upd_row (by decide)]
  · rw [upd_row (by decide), upd_at]
  · rw [upd_row (by decide), upd_ne hj]
/-- how the next one comes: rows grown by one, kind k, value v -/
def grown (U U' : am_U) (i : Nat) (k v p : Int) : Prop := fT4 U U' ∧ U' 27 1 = ((i + 1 : Nat) : Int) ∧ (tK U' i = k ∧ tV U' i = v ∧ tP U' i = p ∧ tokB U' i) ∧ ∀ j, j ≠ i → tQ U U' j
theorem ct_putBad {N : Nat} {X : Nat → Int} {d i : Nat} {U : am_U} {p q L : Int} (hp : 0 ≤ p ∧ p < 2048) (hc : U 27 1 = (i : Nat)) (hi : i < 1601) : ∃ U', EvK N X (Tk_putBad_s0 (d + 1) p q L U) (rI L U') ∧ grown U U' i 5 0 p ∧ U' 27 2 = q := by
  obtain ⟨U1, a1, a2, a3, a4, a5, a6, a7⟩ := ct_Tk_put (N := N) (X := X) (d := d) (k := 5) (v := 0) (p := p) (by decide) (by decide) hp hc hi
  obtain ⟨t1, t2, t3, t4⟩ := t_cg (U := U1) (U' := am_upd U1 27 2 q) (upd_row (by decide))
  refine ⟨am_upd U1 27 2 q, Tk_putBad_r0 ⟨U1, a1, rfl⟩, ⟨fun r j q1 q2 q3 q4 => ?_, ?_, ?_, fun j hj => ?_⟩, upd_at _ _ _ _⟩
  · by_cases c : r = 27
    · subst c
      rw [upd_ne (fun z => q4 ⟨rfl, Or.inr (Or.inl z)⟩)]; exact a2 27 j q1 q2 q3 q4
    · rw [upd_row c]; exact a2 r j q1 q2 q3 q4
  · rw [upd_ne (by decide)]; exact a3
  · rw [t1, t2, t3, t4]; exact a6
  · have := a7 j hj
    unfold tQ at this ⊢
    rw [t1, t2, t3, t4]; exact this
theorem ct_putWord {N : Nat} {X : Nat → Int} {d i a len : Nat} {U : am_U} {T : Nat → Int} {nm : Int} (hnm : 0 ≤ nm ∧ nm < 1073741824) (hc : U 27 1 = (i : Nat)) (hi : i < 1601) (ha : a + len ≤ 1600) (h6 : len ≤ 6) (hT : ∀ j, j < a + len → U 2 j = T j) (hl : ∀ j, j < len → isL (T (a + j)) = true) : ∃ U' k v, EvK N X (Tk_putWord_s0 (d + 5) (a : Nat) ((a + len : Nat) : Int) nm U) (rV U') ∧ grown U U' i k v (a : Nat) ∧ U' 27 2 = U 27 2 ∧ U' 27 3 = U 27 3 ∧ ((k = 1 ∧ ∃ w : Nat, w < 26 ∧ v = (w : Nat) ∧ ((w8 T a len : Nat) : Int) = ow8 w) ∨ (k = 2 ∧ v = nm ∧ ∀ w, w < 26 → ((w8 T a len : Nat) : Int) ≠ ow8 w)) := by
  have loop : ∀ m w : Nat, w + m = 26 → (∀ w', w' < w → ((w8 T a len : Nat) : Int) ≠ ow8 w') → ∃ U' k v, EvK N X (Tk_putWord_s3 (d + 5) (a : Nat) ((a + len : Nat) : Int) nm (w : Nat) U) (rV U') ∧ grown U U' i k v (a : Nat) ∧ U' 27 2 = U 27 2 ∧ U' 27 3 = U 27 3 ∧ ((k = 1 ∧ ∃ w : Nat, w < 26 ∧ v = (w : Nat) ∧ ((w8 T a len : Nat) : Int) = ow8 w) ∨ (k = 2 ∧ v = nm ∧ ∀ w, w < 26 → ((w8 T a len : Nat) : Int) ≠ ow8 w)) := by
    intro m
    induction m with
    | zero =>
      intro w hw h
      obtain rfl : w = 26 := by omega
      obtain ⟨U1, a1, a2, a3, a4, a5, a6, a7⟩ := ct_Tk_put (N := N) (X := X) (d := d + 4) (k := 2) (v := nm) (p := (a : Nat)) (by decide) hnm (by omega) hc hi
      exact ⟨U1, 2, nm, Tk_putWord_r3 ⟨fun _ => ⟨U1, a1, rfl⟩, fun z => absurd z (by omega)⟩, ⟨a2, a3, a6, a7⟩, a4, a5, Or.inr ⟨rfl, rfl, h⟩⟩
    | succ m ih =>
      intro w hw h
      have ow := ct_isOwnWord (N := N) (X := X) (d := d) (a := a) (len := len) (w := w) (U := U) (T := T) (by omega) ha hT
      rw [propext (own_iff (show w < 26 by omega) h6 hl)] at ow
      by_cases c : ((w8 T a len : Nat) : Int) = ow8 w
      · rw [cb_t c] at ow
        obtain ⟨U1, a1, a2, a3, a4, a5, a6, a7⟩ := ct_Tk_put (N := N) (X := X) (d := d + 4) (k := 1) (v := ((w : Nat) : Int)) (p := (a : Nat)) (by decide) (by omega) (by omega) hc hi
        exact ⟨U1, 1, ((w : Nat) : Int), Tk_putWord_r3 ⟨fun z => absurd z (by omega), fun _ => ⟨1, U, ow, fun z => absurd z (by decide), fun _ => ⟨U1, a1, rfl⟩⟩⟩, ⟨a2, a3, a6, a7⟩, a4, a5, Or.inl ⟨rfl, w, by omega, rfl, c⟩⟩
      · rw [cb_f c] at ow
        obtain ⟨U1, k, v, k1, k2⟩ := ih (w + 1) (by omega) (fun w' hw' => by
          by_cases e : w' = w
          · rw [e]; exact c
          · exact h w' (by omega))
        refine ⟨U1, k, v, Tk_putWord_r3 ⟨fun z => absurd z (by omega), fun _ => ⟨0, U, ow, fun _ => ?_, fun z => absurd rfl z⟩⟩, k2⟩
        rw [w32_succ (i := w) (by omega)]; exact k1
  obtain ⟨U', k, v, k1, k2⟩ := loop 26 0 (by omega) (fun w' hw' => absurd hw' (Nat.not_lt_zero w'))
  exact ⟨U', k, v, Tk_putWord_r0 k1, k2⟩
theorem w5_or {T : Nat → Int} {a k : Nat} (hk : k < 6) (hl : ∀ j, j < k + 1 → isL (T (a + j)) = true) : am_or ((w5 T a k : Nat) : Int) (am_shl (T (a + k) - 96) ((25 - 5 * k : Nat) : Int)) = ((w5 T a (k + 1) : Nat) : Int) := by
  have c := isL_iff.mp (hl k (by omega))
  have wl := w5_lt (T := T) (a := a) (show k + 1 ≤ 6 by omega) hl
  have e5' : w5 T a (k + 1) = w5 T a k + (T (a + k) - 96).toNat * 32 ^ (5 - k) := rfl
  have e : w5 T a k = 2 ^ (25 - 5 * k + 5) * e5 (lsT T a k) := by
    rw [w5_e5 (show k ≤ 6 by omega), Nat.mul_comm, show 32 = 2 ^ 5 from rfl, ← Nat.pow_mul, show 5 * (6 - k) = 25 - 5 * k + 5 by omega]
  have p5 : 32 ^ (5 - k) = 2 ^ (25 - 5 * k) := by rw [show 32 = 2 ^ 5 from rfl, ← Nat.pow_mul, show 5 * (5 - k) = 25 - 5 * k by omega]
  rw [p5] at e5'
  have lt32 : (T (a + k) - 96).toNat < 32 := by omega
  have pp : 0 < 2 ^ (25 - 5 * k) := Nat.pow_pos (by decide)
  have m1 : (T (a + k) - 96).toNat * 2 ^ (25 - 5 * k) < 2 ^ (25 - 5 * k + 5) := by
    rw [Nat.pow_add, Nat.mul_comm]
    exact Nat.mul_lt_mul_of_pos_left lt32 pp
  rw [show T (a + k) - 96 = (((T (a + k) - 96).toNat : Nat) : Int) by omega, shl_n (by omega) (by omega), e, or_n (by rw [Nat.mul_comm]; exact m1) (by rw [← e, Nat.mul_comm (2 ^ (25 - 5 * k))]; omega), ← e, e5', Nat.mul_comm (2 ^ (25 - 5 * k))]
