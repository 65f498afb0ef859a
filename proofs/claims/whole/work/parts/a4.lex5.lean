/-! words and numbers are cut -/
theorem grown_j {U U' : am_U} {i : Nat} {k v p x : Int} (h : grown U U' i k v p) : grown U (am_upd U' 27 3 x) i k v p := by
  obtain ⟨h1, h2, h3, h4⟩ := h
  obtain ⟨t1, t2, t3, t4⟩ := t_cg (U := U') (U' := am_upd U' 27 3 x) (upd_row (by decide))
  refine ⟨fun r j q1 q2 q3 q4 => ?_, ?_, ?_, fun j hj => ?_⟩
  · by_cases c : r = 27
    · subst c
      rw [upd_ne (fun z => q4 ⟨rfl, Or.inr (Or.inr z)⟩)]; exact h1 27 j q1 q2 q3 q4
    · rw [upd_row c]; exact h1 r j q1 q2 q3 q4
  · rw [upd_ne (by decide)]; exact h2
  · rw [t1, t2, t3, t4]; exact h3
  · have := h4 j hj
    unfold tQ at this ⊢
    rw [t1, t2, t3, t4]; exact this
/-- what a run of letters gives -/
def runL (U U' : am_U) (T : Nat → Int) (L a i : Nat) (r k v : Int) : Prop := grown U U' i k v (a : Nat) ∧ ∃ len, a + len = fr1 (fun j => !(isL (T j))) L a ∧ (∀ j, j < len → isL (T (a + j)) = true) ∧ ((k = 5 ∧ r = (L : Nat) ∧ U' 27 2 = lxA T a len 6 ∧ U' 27 2 ≠ -1) ∨ (lxA T a len 6 = -1 ∧ len ≤ 6 ∧ r = ((a + len : Nat) : Int) ∧ U' 27 3 = ((a + len : Nat) : Int) ∧ U' 27 2 = U 27 2 ∧ ((k = 1 ∧ ∃ w : Nat, w < 26 ∧ v = (w : Nat) ∧ ((w8 T a len : Nat) : Int) = ow8 w) ∨ (k = 2 ∧ v = (w5 T a len : Nat) ∧ ∀ w, w < 26 → ((w8 T a len : Nat) : Int) ≠ ow8 w))))
theorem ct_cutRun_L {N : Nat} {X : Nat → Int} {d L a i : Nat} {U : am_U} {T : Nat → Int} (hL : L ≤ 1600) (ha : a < L) (hT : ∀ j, j < L → U 2 j = T j) (hc : U 27 1 = (i : Nat)) (hi : i < 1601) (hl : isL (T a) = true) (hj : U 27 3 = ((a : Nat) : Int) ↔ jnt T a = true) : ∃ U' r k v, EvK N X (Tk_cutRun_s0 (d + 6) (L : Nat) (a : Nat) 1 U) (rI r U') ∧ runL U U' T L a i r k v := by
  obtain ⟨g1, g2, g3, g4⟩ := fr1_spec (q := fun j => !(isL (T j))) (L := L) (L - a) a (by omega)
  by_cases cj : jnt T a = true
  · obtain ⟨U', k1, k2, k3⟩ := ct_putBad (N := N) (X := X) (d := d + 4) (p := (a : Nat)) (q := (a : Nat)) (L := (L : Nat)) (by omega) hc hi
    have eL : lxA T a (fr1 (fun j => !(isL (T j))) L a - a) 6 = ((a : Nat) : Int) := by unfold lxA; rw [if_pos cj]
    refine ⟨U', (L : Nat), 5, 0, Tk_cutRun_r0 ⟨fun z => absurd (hj.mpr cj).symm z, fun _ => ⟨_, U', k1, rfl⟩⟩, k2, fr1 (fun j => !(isL (T j))) L a - a, by omega, fun j hj' => ?_, Or.inl ⟨rfl, rfl, ?_, ?_⟩⟩
    · have := g3 (a + j) (by omega) (by omega)
      simpa using this
    · rw [eL, k3]
    · rw [k3]; omega
  · have loop : ∀ m n : Nat, a + n + m = L → n ≤ 6 → (∀ j, j < n → isL (T (a + j)) = true) → ∃ U' r k v, EvK N X (Tk_cutRun_s36 (d + 6) (L : Nat) (a : Nat) 1 6 (w5 T a n : Nat) ((a + n : Nat) : Int) U) (rI r U') ∧ grown U U' i k v (a : Nat) ∧ ∃ len, a + len = fr1 (fun j => !(isL (T j))) L (a + n) ∧ (∀ j, j < len → isL (T (a + j)) = true) ∧ ((k = 5 ∧ r = (L : Nat) ∧ U' 27 2 = lxA T a len 6 ∧ U' 27 2 ≠ -1) ∨ (lxA T a len 6 = -1 ∧ len ≤ 6 ∧ r = ((a + len : Nat) : Int) ∧ U' 27 3 = ((a + len : Nat) : Int) ∧ U' 27 2 = U 27 2 ∧ ((k = 1 ∧ ∃ w : Nat, w < 26 ∧ v = (w : Nat) ∧ ((w8 T a len : Nat) : Int) = ow8 w) ∨ (k = 2 ∧ v = (w5 T a len : Nat) ∧ ∀ w, w < 26 → ((w8 T a len : Nat) : Int) ≠ ow8 w)))) := by
      intro m
      induction m with
      | zero =>
        intro n hn h6 hl'
        obtain ⟨U', k, v, k1, k2, k3, k4, k5⟩ := ct_putWord (N := N) (X := X) (d := d) (a := a) (len := n) (nm := (w5 T a n : Nat)) (by have := w5_lt (T := T) (a := a) h6 hl'; omega) hc hi (by omega) h6 (fun j hj' => hT j (by omega)) hl'
        refine ⟨am_upd U' 27 3 ((a + n : Nat) : Int), _, k, v, Tk_cutRun_r36 ⟨fun _ => ⟨fun z => absurd z (by decide), fun _ => ⟨U', k1, rfl⟩⟩, fun z => absurd z (by omega)⟩, grown_j k2, n, by rw [fr1_stop (Or.inl (by omega))], hl', Or.inr ⟨?_, h6, rfl, upd_at _ _ _ _, by rw [upd_ne (by decide)]; exact k3, k5⟩⟩
        unfold lxA; rw [if_neg cj, if_neg (by omega)]
      | succ m ih =>
        intro n hn h6 hl'
        have q1 := hT (a + n) (by omega)
        have en : w32 (((a + n : Nat) : Int) - ((a : Nat) : Int)) = ((n : Nat) : Int) := by rw [w32_eq (by omega) (by omega)]; omega
        have cl := ct_T_isL (N := N) (X := X) (d := d + 5) (U := U) (T (a + n))
        have enI : eqI (w32 (((a + n : Nat) : Int) - ((a : Nat) : Int))) ((n : Nat) : Int) := en
        clear en
        by_cases c : isL (T (a + n)) = true
        · rw [b2i_t c] at cl
          have hl2 : ∀ j, j < n + 1 → isL (T (a + j)) = true := fun j hj' => by
            by_cases e : j = n
            · rw [e]; exact c
            · exact hl' j (by omega)
          have st : fr1 (fun j => !(isL (T j))) L (a + n) = fr1 (fun j => !(isL (T j))) L (a + (n + 1)) := fr1_step (by omega) (by rw [c]; rfl)
          by_cases c6 : n = 6
          · obtain ⟨U', k1, k2, k3⟩ := ct_putBad (N := N) (X := X) (d := d + 4) (p := (a : Nat)) (q := ((a + n : Nat) : Int)) (L := (L : Nat)) (by omega) hc hi
            obtain ⟨f1, f2, f3, f4⟩ := fr1_spec (q := fun j => !(isL (T j))) (L := L) (L - (a + (n + 1))) (a + (n + 1)) (by omega)
            have eL : lxA T a (fr1 (fun j => !(isL (T j))) L (a + (n + 1)) - a) 6 = ((a + n : Nat) : Int) := by unfold lxA; rw [if_neg cj, if_pos (by omega), c6]
            refine ⟨U', (L : Nat), 5, 0, Tk_cutRun_r36 ⟨fun z => absurd z (by omega), fun _ => ?_⟩, k2, fr1 (fun j => !(isL (T j))) L (a + (n + 1)) - a, by rw [st]; omega, fun j hj' => ?_, Or.inl ⟨rfl, rfl, ?_, ?_⟩⟩
            · rw [eqI_o enI, Int.toNat_natCast, q1]
              exact ⟨fun z => absurd z (by omega), fun _ => ⟨fun z => absurd z (by decide), fun _ => ⟨by omega, 1, U, cl, fun z => absurd z (by decide), fun _ => ⟨fun z => absurd (by omega) z, fun _ => ⟨_, U', k1, rfl⟩⟩⟩⟩⟩
            · by_cases z : j < n + 1
              · exact hl2 j z
              · have := f3 (a + j) (by omega) (by omega)
                simpa using this
            · rw [eL, k3]
            · rw [k3]; omega
          · obtain ⟨U', r, k, v, k1, k2, len, l1, l2⟩ := ih (n + 1) (by omega) (by omega) hl2
            refine ⟨U', r, k, v, Tk_cutRun_r36 ⟨fun z => absurd z (by omega), fun _ => ?_⟩, k2, len, by rw [st]; exact l1, l2⟩
            have cc := isL_iff.mp c
            rw [eqI_o enI, Int.toNat_natCast, q1]
            refine ⟨fun z => absurd z (by omega), fun _ => ⟨fun z => absurd z (by decide), fun _ => ⟨by omega, 1, U, cl, fun z => absurd z (by decide), fun _ => ⟨fun _ => ?_, fun z => absurd z (by omega)⟩⟩⟩⟩
            rw [q1, w32_eq (x := T (a + n) - 96) (by omega) (by omega), w32_eq (x := 5 * ((n : Nat) : Int)) (by omega) (by omega), w32_eq (x := 25 - 5 * ((n : Nat) : Int)) (by omega) (by omega), show 25 - 5 * ((n : Nat) : Int) = ((25 - 5 * n : Nat) : Int) by omega, w5_or (by omega) hl2, w32_succ (i := a + n) (by omega)]
            exact k1
        · rw [b2i_f c] at cl
          obtain ⟨U', k, v, k1, k2, k3, k4, k5⟩ := ct_putWord (N := N) (X := X) (d := d) (a := a) (len := n) (nm := (w5 T a n : Nat)) (by have := w5_lt (T := T) (a := a) h6 hl'; omega) hc hi (by omega) h6 (fun j hj' => hT j (by omega)) hl'
          refine ⟨am_upd U' 27 3 ((a + n : Nat) : Int), _, k, v, Tk_cutRun_r36 ⟨fun z => absurd z (by omega), fun _ => ?_⟩, grown_j k2, n, by rw [fr1_stop (Or.inr (by rw [Bool.eq_false_iff.mpr c]; rfl))], hl', Or.inr ⟨?_, h6, rfl, upd_at _ _ _ _, by rw [upd_ne (by decide)]; exact k3, k5⟩⟩
          · rw [eqI_o enI, Int.toNat_natCast, q1]
            exact ⟨fun z => absurd z (by omega), fun _ => ⟨fun z => absurd z (by decide), fun _ => ⟨by omega, 0, U, cl, fun _ => ⟨U', k1, rfl⟩, fun z => absurd rfl z⟩⟩⟩
          · unfold lxA; rw [if_neg cj, if_neg (by omega)]
    obtain ⟨U', r, k, v, k1, k2, len, l1, l2⟩ := loop (L - a) 0 (by omega) (by omega) (fun j hj' => absurd hj' (Nat.not_lt_zero j))
    refine ⟨U', r, k, v, Tk_cutRun_r0 ⟨fun _ => ⟨fun z => absurd z (by decide), fun _ => k1⟩, fun z => absurd (hj.mp z.symm) cj⟩, k2, len, l1, l2⟩
theorem v10_b {T : Nat → Int} {a n : Nat} (h6 : n ≤ 9) (hl : ∀ j, j < n → isD (T (a + j)) = true) : 0 ≤ ((v10 T a n : Nat) : Int) ∧ ((v10 T a n : Nat) : Int) < 1073741824 := by
  have wl := v10_lt hl
  have w6 : v10 T a n < 1000000000 := Nat.lt_of_lt_of_le wl (Nat.le_trans (Nat.pow_le_pow_right (by decide) h6) (by decide))
  clear wl
  omega
def runD (U U' : am_U) (T : Nat → Int) (L a i : Nat) (r k v : Int) : Prop := grown U U' i k v (a : Nat) ∧ ∃ len, a + len = fr1 (fun j => !(isD (T j))) L a ∧ (∀ j, j < len → isD (T (a + j)) = true) ∧ ((k = 5 ∧ r = (L : Nat) ∧ U' 27 2 = lxA T a len 9 ∧ U' 27 2 ≠ -1) ∨ (lxA T a len 9 = -1 ∧ len ≤ 9 ∧ r = ((a + len : Nat) : Int) ∧ U' 27 3 = ((a + len : Nat) : Int) ∧ U' 27 2 = U 27 2 ∧ k = 3 ∧ v = (v10 T a len : Nat)))
theorem ct_cutRun_D {N : Nat} {X : Nat → Int} {d L a i : Nat} {U : am_U} {T : Nat → Int} (hL : L ≤ 1600) (ha : a < L) (hT : ∀ j, j < L → U 2 j = T j) (hc : U 27 1 = (i : Nat)) (hi : i < 1601) (hl : isD (T a) = true) (hj : U 27 3 = ((a : Nat) : Int) ↔ jnt T a = true) : ∃ U' r k v, EvK N X (Tk_cutRun_s0 (d + 6) (L : Nat) (a : Nat) 0 U) (rI r U') ∧ runD U U' T L a i r k v := by
  obtain ⟨g1, g2, g3, g4⟩ := fr1_spec (q := fun j => !(isD (T j))) (L := L) (L - a) a (by omega)
  by_cases cj : jnt T a = true
  · obtain ⟨U', k1, k2, k3⟩ := ct_putBad (N := N) (X := X) (d := d + 4) (p := (a : Nat)) (q := (a : Nat)) (L := (L : Nat)) (by omega) hc hi
    have eL : lxA T a (fr1 (fun j => !(isD (T j))) L a - a) 9 = ((a : Nat) : Int) := by unfold lxA; rw [if_pos cj]
    refine ⟨U', (L : Nat), 5, 0, Tk_cutRun_r0 ⟨fun z => absurd (hj.mpr cj).symm z, fun _ => ⟨_, U', k1, rfl⟩⟩, k2, fr1 (fun j => !(isD (T j))) L a - a, by omega, fun j hj' => ?_, Or.inl ⟨rfl, rfl, ?_, ?_⟩⟩
    · have := g3 (a + j) (by omega) (by omega)
      simpa using this
    · rw [eL, k3]
    · rw [k3]; omega
  · have loop : ∀ m n : Nat, a + n + m = L → n ≤ 9 → (∀ j, j < n → isD (T (a + j)) = true) → ∃ U' r k v, EvK N X (Tk_cutRun_s36 (d + 6) (L : Nat) (a : Nat) 0 9 (v10 T a n : Nat) ((a + n : Nat) : Int) U) (rI r U') ∧ grown U U' i k v (a : Nat) ∧ ∃ len, a + len = fr1 (fun j => !(isD (T j))) L (a + n) ∧ (∀ j, j < len → isD (T (a + j)) = true) ∧ ((k = 5 ∧ r = (L : Nat) ∧ U' 27 2 = lxA T a len 9 ∧ U' 27 2 ≠ -1) ∨ (lxA T a len 9 = -1 ∧ len ≤ 9 ∧ r = ((a + len : Nat) : Int) ∧ U' 27 3 = ((a + len : Nat) : Int) ∧ U' 27 2 = U 27 2 ∧ k = 3 ∧ v = (v10 T a len : Nat))) := by
      intro m
      induction m with
      | zero =>
        intro n hn h6 hl'
        obtain ⟨U', b1, b2, b3, b4, b5, b6, b7⟩ := ct_Tk_put (N := N) (X := X) (d := d + 5) (k := 3) (v := (v10 T a n : Nat)) (p := (a : Nat)) (by decide) (v10_b h6 hl') (by omega) hc hi
        refine ⟨am_upd U' 27 3 ((a + n : Nat) : Int), _, 3, _, Tk_cutRun_r36 ⟨fun _ => ⟨fun _ => ⟨U', b1, rfl⟩, fun z => absurd rfl z⟩, fun z => absurd z (by omega)⟩, grown_j ⟨b2, b3, b6, b7⟩, n, by rw [fr1_stop (Or.inl (by omega))], hl', Or.inr ⟨?_, h6, rfl, upd_at _ _ _ _, by rw [upd_ne (by decide)]; exact b4, rfl, rfl⟩⟩
        unfold lxA; rw [if_neg cj, if_neg (by omega)]
      | succ m ih =>
        intro n hn h6 hl'
        have q1 := hT (a + n) (by omega)
        have enI : eqI (w32 (((a + n : Nat) : Int) - ((a : Nat) : Int))) ((n : Nat) : Int) := by show _ = _; rw [w32_eq (by omega) (by omega)]; omega
        have cl := ct_T_isD (N := N) (X := X) (d := d + 5) (U := U) (T (a + n))
        by_cases c : isD (T (a + n)) = true
        · rw [b2i_t c] at cl
          have hl2 : ∀ j, j < n + 1 → isD (T (a + j)) = true := fun j hj' => by
            by_cases e : j = n
            · rw [e]; exact c
            · exact hl' j (by omega)
          have st : fr1 (fun j => !(isD (T j))) L (a + n) = fr1 (fun j => !(isD (T j))) L (a + (n + 1)) := fr1_step (by omega) (by rw [c]; rfl)
          by_cases c6 : n = 9
          · obtain ⟨U', k1, k2, k3⟩ := ct_putBad (N := N) (X := X) (d := d + 4) (p := (a : Nat)) (q := ((a + n : Nat) : Int)) (L := (L : Nat)) (by omega) hc hi
            obtain ⟨f1, f2, f3, f4⟩ := fr1_spec (q := fun j => !(isD (T j))) (L := L) (L - (a + (n + 1))) (a + (n + 1)) (by omega)
            have eL : lxA T a (fr1 (fun j => !(isD (T j))) L (a + (n + 1)) - a) 9 = ((a + n : Nat) : Int) := by unfold lxA; rw [if_neg cj, if_pos (by omega), c6]
            refine ⟨U', (L : Nat), 5, 0, Tk_cutRun_r36 ⟨fun z => absurd z (by omega), fun _ => ?_⟩, k2, fr1 (fun j => !(isD (T j))) L (a + (n + 1)) - a, by rw [st]; omega, fun j hj' => ?_, Or.inl ⟨rfl, rfl, ?_, ?_⟩⟩
            · rw [eqI_o enI, Int.toNat_natCast, q1]
              exact ⟨fun z => absurd z (by omega), fun _ => ⟨fun _ => ⟨by omega, 1, U, cl, fun z => absurd z (by decide), fun _ => ⟨fun z => absurd (by omega) z, fun _ => ⟨_, U', k1, rfl⟩⟩⟩, fun z => absurd rfl z⟩⟩
            · by_cases z : j < n + 1
              · exact hl2 j z
              · have := f3 (a + j) (by omega) (by omega)
                simpa using this
            · rw [eL, k3]
            · rw [k3]; omega
          · obtain ⟨U', r, k, v, k1, k2, len, l1, l2⟩ := ih (n + 1) (by omega) (by omega) hl2
            refine ⟨U', r, k, v, Tk_cutRun_r36 ⟨fun z => absurd z (by omega), fun _ => ?_⟩, k2, len, by rw [st]; exact l1, l2⟩
            have cc := isD_iff.mp c
            have wl := v10_lt (T := T) (a := a) (k := n) hl'
            have w6 : v10 T a n < 100000000 := Nat.lt_of_lt_of_le wl (Nat.le_trans (Nat.pow_le_pow_right (by decide) (show n ≤ 8 by omega)) (by decide))
            clear wl
            rw [eqI_o enI, Int.toNat_natCast, q1]
            refine ⟨fun z => absurd z (by omega), fun _ => ⟨fun _ => ⟨by omega, 1, U, cl, fun z => absurd z (by decide), fun _ => ⟨fun _ => ?_, fun z => absurd z (by omega)⟩⟩, fun z => absurd rfl z⟩⟩
            rw [q1, w32_eq (x := 10 * ((v10 T a n : Nat) : Int)) (by omega) (by omega), w32_eq (x := 10 * ((v10 T a n : Nat) : Int) + T (a + n)) (by omega) (by omega), w32_eq (x := 10 * ((v10 T a n : Nat) : Int) + T (a + n) - 48) (by omega) (by omega), show 10 * ((v10 T a n : Nat) : Int) + T (a + n) - 48 = ((v10 T a (n + 1) : Nat) : Int) by show _ = ((10 * v10 T a n + (T (a + n) - 48).toNat : Nat) : Int); omega, w32_succ (i := a + n) (by omega)]
            exact k1
        · rw [b2i_f c] at cl
          obtain ⟨U', b1, b2, b3, b4, b5, b6, b7⟩ := ct_Tk_put (N := N) (X := X) (d := d + 5) (k := 3) (v := (v10 T a n : Nat)) (p := (a : Nat)) (by decide) (v10_b h6 hl') (by omega) hc hi
          refine ⟨am_upd U' 27 3 ((a + n : Nat) : Int), _, 3, _, Tk_cutRun_r36 ⟨fun z => absurd z (by omega), fun _ => ?_⟩, grown_j ⟨b2, b3, b6, b7⟩, n, by rw [fr1_stop (Or.inr (by rw [Bool.eq_false_iff.mpr c]; rfl))], hl', Or.inr ⟨?_, h6, rfl, upd_at _ _ _ _, by rw [upd_ne (by decide)]; exact b4, rfl, rfl⟩⟩
          · rw [eqI_o enI, Int.toNat_natCast, q1]
            exact ⟨fun z => absurd z (by omega), fun _ => ⟨fun _ => ⟨by omega, 0, U, cl, fun _ => ⟨U', b1, rfl⟩, fun z => absurd rfl z⟩, fun z => absurd rfl z⟩⟩
          · unfold lxA; rw [if_neg cj, if_neg (by omega)]
    obtain ⟨U', r, k, v, k1, k2, len, l1, l2⟩ := loop (L - a) 0 (by omega) (by omega) (fun j hj' => absurd hj' (Nat.not_lt_zero j))
    refine ⟨U', r, k, v, Tk_cutRun_r0 ⟨fun _ => ⟨fun _ => k1, fun z => absurd rfl z⟩, fun z => absurd (hj.mp z.symm) cj⟩, k2, len, l1, l2⟩
