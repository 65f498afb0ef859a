/-! the people: who lives where -/
def s1 (f : Nat → Int) (p : Nat) (x : Int) : Nat → Int := fun j => if j = p then x else f j
theorem s1_at (f : Nat → Int) (p : Nat) (x : Int) : s1 f p x p = x := if_pos rfl
theorem s1_ne {f : Nat → Int} {p j : Nat} {x : Int} (h : j ≠ p) : s1 f p x j = f j := if_neg h
theorem s1_same {f : Nat → Int} {p : Nat} {x : Int} (h : f p = x) : s1 f p x = f := by
  funext j; unfold s1; split
  · rename_i e; rw [e, h]
  · rfl
theorem s1_twice (f : Nat → Int) (p : Nat) (x y : Int) : s1 (s1 f p x) p y = s1 f p y := by
  funext j; unfold s1; split <;> rfl
theorem upd_s1 (U : am_U) (r j : Nat) (x : Int) : am_upd U r j x r = s1 (U r) j x := by
  funext j'; rw [upd_if]; rfl
/-- the houses' bits tell who lives there -/
def DwOk (n : Nat) (home dw : Nat → Int) : Prop := ∀ h, h < 12 → in32 (dw h) ∧ ∀ i, i < 32 → tb (dw h) i = decide (i < n ∧ home i = (h : Nat))
theorem dw_rem {n p k : Nat} {home dw : Nat → Int} (hd : DwOk n home dw) (hp : p < n) (hn : n ≤ 16) (hk : home p = (k : Nat)) : DwOk n (s1 home p (-1)) (s1 dw k (am_and (dw k) (am_xor (am_shl 1 (p : Nat)) (-1)))) := by
  intro h hh
  obtain ⟨h1, h2⟩ := hd h hh
  by_cases e : h = k
  · subst e
    rw [s1_at]
    refine ⟨and_in _ _, fun i hi => ?_⟩
    rw [tb_and, h2 i hi, tb_not hi, tb_bit (by omega) hi]
    unfold s1
    by_cases e2 : i = p
    · simp [e2]
    · simp [e2]
  · rw [s1_ne e]
    refine ⟨h1, fun i hi => ?_⟩
    rw [h2 i hi]
    unfold s1
    by_cases e2 : i = p
    · subst e2
      simp only [if_pos, hk]
      apply decide_eq_decide.mpr
      constructor
      · rintro ⟨_, q⟩; omega
      · rintro ⟨_, q⟩; omega
    · simp [e2]
theorem dw_add {n p g : Nat} {home dw : Nat → Int} (hd : DwOk n home dw) (hp : p < n) (hn : n ≤ 16) (hk : home p = -1) : DwOk n (s1 home p (g : Nat)) (s1 dw g (am_or (dw g) (am_shl 1 (p : Nat)))) := by
  intro h hh
  obtain ⟨h1, h2⟩ := hd h hh
  by_cases e : h = g
  · subst e
    rw [s1_at]
    refine ⟨or_in _ _, fun i hi => ?_⟩
    rw [tb_or, h2 i hi, tb_bit (by omega) hi]
    unfold s1
    by_cases e2 : i = p
    · simp [e2, hp]
    · simp [e2]
  · rw [s1_ne e]
    refine ⟨h1, fun i hi => ?_⟩
    rw [h2 i hi]
    unfold s1
    by_cases e2 : i = p
    · subst e2
      simp only [if_pos, hk]
      apply decide_eq_decide.mpr
      constructor
      · rintro ⟨_, q⟩; omega
      · rintro ⟨_, q⟩; omega
    · simp [e2]
/-- the bits are told by the homes -/
theorem dw_one {n : Nat} {home dw dw2 : Nat → Int} (h1 : DwOk n home dw) (h2 : DwOk n home dw2) {h : Nat} (hh : h < 12) : dw h = dw2 h :=
  tb_ext (h1 h hh).1 (h2 h hh).1 (fun i hi => by rw [(h1 h hh).2 i hi, (h2 h hh).2 i hi])
theorem dw_ct {n : Nat} {home dw : Nat → Int} (hd : DwOk n home dw) (hn : n ≤ 16) {h : Nat} (hh : h < 12) : fb_ct (tb (dw h)) 32 = fb_ct (fun p => home p == (h : Nat)) n := by
  rw [ct_cut (m := n) (by omega) (fun i a b => by rw [(hd h hh).2 i b]; simp; omega)]
  refine fb_ct_cong (fun i hi => ?_)
  rw [(hd h hh).2 i (by omega)]
  by_cases e : home i = (h : Nat) <;> simp [e, hi]
theorem dw_kth {n : Nat} {home dw : Nat → Int} (hd : DwOk n home dw) (hn : n ≤ 16) {h : Nat} (hh : h < 12) (k : Int) : kth (tb (dw h)) k 32 = kth (fun p => home p == (h : Nat)) k n := by
  rw [kth_cut (m := n) (by omega) (fun i a b => by rw [(hd h hh).2 i b]; simp; omega)]
  refine kth_cong (fun i hi => ?_)
  rw [(hd h hh).2 i (by omega)]
  by_cases e : home i = (h : Nat) <;> simp [e, hi]
theorem ct_settle_16 {N : Nat} {X : Nat → Int} {d : Nat} {U : am_U} {n p : Nat} {hs : Int} (hp : p < n) (hn : n ≤ 16) (hh : -1 ≤ hs ∧ hs < 12) (h0 : -1 ≤ U 18 p ∧ U 18 p < 12) : ∃ U', EvK N X (Fk_settle_16_s0 d (p : Nat) hs U) (rV U') ∧ U' 18 = s1 (U 18) p hs ∧ (DwOk n (U 18) (U 19) → DwOk n (U' 18) (U' 19)) ∧ (∀ j, 12 ≤ j → U' 19 j = U 19 j) ∧ ∀ r, r ≠ 18 → r ≠ 19 → U' r = U r := by
  by_cases c1 : U 18 p < 0
  · have e1 : U 18 p = -1 := by omega
    by_cases c2 : hs < 0
    · have e2 : hs = -1 := by omega
      subst e2
      refine ⟨am_upd U 18 p (-1), Fk_settle_16_r0 ?_, upd_s1 _ _ _ _, fun hd => ?_, fun j hj => ?_, fun r a b => upd_row a⟩
      · simp only [Int.toNat_natCast]
        exact ⟨fun h => absurd h (by omega), fun _ => ⟨fun _ => ⟨by omega, fun _ => ⟨fun _ => by trivial, fun h => absurd h (by omega)⟩, fun h => absurd h (by omega)⟩, fun h => absurd h (by omega)⟩⟩
      · rw [upd_s1, s1_same e1, upd_row (by decide)]; exact hd
      · rw [upd_row (by decide)]
    · obtain ⟨g, rfl⟩ : ∃ g : Nat, hs = g := ⟨hs.toNat, by omega⟩
      refine ⟨am_upd (am_upd (am_upd U 18 p (-1)) 18 p (g : Nat)) 19 g (am_or (U 19 g) (am_shl 1 (p : Nat))), Fk_settle_16_r0 ?_, ?_, fun hd => ?_, fun j hj => ?_, fun r a b => ?_⟩
      · simp only [Int.toNat_natCast]
        exact ⟨fun h => absurd h (by omega), fun _ => ⟨fun _ => ⟨by omega, fun _ => ⟨fun h => absurd h (by omega), fun _ => ⟨fun h => absurd h (by omega), fun _ => ⟨by omega, by trivial⟩⟩⟩, fun h => absurd h (by omega)⟩, fun h => absurd h (by omega)⟩⟩
      · rw [upd_row (by decide), upd_s1, upd_s1, s1_twice]
      · rw [upd_row (show 18 ≠ 19 by decide), upd_s1, upd_s1, s1_twice, upd_s1, upd_row (show 19 ≠ 18 by decide), upd_row (show 19 ≠ 18 by decide)]
        exact dw_add hd hp hn e1
      · rw [upd_ne (by omega), upd_row (by decide), upd_row (by decide)]
      · rw [upd_row b, upd_row a, upd_row a]
  · obtain ⟨k, hk⟩ : ∃ k : Nat, U 18 p = k := ⟨(U 18 p).toNat, by omega⟩
    by_cases c2 : hs < 0
    · have e2 : hs = -1 := by omega
      subst e2
      refine ⟨am_upd (am_upd U 19 k (am_and (U 19 k) (am_xor (am_shl 1 (p : Nat)) (-1)))) 18 p (-1), Fk_settle_16_r0 ?_, ?_, fun hd => ?_, fun j hj => ?_, fun r a b => ?_⟩
      · simp only [Int.toNat_natCast, hk]
        exact ⟨fun h => absurd h (by omega), fun _ => ⟨fun _ => ⟨by omega, fun h => absurd h (by omega), fun _ => ⟨fun h => absurd h (by omega), fun _ => ⟨by omega, fun _ => by trivial, fun h => absurd h (by omega)⟩⟩⟩, fun h => absurd h (by omega)⟩⟩
      · rw [upd_s1, upd_row (by decide)]
      · rw [upd_s1, upd_row (show 18 ≠ 19 by decide), upd_row (show 19 ≠ 18 by decide), upd_s1]
        exact dw_rem hd hp hn hk
      · rw [upd_row (by decide), upd_ne (by omega)]
      · rw [upd_row a, upd_row b]
    · obtain ⟨g, rfl⟩ : ∃ g : Nat, hs = g := ⟨hs.toNat, by omega⟩
      refine ⟨am_upd (am_upd (am_upd (am_upd U 19 k (am_and (U 19 k) (am_xor (am_shl 1 (p : Nat)) (-1)))) 18 p (-1)) 18 p (g : Nat)) 19 g (am_or ((am_upd U 19 k (am_and (U 19 k) (am_xor (am_shl 1 (p : Nat)) (-1)))) 19 g) (am_shl 1 (p : Nat))), Fk_settle_16_r0 ?_, ?_, fun hd => ?_, fun j hj => ?_, fun r a b => ?_⟩
      · simp only [Int.toNat_natCast, hk]
        exact ⟨fun h => absurd h (by omega), fun _ => ⟨fun _ => ⟨by omega, fun h => absurd h (by omega), fun _ => ⟨fun h => absurd h (by omega), fun _ => ⟨by omega, fun h => absurd h (by omega), fun _ => ⟨fun h => absurd h (by omega), fun _ => ⟨by omega, by trivial⟩⟩⟩⟩⟩, fun h => absurd h (by omega)⟩⟩
      · rw [upd_row (by decide), upd_s1, upd_s1, s1_twice, upd_row (by decide)]
      · rw [upd_row (show 18 ≠ 19 by decide), upd_s1, upd_s1, s1_twice, upd_row (show 18 ≠ 19 by decide), upd_s1, upd_row (show 19 ≠ 18 by decide), upd_row (show 19 ≠ 18 by decide), upd_s1]
        have := dw_add (g := g) (dw_rem hd hp hn hk) hp hn (s1_at _ _ _)
        rw [s1_twice] at this
        exact this
      · rw [upd_ne (by omega), upd_row (by decide), upd_row (by decide), upd_ne (by omega)]
      · rw [upd_row b, upd_row a, upd_row a, upd_row b]
theorem ct_find_16_l {N : Nat} {X : Nat → Int} {d : Nat} {U : am_U} (v : Int) {n : Nat} (hn : U 16 0 = n) (hn2 : n ≤ 16) : ∀ m i : Nat, i + m = n → (∀ j, j < i → U 17 j ≠ v) → ∃ r, EvK N X (Fk_find_16_s2 d v (i : Nat) U) (rI r U) ∧ ((r = -1 ∧ ∀ j, j < n → U 17 j ≠ v) ∨ ∃ j : Nat, r = j ∧ j < n ∧ U 17 j = v) := by
  intro m
  induction m with
  | zero =>
    intro i hi hno
    obtain rfl : i = n := by omega
    exact ⟨-1, Fk_find_16_r2 ⟨fun _ => rfl, fun h => absurd h (by omega)⟩, Or.inl ⟨rfl, hno⟩⟩
  | succ m ih =>
    intro i hi hno
    by_cases e : U 17 i = v
    · refine ⟨i, Fk_find_16_r2 ⟨fun h => absurd h (by omega), fun _ => ⟨by omega, fun h => absurd (by rw [Int.toNat_natCast]; exact e) h, fun _ => rfl⟩⟩, Or.inr ⟨i, rfl, by omega, e⟩⟩
    · obtain ⟨r, h1, h2⟩ := ih (i + 1) (by omega) (fun j hj => by
        rcases Nat.lt_or_ge j i with q | q
        · exact hno j q
        · have : j = i := by omega
          rw [this]; exact e)
      refine ⟨r, Fk_find_16_r2 ⟨fun h => absurd h (by omega), fun _ => ⟨by omega, fun _ => ?_, fun h => absurd (by rw [Int.toNat_natCast] at h; exact h) e⟩⟩, h2⟩
      rw [w32_succ (by omega)]; exact h1
theorem ct_find_16 {N : Nat} {X : Nat → Int} {d : Nat} {U : am_U} (v : Int) {n : Nat} (hn : U 16 0 = n) (hn2 : n ≤ 16) : ∃ r, EvK N X (Fk_find_16_s0 d v U) (rI r U) ∧ ((r = -1 ∧ ∀ j, j < n → U 17 j ≠ v) ∨ ∃ j : Nat, r = j ∧ j < n ∧ U 17 j = v) := by
  obtain ⟨r, h1, h2⟩ := ct_find_16_l (N := N) (X := X) (d := d) (U := U) v hn hn2 n 0 (by omega) (fun j hj => absurd hj (Nat.not_lt_zero j))
  exact ⟨r, Fk_find_16_r0 h1, h2⟩
theorem ct_clear_16 {N : Nat} {X : Nat → Int} {d : Nat} {U : am_U} : ∃ U', EvK N X (Fk_clear_16_s0 (d + 1) U) (rV U') ∧ U' 16 0 = 0 ∧ U' 16 1 = 0 ∧ U' 16 2 = 0 ∧ DwOk 0 (U' 18) (U' 19) ∧ ∀ r, r ≠ 16 → r ≠ 19 → U' r = U r := by
  refine ⟨_, Fk_clear_16_r0 ⟨_, ct_fill_19, rfl⟩, ?_, ?_, ?_, ?_, ?_⟩
  · rw [fil_row (by decide)]; rfl
  · rw [fil_row (by decide)]; rfl
  · rw [fil_row (by decide)]; rfl
  · intro h hh
    rw [fil_in hh]
    exact ⟨by unfold in32; omega, fun i hi => by rw [tb_0]; simp⟩
  · intro r a b
    rw [fil_row b, upd_row a, upd_row a, upd_row a]
theorem ct_add_16 {N : Nat} {X : Nat → Int} {d : Nat} {U : am_U} {n : Nat} {v hs : Int} (hn : U 16 0 = n) (hn2 : n < 16) (hh : -1 ≤ hs ∧ hs < 12) : ∃ U', EvK N X (Fk_add_16_s0 (d + 1) v hs U) (rV U') ∧ U' 16 = s1 (U 16) 0 ((n + 1 : Nat) : Int) ∧ U' 17 = s1 (U 17) n v ∧ U' 18 = s1 (U 18) n hs ∧ (DwOk n (U 18) (U 19) → DwOk (n + 1) (U' 18) (U' 19)) ∧ (U' 20 = s1 (U 20) n (-1) ∨ U 17 n = v ∧ U' 20 = U 20) ∧ ∀ r, r ≠ 16 → r ≠ 17 → r ≠ 18 → r ≠ 19 → r ≠ 20 → U' r = U r := by
  have hgrow : ∀ home dw, DwOk n home dw → DwOk (n + 1) (s1 home n (-1)) dw := by
    intro home dw hd h hh2
    obtain ⟨a, b⟩ := hd h hh2
    refine ⟨a, fun i hi => ?_⟩
    rw [b i hi]
    apply decide_eq_decide.mpr
    unfold s1
    by_cases e : i = n
    · subst e; simp only [if_true]; constructor
      · rintro ⟨q, _⟩; omega
      · rintro ⟨_, q⟩; omega
    · rw [if_neg e]; constructor
      · rintro ⟨q, z⟩; exact ⟨by omega, z⟩
      · rintro ⟨q, z⟩; exact ⟨by omega, z⟩
  have e1 : w32 (w32 ((n : Int) + 1) - 1) = (n : Nat) := by rw [w32_succ (by omega), w32_eq (by omega) (by omega)]; omega
  by_cases c : U 17 n = v
  · have q : (am_upd (am_upd U 18 n (-1)) 16 0 ((n + 1 : Nat) : Int)) 18 n = -1 := by rw [upd_row (by decide), upd_at]
    obtain ⟨U', f1, f2, f3, f4, f5⟩ := ct_settle_16 (N := N) (X := X) (d := d) (U := am_upd (am_upd U 18 n (-1)) 16 0 ((n + 1 : Nat) : Int)) (n := n + 1) (p := n) (hs := hs) (by omega) (by omega) hh (by rw [q]; omega)
    refine ⟨U', Fk_add_16_r0 ⟨fun _ => ⟨by rw [hn]; omega, fun _ => ⟨U', ?_, rfl⟩, fun h => absurd (by rw [hn, Int.toNat_natCast]; exact c) h⟩, fun h => absurd h (by rw [hn]; omega)⟩, ?_, ?_, ?_, fun hd => ?_, Or.inr ⟨c, ?_⟩, fun r a1 a2 a3 a4 a5 => ?_⟩
    · simp only [hn, Int.toNat_natCast, e1]
      rw [w32_succ (by omega)]
      exact f1
    · rw [f5 16 (by decide) (by decide), upd_s1, upd_row (by decide)]
    · rw [f5 17 (by decide) (by decide), upd_row (by decide), upd_row (by decide), s1_same c]
    · rw [f2, upd_row (by decide), upd_s1, s1_twice]
    · refine f3 ?_
      rw [upd_row (show 18 ≠ 16 by decide), upd_s1, upd_row (show 19 ≠ 16 by decide), upd_row (show 19 ≠ 18 by decide)]
      exact hgrow _ _ hd
    · rw [f5 20 (by decide) (by decide), upd_row (by decide), upd_row (by decide)]
    · rw [f5 r a3 a4, upd_row a1, upd_row a3]
  · have q : (am_upd (am_upd (am_upd (am_upd U 17 n v) 20 n (-1)) 18 n (-1)) 16 0 ((n + 1 : Nat) : Int)) 18 n = -1 := by rw [upd_row (by decide), upd_at]
    obtain ⟨U', f1, f2, f3, f4, f5⟩ := ct_settle_16 (N := N) (X := X) (d := d) (U := am_upd (am_upd (am_upd (am_upd U 17 n v) 20 n (-1)) 18 n (-1)) 16 0 ((n + 1 : Nat) : Int)) (n := n + 1) (p := n) (hs := hs) (by omega) (by omega) hh (by rw [q]; omega)
    refine ⟨U', Fk_add_16_r0 ⟨fun _ => ⟨by rw [hn]; omega, fun h => absurd (by rw [hn, Int.toNat_natCast] at h; exact h) c, fun _ => ⟨U', ?_, rfl⟩⟩, fun h => absurd h (by rw [hn]; omega)⟩, ?_, ?_, ?_, fun hd => ?_, Or.inl ?_, fun r a1 a2 a3 a4 a5 => ?_⟩
    · simp only [hn, Int.toNat_natCast, e1]
      rw [w32_succ (by omega)]
      exact f1
    · rw [f5 16 (by decide) (by decide), upd_s1, upd_row (by decide), upd_row (by decide), upd_row (by decide)]
    · rw [f5 17 (by decide) (by decide), upd_row (by decide), upd_row (by decide), upd_row (by decide), upd_s1]
    · rw [f2, upd_row (by decide), upd_s1, s1_twice, upd_row (by decide), upd_row (by decide)]
    · refine f3 ?_
      rw [upd_row (show 18 ≠ 16 by decide), upd_s1, upd_row (show 19 ≠ 16 by decide), upd_row (show 19 ≠ 18 by decide), upd_row (show 19 ≠ 20 by decide), upd_row (show 19 ≠ 17 by decide), upd_row (show 18 ≠ 20 by decide), upd_row (show 18 ≠ 17 by decide)]
      exact hgrow _ _ hd
    · rw [f5 20 (by decide) (by decide), upd_row (by decide), upd_row (by decide), upd_s1, upd_row (by decide)]
    · rw [f5 r a3 a4, upd_row a1, upd_row a3, upd_row a5, upd_row a2]
theorem ct_settle_21 {N : Nat} {X : Nat → Int} {d : Nat} {U : am_U} {n p : Nat} {hs : Int} (hp : p < n) (hn : n ≤ 16) (hh : -1 ≤ hs ∧ hs < 12) (h0 : -1 ≤ U 23 p ∧ U 23 p < 12) : ∃ U', EvK N X (Fk_settle_21_s0 d (p : Nat) hs U) (rV U') ∧ U' 23 = s1 (U 23) p hs ∧ (DwOk n (U 23) (U 24) → DwOk n (U' 23) (U' 24)) ∧ (∀ j, 12 ≤ j → U' 24 j = U 24 j) ∧ ∀ r, r ≠ 23 → r ≠ 24 → U' r = U r := by
  by_cases c1 : U 23 p < 0
  · have e1 : U 23 p = -1 := by omega
    by_cases c2 : hs < 0
    · have e2 : hs = -1 := by omega
      subst e2
      refine ⟨am_upd U 23 p (-1), Fk_settle_21_r0 ?_, upd_s1 _ _ _ _, fun hd => ?_, fun j hj => ?_, fun r a b => upd_row a⟩
      · simp only [Int.toNat_natCast]
        exact ⟨fun h => absurd h (by omega), fun _ => ⟨fun _ => ⟨by omega, fun _ => ⟨fun _ => by trivial, fun h => absurd h (by omega)⟩, fun h => absurd h (by omega)⟩, fun h => absurd h (by omega)⟩⟩
      · rw [upd_s1, s1_same e1, upd_row (by decide)]; exact hd
      · rw [upd_row (by decide)]
    · obtain ⟨g, rfl⟩ : ∃ g : Nat, hs = g := ⟨hs.toNat, by omega⟩
      refine ⟨am_upd (am_upd (am_upd U 23 p (-1)) 23 p (g : Nat)) 24 g (am_or (U 24 g) (am_shl 1 (p : Nat))), Fk_settle_21_r0 ?_, ?_, fun hd => ?_, fun j hj => ?_, fun r a b => ?_⟩
      · simp only [Int.toNat_natCast]
        exact ⟨fun h => absurd h (by omega), fun _ => ⟨fun _ => ⟨by omega, fun _ => ⟨fun h => absurd h (by omega), fun _ => ⟨fun h => absurd h (by omega), fun _ => ⟨by omega, by trivial⟩⟩⟩, fun h => absurd h (by omega)⟩, fun h => absurd h (by omega)⟩⟩
      · rw [upd_row (by decide), upd_s1, upd_s1, s1_twice]
      · rw [upd_row (show 23 ≠ 24 by decide), upd_s1, upd_s1, s1_twice, upd_s1, upd_row (show 24 ≠ 23 by decide), upd_row (show 24 ≠ 23 by decide)]
        exact dw_add hd hp hn e1
      · rw [upd_ne (by omega), upd_row (by decide), upd_row (by decide)]
      · rw [upd_row b, upd_row a, upd_row a]
  · obtain ⟨k, hk⟩ : ∃ k : Nat, U 23 p = k := ⟨(U 23 p).toNat, by omega⟩
    by_cases c2 : hs < 0
    · have e2 : hs = -1 := by omega
      subst e2
      refine ⟨am_upd (am_upd U 24 k (am_and (U 24 k) (am_xor (am_shl 1 (p : Nat)) (-1)))) 23 p (-1), Fk_settle_21_r0 ?_, ?_, fun hd => ?_, fun j hj => ?_, fun r a b => ?_⟩
      · simp only [Int.toNat_natCast, hk]
        exact ⟨fun h => absurd h (by omega), fun _ => ⟨fun _ => ⟨by omega, fun h => absurd h (by omega), fun _ => ⟨fun h => absurd h (by omega), fun _ => ⟨by omega, fun _ => by trivial, fun h => absurd h (by omega)⟩⟩⟩, fun h => absurd h (by omega)⟩⟩
      · rw [upd_s1, upd_row (by decide)]
      · rw [upd_s1, upd_row (show 23 ≠ 24 by decide), upd_row (show 24 ≠ 23 by decide), upd_s1]
        exact dw_rem hd hp hn hk
      · rw [upd_row (by decide), upd_ne (by omega)]
      · rw [upd_row a, upd_row b]
    · obtain ⟨g, rfl⟩ : ∃ g : Nat, hs = g := ⟨hs.toNat, by omega⟩
      refine ⟨am_upd (am_upd (am_upd (am_upd U 24 k (am_and (U 24 k) (am_xor (am_shl 1 (p : Nat)) (-1)))) 23 p (-1)) 23 p (g : Nat)) 24 g (am_or ((am_upd U 24 k (am_and (U 24 k) (am_xor (am_shl 1 (p : Nat)) (-1)))) 24 g) (am_shl 1 (p : Nat))), Fk_settle_21_r0 ?_, ?_, fun hd => ?_, fun j hj => ?_, fun r a b => ?_⟩
      · simp only [Int.toNat_natCast, hk]
        exact ⟨fun h => absurd h (by omega), fun _ => ⟨fun _ => ⟨by omega, fun h => absurd h (by omega), fun _ => ⟨fun h => absurd h (by omega), fun _ => ⟨by omega, fun h => absurd h (by omega), fun _ => ⟨fun h => absurd h (by omega), fun _ => ⟨by omega, by trivial⟩⟩⟩⟩⟩, fun h => absurd h (by omega)⟩⟩
      · rw [upd_row (by decide), upd_s1, upd_s1, s1_twice, upd_row (by decide)]
      · rw [upd_row (show 23 ≠ 24 by decide), upd_s1, upd_s1, s1_twice, upd_row (show 23 ≠ 24 by decide), upd_s1, upd_row (show 24 ≠ 23 by decide), upd_row (show 24 ≠ 23 by decide), upd_s1]
        have := dw_add (g := g) (dw_rem hd hp hn hk) hp hn (s1_at _ _ _)
        rw [s1_twice] at this
        exact this
      · rw [upd_ne (by omega), upd_row (by decide), upd_row (by decide), upd_ne (by omega)]
      · rw [upd_row b, upd_row a, upd_row a, upd_row b]
theorem ct_find_21_l {N : Nat} {X : Nat → Int} {d : Nat} {U : am_U} (v : Int) {n : Nat} (hn : U 21 0 = n) (hn2 : n ≤ 16) : ∀ m i : Nat, i + m = n → (∀ j, j < i → U 22 j ≠ v) → ∃ r, EvK N X (Fk_find_21_s2 d v (i : Nat) U) (rI r U) ∧ ((r = -1 ∧ ∀ j, j < n → U 22 j ≠ v) ∨ ∃ j : Nat, r = j ∧ j < n ∧ U 22 j = v) := by
  intro m
  induction m with
  | zero =>
    intro i hi hno
    obtain rfl : i = n := by omega
    exact ⟨-1, Fk_find_21_r2 ⟨fun _ => rfl, fun h => absurd h (by omega)⟩, Or.inl ⟨rfl, hno⟩⟩
  | succ m ih =>
    intro i hi hno
    by_cases e : U 22 i = v
    · refine ⟨i, Fk_find_21_r2 ⟨fun h => absurd h (by omega), fun _ => ⟨by omega, fun h => absurd (by rw [Int.toNat_natCast]; exact e) h, fun _ => rfl⟩⟩, Or.inr ⟨i, rfl, by omega, e⟩⟩
    · obtain ⟨r, h1, h2⟩ := ih (i + 1) (by omega) (fun j hj => by
        rcases Nat.lt_or_ge j i with q | q
        · exact hno j q
        · have : j = i := by omega
          rw [this]; exact e)
      refine ⟨r, Fk_find_21_r2 ⟨fun h => absurd h (by omega), fun _ => ⟨by omega, fun _ => ?_, fun h => absurd (by rw [Int.toNat_natCast] at h; exact h) e⟩⟩, h2⟩
      rw [w32_succ (by omega)]; exact h1
theorem ct_find_21 {N : Nat} {X : Nat → Int} {d : Nat} {U : am_U} (v : Int) {n : Nat} (hn : U 21 0 = n) (hn2 : n ≤ 16) : ∃ r, EvK N X (Fk_find_21_s0 d v U) (rI r U) ∧ ((r = -1 ∧ ∀ j, j < n → U 22 j ≠ v) ∨ ∃ j : Nat, r = j ∧ j < n ∧ U 22 j = v) := by
  obtain ⟨r, h1, h2⟩ := ct_find_21_l (N := N) (X := X) (d := d) (U := U) v hn hn2 n 0 (by omega) (fun j hj => absurd hj (Nat.not_lt_zero j))
  exact ⟨r, Fk_find_21_r0 h1, h2⟩
theorem ct_clear_21 {N : Nat} {X : Nat → Int} {d : Nat} {U : am_U} : ∃ U', EvK N X (Fk_clear_21_s0 (d + 1) U) (rV U') ∧ U' 21 0 = 0 ∧ U' 21 1 = 0 ∧ U' 21 2 = 0 ∧ DwOk 0 (U' 23) (U' 24) ∧ ∀ r, r ≠ 21 → r ≠ 24 → U' r = U r := by
  refine ⟨_, Fk_clear_21_r0 ⟨_, ct_fill_24, rfl⟩, ?_, ?_, ?_, ?_, ?_⟩
  · rw [fil_row (by decide)]; rfl
  · rw [fil_row (by decide)]; rfl
  · rw [fil_row (by decide)]; rfl
  · intro h hh
    rw [fil_in hh]
    exact ⟨by unfold in32; omega, fun i hi => by rw [tb_0]; simp⟩
  · intro r a b
    rw [fil_row b, upd_row a, upd_row a, upd_row a]
theorem ct_add_21 {N : Nat} {X : Nat → Int} {d : Nat} {U : am_U} {n : Nat} {v hs : Int} (hn : U 21 0 = n) (hn2 : n < 16) (hh : -1 ≤ hs ∧ hs < 12) : ∃ U', EvK N X (Fk_add_21_s0 (d + 1) v hs U) (rV U') ∧ U' 21 = s1 (U 21) 0 ((n + 1 : Nat) : Int) ∧ U' 22 = s1 (U 22) n v ∧ U' 23 = s1 (U 23) n hs ∧ (DwOk n (U 23) (U 24) → DwOk (n + 1) (U' 23) (U' 24)) ∧ (U' 25 = s1 (U 25) n (-1) ∨ U 22 n = v ∧ U' 25 = U 25) ∧ ∀ r, r ≠ 21 → r ≠ 22 → r ≠ 23 → r ≠ 24 → r ≠ 25 → U' r = U r := by
  have hgrow : ∀ home dw, DwOk n home dw → DwOk (n + 1) (s1 home n (-1)) dw := by
    intro home dw hd h hh2
    obtain ⟨a, b⟩ := hd h hh2
    refine ⟨a, fun i hi => ?_⟩
    rw [b i hi]
    apply decide_eq_decide.mpr
    unfold s1
    by_cases e : i = n
    · subst e; simp only [if_true]; constructor
      · rintro ⟨q, _⟩; omega
      · rintro ⟨_, q⟩; omega
    · rw [if_neg e]; constructor
      · rintro ⟨q, z⟩; exact ⟨by omega, z⟩
      · rintro ⟨q, z⟩; exact ⟨by omega, z⟩
  have e1 : w32 (w32 ((n : Int) + 1) - 1) = (n : Nat) := by rw [w32_succ (by omega), w32_eq (by omega) (by omega)]; omega
  by_cases c : U 22 n = v
  · have q : (am_upd (am_upd U 23 n (-1)) 21 0 ((n + 1 : Nat) : Int)) 23 n = -1 := by rw [upd_row (by decide), upd_at]
    obtain ⟨U', f1, f2, f3, f4, f5⟩ := ct_settle_21 (N := N) (X := X) (d := d) (U := am_upd (am_upd U 23 n (-1)) 21 0 ((n + 1 : Nat) : Int)) (n := n + 1) (p := n) (hs := hs) (by omega) (by omega) hh (by rw [q]; omega)
    refine ⟨U', Fk_add_21_r0 ⟨fun _ => ⟨by rw [hn]; omega, fun _ => ⟨U', ?_, rfl⟩, fun h => absurd (by rw [hn, Int.toNat_natCast]; exact c) h⟩, fun h => absurd h (by rw [hn]; omega)⟩, ?_, ?_, ?_, fun hd => ?_, Or.inr ⟨c, ?_⟩, fun r a1 a2 a3 a4 a5 => ?_⟩
    · simp only [hn, Int.toNat_natCast, e1]
      rw [w32_succ (by omega)]
      exact f1
    · rw [f5 21 (by decide) (by decide), upd_s1, upd_row (by decide)]
    · rw [f5 22 (by decide) (by decide), upd_row (by decide), upd_row (by decide), s1_same c]
    · rw [f2, upd_row (by decide), upd_s1, s1_twice]
    · refine f3 ?_
      rw [upd_row (show 23 ≠ 21 by decide), upd_s1, upd_row (show 24 ≠ 21 by decide), upd_row (show 24 ≠ 23 by decide)]
      exact hgrow _ _ hd
    · rw [f5 25 (by decide) (by decide), upd_row (by decide), upd_row (by decide)]
    · rw [f5 r a3 a4, upd_row a1, upd_row a3]
  · have q : (am_upd (am_upd (am_upd (am_upd U 22 n v) 25 n (-1)) 23 n (-1)) 21 0 ((n + 1 : Nat) : Int)) 23 n = -1 := by rw [upd_row (by decide), upd_at]
    obtain ⟨U', f1, f2, f3, f4, f5⟩ := ct_settle_21 (N := N) (X := X) (d := d) (U := am_upd (am_upd (am_upd (am_upd U 22 n v) 25 n (-1)) 23 n (-1)) 21 0 ((n + 1 : Nat) : Int)) (n := n + 1) (p := n) (hs := hs) (by omega) (by omega) hh (by rw [q]; omega)
    refine ⟨U', Fk_add_21_r0 ⟨fun _ => ⟨by rw [hn]; omega, fun h => absurd (by rw [hn, Int.toNat_natCast] at h; exact h) c, fun _ => ⟨U', ?_, rfl⟩⟩, fun h => absurd h (by rw [hn]; omega)⟩, ?_, ?_, ?_, fun hd => ?_, Or.inl ?_, fun r a1 a2 a3 a4 a5 => ?_⟩
    · simp only [hn, Int.toNat_natCast, e1]
      rw [w32_succ (by omega)]
      exact f1
    · rw [f5 21 (by decide) (by decide), upd_s1, upd_row (by decide), upd_row (by decide), upd_row (by decide)]
    · rw [f5 22 (by decide) (by decide), upd_row (by decide), upd_row (by decide), upd_row (by decide), upd_s1]
    · rw [f2, upd_row (by decide), upd_s1, s1_twice, upd_row (by decide), upd_row (by decide)]
    · refine f3 ?_
      rw [upd_row (show 23 ≠ 21 by decide), upd_s1, upd_row (show 24 ≠ 21 by decide), upd_row (show 24 ≠ 23 by decide), upd_row (show 24 ≠ 25 by decide), upd_row (show 24 ≠ 22 by decide), upd_row (show 23 ≠ 25 by decide), upd_row (show 23 ≠ 22 by decide)]
      exact hgrow _ _ hd
    · rw [f5 25 (by decide) (by decide), upd_row (by decide), upd_row (by decide), upd_s1, upd_row (by decide)]
    · rw [f5 r a3 a4, upd_row a1, upd_row a3, upd_row a5, upd_row a2]
