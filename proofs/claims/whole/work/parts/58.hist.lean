/-! acts kept -/
theorem ct_saveRow_l {N : Nat} {X : Nat → Int} {d ρ : Nat} (hρ : 58 ≤ ρ ∧ ρ < 78) {U0 : am_U} {n : Nat} (hn : U0 16 0 = (n : Nat)) (hn2 : n ≤ 16) : ∀ m i : Nat, i + m = n → ∀ U, (∀ r, r ≠ ρ → U r = U0 r) → (∀ p, p < i → U ρ (3 + 2 * p) = U0 17 p ∧ U ρ (4 + 2 * p) = U0 18 p) → ∃ U', EvK N X (Fk_saveRow_s39 d ρ (i : Nat) U) (rV U') ∧ (∀ r, r ≠ ρ → U' r = U0 r) ∧ (U' ρ 0 = U ρ 0 ∧ U' ρ 1 = U ρ 1 ∧ U' ρ 2 = U ρ 2) ∧ ∀ p, p < n → U' ρ (3 + 2 * p) = U0 17 p ∧ U' ρ (4 + 2 * p) = U0 18 p := by
  intro m
  induction m with
  | zero =>
    intro i hi U h1 h2
    obtain rfl : i = n := by omega
    refine ⟨U, Fk_saveRow_r39 hρ ⟨fun _ => rfl, fun h => absurd h ?_⟩, h1, ⟨rfl, rfl, rfl⟩, h2⟩
    rw [h1 16 (by omega), hn]; omega
  | succ m ih =>
    intro i hi U h1 h2
    have r16 : U 16 = U0 16 := h1 16 (by omega)
    have r17 : U 17 = U0 17 := h1 17 (by omega)
    have r18 : U 18 = U0 18 := h1 18 (by omega)
    obtain ⟨U', k1, k2, k3, k4⟩ := ih (i + 1) (by omega) (am_upd (am_upd U ρ (3 + 2 * i) (U0 17 i)) ρ (4 + 2 * i) (U0 18 i)) (fun r hr => by rw [upd_row hr, upd_row hr, h1 r hr]) (fun p hp => by
      rw [upd_if, upd_if, upd_if, upd_if]
      by_cases e : p = i
      · subst e
        rw [if_neg (by omega), if_pos rfl, if_pos rfl]; exact ⟨rfl, rfl⟩
      · rw [if_neg (by omega), if_neg (by omega), if_neg (by omega), if_neg (by omega)]
        exact h2 p (by omega))
    refine ⟨U', Fk_saveRow_r39 hρ ⟨fun h => absurd h (by rw [r16, hn]; omega), fun _ => ?_⟩, k2, ⟨?_, ?_, ?_⟩, k4⟩
    · rw [Int.toNat_natCast, w32_eq (x := 2 * ((i : Nat) : Int)) (by omega) (by omega), w32_eq (x := 3 + 2 * ((i : Nat) : Int)) (by omega) (by omega), w32_eq (x := 4 + 2 * ((i : Nat) : Int)) (by omega) (by omega), w32_succ (i := i) (by omega), show (3 + 2 * ((i : Nat) : Int)).toNat = 3 + 2 * i from by omega, show (4 + 2 * ((i : Nat) : Int)).toNat = 4 + 2 * i from by omega, upd_row (show 18 ≠ ρ by omega), r17, r18]
      exact ⟨by omega, by omega, by omega, k1⟩
    · rw [k3.1, upd_ne (by omega), upd_ne (by omega)]
    · rw [k3.2.1, upd_ne (by omega), upd_ne (by omega)]
    · rw [k3.2.2, upd_ne (by omega), upd_ne (by omega)]
/-- a row that holds the people -/
def rowIs (V : am_U) (ρ n : Nat) (yr ni : Int) (num hm : Nat → Int) : Prop := V ρ 0 = (n : Nat) ∧ V ρ 1 = yr ∧ V ρ 2 = ni ∧ ∀ p, p < n → V ρ (3 + 2 * p) = num p ∧ V ρ (4 + 2 * p) = hm p
theorem ct_saveRow {N : Nat} {X : Nat → Int} {d ρ : Nat} (hρ : 58 ≤ ρ ∧ ρ < 78) {U : am_U} {n : Nat} (hn : U 16 0 = (n : Nat)) (hn2 : n ≤ 16) (h2 : U 16 2 = 0 ∨ U 16 2 = 1) : ∃ U', EvK N X (Fk_saveRow_s0 d ρ U) (rV U') ∧ (∀ r, r ≠ ρ → U' r = U r) ∧ rowIs U' ρ n (U 16 1) (U 16 2) (U 17) (U 18) := by
  have e1 : (am_upd U ρ 0 (U 16 0)) 16 1 = U 16 1 := by rw [upd_row (show 16 ≠ ρ by omega)]
  have e2 : (am_upd (am_upd U ρ 0 (U 16 0)) ρ 1 (U 16 1)) 16 2 = U 16 2 := by rw [upd_row (show 16 ≠ ρ by omega), upd_row (show 16 ≠ ρ by omega)]
  obtain ⟨U', k1, k2, k3, k4⟩ := ct_saveRow_l (N := N) (X := X) (d := d) hρ (U0 := U) hn hn2 n 0 (by omega) (am_upd (am_upd (am_upd U ρ 0 (U 16 0)) ρ 1 (U 16 1)) ρ 2 (U 16 2)) (fun r hr => by rw [upd_row hr, upd_row hr, upd_row hr]) (fun p hp => absurd hp (Nat.not_lt_zero p))
  refine ⟨U', Fk_saveRow_r0 hρ ?_, k2, ?_, ?_, ?_, k4⟩
  · rw [e1, e2]
    rcases h2 with h | h
    · rw [h] at k1 ⊢
      exact ⟨fun _ => k1, fun q => absurd rfl q⟩
    · rw [h] at k1 ⊢
      exact ⟨fun q => absurd q (by decide), fun _ => k1⟩
  · rw [k3.1, upd_ne (by decide), upd_ne (by decide), upd_at, hn]
  · rw [k3.2.1, upd_ne (by decide), upd_at]
  · rw [k3.2.2, upd_at]
/-- a layer that holds the people -/
def layIs (V : am_U) (y n : Nat) (yr ni : Int) (num hm : Nat → Int) : Prop := V 122 y = (n : Nat) ∧ V 120 y = yr ∧ V 121 y = ni ∧ ∀ p, p < n → V 123 (16 * y + p) = num p ∧ V 124 (16 * y + p) = hm p
theorem ct_copies_l {N : Nat} {X : Nat → Int} {d a c : Nat} (ha : a < 22) (hc : c < 22) (hac : a ≠ c) {U0 : am_U} : ∀ m i : Nat, i + m = 16 → ∀ U, (∀ r, r ≠ 123 → r ≠ 124 → U r = U0 r) → (∀ j, U 123 j = if 16 * a ≤ j ∧ j < 16 * a + i then U0 123 (16 * c + (j - 16 * a)) else U0 123 j) → (∀ j, U 124 j = if 16 * a ≤ j ∧ j < 16 * a + i then U0 124 (16 * c + (j - 16 * a)) else U0 124 j) → ∃ U', EvK N X (M_copies_s38 d (a : Nat) (c : Nat) (i : Nat) U) (rV U') ∧ (∀ r, r ≠ 123 → r ≠ 124 → U' r = U0 r) ∧ (∀ j, U' 123 j = if 16 * a ≤ j ∧ j < 16 * a + 16 then U0 123 (16 * c + (j - 16 * a)) else U0 123 j) ∧ (∀ j, U' 124 j = if 16 * a ≤ j ∧ j < 16 * a + 16 then U0 124 (16 * c + (j - 16 * a)) else U0 124 j) := by
  intro m
  induction m with
  | zero =>
    intro i hi U h1 h2 h3
    obtain rfl : i = 16 := by omega
    exact ⟨U, M_copies_r38 ⟨fun _ => rfl, fun h => absurd h (by decide)⟩, h1, h2, h3⟩
  | succ m ih =>
    intro i hi U h1 h2 h3
    have s123 : U 123 (16 * c + i) = U0 123 (16 * c + i) := by rw [h2, if_neg (by omega)]
    have s124 : U 124 (16 * c + i) = U0 124 (16 * c + i) := by rw [h3, if_neg (by omega)]
    obtain ⟨U', k1, k2, k3, k4⟩ := ih (i + 1) (by omega) (am_upd (am_upd U 123 (16 * a + i) (U0 123 (16 * c + i))) 124 (16 * a + i) (U0 124 (16 * c + i))) (fun r q1 q2 => by rw [upd_row q2, upd_row q1, h1 r q1 q2]) (fun j => by
      rw [upd_row (show 123 ≠ 124 by decide), upd_if]
      by_cases e : j = 16 * a + i
      · subst e; rw [if_pos rfl, if_pos (by omega), show 16 * a + i - 16 * a = i from by omega]
      · rw [if_neg e, h2 j]
        by_cases e2 : 16 * a ≤ j ∧ j < 16 * a + i
        · rw [if_pos e2, if_pos (by omega)]
        · rw [if_neg e2, if_neg (by omega)]) (fun j => by
      rw [upd_if, upd_row (show 124 ≠ 123 by decide)]
      by_cases e : j = 16 * a + i
      · subst e; rw [if_pos rfl, if_pos (by omega), show 16 * a + i - 16 * a = i from by omega]
      · rw [if_neg e, h3 j]
        by_cases e2 : 16 * a ≤ j ∧ j < 16 * a + i
        · rw [if_pos e2, if_pos (by omega)]
        · rw [if_neg e2, if_neg (by omega)])
    refine ⟨U', M_copies_r38 ⟨fun h => absurd h (by omega), fun _ => ?_⟩, k2, k3, k4⟩
    rw [ix_eq (k := 16 * c + i) (by omega) (by omega) (by omega) (by omega), ix_eq (k := 16 * a + i) (by omega) (by omega) (by omega) (by omega), Int.toNat_natCast, Int.toNat_natCast, w32_succ (i := i) (by omega), s123, s124]
    exact ⟨by omega, by omega, k1⟩
/-- one layer copied over another -/
def cpd (U U' : am_U) (a c : Nat) : Prop := (∀ r, r ≠ 120 → r ≠ 121 → r ≠ 122 → r ≠ 123 → r ≠ 124 → U' r = U r) ∧ (∀ j, U' 120 j = if j = a then U 120 c else U 120 j) ∧ (∀ j, U' 121 j = if j = a then U 121 c else U 121 j) ∧ (∀ j, U' 122 j = if j = a then U 122 c else U 122 j) ∧ (∀ j, U' 123 j = if 16 * a ≤ j ∧ j < 16 * a + 16 then U 123 (16 * c + (j - 16 * a)) else U 123 j) ∧ (∀ j, U' 124 j = if 16 * a ≤ j ∧ j < 16 * a + 16 then U 124 (16 * c + (j - 16 * a)) else U 124 j)
theorem ct_copies {N : Nat} {X : Nat → Int} {d a c : Nat} (ha : a < 22) (hc : c < 22) (hac : a ≠ c) {U : am_U} : ∃ U', EvK N X (M_copies_s0 d (a : Nat) (c : Nat) U) (rV U') ∧ cpd U U' a c := by
  obtain ⟨U', k1, k2, k3, k4⟩ := ct_copies_l (N := N) (X := X) (d := d) ha hc hac (U0 := am_upd (am_upd (am_upd U 120 a (U 120 c)) 121 a (U 121 c)) 122 a (U 122 c)) 16 0 (by omega) _ (fun _ _ _ => rfl) (fun j => by rw [if_neg (by omega)]) (fun j => by rw [if_neg (by omega)])
  refine ⟨U', M_copies_r0 ?_, fun r q0 q1 q2 q3 q4 => ?_, fun j => ?_, fun j => ?_, fun j => ?_, fun j => ?_, fun j => ?_⟩
  · rw [Int.toNat_natCast, Int.toNat_natCast]; exact ⟨by omega, by omega, k1⟩
  · rw [k2 r q3 q4, upd_row q2, upd_row q1, upd_row q0]
  · rw [k2 120 (by decide) (by decide), upd_row (by decide), upd_row (by decide), upd_if]
  · rw [k2 121 (by decide) (by decide), upd_row (by decide), upd_if, upd_row (by decide)]
  · rw [k2 122 (by decide) (by decide), upd_if, upd_row (by decide), upd_row (by decide)]
  · rw [k3 j, upd_row (by decide), upd_row (by decide), upd_row (by decide)]
  · rw [k4 j, upd_row (by decide), upd_row (by decide), upd_row (by decide)]
/-- one kept act: class's row, reference's layer -/
def hRow (V : am_U) (nh ρ y : Nat) : Prop := ∃ (m : Nat) (yr ni : Int) (num hm : Nat → Int), m ≤ 16 ∧ (0 ≤ yr ∧ yr ≤ 9999) ∧ (ni = 0 ∨ ni = 1) ∧ pplOk num hm (V 8) m nh ∧ rowIs V ρ m yr ni num hm ∧ layIs V y m yr ni num hm
def iHist (V : am_U) (nh k w g : Nat) : Prop := (V 56 2 = (k : Nat) ∧ V 86 58 = (k : Nat) ∧ k ≤ 20) ∧ (V 56 1 = (w : Nat) ∧ w < 20) ∧ (V 86 57 = (g : Nat) ∧ g < 20) ∧ ∀ i, i < k → hRow V nh (58 + (w + 20 - i) % 20) (2 + (g + (k - 1 - i)) % 20)
theorem rowIs_cg {V V' : am_U} {ρ n : Nat} {yr ni : Int} {num hm : Nat → Int} (h : V' ρ = V ρ) (hr : rowIs V ρ n yr ni num hm) : rowIs V' ρ n yr ni num hm := by unfold rowIs; rw [h]; exact hr
theorem layIs_cg {V V' : am_U} {y n : Nat} {yr ni : Int} {num hm : Nat → Int} (hn : n ≤ 16) (h0 : V' 120 y = V 120 y) (h1 : V' 121 y = V 121 y) (h2 : V' 122 y = V 122 y) (h3 : ∀ p, p < 16 → V' 123 (16 * y + p) = V 123 (16 * y + p) ∧ V' 124 (16 * y + p) = V 124 (16 * y + p)) (hr : layIs V y n yr ni num hm) : layIs V' y n yr ni num hm := by
  obtain ⟨a, b, c, e⟩ := hr
  refine ⟨by rw [h2]; exact a, by rw [h0]; exact b, by rw [h1]; exact c, fun p hp => ?_⟩
  obtain ⟨q1, q2⟩ := h3 p (by omega)
  rw [q1, q2]; exact e p hp
theorem hRow_cg {V V' : am_U} {nh ρ y : Nat} (h8 : V' 8 = V 8) (h : V' ρ = V ρ) (h0 : V' 120 y = V 120 y) (h1 : V' 121 y = V 121 y) (h2 : V' 122 y = V 122 y) (h3 : ∀ p, p < 16 → V' 123 (16 * y + p) = V 123 (16 * y + p) ∧ V' 124 (16 * y + p) = V 124 (16 * y + p)) (hr : hRow V nh ρ y) : hRow V' nh ρ y := by
  obtain ⟨m, yr, ni, num, hm, a1, a2, a3, a4, a5, a6⟩ := hr
  exact ⟨m, yr, ni, num, hm, a1, a2, a3, by rw [h8]; exact a4, rowIs_cg h a5, layIs_cg a1 h0 h1 h2 h3 a6⟩
/-- keep: the class's row is written, nothing else -/
theorem ct_keep {N : Nat} {X : Nat → Int} {d : Nat} {U : am_U} {n k w : Nat} (hn : U 16 0 = (n : Nat)) (hn2 : n ≤ 16) (h2 : U 16 2 = 0 ∨ U 16 2 = 1) (hk : U 56 2 = (k : Nat)) (hk2 : k ≤ 20) (hw : U 56 1 = (w : Nat)) (hw2 : w < 20) : ∃ U', EvK N X (Hs_keep_s0 (d + 1) U) (rV U') ∧ (∀ r, r ≠ 56 → r ≠ 58 + (w + 1) % 20 → U' r = U r) ∧ rowIs U' (58 + (w + 1) % 20) n (U 16 1) (U 16 2) (U 17) (U 18) ∧ U' 56 1 = (((w + 1) % 20 : Nat) : Int) ∧ U' 56 2 = ((min (k + 1) 20 : Nat) : Int) := by
  have e1 : Int.tmod (w32 (U 56 1 + 1)) 20 = (((w + 1) % 20 : Nat) : Int) := by
    rw [hw, w32_succ (by omega)]; exact tmod_nat _ 20
  have hb : (w + 1) % 20 < 20 := Nat.mod_lt _ (by decide)
  obtain ⟨U1, f1, f2, f3⟩ := ct_saveRow (N := N) (X := X) (d := d) (ρ := 58 + (w + 1) % 20) (by omega) (U := am_upd U 56 1 (((w + 1) % 20 : Nat) : Int)) (n := n) (by rw [upd_row (by decide)]; exact hn) hn2 (by rw [upd_row (by decide)]; exact h2)
  have s2 : U1 56 2 = (k : Nat) := by rw [f2 56 (by omega), upd_ne (by decide)]; exact hk
  rw [upd_row (show 16 ≠ 56 by decide), upd_row (show 17 ≠ 56 by decide), upd_row (show 18 ≠ 56 by decide)] at f3
  refine ⟨am_upd U1 56 2 ((min (k + 1) 20 : Nat) : Int), Hs_keep_r0 ?_, fun r q1 q2 => ?_, rowIs_cg (upd_row (by omega)) f3, ?_, upd_at _ _ _ _⟩
  · rw [e1, Int.toNat_natCast]
    clear e1
    refine ⟨by omega, U1, f1, ?_⟩
    rw [s2, w32_succ (i := k) (by omega)]
    congr 2
    split <;> omega
  · rw [upd_row q1, f2 r q2, upd_row q1]
  · rw [upd_ne (by decide), f2 56 (by omega), upd_at]
theorem ct_ring {N : Nat} {X : Nat → Int} {d : Nat} {U : am_U} {g j : Nat} (hg : U 86 57 = (g : Nat)) (hg2 : g < 20) (hj : j ≤ 20) : EvK N X (M_ring_s0 d (j : Nat) U) (rI ((2 + (g + j) % 20 : Nat) : Int) U) := by
  refine M_ring_r0 ?_
  have hb : (g + j) % 20 < 20 := Nat.mod_lt _ (by decide)
  rw [hg, w32_eq (x := ((g : Nat) : Int) + ((j : Nat) : Int)) (by omega) (by omega), show Int.tmod (((g : Nat) : Int) + ((j : Nat) : Int)) 20 = (((g + j) % 20 : Nat) : Int) from tmod_nat (g + j) 20, w32_eq (by omega) (by omega)]
  congr 1
theorem ct_keeps {N : Nat} {X : Nat → Int} {d : Nat} {U : am_U} {k g : Nat} (hk : U 86 58 = (k : Nat)) (hk2 : k ≤ 20) (hg : U 86 57 = (g : Nat)) (hg2 : g < 20) : ∃ U' g', EvK N X (M_keeps_s0 (d + 1) U) (rV U') ∧ g' < 20 ∧ U' 86 57 = (g' : Nat) ∧ U' 86 58 = ((min (k + 1) 20 : Nat) : Int) ∧ (g' + (min (k + 1) 20 - 1)) % 20 = (g + k) % 20 ∧ (∀ i, 1 ≤ i → i < min (k + 1) 20 → (g' + (min (k + 1) 20 - 1 - i)) % 20 = (g + (k - 1 - (i - 1))) % 20) ∧ (∀ r, r ≠ 86 → r ≠ 120 → r ≠ 121 → r ≠ 122 → r ≠ 123 → r ≠ 124 → U' r = U r) ∧ (∀ j, j ≠ 57 → j ≠ 58 → U' 86 j = U 86 j) ∧ (∀ j, U' 120 j = if j = 2 + (g + k) % 20 then U 120 0 else U 120 j) ∧ (∀ j, U' 121 j = if j = 2 + (g + k) % 20 then U 121 0 else U 121 j) ∧ (∀ j, U' 122 j = if j = 2 + (g + k) % 20 then U 122 0 else U 122 j) ∧ (∀ j, U' 123 j = if 16 * (2 + (g + k) % 20) ≤ j ∧ j < 16 * (2 + (g + k) % 20) + 16 then U 123 (j - 16 * (2 + (g + k) % 20)) else U 123 j) ∧ (∀ j, U' 124 j = if 16 * (2 + (g + k) % 20) ≤ j ∧ j < 16 * (2 + (g + k) % 20) + 16 then U 124 (j - 16 * (2 + (g + k) % 20)) else U 124 j) := by
  have hb : (g + k) % 20 < 20 := Nat.mod_lt _ (by decide)
  by_cases c : k = 20
  · subst c
    have e1 : Int.tmod (w32 (U 86 57 + 1)) 20 = (((g + 1) % 20 : Nat) : Int) := by
      rw [hg, w32_succ (by omega)]; exact tmod_nat _ 20
    have e2 : w32 (U 86 58 - 1) = ((19 : Nat) : Int) := by rw [hk]; rfl
    have hb1 : (g + 1) % 20 < 20 := Nat.mod_lt _ (by decide)
    have ri := ct_ring (N := N) (X := X) (d := d) (U := am_upd (am_upd U 86 57 (((g + 1) % 20 : Nat) : Int)) 86 58 ((19 : Nat) : Int)) (g := (g + 1) % 20) (j := 19) (by rw [upd_ne (by decide), upd_at]) hb1 (by decide)
    have eq1 : ((g + 1) % 20 + 19) % 20 = (g + 20) % 20 := by omega
    rw [eq1] at ri
    obtain ⟨U1, f1, f2, f3, f4, f5, f6, f7⟩ := ct_copies (N := N) (X := X) (d := d) (a := 2 + (g + 20) % 20) (c := 0) (by omega) (by omega) (by omega) (U := am_upd (am_upd U 86 57 (((g + 1) % 20 : Nat) : Int)) 86 58 ((19 : Nat) : Int))
    have s58 : U1 86 58 = ((19 : Nat) : Int) := by rw [f2 86 (by decide) (by decide) (by decide) (by decide) (by decide), upd_at]
    refine ⟨am_upd U1 86 58 20, (g + 1) % 20, M_keeps_r0 ⟨fun h => absurd hk h, fun _ => ?_⟩, hb1, ?_, ?_, ?_, ?_, ?_, ?_, ?_, ?_, ?_, ?_, ?_⟩
    · rw [e1, e2]; clear e1 e2
      refine ⟨_, _, ri, U1, f1, ?_⟩
      rw [s58]; rfl
    · rw [upd_ne (by decide), f2 86 (by decide) (by decide) (by decide) (by decide) (by decide), upd_ne (by decide), upd_at]
    · rw [upd_at]; rfl
    · clear e1 e2; omega
    · intro i h1 h2; clear e1 e2; omega
    · intro r q0 q1 q2 q3 q4 q5; rw [upd_row q0, f2 r q1 q2 q3 q4 q5, upd_row q0, upd_row q0]
    · intro j q1 q2; rw [upd_ne q2, f2 86 (by decide) (by decide) (by decide) (by decide) (by decide), upd_ne q2, upd_ne q1]
    · intro j; rw [upd_row (by decide), f3 j, upd_row (by decide), upd_row (by decide)]
    · intro j; rw [upd_row (by decide), f4 j, upd_row (by decide), upd_row (by decide)]
    · intro j; rw [upd_row (by decide), f5 j, upd_row (by decide), upd_row (by decide)]
    · intro j; rw [upd_row (by decide), f6 j, upd_row (by decide), upd_row (by decide)]; simp
    · intro j; rw [upd_row (by decide), f7 j, upd_row (by decide), upd_row (by decide)]; simp
  · have ri := ct_ring (N := N) (X := X) (d := d) (U := U) (g := g) (j := k) hg hg2 hk2
    obtain ⟨U1, f1, f2, f3, f4, f5, f6, f7⟩ := ct_copies (N := N) (X := X) (d := d) (a := 2 + (g + k) % 20) (c := 0) (by omega) (by omega) (by omega) (U := U)
    have s58 : U1 86 58 = (k : Nat) := by rw [f2 86 (by decide) (by decide) (by decide) (by decide) (by decide)]; exact hk
    refine ⟨am_upd U1 86 58 ((k + 1 : Nat) : Int), g, M_keeps_r0 ⟨fun _ => ⟨_, _, by rw [hk]; exact ri, U1, f1, ?_⟩, fun h => absurd h (by rw [hk]; omega)⟩, hg2, ?_, ?_, ?_, ?_, ?_, ?_, ?_, ?_, ?_, ?_, ?_⟩
    · rw [s58, w32_succ (i := k) (by omega)]
    · rw [upd_ne (by decide), f2 86 (by decide) (by decide) (by decide) (by decide) (by decide)]; exact hg
    · rw [upd_at, show min (k + 1) 20 = k + 1 from by omega]
    · omega
    · intro i h1 h2; congr 1; omega
    · intro r q0 q1 q2 q3 q4 q5; rw [upd_row q0, f2 r q1 q2 q3 q4 q5]
    · intro j q1 q2; rw [upd_ne q2, f2 86 (by decide) (by decide) (by decide) (by decide) (by decide)]
    · intro j; rw [upd_row (by decide), f3 j]
    · intro j; rw [upd_row (by decide), f4 j]
    · intro j; rw [upd_row (by decide), f5 j]
    · intro j; rw [upd_row (by decide), f6 j]; simp
    · intro j; rw [upd_row (by decide), f7 j]; simp
