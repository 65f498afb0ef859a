/-! names: the same on both sides -/
theorem e8_app (l : List Nat) (c : Nat) : e8 (l ++ [c]) = 256 * e8 l + (96 + c) := by
  unfold e8; rw [List.foldl_append]; rfl
theorem e5_app (l : List Nat) (c : Nat) : e5 (l ++ [c]) = 32 * e5 l + c := by
  unfold e5; rw [List.foldl_append]; rfl
theorem lst_cc : ∀ l : List Nat, l = [] ∨ ∃ L c, l = L ++ [c]
  | [] => Or.inl rfl
  | a :: l => Or.inr (match lst_cc l with
    | Or.inl e => ⟨[], a, by rw [e]; rfl⟩
    | Or.inr ⟨L, c, e⟩ => ⟨a :: L, c, by rw [e]; rfl⟩)
def ltr (l : List Nat) : Prop := ∀ c, c ∈ l → 1 ≤ c ∧ c ≤ 26
theorem ltr_app {l : List Nat} {c : Nat} (h : ltr (l ++ [c])) : ltr l ∧ 1 ≤ c ∧ c ≤ 26 := ⟨fun x hx => h x (List.mem_append.mpr (Or.inl hx)), h c (List.mem_append.mpr (Or.inr (List.mem_singleton.mpr rfl)))⟩
theorem e8_inj : ∀ (n : Nat) (l m : List Nat), l.length ≤ n → ltr l → ltr m → e8 l = e8 m → l = m := by
  intro n
  induction n with
  | zero =>
    intro l m hl h1 h2 e
    have l0 : l = [] := by
      cases l with
      | nil => rfl
      | cons a l => simp at hl
    subst l0
    rcases lst_cc m with rfl | ⟨M, c, rfl⟩
    · rfl
    · rw [e8_app] at e
      have z : e8 [] = 0 := rfl
      omega
  | succ n ih =>
    intro l m hl h1 h2 e
    have z : e8 [] = 0 := rfl
    rcases lst_cc l with rfl | ⟨L', b, rfl⟩
    · rcases lst_cc m with rfl | ⟨M, c, rfl⟩
      · rfl
      · rw [e8_app] at e; omega
    · rcases lst_cc m with rfl | ⟨M, c, rfl⟩
      · rw [e8_app] at e; omega
      · rw [e8_app, e8_app] at e
        have q1 := ltr_app h1
        have q2 := ltr_app h2
        have e1 : e8 L' = e8 M := by omega
        have e2 : b = c := by omega
        rw [List.length_append] at hl
        have hl' : L'.length ≤ n := by simp at hl; omega
        rw [ih L' M hl' q1.1 q2.1 e1, e2]
theorem e5_inj : ∀ (n : Nat) (l m : List Nat), l.length = n → m.length = n → ltr l → ltr m → e5 l = e5 m → l = m := by
  intro n
  induction n with
  | zero =>
    intro l m hl hm _ _ _
    rw [List.eq_nil_of_length_eq_zero hl, List.eq_nil_of_length_eq_zero hm]
  | succ n ih =>
    intro l m hl hm h1 h2 e
    rcases lst_cc l with rfl | ⟨L', b, rfl⟩
    · simp at hl
    · rcases lst_cc m with rfl | ⟨M, c, rfl⟩
      · simp at hm
      · rw [e5_app, e5_app] at e
        have q1 := ltr_app h1
        have q2 := ltr_app h2
        have e1 : e5 L' = e5 M := by omega
        have e2 : b = c := by omega
        rw [List.length_append] at hl hm
        have hl' : L'.length = n := by simp at hl; omega
        have hm' : M.length = n := by simp at hm; omega
        rw [ih L' M hl' hm' q1.1 q2.1 e1, e2]
theorem e5_lt {l m : List Nat} (h2 : ltr m) (hm : m.length ≤ 6) (hlt : l.length < m.length) : e5 l * 32 ^ (6 - l.length) ≠ e5 m * 32 ^ (6 - m.length) := by
  intro e
  obtain ⟨k, hk⟩ : ∃ k, m.length = l.length + (k + 1) := ⟨m.length - l.length - 1, by omega⟩
  rw [show 6 - l.length = (k + 1) + (6 - m.length) by omega, Nat.pow_add, ← Nat.mul_assoc] at e
  have e1 : e5 l * 32 ^ (k + 1) = e5 m := Nat.eq_of_mul_eq_mul_right (Nat.pow_pos (by decide)) e
  rw [Nat.pow_succ, ← Nat.mul_assoc] at e1
  rcases lst_cc m with rfl | ⟨M, c, rfl⟩
  · simp at hlt
  · have q2 := ltr_app h2
    rw [e5_app] at e1
    generalize e5 l * 32 ^ k = y at e1
    omega
theorem nmR_eq {x y x' y' : Int} (h : nmR x y) (h' : nmR x' y') : x = x' ↔ y = y' := by
  obtain ⟨l, l1, l2, l3, rfl, rfl⟩ := h
  obtain ⟨m, m1, m2, m3, rfl, rfl⟩ := h'
  constructor
  · intro e
    have e' : e5 l * 32 ^ (6 - l.length) = e5 m * 32 ^ (6 - m.length) := Int.ofNat.inj e
    have el : l = m := by
      rcases Nat.lt_trichotomy l.length m.length with z | z | z
      · exact absurd e' (e5_lt m3 m2 z)
      · rw [z] at e'
        exact e5_inj m.length l m z rfl l3 m3 (Nat.eq_of_mul_eq_mul_right (Nat.pow_pos (by decide)) e')
      · exact absurd e'.symm (e5_lt l3 l2 z)
    rw [el]
  · intro e
    have e' : e8 l = e8 m := Int.ofNat.inj e
    rw [e8_inj l.length l m (Nat.le_refl _) l3 m3 e']
/-- the first place of a number in a row -/
def fdR (f : Nat → Int) (x : Int) (n : Nat) (r : Int) : Prop := (r = -1 ∧ ∀ j, j < n → f j ≠ x) ∨ ∃ j : Nat, r = (j : Nat) ∧ j < n ∧ f j = x ∧ ∀ i, i < j → f i ≠ x
theorem fdR_ex (f : Nat → Int) (x : Int) : ∀ n : Nat, ∃ r, fdR f x n r
  | 0 => ⟨-1, Or.inl ⟨rfl, fun j h => absurd h (Nat.not_lt_zero j)⟩⟩
  | n + 1 => by
    obtain ⟨r, h⟩ := fdR_ex f x n
    rcases h with ⟨h1, h2⟩ | ⟨j, h1, h2, h3⟩
    · by_cases c : f n = x
      · exact ⟨(n : Nat), Or.inr ⟨n, rfl, by omega, c, h2⟩⟩
      · refine ⟨-1, Or.inl ⟨rfl, fun j hj => ?_⟩⟩
        by_cases e : j = n
        · rw [e]; exact c
        · exact h2 j (by omega)
    · exact ⟨r, Or.inr ⟨j, h1, by omega, h3⟩⟩
theorem fdR_cg {f g : Nat → Int} {x y r : Int} {n : Nat} (h : ∀ j, j < n → (f j = x ↔ g j = y)) (hr : fdR f x n r) : fdR g y n r := by
  rcases hr with ⟨h1, h2⟩ | ⟨j, h1, h2, h3, h4⟩
  · exact Or.inl ⟨h1, fun j hj e => h2 j hj ((h j hj).mpr e)⟩
  · exact Or.inr ⟨j, h1, h2, (h j h2).mp h3, fun i hi e => h4 i hi ((h i (by omega)).mpr e)⟩
theorem fdR_nm {f g : Nat → Int} {x y r : Int} {n : Nat} (h : ∀ j, j < n → nmR (f j) (g j)) (hxy : nmR x y) (hr : fdR f x n r) : fdR g y n r := fdR_cg (fun j hj => nmR_eq (h j hj) hxy) hr
theorem fdR_bd {f : Nat → Int} {x r : Int} {n : Nat} (hr : fdR f x n r) : -1 ≤ r ∧ r < (n : Nat) ∧ (r ≠ -1 → 0 ≤ r) := by
  rcases hr with ⟨h1, h2⟩ | ⟨j, h1, h2, h3, h4⟩ <;> omega
section FND
variable {N : Nat} {X : Nat → Int} {d : Nat} {U : am_U}
theorem ct_findStreet {n : Nat} (hn : U 31 0 = (n : Nat)) (hn2 : n ≤ 4) {x r : Int} (h : fdR (U 32) x n r) : EvK N X (Tw_findStreet_s0 d x U) (rI r U) := by
  have goA : ∀ m i : Nat, i + m = n → (∀ j, j < i → U 32 j ≠ x) → EvK N X (Tw_findStreet_s2 d x (i : Nat) U) (rI r U) := by
    intro m
    induction m with
    | zero =>
      intro i hi hp
      obtain rfl : i = n := by omega
      have e : r = -1 := by
        rcases h with ⟨h1, -⟩ | ⟨j, h1, h2, h3, -⟩
        · exact h1
        · exact absurd h3 (hp j h2)
      refine Tw_findStreet_r2 ?_
      rw [hn]
      exact ⟨fun _ => by rw [e], fun z => absurd z (by omega)⟩
    | succ m ih =>
      intro i hi hp
      refine Tw_findStreet_r2 ?_
      rw [hn, Int.toNat_natCast]
      refine ⟨fun z => absurd z (by omega), fun _ => ⟨by omega, fun z => ?_, fun z => ?_⟩⟩
      · rw [w32_succ (i := i) (by omega)]
        exact ih (i + 1) (by omega) (fun j hj => by
          by_cases e : j = i
          · rw [e]; exact z
          · exact hp j (by omega))
      · rcases h with ⟨-, h2⟩ | ⟨j, h1, h2, h3, h4⟩
        · exact absurd z (h2 i (by omega))
        · have e : j = i := by
            rcases Nat.lt_trichotomy j i with q | q | q
            · exact absurd h3 (hp j q)
            · exact q
            · exact absurd z (h4 i q)
          rw [h1, e]
  exact Tw_findStreet_r0 (goA n 0 (by omega) (fun j hj => absurd hj (Nat.not_lt_zero j)))
theorem ct_findHouse {n : Nat} (hn : U 31 1 = (n : Nat)) (hn2 : n ≤ 12) {x r : Int} (h : fdR (U 33) x n r) : EvK N X (Tw_findHouse_s0 d x U) (rI r U) := by
  have goA : ∀ m i : Nat, i + m = n → (∀ j, j < i → U 33 j ≠ x) → EvK N X (Tw_findHouse_s2 d x (i : Nat) U) (rI r U) := by
    intro m
    induction m with
    | zero =>
      intro i hi hp
      obtain rfl : i = n := by omega
      have e : r = -1 := by
        rcases h with ⟨h1, -⟩ | ⟨j, h1, h2, h3, -⟩
        · exact h1
        · exact absurd h3 (hp j h2)
      refine Tw_findHouse_r2 ?_
      rw [hn]
      exact ⟨fun _ => by rw [e], fun z => absurd z (by omega)⟩
    | succ m ih =>
      intro i hi hp
      refine Tw_findHouse_r2 ?_
      rw [hn, Int.toNat_natCast]
      refine ⟨fun z => absurd z (by omega), fun _ => ⟨by omega, fun z => ?_, fun z => ?_⟩⟩
      · rw [w32_succ (i := i) (by omega)]
        exact ih (i + 1) (by omega) (fun j hj => by
          by_cases e : j = i
          · rw [e]; exact z
          · exact hp j (by omega))
      · rcases h with ⟨-, h2⟩ | ⟨j, h1, h2, h3, h4⟩
        · exact absurd z (h2 i (by omega))
        · have e : j = i := by
            rcases Nat.lt_trichotomy j i with q | q | q
            · exact absurd h3 (hp j q)
            · exact q
            · exact absurd z (h4 i q)
          rw [h1, e]
  exact Tw_findHouse_r0 (goA n 0 (by omega) (fun j hj => absurd hj (Nat.not_lt_zero j)))
theorem ct_named0 {b n : Nat} (h40 : U 86 40 = (b : Nat)) (hb : b < 2) (hn : U 88 b = (n : Nat)) (hn2 : n ≤ 4) {x r : Int} (h : fdR (fun k => U 89 (4 * b + k)) x n r) : EvK N X (M_named_s0 (d + 1) 0 x U) (rI r U) := by
  have e4 : ∀ i : Nat, i < 4 → eqI (w32 (w32 (4 * ((b : Nat) : Int)) + (i : Nat))) ((4 * b + i : Nat) : Int) := fun i hi => by show _ = _; rw [w32_eq (x := 4 * ((b : Nat) : Int)) (by omega) (by omega), w32_eq (by omega) (by omega)]; omega
  have mnyA : EvK N X (M_manyOf_s0 d (U 86 40) 0 U) (rI ((n : Nat) : Int) U) := by
    refine M_manyOf_r0 ⟨fun z => absurd rfl z, fun _ => ?_⟩
    rw [h40, Int.toNat_natCast, hn]
    exact ⟨by omega, rfl⟩
  have namA : ∀ i : Nat, i < n → EvK N X (M_nameOf_s0 d (U 86 40) 0 (i : Nat) U) (rJ (U 89 (4 * b + i)) U) := fun i hi => by
    refine M_nameOf_r0 ⟨fun z => absurd rfl z, fun _ => ?_⟩
    rw [h40, eqI_o (e4 i (by omega)), Int.toNat_natCast]
    exact ⟨by omega, rfl⟩
  have goA : ∀ m i : Nat, i + m = n → (∀ j, j < i → U 89 (4 * b + j) ≠ x) → EvK N X (M_named_s3 (d + 1) 0 x (i : Nat) U) (rI r U) := by
    intro m
    induction m with
    | zero =>
      intro i hi hp
      obtain rfl : i = n := by omega
      have e : r = -1 := by
        rcases h with ⟨h1, -⟩ | ⟨j, h1, h2, h3, -⟩
        · exact h1
        · exact absurd h3 (hp j h2)
      exact M_named_r3 ⟨_, U, mnyA, fun _ => by rw [e], fun z => absurd z (by omega)⟩
    | succ m ih =>
      intro i hi hp
      refine M_named_r3 ⟨_, U, mnyA, fun z => absurd z (by omega), fun _ => ⟨_, U, namA i (by omega), fun z => ?_, fun z => ?_⟩⟩
      · rw [w32_succ (i := i) (by omega)]
        exact ih (i + 1) (by omega) (fun j hj => by
          by_cases e : j = i
          · rw [e]; exact z
          · exact hp j (by omega))
      · rcases h with ⟨-, h2⟩ | ⟨j, h1, h2, h3, h4⟩
        · exact absurd z (h2 i (by omega))
        · have e : j = i := by
            rcases Nat.lt_trichotomy j i with q | q | q
            · exact absurd h3 (hp j q)
            · exact q
            · exact absurd z (h4 i q)
          rw [h1, e]
  exact M_named_r0 (goA n 0 (by omega) (fun j hj => absurd hj (Nat.not_lt_zero j)))
theorem ct_named1 {b n : Nat} (h40 : U 86 40 = (b : Nat)) (hb : b < 2) (hn : U 90 b = (n : Nat)) (hn2 : n ≤ 12) {x r : Int} (h : fdR (fun k => U 91 (12 * b + k)) x n r) : EvK N X (M_named_s0 (d + 1) 1 x U) (rI r U) := by
  have e4 : ∀ i : Nat, i < 12 → eqI (w32 (w32 (12 * ((b : Nat) : Int)) + (i : Nat))) ((12 * b + i : Nat) : Int) := fun i hi => by show _ = _; rw [w32_eq (x := 12 * ((b : Nat) : Int)) (by omega) (by omega), w32_eq (by omega) (by omega)]; omega
  have mnyA : EvK N X (M_manyOf_s0 d (U 86 40) 1 U) (rI ((n : Nat) : Int) U) := by
    refine M_manyOf_r0 ⟨fun _ => ?_, fun z => absurd z (by decide)⟩
    rw [h40, Int.toNat_natCast, hn]
    exact ⟨by omega, rfl⟩
  have namA : ∀ i : Nat, i < n → EvK N X (M_nameOf_s0 d (U 86 40) 1 (i : Nat) U) (rJ (U 91 (12 * b + i)) U) := fun i hi => by
    refine M_nameOf_r0 ⟨fun _ => ?_, fun z => absurd z (by decide)⟩
    rw [h40, eqI_o (e4 i (by omega)), Int.toNat_natCast]
    exact ⟨by omega, rfl⟩
  have goA : ∀ m i : Nat, i + m = n → (∀ j, j < i → U 91 (12 * b + j) ≠ x) → EvK N X (M_named_s3 (d + 1) 1 x (i : Nat) U) (rI r U) := by
    intro m
    induction m with
    | zero =>
      intro i hi hp
      obtain rfl : i = n := by omega
      have e : r = -1 := by
        rcases h with ⟨h1, -⟩ | ⟨j, h1, h2, h3, -⟩
        · exact h1
        · exact absurd h3 (hp j h2)
      exact M_named_r3 ⟨_, U, mnyA, fun _ => by rw [e], fun z => absurd z (by omega)⟩
    | succ m ih =>
      intro i hi hp
      refine M_named_r3 ⟨_, U, mnyA, fun z => absurd z (by omega), fun _ => ⟨_, U, namA i (by omega), fun z => ?_, fun z => ?_⟩⟩
      · rw [w32_succ (i := i) (by omega)]
        exact ih (i + 1) (by omega) (fun j hj => by
          by_cases e : j = i
          · rw [e]; exact z
          · exact hp j (by omega))
      · rcases h with ⟨-, h2⟩ | ⟨j, h1, h2, h3, h4⟩
        · exact absurd z (h2 i (by omega))
        · have e : j = i := by
            rcases Nat.lt_trichotomy j i with q | q | q
            · exact absurd h3 (hp j q)
            · exact q
            · exact absurd z (h4 i q)
          rw [h1, e]
  exact M_named_r0 (goA n 0 (by omega) (fun j hj => absurd hj (Nat.not_lt_zero j)))
/-- an own word of the reference -/
theorem ct_isOwnW : ∀ w, w < 26 → EvK N X (M_isOwn_s0 d (ow8 w) U) (rI 1 U) := by
  intro w hw
  have c40 : ∀ x, EvK N X (M_isOwn_s40 d x U) (rI 1 U) := fun x => M_isOwn_r40 rfl
  have c82 : ∀ x, EvK N X (M_isOwn_s82 d x U) (rI 1 U) := fun x => M_isOwn_r82 rfl
  have c124 : ∀ x, EvK N X (M_isOwn_s124 d x U) (rI 1 U) := fun x => M_isOwn_r124 rfl
  have c166 : ∀ x, EvK N X (M_isOwn_s166 d x U) (rI 1 U) := fun x => M_isOwn_r166 rfl
  have c208 : ∀ x, EvK N X (M_isOwn_s208 d x U) (rI 1 U) := fun x => M_isOwn_r208 rfl
  refine M_isOwn_r0 ⟨fun _ => c40 _, fun n1 => ⟨fun _ => c40 _, fun n2 => ⟨fun _ => c40 _, fun n3 => ⟨fun _ => c40 _, fun n4 => ⟨fun n5 => ⟨fun _ => c82 _, fun n6 => ⟨fun _ => c82 _, fun n7 => ⟨fun _ => c82 _, fun n8 => ⟨fun _ => c82 _, fun n9 => ⟨fun n10 => ⟨fun _ => c124 _, fun n11 => ⟨fun _ => c124 _, fun n12 => ⟨fun _ => c124 _, fun n13 => ⟨fun _ => c124 _, fun n14 => ⟨fun n15 => ⟨fun _ => c166 _, fun n16 => ⟨fun _ => c166 _, fun n17 => ⟨fun _ => c166 _, fun n18 => ⟨fun _ => c166 _, fun n19 => ⟨fun n20 => ⟨fun _ => c208 _, fun n21 => ⟨fun _ => c208 _, fun n22 => ⟨fun _ => c208 _, fun n23 => ⟨fun _ => c208 _, fun n24 => ⟨fun n25 => ⟨fun n26 => ?_, fun _ => rfl⟩, fun _ => c208 _⟩⟩⟩⟩⟩, fun _ => c166 _⟩⟩⟩⟩⟩, fun _ => c124 _⟩⟩⟩⟩⟩, fun _ => c82 _⟩⟩⟩⟩⟩, fun _ => c40 _⟩⟩⟩⟩⟩
  exfalso
  have allW8 : ∀ w, w < 26 → ow8 w = 126943972648308 ∨ ow8 w = 448546567013 ∨ ow8 w = 28518 ∨ ow8 w = 491495845235 ∨ ow8 w = 1818324581 ∨ ow8 w = 121450625394034 ∨ ow8 w = 26990 ∨ ow8 w = 7102839 ∨ ow8 w = 1700881256 ∨ ow8 w = 108187867505765 ∨ ow8 w = 131294808271214 ∨ ow8 w = 7824740 ∨ ow8 w = 1870095731 ∨ ow8 w = 1718186597 ∨ ow8 w = 28005 ∨ ow8 w = 478694368626 ∨ ow8 w = 1835101817 ∨ ow8 w = 126931137819237 ∨ ow8 w = 482955849061 ∨ ow8 w = 28530 ∨ ow8 w = 6385252 ∨ ow8 w = 7237492 ∨ ow8 w = 6384748 ∨ ow8 w = 7170414 ∨ ow8 w = 7168376 ∨ ow8 w = 6775652 := by decide +kernel
  have := allW8 w hw
  omega
theorem ct_isOwnN {x : Int} (h : ∀ w, w < 26 → x ≠ ow8 w) : EvK N X (M_isOwn_s0 d x U) (rI 0 U) := by
  refine M_isOwn_r0 ⟨fun z => absurd z (h 0 (by decide)), fun _ => ⟨fun z => absurd z (h 1 (by decide)), fun _ => ⟨fun z => absurd z (h 2 (by decide)), fun _ => ⟨fun z => absurd z (h 3 (by decide)), fun _ => ⟨fun _ => ⟨fun z => absurd z (h 5 (by decide)), fun _ => ⟨fun z => absurd z (h 6 (by decide)), fun _ => ⟨fun z => absurd z (h 7 (by decide)), fun _ => ⟨fun z => absurd z (h 8 (by decide)), fun _ => ⟨fun _ => ⟨fun z => absurd z (h 10 (by decide)), fun _ => ⟨fun z => absurd z (h 11 (by decide)), fun _ => ⟨fun z => absurd z (h 12 (by decide)), fun _ => ⟨fun z => absurd z (h 13 (by decide)), fun _ => ⟨fun _ => ⟨fun z => absurd z (h 15 (by decide)), fun _ => ⟨fun z => absurd z (h 16 (by decide)), fun _ => ⟨fun z => absurd z (h 17 (by decide)), fun _ => ⟨fun z => absurd z (h 18 (by decide)), fun _ => ⟨fun _ => ⟨fun z => absurd z (h 20 (by decide)), fun _ => ⟨fun z => absurd z (h 21 (by decide)), fun _ => ⟨fun z => absurd z (h 22 (by decide)), fun _ => ⟨fun z => absurd z (h 23 (by decide)), fun _ => ⟨fun _ => ⟨fun _ => rfl, fun z => absurd z (h 25 (by decide))⟩, fun z => absurd z (h 24 (by decide))⟩⟩⟩⟩⟩, fun z => absurd z (h 19 (by decide))⟩⟩⟩⟩⟩, fun z => absurd z (h 14 (by decide))⟩⟩⟩⟩⟩, fun z => absurd z (h 9 (by decide))⟩⟩⟩⟩⟩, fun z => absurd z (h 4 (by decide))⟩⟩⟩⟩⟩
end FND
