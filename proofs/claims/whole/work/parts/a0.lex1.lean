/-! words, numbers and signs of a tape -/
def fst1 (q : Nat → Bool) (L : Nat) : Nat → Nat → Nat
  | 0, e => e
  | k + 1, e => if decide (e < L) && !(q e) then fst1 q L k (e + 1) else e
def fr1 (q : Nat → Bool) (L e : Nat) : Nat := fst1 q L (L - e) e
theorem fr1_step {q : Nat → Bool} {L e : Nat} (h : e < L) (hq : q e = false) : fr1 q L e = fr1 q L (e + 1) := by
  unfold fr1
  rw [show L - e = (L - (e + 1)) + 1 by omega]
  show (if _ then _ else _) = _
  rw [decide_eq_true h, hq]; rfl
theorem fr1_stop {q : Nat → Bool} {L e : Nat} (hq : L ≤ e ∨ q e = true) : fr1 q L e = e := by
  unfold fr1
  cases k : L - e with
  | zero => rfl
  | succ k =>
    show (if _ then _ else _) = _
    rcases hq with h | h
    · omega
    · rw [h, Bool.not_true, Bool.and_false]; rfl
theorem fr1_spec {q : Nat → Bool} {L : Nat} : ∀ (k e : Nat), e + k = L → e ≤ fr1 q L e ∧ fr1 q L e ≤ L ∧ (∀ j, e ≤ j → j < fr1 q L e → q j = false) ∧ (fr1 q L e = L ∨ q (fr1 q L e) = true)
  | 0, e, h => by
    rw [fr1_stop (Or.inl (by omega))]
    exact ⟨Nat.le_refl e, by omega, fun j h1 h2 => by omega, Or.inl (by omega)⟩
  | k + 1, e, h => by
    cases c : q e with
    | true =>
      rw [fr1_stop (Or.inr c)]
      exact ⟨Nat.le_refl e, by omega, fun j h1 h2 => by omega, Or.inr c⟩
    | false =>
      rw [fr1_step (by omega) c]
      obtain ⟨h1, h2, h3, h4⟩ := fr1_spec (q := q) (L := L) k (e + 1) (by omega)
      refine ⟨by omega, h2, fun j j1 j2 => ?_, h4⟩
      by_cases z : j = e
      · rw [z]; exact c
      · exact h3 j (by omega) j2
def isL (c : Int) : Bool := decide (97 ≤ c ∧ c ≤ 122)
def isD (c : Int) : Bool := decide (48 ≤ c ∧ c ≤ 57)
def isB (c : Int) : Bool := decide (c = 32 ∨ c = 10)
theorem isL_iff {c : Int} : isL c = true ↔ 97 ≤ c ∧ c ≤ 122 := by unfold isL; exact decide_eq_true_iff
theorem isD_iff {c : Int} : isD c = true ↔ 48 ≤ c ∧ c ≤ 57 := by unfold isD; exact decide_eq_true_iff
theorem isB_iff {c : Int} : isB c = true ↔ c = 32 ∨ c = 10 := by unfold isB; exact decide_eq_true_iff
/-- where the next one begins, and where it ends -/
def tkA (T : Nat → Int) (L e : Nat) : Nat := fr1 (fun j => !(isB (T j))) L e
def tkE (T : Nat → Int) (L e : Nat) : Nat :=
  if L ≤ tkA T L e then tkA T L e
  else if isL (T (tkA T L e)) then fr1 (fun j => !(isL (T j))) L (tkA T L e)
  else if isD (T (tkA T L e)) then fr1 (fun j => !(isD (T j))) L (tkA T L e)
  else tkA T L e + 1
theorem tkA_spec {T : Nat → Int} {L e : Nat} (h : e ≤ L) : e ≤ tkA T L e ∧ tkA T L e ≤ L ∧ (∀ j, e ≤ j → j < tkA T L e → isB (T j) = true) ∧ (tkA T L e = L ∨ isB (T (tkA T L e)) = false) := by
  obtain ⟨h1, h2, h3, h4⟩ := fr1_spec (q := fun j => !(isB (T j))) (L := L) (L - e) e (by omega)
  refine ⟨h1, h2, fun j j1 j2 => ?_, ?_⟩
  · have := h3 j j1 j2
    simpa using this
  · rcases h4 with z | z
    · exact Or.inl z
    · right
      have z' : (!(isB (T (tkA T L e)))) = true := z
      simpa using z'
theorem tkE_spec {T : Nat → Int} {L e : Nat} (h : e ≤ L) : tkA T L e ≤ tkE T L e ∧ tkE T L e ≤ L ∧ (tkA T L e < L → tkA T L e < tkE T L e) := by
  obtain ⟨h1, h2, h3, h4⟩ := tkA_spec (T := T) h
  unfold tkE
  by_cases c : L ≤ tkA T L e
  · rw [if_pos c]; omega
  · rw [if_neg c]
    by_cases cl : isL (T (tkA T L e)) = true
    · rw [if_pos cl]
      obtain ⟨g1, g2, g3, g4⟩ := fr1_spec (q := fun j => !(isL (T j))) (L := L) (L - tkA T L e) (tkA T L e) (by omega)
      refine ⟨g1, g2, fun _ => ?_⟩
      rcases Nat.lt_or_ge (tkA T L e) (fr1 (fun j => !(isL (T j))) L (tkA T L e)) with q | q
      · exact q
      · have e1 : fr1 (fun j => !(isL (T j))) L (tkA T L e) = tkA T L e := by omega
        rcases g4 with z | z
        · omega
        · rw [e1, cl] at z; exact absurd z (by decide)
    · rw [if_neg cl]
      by_cases cd : isD (T (tkA T L e)) = true
      · rw [if_pos cd]
        obtain ⟨g1, g2, g3, g4⟩ := fr1_spec (q := fun j => !(isD (T j))) (L := L) (L - tkA T L e) (tkA T L e) (by omega)
        refine ⟨g1, g2, fun _ => ?_⟩
        rcases Nat.lt_or_ge (tkA T L e) (fr1 (fun j => !(isD (T j))) L (tkA T L e)) with q | q
        · exact q
        · have e1 : fr1 (fun j => !(isD (T j))) L (tkA T L e) = tkA T L e := by omega
          rcases g4 with z | z
          · omega
          · rw [e1, cd] at z; exact absurd z (by decide)
      · rw [if_neg cd]; omega
/-- the ends, one behind the other -/
def enS (T : Nat → Int) (L : Nat) : Nat → Nat
  | 0 => 0
  | i + 1 => tkE T L (enS T L i)
theorem enS_le (T : Nat → Int) (L : Nat) : ∀ i, enS T L i ≤ L
  | 0 => Nat.zero_le L
  | i + 1 => (tkE_spec (enS_le T L i)).2.1
def plS1 (T : Nat → Int) (L i : Nat) : Nat := tkA T L (enS T L i)
theorem plS1_le (T : Nat → Int) (L i : Nat) : plS1 T L i ≤ L := (tkA_spec (enS_le T L i)).2.1
theorem enS_pl (T : Nat → Int) (L i : Nat) : enS T L i ≤ plS1 T L i ∧ plS1 T L i ≤ enS T L (i + 1) ∧ (plS1 T L i < L → plS1 T L i < enS T L (i + 1)) := ⟨(tkA_spec (enS_le T L i)).1, (tkE_spec (enS_le T L i)).1, (tkE_spec (enS_le T L i)).2.2⟩
/-- so many are ahead of a place -/
theorem enS_idx {T : Nat → Int} {L : Nat} : ∀ {i : Nat}, (∀ j, j < i → plS1 T L j < L) → i ≤ enS T L i
  | 0, _ => Nat.zero_le _
  | i + 1, h => by
    have a := enS_idx (i := i) (fun j hj => h j (by omega))
    have b := enS_pl T L i
    have c := b.2.2 (h i (by omega))
    omega
/-! what letters and digits tell -/
def w8 (T : Nat → Int) (a : Nat) : Nat → Nat
  | 0 => 0
  | k + 1 => 256 * w8 T a k + (T (a + k)).toNat
def v10 (T : Nat → Int) (a : Nat) : Nat → Nat
  | 0 => 0
  | k + 1 => 10 * v10 T a k + (T (a + k) - 48).toNat
def w5 (T : Nat → Int) (a : Nat) : Nat → Nat
  | 0 => 0
  | k + 1 => w5 T a k + (T (a + k) - 96).toNat * 32 ^ (5 - k)
def lsT (T : Nat → Int) (a : Nat) : Nat → List Nat
  | 0 => []
  | k + 1 => lsT T a k ++ [(T (a + k) - 96).toNat]
theorem lsT_len (T : Nat → Int) (a : Nat) : ∀ k, (lsT T a k).length = k
  | 0 => rfl
  | k + 1 => by show (lsT T a k ++ [_]).length = _; rw [List.length_append, lsT_len T a k]; rfl
theorem lsT_in {T : Nat → Int} {a : Nat} : ∀ {k : Nat}, (∀ j, j < k → isL (T (a + j)) = true) → ∀ c, c ∈ lsT T a k → 1 ≤ c ∧ c ≤ 26
  | 0, _, c, hc => by cases hc
  | k + 1, h, c, hc => by
    rcases List.mem_append.mp hc with z | z
    · exact lsT_in (fun j hj => h j (by omega)) c z
    · have := isL_iff.mp (h k (by omega))
      rw [List.mem_singleton] at z
      omega
theorem w8_e8 {T : Nat → Int} {a : Nat} : ∀ {k : Nat}, (∀ j, j < k → isL (T (a + j)) = true) → w8 T a k = e8 (lsT T a k)
  | 0, _ => rfl
  | k + 1, h => by
    have := isL_iff.mp (h k (by omega))
    show 256 * w8 T a k + _ = e8 (lsT T a k ++ [_])
    unfold e8
    rw [List.foldl_append, w8_e8 (fun j hj => h j (by omega))]
    show 256 * e8 (lsT T a k) + _ = 256 * (List.foldl _ 0 (lsT T a k)) + (96 + _)
    unfold e8
    omega
theorem w5_e5 {T : Nat → Int} {a : Nat} : ∀ {k : Nat}, k ≤ 6 → w5 T a k = e5 (lsT T a k) * 32 ^ (6 - k)
  | 0, _ => by show 0 = 0 * _; rw [Nat.zero_mul]
  | k + 1, hk => by
    have ih := w5_e5 (T := T) (a := a) (k := k) (by omega)
    show w5 T a k + _ = e5 (lsT T a k ++ [_]) * _
    have e : e5 (lsT T a k ++ [(T (a + k) - 96).toNat]) = 32 * e5 (lsT T a k) + (T (a + k) - 96).toNat := by
      unfold e5
      rw [List.foldl_append]; rfl
    rw [e, ih, show 6 - k = (5 - k) + 1 by omega, show 6 - (k + 1) = 5 - k by omega, Nat.pow_succ, Nat.add_mul, Nat.mul_comm (32 ^ (5 - k)) 32, ← Nat.mul_assoc, Nat.mul_comm 32 (e5 (lsT T a k))]
theorem nmR_T {T : Nat → Int} {a k : Nat} (h1 : 1 ≤ k) (h6 : k ≤ 6) (h : ∀ j, j < k → isL (T (a + j)) = true) : nmR ((w5 T a k : Nat) : Int) ((w8 T a k : Nat) : Int) :=
  ⟨lsT T a k, by rw [lsT_len]; exact h1, by rw [lsT_len]; exact h6, lsT_in h, by rw [w5_e5 h6, lsT_len], by rw [w8_e8 h]⟩
theorem w8_lt {T : Nat → Int} {a : Nat} : ∀ {k : Nat}, (∀ j, j < k → isL (T (a + j)) = true) → w8 T a k < 256 ^ k
  | 0, _ => by show 0 < 1; decide
  | k + 1, h => by
    have ih := w8_lt (fun j hj => h j (show j < k + 1 by omega)) (k := k)
    have := isL_iff.mp (h k (by omega))
    show 256 * w8 T a k + _ < _
    rw [Nat.pow_succ]
    omega
theorem v10_lt {T : Nat → Int} {a : Nat} : ∀ {k : Nat}, (∀ j, j < k → isD (T (a + j)) = true) → v10 T a k < 10 ^ k
  | 0, _ => by show 0 < 1; decide
  | k + 1, h => by
    have ih := v10_lt (fun j hj => h j (show j < k + 1 by omega)) (k := k)
    have := isD_iff.mp (h k (by omega))
    show 10 * v10 T a k + _ < _
    rw [Nat.pow_succ]
    omega
theorem w5_lt {T : Nat → Int} {a : Nat} {k : Nat} (hk : k ≤ 6) (h : ∀ j, j < k → isL (T (a + j)) = true) : w5 T a k < 1073741824 := by
  have go : ∀ k, k ≤ 6 → (∀ j, j < k → isL (T (a + j)) = true) → w5 T a k + 32 ^ (6 - k) ≤ 1073741824 := by
    intro k
    induction k with
    | zero => intro _ _; show 0 + 32 ^ 6 ≤ 1073741824; decide
    | succ k ih =>
      intro h1 h2
      have q := ih (by omega) (fun j hj => h2 j (by omega))
      have := isL_iff.mp (h2 k (by omega))
      show w5 T a k + _ + 32 ^ (6 - (k + 1)) ≤ _
      rw [show 6 - k = (5 - k) + 1 by omega, Nat.pow_succ] at q
      rw [show 6 - (k + 1) = 5 - k by omega]
      have le : (T (a + k) - 96).toNat ≤ 26 := by omega
      have m := Nat.mul_le_mul_right (32 ^ (5 - k)) le
      omega
  have := go k hk h
  have p : 0 < 32 ^ (6 - k) := Nat.pow_pos (by decide)
  omega
/-- a word or a number right behind another -/
def jnt (T : Nat → Int) (a : Nat) : Bool := decide (0 < a) && (isL (T (a - 1)) || isD (T (a - 1)))
/-- what is wrong with it, as the reference tells: where, or -1 -/
def lxA (T : Nat → Int) (a len most : Nat) : Int := if jnt T a then (a : Nat) else if most < len then ((a + most : Nat) : Int) else -1
/-- a set of words as one number each -/
def ow8 (j : Nat) : Int := ([126943972648308, 448546567013, 28518, 491495845235, 1818324581, 121450625394034, 26990, 7102839, 1700881256, 108187867505765, 131294808271214, 7824740, 1870095731, 1718186597, 28005, 478694368626, 1835101817, 126931137819237, 482955849061, 28530, 6385252, 7237492, 6384748, 7170414, 7168376, 6775652] : List Int).getD j 0
