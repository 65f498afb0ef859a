/-! own words and signs -/
def lnW (w : Nat) : Nat := ([6, 5, 2, 5, 4, 6, 2, 3, 4, 6, 6, 3, 4, 4, 2, 5, 4, 6, 5, 2, 3, 3, 3, 3, 3, 3] : List Nat).getD w 0
def bW (w k : Nat) : Int := am_b7 (6 * w + k)
theorem own_all : ∀ w, w < 26 → ow8 w = (w8 (bW w) 0 (lnW w) : Nat) ∧ 1 ≤ lnW w ∧ lnW w ≤ 6 ∧ (∀ k, k < 6 → (k < lnW w → isL (bW w (0 + k)) = true) ∧ (lnW w ≤ k → bW w k = 32)) := by decide +kernel
theorem b7_in : ∀ k, k < 156 → 32 ≤ am_b7 k ∧ am_b7 k ≤ 122 := by decide +kernel
theorem w8_inj {T T' : Nat → Int} {a a' : Nat} : ∀ (k k' : Nat), (∀ j, j < k → isL (T (a + j)) = true) → (∀ j, j < k' → isL (T' (a' + j)) = true) → w8 T a k = w8 T' a' k' → k = k' ∧ ∀ j, j < k → T (a + j) = T' (a' + j)
  | 0, 0, _, _, _ => ⟨rfl, fun j hj => absurd hj (Nat.not_lt_zero j)⟩
  | 0, k' + 1, _, h', e => by
    have := isL_iff.mp (h' k' (by omega))
    have e2 : 0 = 256 * w8 T' a' k' + (T' (a' + k')).toNat := e
    omega
  | k + 1, 0, h, _, e => by
    have := isL_iff.mp (h k (by omega))
    have e2 : 256 * w8 T a k + (T (a + k)).toNat = 0 := e
    omega
  | k + 1, k' + 1, h, h', e => by
    have c := isL_iff.mp (h k (by omega))
    have c' := isL_iff.mp (h' k' (by omega))
    have e2 : 256 * w8 T a k + (T (a + k)).toNat = 256 * w8 T' a' k' + (T' (a' + k')).toNat := e
    have e3 : w8 T a k = w8 T' a' k' := by omega
    obtain ⟨i1, i2⟩ := w8_inj k k' (fun j hj => h j (by omega)) (fun j hj => h' j (by omega)) e3
    subst i1
    refine ⟨rfl, fun j hj => ?_⟩
    by_cases z : j = k
    · subst z; omega
    · exact i2 j (by omega)
theorem own_iff {T : Nat → Int} {a len w : Nat} (hw : w < 26) (h6 : len ≤ 6) (hl : ∀ j, j < len → isL (T (a + j)) = true) : (∀ k, k < 6 → (if k < len then T (a + k) else 32) = bW w k) ↔ ((w8 T a len : Nat) : Int) = ow8 w := by
  obtain ⟨o1, o2, o3, o4⟩ := own_all w hw
  rw [o1]
  constructor
  · intro h
    have e : len = lnW w := by
      rcases Nat.lt_trichotomy len (lnW w) with q | q | q
      · have z := h len (by omega)
        have y := isL_iff.mp ((o4 len (by omega)).1 q)
        rw [if_neg (Nat.lt_irrefl len)] at z
        rw [Nat.zero_add] at y
        omega
      · exact q
      · have z := h (lnW w) (by omega)
        have y := (o4 (lnW w) (by omega)).2 (Nat.le_refl _)
        have x := isL_iff.mp (hl (lnW w) q)
        rw [if_pos q] at z
        omega
    have go : ∀ k, k ≤ len → w8 T a k = w8 (bW w) 0 k := by
      intro k
      induction k with
      | zero => intro _; rfl
      | succ k ih =>
        intro hk
        have z := h k (by omega)
        rw [if_pos (show k < len by omega)] at z
        show 256 * w8 T a k + (T (a + k)).toNat = 256 * w8 (bW w) 0 k + (bW w (0 + k)).toNat
        rw [ih (by omega), z, Nat.zero_add]
    rw [← e, go len (Nat.le_refl _)]
  · intro h k hk
    obtain ⟨e1, e2⟩ := w8_inj len (lnW w) hl (fun j hj => (o4 j (by omega)).1 hj) (Int.ofNat.inj h)
    by_cases c : k < len
    · rw [if_pos c, e2 k c, Nat.zero_add]
    · rw [if_neg c]; exact ((o4 k hk).2 (by omega)).symm
theorem b7_char : ∀ k, k < 156 → ((Int32.ofInt (am_and (am_b7 k) 255)).toUInt32 % 65536).toInt32.toInt = am_b7 k := by decide +kernel
theorem ct_charAt {N : Nat} {X : Nat → Int} {d k : Nat} {U : am_U} (hk : k < 156) : EvK N X (St_charAt_s0 (d + 3) (k : Nat) U) (rI (am_b7 k) U) := by
  have b := b7_in k hk
  have q : EvK N X (Pc_checkIndex_s0 d (k : Nat) 156 U) (rI ((k : Nat) : Int) U) := Pc_checkIndex_r0 ⟨fun z => absurd z (by omega), fun _ => ⟨fun _ => rfl, fun z => absurd z (by omega)⟩⟩
  refine St_charAt_r0 ⟨1, U, St_isLatin1_m3_r0 rfl, fun z => absurd z (by decide), fun _ => ⟨am_b7 k, U, SL_charAt_r0 ⟨U, St_checkIndex_r0 ⟨_, U, q, rfl⟩, by omega, ?_⟩, by omega, rfl⟩⟩
  rw [Int.toNat_natCast, b7_char k hk]
  exact ⟨by omega, rfl⟩
theorem ct_len3 {N : Nat} {X : Nat → Int} {d : Nat} {U : am_U} : EvK N X (St_length_m3_s0 (d + 1) U) (rI 156 U) := St_length_m3_r0 ⟨0, U, St_coder_m3_r0 rfl, by rw [show am_shr 156 0 = 156 from by decide +kernel]⟩
theorem ct_isOwnWord {N : Nat} {X : Nat → Int} {d a len w : Nat} {U : am_U} {T : Nat → Int} (hw : w < 26) (ha : a + len ≤ 1600) (hT : ∀ j, j < a + len → U 2 j = T j) : EvK N X (Tk_isOwnWord_s0 (d + 4) (a : Nat) ((a + len : Nat) : Int) (w : Nat) U) (rI (cb (∀ k, k < 6 → (if k < len then T (a + k) else 32) = bW w k)) U) := by
  have loop : ∀ m k : Nat, k + m = 6 → (∀ i, i < k → (if i < len then T (a + i) else 32) = bW w i) → EvK N X (Tk_isOwnWord_s9 (d + 4) (a : Nat) ((a + len : Nat) : Int) (w : Nat) ((6 * w : Nat) : Int) (k : Nat) U) (rI (cb (∀ k, k < 6 → (if k < len then T (a + k) else 32) = bW w k)) U) := by
    intro m
    induction m with
    | zero =>
      intro k hk h
      obtain rfl : k = 6 := by omega
      refine Tk_isOwnWord_r9 ⟨fun _ => ?_, fun z => absurd z (by omega)⟩
      rw [cb_t h]
    | succ m ih =>
      intro k hk h
      refine Tk_isOwnWord_r9 ⟨fun z => absurd z (by omega), fun _ => ?_⟩
      rw [w32_eq (x := ((6 * w : Nat) : Int) + ((k : Nat) : Int)) (by omega) (by omega), w32_eq (x := ((a : Nat) : Int) + ((k : Nat) : Int)) (by omega) (by omega), show ((6 * w : Nat) : Int) + ((k : Nat) : Int) = ((6 * w + k : Nat) : Int) by omega, show ((a : Nat) : Int) + ((k : Nat) : Int) = ((a + k : Nat) : Int) by omega, w32_succ (i := k) (by omega), Int.toNat_natCast]
      have nx : (if k < len then T (a + k) else 32) = bW w k → EvK N X (Tk_isOwnWord_s9 (d + 4) (a : Nat) ((a + len : Nat) : Int) (w : Nat) ((6 * w : Nat) : Int) ((k + 1 : Nat) : Int) U) (rI (cb (∀ k, k < 6 → (if k < len then T (a + k) else 32) = bW w k)) U) := fun z => ih (k + 1) (by omega) (fun i hi => by
        by_cases e : i = k
        · rw [e]; exact z
        · exact h i (by omega))
      have no : (if k < len then T (a + k) else 32) ≠ bW w k → rI (cb (∀ k, k < 6 → (if k < len then T (a + k) else 32) = bW w k)) U = rI 0 U := fun z => by rw [cb_f (fun y => z (y k (by omega)))]
      refine ⟨fun z => ⟨156, U, ct_len3, fun y => absurd y (by omega), fun _ => ⟨am_b7 (6 * w + k), U, ct_charAt (by omega), fun y => nx ?_, fun y => no ?_⟩⟩, fun z => ⟨by omega, 156, U, ct_len3, fun y => absurd y (by omega), fun _ => ⟨am_b7 (6 * w + k), U, ct_charAt (by omega), fun y => nx ?_, fun y => no ?_⟩⟩⟩
      · rw [if_neg (by omega)]; exact y.symm
      · rw [if_neg (by omega)]; exact fun q => y q.symm
      · rw [if_pos (by omega), ← hT (a + k) (by omega)]; exact y.symm
      · rw [if_pos (by omega), ← hT (a + k) (by omega)]; exact fun q => y q.symm
  refine Tk_isOwnWord_r0 ?_
  rw [w32_eq (by omega) (by omega), show 6 * ((w : Nat) : Int) = ((6 * w : Nat) : Int) by omega]
  exact loop 6 0 (by omega) (fun i hi => absurd hi (Nat.not_lt_zero i))
/-- the signs -/
def isG (c : Int) : Bool := am_by6.contains c
theorem g_char : ∀ c : Nat, c < 256 → ((Int32.ofInt ((c : Nat) : Int)).toUInt32 % 65536).toInt32.toInt = ((c : Nat) : Int) := by decide +kernel
theorem g_find : ∀ c : Nat, c < 256 → (isG ((c : Nat) : Int) = true ↔ ∃ k, k < 14 ∧ am_b6 k = (Int32.ofInt ((c : Nat) : Int)).toInt8.toInt32.toInt) := by decide +kernel
theorem ct_signs {N : Nat} {X : Nat → Int} {d c : Nat} {U : am_U} (hc : c < 256) : ∃ r, EvK N X (St_indexOf_I_s0 (d + 4) (((Int32.ofInt ((c : Nat) : Int)).toUInt32 % 65536).toInt32.toInt) U) (rI r U) ∧ (0 ≤ r ↔ isG ((c : Nat) : Int) = true) := by
  rw [g_char c hc]
  have gf := g_find c hc
  have loop : ∀ m k : Nat, k + m = 14 → (∀ i, i < k → am_b6 i ≠ (Int32.ofInt ((c : Nat) : Int)).toInt8.toInt32.toInt) → ∃ r, EvK N X (SL_indexOfChar_s7 (d + 1) (c : Nat) 0 14 ((Int32.ofInt ((c : Nat) : Int)).toInt8.toInt32.toInt) (k : Nat) U) (rI r U) ∧ (0 ≤ r ↔ isG ((c : Nat) : Int) = true) := by
    intro m
    induction m with
    | zero =>
      intro k hk h
      obtain rfl : k = 14 := by omega
      refine ⟨-1, SL_indexOfChar_r7 ⟨fun _ => rfl, fun z => absurd z (by omega)⟩, ?_⟩
      rw [gf]
      exact ⟨fun z => absurd z (by decide), fun ⟨i, i1, i2⟩ => absurd i2 (h i i1)⟩
    | succ m ih =>
      intro k hk h
      by_cases q : am_b6 k = (Int32.ofInt ((c : Nat) : Int)).toInt8.toInt32.toInt
      · refine ⟨((k : Nat) : Int), SL_indexOfChar_r7 ⟨fun z => absurd z (by omega), fun _ => ⟨by omega, fun z => absurd (by rw [Int.toNat_natCast]; exact q) z, fun _ => rfl⟩⟩, ?_⟩
        rw [gf]
        exact ⟨fun _ => ⟨k, by omega, q⟩, fun _ => by omega⟩
      · obtain ⟨r, k1, k2⟩ := ih (k + 1) (by omega) (fun i hi => by
          by_cases e : i = k
          · rw [e]; exact q
          · exact h i (by omega))
        refine ⟨r, SL_indexOfChar_r7 ⟨fun z => absurd z (by omega), fun _ => ⟨by omega, fun _ => ?_, fun z => absurd (by rw [Int.toNat_natCast] at z; exact z) q⟩⟩, k2⟩
        rw [w32_succ (i := k) (by omega)]; exact k1
  obtain ⟨r, k1, k2⟩ := loop 14 0 (by omega) (fun i hi => absurd hi (Nat.not_lt_zero i))
  have e14 : am_shr 14 0 = 14 := by decide +kernel
  refine ⟨r, St_indexOf_I_r0 ⟨r, U, St_indexOf_II_r0 ⟨1, U, St_isLatin1_m2_r0 rfl, fun z => absurd z (by decide), fun _ => ⟨14, U, St_length_m2_r0 ⟨0, U, St_coder_m2_r0 rfl, by rw [e14]⟩, r, U, SL_indexOf_r0 ⟨1, U, SL_canEncode_r0 ⟨fun z => absurd z (by omega), fun _ => ⟨fun z => absurd z (by omega), fun _ => rfl⟩⟩, fun _ => ⟨fun _ => ⟨r, U, SL_indexOfChar_r0 (by rw [if_neg (by decide), if_neg (by decide)]; exact k1), rfl⟩, fun z => absurd z (by decide)⟩, fun z => absurd z (by decide)⟩, rfl⟩⟩, rfl⟩, k2⟩
