/-! bits of a whole number, as an int has them -/
def tb (x : Int) (i : Nat) : Bool := (Int32.ofInt x).toBitVec.getLsbD i
def u32 (x : Int) : Nat := (x % 4294967296).toNat
theorem tb_big {x : Int} {i : Nat} (h : 32 ≤ i) : tb x i = false := BitVec.getLsbD_of_ge _ _ h
theorem tb_ext {x y : Int} (hx : in32 x) (hy : in32 y) (h : ∀ i, i < 32 → tb x i = tb y i) : x = y := (i32_eq hx hy).mp (Int32.toBitVec_inj.mp (BitVec.eq_of_getLsbD_eq (fun i hi => h i hi)))
theorem and_in (x y : Int) : in32 (am_and x y) := i32_in _
theorem or_in (x y : Int) : in32 (am_or x y) := i32_in _
theorem xor_in (x y : Int) : in32 (am_xor x y) := i32_in _
theorem shl_in (x y : Int) : in32 (am_shl x y) := i32_in _
theorem shr_in (x y : Int) : in32 (am_shr x y) := i32_in _
theorem ushr_in (x y : Int) : in32 (am_ushr x y) := i32_in _
theorem tb_and (x y : Int) (i : Nat) : tb (am_and x y) i = (tb x i && tb y i) := by
  unfold tb am_and; rw [i32_of, Int32.toBitVec_and, BitVec.getLsbD_and]
theorem tb_or (x y : Int) (i : Nat) : tb (am_or x y) i = (tb x i || tb y i) := by
  unfold tb am_or; rw [i32_of, Int32.toBitVec_or, BitVec.getLsbD_or]
theorem tb_xor (x y : Int) (i : Nat) : tb (am_xor x y) i = (tb x i ^^ tb y i) := by
  unfold tb am_xor; rw [i32_of, Int32.toBitVec_xor, BitVec.getLsbD_xor]
theorem tb_0 (i : Nat) : tb 0 i = false := BitVec.getLsbD_zero
theorem tb_m1 {i : Nat} (h : i < 32) : tb (-1) i = true := (by decide +kernel : ∀ i, i < 32 → tb (-1) i = true) i h
theorem tb_1 (i : Nat) : tb 1 i = decide (i = 0) := by
  rcases Nat.lt_or_ge i 32 with h | h
  · exact (by decide +kernel : ∀ i, i < 32 → tb 1 i = decide (i = 0)) i h
  · rw [tb_big h, decide_eq_false (by omega)]
theorem tb_m2 {i : Nat} (h : i < 32) : tb (-2) i = decide (1 ≤ i) := (by decide +kernel : ∀ i, i < 32 → tb (-2) i = decide (1 ≤ i)) i h
theorem tb_not {x : Int} {i : Nat} (h : i < 32) : tb (am_xor x (-1)) i = !tb x i := by rw [tb_xor, tb_m1 h, Bool.xor_true]
theorem sh_l : ∀ n, n < 32 → ((Int32.ofInt (n : Nat) &&& 31).toBitVec.smod 32).toNat = n := by decide +kernel
theorem sh_u : ∀ n, n < 32 → (((Int32.ofInt (n : Nat)).toUInt32 &&& Int32.toUInt32 31).toBitVec % 32).toNat = n := by decide +kernel
theorem tb_shl {x : Int} {n i : Nat} (hn : n < 32) (hi : i < 32) : tb (am_shl x (n : Nat)) i = (decide (n ≤ i) && tb x (i - n)) := by
  unfold tb am_shl
  rw [i32_of, Int32.toBitVec_shiftLeft]
  show ((Int32.ofInt x).toBitVec <<< ((Int32.ofInt (n : Nat) &&& 31).toBitVec.smod 32).toNat).getLsbD i = _
  rw [sh_l n hn, BitVec.getLsbD_shiftLeft]
  rcases Nat.lt_or_ge i n with h | h
  · simp [h, Nat.not_le.mpr h]
  · simp [hi, h, Nat.not_lt.mpr h]
theorem tb_ushr {x : Int} {n : Nat} (hn : n < 32) (i : Nat) : tb (am_ushr x (n : Nat)) i = tb x (n + i) := by
  unfold tb am_ushr
  rw [i32_of]
  show ((Int32.ofInt x).toUInt32 >>> ((Int32.ofInt (n : Nat)).toUInt32 &&& Int32.toUInt32 31)).toBitVec.getLsbD i = (Int32.ofInt x).toUInt32.toBitVec.getLsbD (n + i)
  rw [UInt32.toBitVec_shiftRight]
  show ((Int32.ofInt x).toUInt32.toBitVec >>> (((Int32.ofInt (n : Nat)).toUInt32 &&& Int32.toUInt32 31).toBitVec % 32).toNat).getLsbD i = _
  rw [sh_u n hn, BitVec.getLsbD_ushiftRight]
theorem tb_shr {x : Int} {n i : Nat} (hn : n < 32) (hi : i < 32) : tb (am_shr x (n : Nat)) i = if n + i < 32 then tb x (n + i) else tb x 31 := by
  unfold tb am_shr
  rw [i32_of, Int32.toBitVec_shiftRight]
  show ((Int32.ofInt x).toBitVec.sshiftRight ((Int32.ofInt (n : Nat) &&& 31).toBitVec.smod 32).toNat).getLsbD i = _
  rw [sh_l n hn, BitVec.getLsbD_sshiftRight, BitVec.msb_eq_getLsbD_last]
  simp [hi]
theorem u32_lt (x : Int) : u32 x < 4294967296 := by unfold u32; omega
theorem tb_u32 (x : Int) {i : Nat} (hi : i < 32) : tb x i = (u32 x).testBit i := by
  unfold tb u32
  rw [Int32.toBitVec_ofInt]
  show (BitVec.ofInt 32 x).toNat.testBit i = _
  rw [BitVec.toNat_ofInt]
  rfl
theorem u32_ext {x : Int} {n : Nat} (hn : n < 4294967296) (h : ∀ i, i < 32 → tb x i = n.testBit i) : u32 x = n := by
  apply Nat.eq_of_testBit_eq
  intro i
  rcases Nat.lt_or_ge i 32 with hi | hi
  · rw [← tb_u32 x hi, h i hi]
  · have h2 : (2 : Nat) ^ 32 ≤ 2 ^ i := Nat.pow_le_pow_right (by decide) hi
    have := u32_lt x
    rw [Nat.testBit_lt_two_pow (show u32 x < 2 ^ i by omega), Nat.testBit_lt_two_pow (show n < 2 ^ i by omega)]
theorem u32_and (x y : Int) : u32 (am_and x y) = u32 x &&& u32 y := by
  have h : u32 x &&& u32 y < 4294967296 := Nat.lt_of_le_of_lt Nat.and_le_left (u32_lt x)
  refine u32_ext h (fun i hi => ?_)
  rw [tb_and, Nat.testBit_and, tb_u32 x hi, tb_u32 y hi]
theorem u32_ushr (x : Int) {n : Nat} (hn : n < 32) : u32 (am_ushr x (n : Nat)) = u32 x / 2 ^ n := by
  have h : u32 x / 2 ^ n < 4294967296 := Nat.lt_of_le_of_lt (Nat.div_le_self _ _) (u32_lt x)
  refine u32_ext h (fun i hi => ?_)
  rw [tb_ushr hn, Nat.testBit_div_two_pow, Nat.add_comm i n]
  rcases Nat.lt_or_ge (n + i) 32 with h1 | h1
  · rw [tb_u32 x h1]
  · rw [tb_big h1]
    have h2 : (2 : Nat) ^ 32 ≤ 2 ^ (n + i) := Nat.pow_le_pow_right (by decide) h1
    have := u32_lt x
    rw [Nat.testBit_lt_two_pow (show u32 x < 2 ^ (n + i) by omega)]
theorem u32_w (x : Int) : u32 (w32 x) = u32 x := by unfold u32 w32; omega
theorem u32_id {x : Int} (h : in32 x) : w32 (u32 x : Nat) = x := by unfold in32 at h; unfold u32 w32; omega
theorem u32_inv {z : Int} {n : Nat} (hz : in32 z) (h : u32 z = n) (hn : n < 2147483648) : z = n := by unfold in32 at hz; unfold u32 at h; omega
theorem u32_pos {x : Int} (h : 0 ≤ x) (h2 : x < 2147483648) : (u32 x : Int) = x := by unfold u32; omega
/-- one bit asked for, two ways -/
theorem bit_shr {x : Int} {n : Nat} (hn : n < 32) : am_and (am_shr x (n : Nat)) 1 = if tb x n then 1 else 0 := by
  refine tb_ext (and_in _ _) (by unfold in32; split <;> omega) (fun i hi => ?_)
  rw [tb_and, tb_shr hn hi, tb_1]
  by_cases h0 : i = 0
  · subst h0
    rw [Nat.add_zero, if_pos hn]
    cases h : tb x n <;> simp [h, tb_0, tb_1]
  · cases h : tb x n <;> simp [h0, tb_0, tb_1]
theorem bit_ushr {x : Int} {n : Nat} (hn : n < 32) : am_and (am_ushr x (n : Nat)) 1 = if tb x n then 1 else 0 := by
  refine tb_ext (and_in _ _) (by unfold in32; split <;> omega) (fun i hi => ?_)
  rw [tb_and, tb_ushr hn, tb_1]
  by_cases h0 : i = 0
  · subst h0
    rw [Nat.add_zero]
    cases h : tb x n <;> simp [h, tb_0, tb_1]
  · cases h : tb x n <;> simp [h0, tb_0, tb_1]
theorem tb_bit {n i : Nat} (hn : n < 32) (hi : i < 32) : tb (am_shl 1 (n : Nat)) i = decide (i = n) := by
  rw [tb_shl hn hi, tb_1]
  by_cases h : i = n
  · subst h; simp
  · by_cases h2 : n ≤ i
    · simp [h2, h]; omega
    · simp [h2, h]
theorem shl1 {n : Nat} (hn : n < 31) : am_shl 1 (n : Nat) = (2 ^ n : Nat) := (by decide +kernel : ∀ n, n < 31 → am_shl 1 (n : Nat) = ((2 ^ n : Nat) : Int)) n hn
/-! how many bits: the JDK's own way -/
theorem and_cut {i a b c e : Nat} (ha : a < 2 ^ i) (hc : c < 2 ^ i) : (2 ^ i * b + a) &&& (2 ^ i * e + c) = 2 ^ i * (b &&& e) + (a &&& c) := by
  apply Nat.eq_of_testBit_eq
  intro j
  rw [Nat.testBit_and, Nat.testBit_two_pow_mul_add b ha, Nat.testBit_two_pow_mul_add e hc, Nat.testBit_two_pow_mul_add (b &&& e) (Nat.lt_of_le_of_lt Nat.and_le_left ha)]
  split
  · rw [Nat.testBit_and]
  · rw [Nat.testBit_and]
def bc1 (m n : Nat) : Nat := n - (n / 2 &&& m)
def bc2 (m n : Nat) : Nat := (n &&& m) + (n / 4 &&& m)
def bc3 (m n : Nat) : Nat := n + n / 16 &&& m
theorem bc1_b : ∀ b, b < 256 → ∀ p, p < 2 → (b / 2 + 128 * p &&& 85) = (b / 2 &&& 85) ∧ (b / 2 &&& 85) ≤ b := by decide +kernel
theorem bc2_b : ∀ b, b < 256 → ∀ p, p < 4 → (b / 4 + 64 * p &&& 51) = (b / 4 &&& 51) ∧ (b &&& 51) + (b / 4 &&& 51) < 256 := by decide +kernel
theorem bc3_b : ∀ b, b < 256 → ∀ p, p < 5 → (bc2 51 (bc1 85 b) + bc2 51 (bc1 85 b) / 16 + 16 * p) < 256 ∧ (bc2 51 (bc1 85 b) + bc2 51 (bc1 85 b) / 16 + 16 * p &&& 15) = bc3 15 (bc2 51 (bc1 85 b)) ∧ bc2 51 (bc1 85 b) % 16 < 5 := by decide +kernel
theorem bc1_s {b M m : Nat} (hb : b < 256) : bc1 (256 * m + 85) (256 * M + b) = 256 * bc1 m M + bc1 85 b := by
  unfold bc1
  have e : (256 * M + b) / 2 = 2 ^ 8 * (M / 2) + (b / 2 + 128 * (M % 2)) := by omega
  obtain ⟨h1, h2⟩ := bc1_b b hb (M % 2) (by omega)
  rw [e, show 256 * m + 85 = 2 ^ 8 * m + 85 from rfl, and_cut (by omega) (by decide), h1]
  have h3 : (M / 2 &&& m) ≤ M / 2 := Nat.and_le_left
  omega
theorem bc2_s {b M m : Nat} (hb : b < 256) : bc2 (256 * m + 51) (256 * M + b) = 256 * bc2 m M + bc2 51 b := by
  unfold bc2
  have e : (256 * M + b) / 4 = 2 ^ 8 * (M / 4) + (b / 4 + 64 * (M % 4)) := by omega
  obtain ⟨h1, h2⟩ := bc2_b b hb (M % 4) (by omega)
  rw [e, show 256 * m + 51 = 2 ^ 8 * m + 51 from rfl, and_cut (by omega) (by decide), h1, show 256 * M + b = 2 ^ 8 * M + b from rfl, and_cut (by omega) (by decide)]
  omega
theorem bc_lt : ∀ b, b < 256 → bc1 85 b < 256 ∧ bc2 51 (bc1 85 b) < 256 := by decide +kernel
def bcG (m1 m2 m3 n : Nat) : Nat := bc3 m3 (bc2 m2 (bc1 m1 n))
/-- byte by byte -/
theorem bcG_s {b M m1 m2 m3 : Nat} (hb : b < 256) (hM : bc2 m2 (bc1 m1 M) % 16 < 5) : bcG (256 * m1 + 85) (256 * m2 + 51) (256 * m3 + 15) (256 * M + b) = 256 * bcG m1 m2 m3 M + bcG 85 51 15 b := by
  unfold bcG
  obtain ⟨h1, h2⟩ := bc_lt b hb
  rw [bc1_s hb, bc2_s h1]
  obtain ⟨h3, h4, h5⟩ := bc3_b b hb (bc2 m2 (bc1 m1 M) % 16) hM
  generalize bc2 m2 (bc1 m1 M) = W at *
  generalize hw : bc2 51 (bc1 85 b) = w at *
  unfold bc3
  have e : 256 * W + w + (256 * W + w) / 16 = 2 ^ 8 * (W + W / 16) + (w + w / 16 + 16 * (W % 16)) := by omega
  rw [e, show 256 * m3 + 15 = 2 ^ 8 * m3 + 15 from rfl, and_cut (by omega) (by decide), h4]
  rfl
theorem bcG_m {b M m1 m2 : Nat} (hb : b < 256) : bc2 (256 * m2 + 51) (bc1 (256 * m1 + 85) (256 * M + b)) % 16 < 5 := by
  obtain ⟨h1, h2⟩ := bc_lt b hb
  rw [bc1_s hb, bc2_s h1]
  have := (bc3_b b hb 0 (by decide)).2.2
  omega
theorem bc_byte : ∀ b, b < 256 → bcG 85 51 15 b = fb_ct (Nat.testBit b) 8 := by decide +kernel
theorem ct_byte {b M : Nat} (hb : b < 256) (k : Nat) : fb_ct (Nat.testBit (256 * M + b)) (8 + k) = fb_ct (Nat.testBit b) 8 + fb_ct (Nat.testBit M) k := by
  rw [fb_ct_split]
  congr 1
  · refine fb_ct_cong (fun i hi => ?_)
    rw [show 256 * M + b = 2 ^ 8 * M + b from rfl, Nat.testBit_two_pow_mul_add M (by omega), if_pos hi]
  · refine fb_ct_cong (fun i hi => ?_)
    rw [show 256 * M + b = 2 ^ 8 * M + b from rfl, Nat.testBit_two_pow_mul_add M (by omega), if_neg (by omega), show 8 + i - 8 = i from by omega]
theorem bc_all {n : Nat} (hn : n < 4294967296) : (let g := bcG 1431655765 858993459 252645135 n; let h := g + g / 256; (h + h / 65536) % 64 = fb_ct (Nat.testBit n) 32 ∧ g < 2147483648) := by
  obtain ⟨b0, b1, b2, b3, h0, h1, h2, h3, rfl⟩ : ∃ b0 b1 b2 b3, b0 < 256 ∧ b1 < 256 ∧ b2 < 256 ∧ b3 < 256 ∧ n = 256 * (256 * (256 * b3 + b2) + b1) + b0 := ⟨n % 256, n / 256 % 256, n / 65536 % 256, n / 16777216, by omega, by omega, by omega, by omega, by omega⟩
  have e : bcG 1431655765 858993459 252645135 (256 * (256 * (256 * b3 + b2) + b1) + b0) = 256 * (256 * (256 * bcG 85 51 15 b3 + bcG 85 51 15 b2) + bcG 85 51 15 b1) + bcG 85 51 15 b0 := by
    rw [show (1431655765 : Nat) = 256 * 5592405 + 85 from rfl, show (858993459 : Nat) = 256 * 3355443 + 51 from rfl, show (252645135 : Nat) = 256 * 986895 + 15 from rfl]
    rw [bcG_s h0 (bcG_m (m1 := 21845) (m2 := 13107) h1)]
    rw [show (986895 : Nat) = 256 * 3855 + 15 from rfl]
    rw [bcG_s h1 (bcG_m (m1 := 85) (m2 := 51) h2)]
    rw [show (3855 : Nat) = 256 * 15 + 15 from rfl]
    rw [bcG_s h2 (bc3_b b3 h3 0 (by decide)).2.2]
  have c : fb_ct (Nat.testBit (256 * (256 * (256 * b3 + b2) + b1) + b0)) 32 = fb_ct (Nat.testBit b0) 8 + (fb_ct (Nat.testBit b1) 8 + (fb_ct (Nat.testBit b2) 8 + fb_ct (Nat.testBit b3) 8)) := by
    rw [show (32 : Nat) = 8 + 24 from rfl, ct_byte h0, show (24 : Nat) = 8 + 16 from rfl, ct_byte h1, show (16 : Nat) = 8 + 8 from rfl, ct_byte h2]
  have l0 := fb_ct_le (Nat.testBit b0) 8
  have l1 := fb_ct_le (Nat.testBit b1) 8
  have l2 := fb_ct_le (Nat.testBit b2) 8
  have l3 := fb_ct_le (Nat.testBit b3) 8
  simp only [e, c, bc_byte b0 h0, bc_byte b1 h1, bc_byte b2 h2, bc_byte b3 h3]
  generalize fb_ct (Nat.testBit b0) 8 = c0 at *
  generalize fb_ct (Nat.testBit b1) 8 = c1 at *
  generalize fb_ct (Nat.testBit b2) 8 = c2 at *
  generalize fb_ct (Nat.testBit b3) 8 = c3 at *
  have d1 : (256 * (256 * (256 * c3 + c2) + c1) + c0) / 256 = 256 * (256 * c3 + c2) + c1 := by omega
  rw [d1]
  have d2 : (256 * (256 * (256 * c3 + c2) + c1) + c0 + (256 * (256 * c3 + c2) + c1)) / 65536 = 256 * c3 + (c2 + c3) := by omega
  rw [d2]
  constructor <;> omega
def je1 (x : Int) : Int := w32 (x - am_and (am_ushr x 1) 1431655765)
def je2 (a : Int) : Int := w32 (am_and a 858993459 + am_and (am_ushr a 2) 858993459)
def je3 (a : Int) : Int := am_and (w32 (a + am_ushr a 4)) 252645135
def je4 (a : Int) : Int := w32 (a + am_ushr a 8)
def je5 (a : Int) : Int := w32 (a + am_ushr a 16)
theorem je1_u (x : Int) : u32 (je1 x) = bc1 1431655765 (u32 x) := by
  unfold je1 bc1
  have h1 : u32 (am_and (am_ushr x 1) 1431655765) = u32 x / 2 &&& 1431655765 := by
    rw [u32_and, show u32 (am_ushr x 1) = u32 x / 2 from u32_ushr x (n := 1) (by decide)]
    rfl
  have h2 : u32 x / 2 &&& 1431655765 ≤ u32 x / 2 := Nat.and_le_left
  have h4 := u32_lt x
  rw [u32_w]
  rw [← h1] at h2 ⊢
  generalize am_and (am_ushr x 1) 1431655765 = y at *
  unfold u32 at *
  omega
theorem je2_u (a : Int) : u32 (je2 a) = bc2 858993459 (u32 a) ∧ u32 (je2 a) < 2147483648 ∧ 0 ≤ je2 a ∧ je2 a < 1800000000 := by
  unfold je2 bc2
  have h1 : u32 (am_and a 858993459) = u32 a &&& 858993459 := by rw [u32_and]; rfl
  have h2 : u32 (am_and (am_ushr a 2) 858993459) = u32 a / 4 &&& 858993459 := by
    rw [u32_and, show u32 (am_ushr a 2) = u32 a / 4 from u32_ushr a (n := 2) (by decide)]
    rfl
  have h3 : u32 a &&& 858993459 ≤ 858993459 := Nat.and_le_right
  have h4 : u32 a / 4 &&& 858993459 ≤ 858993459 := Nat.and_le_right
  rw [u32_w, ← h1, ← h2]
  rw [← h1] at h3
  rw [← h2] at h4
  have i1 := and_in a 858993459
  have i2 := and_in (am_ushr a 2) 858993459
  unfold in32 at i1 i2
  generalize am_and (am_ushr a 2) 858993459 = y at *
  generalize am_and a 858993459 = z at *
  unfold u32 w32 at *
  omega
theorem je_sum {a : Int} {n m : Nat} (hn : n < 32) (h0 : 0 ≤ a) (h1 : a < 1800000000) (hm : 2 ^ n = m) (h8 : 16 ≤ m) : w32 (a + am_ushr a (n : Nat)) = ((u32 a + u32 a / m : Nat) : Int) := by
  have e := u32_ushr a hn
  rw [hm] at e
  have i := ushr_in a (n : Nat)
  unfold in32 at i
  have h2 : u32 a / m ≤ u32 a / 16 := Nat.div_le_div_left h8 (by decide)
  generalize am_ushr a (n : Nat) = y at *
  rw [← e] at h2 ⊢
  unfold u32 w32 at *
  omega
theorem je_all (x : Int) : am_and (je5 (je4 (je3 (je2 (je1 x))))) 63 = ((fb_ct (tb x) 32 : Nat) : Int) := by
  have hc : fb_ct (tb x) 32 = fb_ct (Nat.testBit (u32 x)) 32 := fb_ct_cong (fun i hi => tb_u32 x hi)
  obtain ⟨q1, q2⟩ := bc_all (u32_lt x)
  obtain ⟨a1, a2, a3, a4⟩ := je2_u (je1 x)
  rw [je1_u] at a1
  have e3 : je3 (je2 (je1 x)) = ((bcG 1431655765 858993459 252645135 (u32 x) : Nat) : Int) := by
    have f : w32 (je2 (je1 x) + am_ushr (je2 (je1 x)) 4) = ((u32 (je2 (je1 x)) + u32 (je2 (je1 x)) / 16 : Nat) : Int) := je_sum (n := 4) (by decide) a3 a4 rfl (by decide)
    have g : u32 (je3 (je2 (je1 x))) = bcG 1431655765 858993459 252645135 (u32 x) := by
      unfold je3 bcG bc3
      rw [u32_and, f, a1]
      rw [a1] at a2
      have : u32 ((bc2 858993459 (bc1 1431655765 (u32 x)) + bc2 858993459 (bc1 1431655765 (u32 x)) / 16 : Nat) : Int) = bc2 858993459 (bc1 1431655765 (u32 x)) + bc2 858993459 (bc1 1431655765 (u32 x)) / 16 := by
        generalize bc2 858993459 (bc1 1431655765 (u32 x)) = z at *
        unfold u32; omega
      rw [this]
      rfl
    exact u32_inv (and_in _ _) g q2
  rw [e3, hc, ← q1]
  have q3 : bcG 1431655765 858993459 252645135 (u32 x) ≤ 252645135 := Nat.and_le_right
  generalize bcG 1431655765 858993459 252645135 (u32 x) = g at *
  have ug : u32 ((g : Nat) : Int) = g := by unfold u32; omega
  have f4 : je4 ((g : Nat) : Int) = ((g + g / 256 : Nat) : Int) := by
    have := je_sum (a := ((g : Nat) : Int)) (n := 8) (by decide) (by omega) (by omega) rfl (by decide)
    rw [ug] at this
    exact this
  rw [f4]
  have uh : u32 ((g + g / 256 : Nat) : Int) = g + g / 256 := by unfold u32; omega
  have f5 : je5 ((g + g / 256 : Nat) : Int) = ((g + g / 256 + (g + g / 256) / 65536 : Nat) : Int) := by
    have := je_sum (a := ((g + g / 256 : Nat) : Int)) (n := 16) (by decide) (by omega) (by omega) rfl (by decide)
    rw [uh] at this
    exact this
  rw [f5]
  have ui : u32 ((g + g / 256 + (g + g / 256) / 65536 : Nat) : Int) = g + g / 256 + (g + g / 256) / 65536 := by unfold u32; omega
  have f6 : u32 (am_and ((g + g / 256 + (g + g / 256) / 65536 : Nat) : Int) 63) = (g + g / 256 + (g + g / 256) / 65536) % 64 := by
    rw [u32_and, ui, show u32 63 = 2 ^ 6 - 1 from rfl, Nat.and_two_pow_sub_one_eq_mod]
  exact u32_inv (and_in _ _) f6 (by omega)
