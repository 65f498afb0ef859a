/-! A SMALL MACHINE over the claim's own instructions: values are whole numbers, cells are rows of whole numbers, the heap's shape is a list. Proved sound once over the kit's rows; all else speaks of it alone. -/
abbrev am_V : Type := Int ⊕ Int ⊕ Int
abbrev am_M : Type := List (Nat × Nat) × (Nat → Nat → Int)
abbrev am_L : Type := List (Option am_V)
abbrev am_I : Type := Nat × Instr × Nat × Nat × Int
abbrev am_S : Type := Nat × Nat × Nat × am_L × List am_V × am_M
abbrev am_R : Type := Option (Option am_V × am_M)
abbrev am_Z : Type := Nat → Nat × Nat × (Nat → Int)
def w32 (x : Int) : Int := (x + 2147483648) % 4294967296 - 2147483648
def w64 (x : Int) : Int := (x + 9223372036854775808) % 18446744073709551616 - 9223372036854775808
def in32 (x : Int) : Prop := -2147483648 ≤ x ∧ x < 2147483648
def in64 (x : Int) : Prop := -9223372036854775808 ≤ x ∧ x < 9223372036854775808
def am_and (x y : Int) : Int := (Int32.ofInt x &&& Int32.ofInt y).toInt
def am_or (x y : Int) : Int := (Int32.ofInt x ||| Int32.ofInt y).toInt
def am_xor (x y : Int) : Int := (Int32.ofInt x ^^^ Int32.ofInt y).toInt
def am_shl (x y : Int) : Int := (Int32.ofInt x <<< (Int32.ofInt y &&& 31)).toInt
def am_shr (x y : Int) : Int := (Int32.ofInt x >>> (Int32.ofInt y &&& 31)).toInt
def am_ushr (x y : Int) : Int := ((Int32.ofInt x).toUInt32 >>> ((Int32.ofInt y).toUInt32 &&& Int32.toUInt32 31)).toInt32.toInt
def am_land (x y : Int) : Int := (Int64.ofInt x &&& Int64.ofInt y).toInt
def am_lor (x y : Int) : Int := (Int64.ofInt x ||| Int64.ofInt y).toInt
def am_lshl (x y : Int) : Int := (Int64.ofInt x <<< ((Int32.ofInt y).toInt64 &&& 63)).toInt
def am_lshr (x y : Int) : Int := (Int64.ofInt x >>> ((Int32.ofInt y).toInt64 &&& 63)).toInt
def am_lcmp (x y : Int) : Int := if x < y then -1 else if x = y then 0 else 1
theorem w32_in (x : Int) : in32 (w32 x) := by unfold w32 in32; omega
theorem w64_in (x : Int) : in64 (w64 x) := by unfold w64 in64; omega
theorem w32_id {x : Int} (h : in32 x) : w32 x = x := by unfold w32; unfold in32 at h; omega
theorem w64_id {x : Int} (h : in64 x) : w64 x = x := by unfold w64; unfold in64 at h; omega
theorem i32_to {x : Int} (h : in32 x) : (Int32.ofInt x).toInt = x := by
  unfold in32 at h
  rw [Int32.toInt_ofInt]
  rw [Int.bmod_def]
  simp only [Int32.size]
  omega
theorem i64_to {x : Int} (h : in64 x) : (Int64.ofInt x).toInt = x := by
  unfold in64 at h
  rw [Int64.toInt_ofInt]
  rw [Int.bmod_def]
  simp only [Int64.size]
  omega
theorem i32_in (x : Int32) : in32 x.toInt := by
  have h1 := Int32.le_toInt x
  have h2 := Int32.toInt_lt x
  unfold in32; omega
theorem i64_in (x : Int64) : in64 x.toInt := by
  have h1 := Int64.le_toInt x
  have h2 := Int64.toInt_lt x
  unfold in64; omega
theorem i32_of (x : Int32) : Int32.ofInt x.toInt = x := Int32.ofInt_toInt x
theorem i64_of (x : Int64) : Int64.ofInt x.toInt = x := Int64.ofInt_toInt x
theorem i32_w (x : Int) : Int32.ofInt (w32 x) = Int32.ofInt x := by
  apply Int32.toInt_inj.mp
  rw [i32_to (w32_in x), Int32.toInt_ofInt, Int.bmod_def]
  simp only [Int32.size]
  unfold w32; omega
theorem i64_w (x : Int) : Int64.ofInt (w64 x) = Int64.ofInt x := by
  apply Int64.toInt_inj.mp
  rw [i64_to (w64_in x), Int64.toInt_ofInt, Int.bmod_def]
  simp only [Int64.size]
  unfold w64; omega
theorem i32_add (x y : Int) : Int32.ofInt (w32 (x + y)) = Int32.ofInt x + Int32.ofInt y := by rw [i32_w, Int32.ofInt_add]
theorem i32_sub (x y : Int) : Int32.ofInt (w32 (x - y)) = Int32.ofInt x - Int32.ofInt y := by rw [i32_w, Int32.ofInt_sub]
theorem i32_mul (x y : Int) : Int32.ofInt (w32 (x * y)) = Int32.ofInt x * Int32.ofInt y := by rw [i32_w, Int32.ofInt_mul]
theorem i32_neg (x : Int) : Int32.ofInt (w32 (-x)) = -Int32.ofInt x := by rw [i32_w, Int32.ofInt_neg]
theorem i64_add (x y : Int) : Int64.ofInt (w64 (x + y)) = Int64.ofInt x + Int64.ofInt y := by rw [i64_w, Int64.ofInt_add]
theorem i64_sub (x y : Int) : Int64.ofInt (w64 (x - y)) = Int64.ofInt x - Int64.ofInt y := by rw [i64_w, Int64.ofInt_sub]
theorem i64_mul (x y : Int) : Int64.ofInt (w64 (x * y)) = Int64.ofInt x * Int64.ofInt y := by rw [i64_w, Int64.ofInt_mul]
theorem i64_neg (x : Int) : Int64.ofInt (w64 (-x)) = -Int64.ofInt x := by rw [i64_w, Int64.ofInt_neg]
theorem i32_div {x y : Int} (hx : in32 x) (hy : in32 y) : Int32.ofInt (w32 (Int.tdiv x y)) = Int32.ofInt x / Int32.ofInt y := by
  apply Int32.toInt_inj.mp
  rw [i32_w, Int32.toInt_div, i32_to hx, i32_to hy, Int32.toInt_ofInt]
theorem i64_div {x y : Int} (hx : in64 x) (hy : in64 y) : Int64.ofInt (w64 (Int.tdiv x y)) = Int64.ofInt x / Int64.ofInt y := by
  apply Int64.toInt_inj.mp
  rw [i64_w, Int64.toInt_div, i64_to hx, i64_to hy, Int64.toInt_ofInt]
theorem i32_rem {x y : Int} (hx : in32 x) (hy : in32 y) : Int32.ofInt (Int.tmod x y) = Int32.ofInt x % Int32.ofInt y := by
  apply Int32.toInt_inj.mp
  have h1 : in32 (Int.tmod x y) := by
    have := i32_in (Int32.ofInt x % Int32.ofInt y)
    rwa [Int32.toInt_mod, i32_to hx, i32_to hy] at this
  rw [Int32.toInt_mod, i32_to hx, i32_to hy, i32_to h1]
theorem i64_rem {x y : Int} (hx : in64 x) (hy : in64 y) : Int64.ofInt (Int.tmod x y) = Int64.ofInt x % Int64.ofInt y := by
  apply Int64.toInt_inj.mp
  have h1 : in64 (Int.tmod x y) := by
    have := i64_in (Int64.ofInt x % Int64.ofInt y)
    rwa [Int64.toInt_mod, i64_to hx, i64_to hy] at this
  rw [Int64.toInt_mod, i64_to hx, i64_to hy, i64_to h1]
theorem i32_rem_in {x y : Int} (hx : in32 x) (hy : in32 y) : in32 (Int.tmod x y) := by
  have := i32_in (Int32.ofInt x % Int32.ofInt y)
  rwa [Int32.toInt_mod, i32_to hx, i32_to hy] at this
theorem i64_rem_in {x y : Int} (hx : in64 x) (hy : in64 y) : in64 (Int.tmod x y) := by
  have := i64_in (Int64.ofInt x % Int64.ofInt y)
  rwa [Int64.toInt_mod, i64_to hx, i64_to hy] at this
theorem i32_eq {x y : Int} (hx : in32 x) (hy : in32 y) : Int32.ofInt x = Int32.ofInt y ↔ x = y := by
  rw [← Int32.toInt_inj, i32_to hx, i32_to hy]
theorem i32_lt {x y : Int} (hx : in32 x) (hy : in32 y) : Int32.ofInt x < Int32.ofInt y ↔ x < y := by
  rw [Int32.lt_iff_toInt_lt, i32_to hx, i32_to hy]
theorem i32_le {x y : Int} (hx : in32 x) (hy : in32 y) : Int32.ofInt x ≤ Int32.ofInt y ↔ x ≤ y := by
  rw [Int32.le_iff_toInt_le, i32_to hx, i32_to hy]
theorem i64_eq {x y : Int} (hx : in64 x) (hy : in64 y) : Int64.ofInt x = Int64.ofInt y ↔ x = y := by
  rw [← Int64.toInt_inj, i64_to hx, i64_to hy]
theorem i64_lt {x y : Int} (hx : in64 x) (hy : in64 y) : Int64.ofInt x < Int64.ofInt y ↔ x < y := by
  rw [Int64.lt_iff_toInt_lt, i64_to hx, i64_to hy]
theorem i32_0 : Int32.ofInt 0 = 0 := rfl
theorem i32_ne0 {y : Int} (hy : in32 y) (h : y ≠ 0) : ¬ Int32.ofInt y = 0 := fun e => h ((i32_eq hy (by unfold in32; omega)).mp (e.trans i32_0.symm))
theorem i64_ne0 {y : Int} (hy : in64 y) (h : y ≠ 0) : ¬ Int64.ofInt y = 0 := fun e => h ((i64_eq hy (by unfold in64; omega)).mp e)
theorem i32_i2l {x : Int} (hx : in32 x) : (Int32.ofInt x).toInt64 = Int64.ofInt x := by
  apply Int64.toInt_inj.mp
  have h : in64 x := by unfold in32 at hx; unfold in64; omega
  rw [Int32.toInt_toInt64, i32_to hx, i64_to h]
theorem i64_l2i {x : Int} (hx : in64 x) : (Int64.ofInt x).toInt32 = Int32.ofInt (w32 x) := by
  apply Int32.toInt_inj.mp
  rw [Int64.toInt_toInt32, i64_to hx, i32_to (w32_in x), Int.bmod_def]
  unfold w32; omega
