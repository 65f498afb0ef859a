/-! letters of names -/
theorem sh_64 : ∀ n, n < 64 → (((Int32.ofInt (n : Nat)).toInt64 &&& 63).toBitVec.smod 64).toNat = n := by decide +kernel
theorem lshr_n {x n : Nat} (hx : x < 9223372036854775808) (hn : n < 64) : am_lshr (x : Nat) (n : Nat) = ((x / 2 ^ n : Nat) : Int) := by
  unfold am_lshr
  have e : (Int64.ofInt ((x : Nat) : Int) >>> ((Int32.ofInt ((n : Nat) : Int)).toInt64 &&& 63)).toBitVec = (Int64.ofInt ((x : Nat) : Int)).toBitVec.sshiftRight n := by
    rw [Int64.toBitVec_shiftRight]
    show (Int64.ofInt ((x : Nat) : Int)).toBitVec.sshiftRight (((Int32.ofInt ((n : Nat) : Int)).toInt64 &&& 63).toBitVec.smod 64).toNat = _
    rw [sh_64 n hn]
  have e2 : (Int64.ofInt ((x : Nat) : Int) >>> ((Int32.ofInt ((n : Nat) : Int)).toInt64 &&& 63)).toInt = ((Int64.ofInt ((x : Nat) : Int)).toBitVec.sshiftRight n).toInt := by
    rw [← e]; rfl
  have e3 : (Int64.ofInt ((x : Nat) : Int)).toBitVec.toInt = ((x : Nat) : Int) := i64_to (x := ((x : Nat) : Int)) (by unfold in64; omega)
  rw [e2, BitVec.toInt_sshiftRight, e3, Int.shiftRight_eq_div_pow]
  rfl
theorem land_255 {x : Nat} (hx : x < 9223372036854775808) : am_land (x : Nat) 255 = ((x % 256 : Nat) : Int) := by
  unfold am_land
  have e : (Int64.ofInt ((x : Nat) : Int) &&& Int64.ofInt 255).toBitVec = BitVec.ofNat 64 (x % 256) := by
    rw [Int64.toBitVec_and, Int64.toBitVec_ofInt, Int64.toBitVec_ofInt]
    apply BitVec.eq_of_toNat_eq
    rw [BitVec.toNat_and, BitVec.toNat_ofInt, BitVec.toNat_ofInt, BitVec.toNat_ofNat]
    have e1 : (((x : Nat) : Int) % ((2 ^ 64 : Nat) : Int)).toNat = x := by
      rw [← Int.natCast_emod, Int.toNat_natCast, Nat.mod_eq_of_lt (by omega)]
    have e2 : ((255 : Int) % ((2 ^ 64 : Nat) : Int)).toNat = 2 ^ 8 - 1 := by decide
    rw [e1, e2, Nat.and_two_pow_sub_one_eq_mod, Nat.mod_eq_of_lt (a := x % 256) (by omega)]
  have e3 : (Int64.ofInt ((x : Nat) : Int) &&& Int64.ofInt 255).toInt = (BitVec.ofNat 64 (x % 256)).toInt := by
    rw [← e]; rfl
  have e4 : (BitVec.ofNat 64 (x % 256)).toNat = x % 256 := by rw [BitVec.toNat_ofNat, Nat.mod_eq_of_lt (by omega)]
  rw [e3, BitVec.toInt_eq_toNat_of_lt (by rw [e4]; omega), e4]
theorem let_D {x n : Nat} (hx : x < 2147483648) (hn : n < 32) : am_and (am_shr (x : Nat) (n : Nat)) 31 = ((x / 2 ^ n % 32 : Nat) : Int) := by
  rw [shr_pos (by omega) hn]
  have e : u32 (am_and (am_ushr (x : Nat) (n : Nat)) 31) = x / 2 ^ n % 32 := by
    rw [u32_and, u32_ushr _ hn, show u32 31 = 2 ^ 5 - 1 from rfl, Nat.and_two_pow_sub_one_eq_mod]
    have : u32 ((x : Nat) : Int) = x := by unfold u32; omega
    rw [this]
  have h5 : x / 2 ^ n % 32 < 32 := Nat.mod_lt _ (by decide)
  exact u32_inv (and_in _ _) e (by omega)
def nmL (xn yn L : Nat) (k : Nat) : Prop := (k < L → xn / 2 ^ (25 - 5 * k) % 32 + 96 = yn / 2 ^ (8 * (L - 1 - k)) % 256) ∧ (L ≤ k → xn / 2 ^ (25 - 5 * k) % 32 = 0)
def vF (B : Nat) (g : Nat → Nat) (a : Nat) (ls : List Nat) : Nat := ls.foldl (fun a c => B * a + g c) a
theorem vF_div {B : Nat} {g : Nat → Nat} (hB : 0 < B) : ∀ (ls : List Nat) (a : Nat), (∀ c, c ∈ ls → g c < B) → vF B g a ls / B ^ ls.length = a
  | [], a, _ => by simp [vF]
  | c :: t, a, h => by
    have h1 := vF_div hB t (B * a + g c) (fun x hx => h x (List.mem_cons_of_mem _ hx))
    have h2 := h c (List.mem_cons_self ..)
    show vF B g (B * a + g c) t / B ^ (t.length + 1) = a
    rw [Nat.pow_succ, ← Nat.div_div_eq_div_mul, h1, Nat.mul_add_div hB, Nat.div_eq_of_lt h2, Nat.add_zero]
theorem vF_at {B : Nat} {g : Nat → Nat} (hB : 0 < B) : ∀ (ls : List Nat) (a k : Nat) (hk : k < ls.length), (∀ c, c ∈ ls → g c < B) → vF B g a ls / B ^ (ls.length - 1 - k) % B = g ls[k]
  | [], _, _, hk, _ => absurd hk (by simp)
  | c :: t, a, 0, _, h => by
    have h1 := vF_div hB t (B * a + g c) (fun x hx => h x (List.mem_cons_of_mem _ hx))
    have h2 := h c (List.mem_cons_self ..)
    show vF B g (B * a + g c) t / B ^ (t.length + 1 - 1 - 0) % B = g c
    rw [Nat.add_sub_cancel, Nat.sub_zero, h1, Nat.mul_add_mod, Nat.mod_eq_of_lt h2]
  | c :: t, a, k + 1, hk, h => by
    have hk' : k < t.length := by simpa using hk
    have h1 := vF_at hB t (B * a + g c) k hk' (fun x hx => h x (List.mem_cons_of_mem _ hx))
    show vF B g (B * a + g c) t / B ^ (t.length + 1 - 1 - (k + 1)) % B = g t[k]
    rw [show t.length + 1 - 1 - (k + 1) = t.length - 1 - k from by omega]
    exact h1
theorem vF_lt {B : Nat} {g : Nat → Nat} (hB : 0 < B) (ls : List Nat) (h : ∀ c, c ∈ ls → g c < B) : vF B g 0 ls < B ^ ls.length := by
  have h1 := vF_div hB ls 0 h
  have hp : 0 < B ^ ls.length := Nat.pow_pos hB
  exact (Nat.div_eq_zero_iff_lt hp).mp h1
theorem nm_let {x y : Int} (h : nmR x y) : ∃ xn yn L : Nat, x = (xn : Nat) ∧ xn < 2147483648 ∧ y = (yn : Nat) ∧ 1 ≤ L ∧ L ≤ 6 ∧ 256 ^ (L - 1) ≤ yn ∧ yn < 256 ^ L ∧ ∀ k, k < 6 → nmL xn yn L k := by
  obtain ⟨ls, h1, h2, h3, rfl, rfl⟩ := h
  have g5 : ∀ c, c ∈ ls → (fun c => c) c < 32 := fun c hc => by have := h3 c hc; show c < 32; omega
  have g8 : ∀ c, c ∈ ls → (fun c => 96 + c) c < 256 := fun c hc => by have := h3 c hc; show 96 + c < 256; omega
  have l5 := vF_lt (B := 32) (g := fun c => c) (by decide) ls g5
  have l8 := vF_lt (B := 256) (g := fun c => 96 + c) (by decide) ls g8
  have a5 := fun k hk => vF_at (B := 32) (g := fun c => c) (by decide) ls 0 k hk g5
  have a8 := fun k hk => vF_at (B := 256) (g := fun c => 96 + c) (by decide) ls 0 k hk g8
  have E5 : e5 ls = vF 32 (fun c => c) 0 ls := rfl
  have E8 : e8 ls = vF 256 (fun c => 96 + c) 0 ls := rfl
  rw [E5, E8]
  have q32 : ∀ k, k < 6 → 2 ^ (25 - 5 * k) = 32 ^ (5 - k) := fun k hk => by
    rw [show 25 - 5 * k = 5 * (5 - k) from by omega, Nat.pow_mul]
  have q256 : ∀ k, 2 ^ (8 * k) = 256 ^ k := fun k => by rw [Nat.pow_mul]
  generalize vF 32 (fun c => c) 0 ls = v at l5 a5
  generalize hw : vF 256 (fun c => 96 + c) 0 ls = w at l8 a8
  refine ⟨v * 32 ^ (6 - ls.length), w, ls.length, rfl, ?_, rfl, h1, h2, ?_, l8, fun k hk => ⟨fun hl => ?_, fun hl => ?_⟩⟩
  · have z : v * 32 ^ (6 - ls.length) < 32 ^ ls.length * 32 ^ (6 - ls.length) := Nat.mul_lt_mul_of_pos_right l5 (Nat.pow_pos (by decide))
    rw [← Nat.pow_add, show ls.length + (6 - ls.length) = 6 from by omega] at z
    exact Nat.lt_of_lt_of_le z (by decide)
  · have z := a8 0 (by omega)
    rw [Nat.sub_zero] at z
    have hp : 0 < 256 ^ (ls.length - 1) := Nat.pow_pos (by decide)
    rcases Nat.lt_or_ge w (256 ^ (ls.length - 1)) with c | c
    · rw [Nat.div_eq_of_lt c] at z; simp at z; omega
    · exact c
  · rw [q32 k hk, q256]
    rw [show 5 - k = (ls.length - 1 - k) + (6 - ls.length) from by omega, Nat.pow_add, Nat.mul_div_mul_right _ _ (Nat.pow_pos (by decide)), a5 k hl, a8 k hl, Nat.add_comm]
  · rw [q32 k hk, show 6 - ls.length = (k - ls.length + 1) + (5 - k) from by omega, Nat.pow_add, ← Nat.mul_assoc, Nat.mul_div_cancel _ (Nat.pow_pos (by decide)), Nat.pow_succ, ← Nat.mul_assoc, Nat.mul_mod_left]
