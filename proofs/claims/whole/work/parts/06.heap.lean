/-! the small machine's cells beside the large one's -/
def am_tag : FieldType → Option Nat
  | .int => some 0
  | .long => some 1
  | .boolean => some 3
  | .object _ => some 2
  | .array _ => some 2
  | _ => none
def am_okt (t : Nat) (x : Int) : Prop := match t with
  | 1 => in64 x
  | 2 => True
  | 3 => x = 0 ∨ x = 1
  | _ => in32 x
def am_oka (so : Nat) (x : Int) : Prop := match so with
  | 101 => in64 x
  | 102 => -128 ≤ x ∧ x < 128
  | 103 => x = 0 ∨ x = 1
  | 104 => 0 < x
  | _ => in32 x
def am_aty (so : Nat) : FieldType := match so with
  | 101 => .long
  | 102 => .byte
  | 103 => .boolean
  | 104 => .array .int
  | _ => .int
def am_arr (ad : Int → Nat) (so : Nat) (f : Nat → Int) : (Nat → Int32) ⊕ (Nat → Int64) ⊕ (Nat → UInt32) ⊕ (Nat → UInt64) ⊕ (Nat → Option Nat) := match so with
  | 101 => .inr (.inl (fun j => Int64.ofInt (f j)))
  | 104 => .inr (.inr (.inr (.inr (fun j => if f j = 0 then none else some (ad (f j))))))
  | _ => .inl (fun j => Int32.ofInt (f j))
def am_ent (ad : Int → Nat) (cA : Nat → ClassId) (tg : Nat → Nat → Nat) (q : Nat × Nat) (f : Nat → Int) : va_E :=
  if q.1 < 100 then .inr (q.1, (List.range q.2).map (fun j => am_up ad (am_tv (tg q.1 j) (f j)))) else .inl (cA q.1, q.2, am_arr ad q.1 f)
/-- so many cells are ahead of number r; and back -/
def am_ix (r : Nat) : Nat := r - 1 - ((r - 29) - (r - 31))
def am_iy (i : Nat) : Nat := i + 1 + 2 * ((i - 27) - (i - 28))
/-- a number that stands for a cell -/
def am_rl (r : Nat) : Prop := 0 < r ∧ r ≠ 29 ∧ r ≠ 30
theorem am_iy_ix {r : Nat} (h : am_rl r) : am_iy (am_ix r) = r := by
  unfold am_rl at h
  unfold am_iy am_ix
  omega
theorem am_ix_iy (i : Nat) : am_ix (am_iy i) = i := by
  unfold am_iy am_ix
  omega
theorem am_ix_le {a b : Nat} (h : a ≤ b) : am_ix a ≤ am_ix b := by
  unfold am_ix
  omega
theorem am_ix_lt {a b : Nat} (ha : am_rl a) (hb : am_rl b) (h : a < b) : am_ix a < am_ix b := by
  unfold am_rl at ha hb
  unfold am_ix
  omega
theorem am_ix_hi {a : Nat} (h : 31 ≤ a) : am_ix a = a - 3 := by
  unfold am_ix
  omega
theorem am_rl_hi {a : Nat} (h : 31 ≤ a) : am_rl a := by
  unfold am_rl
  omega
def am_ws (base : Nat) (ad : Int → Nat) (cA : Nat → ClassId) (tg : Nat → Nat → Nat) (M : am_M) : va_W :=
  (List.range (am_ix M.1.length)).map (fun i => (base + i, am_ent ad cA tg (M.1.getD (am_iy i) (0, 0)) (M.2 (am_iy i))))
def am_tys (cA : Nat → ClassId) : List (ClassId × FieldType) := [(cA 100, .int), (cA 101, .long), (cA 102, .byte), (cA 103, .boolean), (cA 104, .array .int)]
/-- what a class's table says, once for each class -/
def am_Cl (cl : List vw_C) (tg : Nat → Nat → Nat) (tb : List Cond) : Prop := ∀ (ci : Nat) (C : String) (T : u_T) (N : Nat), cl[ci]? = some (C, T, N) → ci < 77 ∧ (∀ w ∈ u_ws C T N, w ∈ tb) ∧ (∃ ty : Nat → FieldType, ∀ k, k < N → parseFieldDescriptor (T k).2.2.1 = some (ty k) ∧ am_tag (ty k) = some (tg ci k)) ∧ (∀ a, a < N → ∀ b, b < N → a ≠ b → (T a).2.1 ≠ (T b).2.1)
def am_okM (cl : List vw_C) (tg : Nat → Nat → Nat) (M : am_M) : Prop := ∀ (r so n : Nat), M.1[r]? = some (so, n) → 0 < r →
  (so < 100 → so ≠ 77 → (∃ (C : String) (T : u_T), cl[so]? = some (C, T, n)) ∧ ∀ j, j < n → am_okt (tg so j) (M.2 r j)) ∧ (100 ≤ so → so < 105 ∧ n < 2147483648 ∧ ∀ j, j < n → am_oka so (M.2 r j)) ∧ (so ≠ 77 → am_rl r)
def am_Ad (base : Nat) (ad : Int → Nat) : Prop := ∀ k : Nat, ad ((k : Int) + 1) = base + am_ix (k + 1)
def am_Wd (base : Nat) (ad : Int → Nat) (cA : Nat → ClassId) (cl : List vw_C) (tg : Nat → Nat → Nat) (D : va_G) (M : am_M) (H : Heap) : Prop :=
  H.size = base + am_ix M.1.length ∧ am_rl M.1.length ∧ va_P D cl (am_ws base ad cA tg M) H ∧ am_okM cl tg M
abbrev am_A (base : Nat) : Nat → Prop := fun q => base ≤ q
section AMH
variable {base : Nat} {ad : Int → Nat} {cA : Nat → ClassId} {cl : List vw_C} {tg : Nat → Nat → Nat} {D : va_G} {M : am_M} {tb : List Cond}
theorem am_Ad.at (h : am_Ad base ad) {r : Nat} (hr : 0 < r) : ad (r : Int) = base + am_ix r := by
  have := h (r - 1)
  rw [show r - 1 + 1 = r by omega] at this
  rw [← this]
  congr 1
  omega
theorem am_Ad.at' (h : am_Ad base ad) {r : Int} (hr : 0 < r) : ad r = base + am_ix r.toNat := by
  have := h.at (r := r.toNat) (by omega)
  rw [← this]
  congr 1
  omega
theorem am_ws_get (had : am_Ad base ad) {r : Nat} {q : Nat × Nat} (hr : am_rl r) (hL : am_rl M.1.length) (h : M.1[r]? = some q) : (am_ws base ad cA tg M)[am_ix r]? = some (ad (r : Int), am_ent ad cA tg q (M.2 r)) := by
  have hl := (List.getElem?_eq_some_iff.mp h).1
  unfold am_ws
  rw [List.getElem?_map, List.getElem?_range (am_ix_lt hr hL hl)]
  simp only [Option.map_some, am_iy_ix hr, had.at hr.1]
  rw [List.getD_eq_getElem?_getD, h]
  rfl
theorem am_ws_set (had : am_Ad base ad) {r : Nat} {q : Nat × Nat} (hr : am_rl r) (hL : am_rl M.1.length) (h : M.1[r]? = some q) {V : Nat → Nat → Int} (hV : ∀ r', r' ≠ r → V r' = M.2 r') :
    am_ws base ad cA tg (M.1, V) = (am_ws base ad cA tg M).set (am_ix r) (ad (r : Int), am_ent ad cA tg q (V r)) := by
  have hl := (List.getElem?_eq_some_iff.mp h).1
  apply List.ext_getElem?
  intro i
  by_cases e : i = am_ix r
  · subst e
    rw [List.getElem?_set_self (by unfold am_ws; rw [List.length_map, List.length_range]; exact am_ix_lt hr hL hl)]
    exact am_ws_get (M := (M.1, V)) had hr hL h
  · rw [List.getElem?_set_ne (fun q => e q.symm)]
    unfold am_ws
    rw [List.getElem?_map, List.getElem?_map]
    show Option.map _ (List.range (am_ix M.1.length))[i]? = Option.map _ (List.range (am_ix M.1.length))[i]?
    cases hq : (List.range (am_ix M.1.length))[i]? with
    | none => rfl
    | some a =>
      obtain ⟨_, ea⟩ := List.getElem?_eq_some_iff.mp hq
      rw [List.getElem_range] at ea
      simp only [Option.map_some]
      rw [hV (am_iy a) (fun q => e (by rw [← q, am_ix_iy]; exact ea))]
theorem am_ws_D : va_D (am_A base) (am_ws base ad cA tg M) := by
  refine ⟨fun i j p q hi hj hpq => ?_, fun k q hk => ?_⟩
  · unfold am_ws at hi hj
    rw [List.getElem?_map] at hi hj
    obtain ⟨a, ha, rfl⟩ := Option.map_eq_some_iff.mp hi
    obtain ⟨b, hb, rfl⟩ := Option.map_eq_some_iff.mp hj
    have e1 := List.getElem?_eq_some_iff.mp ha
    have e2 := List.getElem?_eq_some_iff.mp hb
    obtain ⟨_, e1⟩ := e1
    obtain ⟨_, e2⟩ := e2
    rw [List.getElem_range] at e1 e2
    have : base + a = base + b := hpq
    omega
  · unfold am_ws at hk
    rw [List.getElem?_map] at hk
    obtain ⟨a, ha, rfl⟩ := Option.map_eq_some_iff.mp hk
    show base ≤ base + a
    omega
end AMH
