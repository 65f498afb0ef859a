/-! the two towns: what holds between calls -/
/-- places that are written before they are read again -/
def scr (r j : Nat) : Bool :=
  if r = 11 ∨ (21 ≤ r ∧ r ≤ 44) ∨ r = 46 ∨ r = 80 ∨ r = 82 ∨ r = 83 ∨ (113 ≤ r ∧ r ≤ 118) ∨ (125 ≤ r ∧ r ≤ 130) ∨ (132 ≤ r ∧ r ≤ 136) then true
  else if r = 45 then j == 3
  else if r = 86 then !(j == 1 || j == 10 || j == 11 || j == 13 || j == 57 || j == 58 || j == 59 || j == 82 || j == 84 || j == 89)
  else if r = 120 ∨ r = 121 ∨ r = 122 then j == 1
  else if r = 123 ∨ r = 124 then decide (16 ≤ j ∧ j < 32)
  else if r = 131 then !(j == 0)
  else false
def msk (U : am_U) : am_U := fun r j => bif scr r j then 0 else U r j
/-- nothing but such places has changed -/
def agr (U U' : am_U) : Prop := ∀ r j, scr r j = false → U' r j = U r j
theorem agr_refl (U : am_U) : agr U U := fun _ _ _ => rfl
theorem agr_trans {U U1 U2 : am_U} (h1 : agr U U1) (h2 : agr U1 U2) : agr U U2 := fun r j h => by rw [h2 r j h, h1 r j h]
theorem agr_msk {U U' : am_U} (h : agr U U') : msk U' = msk U := by
  funext r j
  unfold msk
  cases e : scr r j with
  | true => rfl
  | false => exact h r j e
theorem agr_jk {U U' : am_U} (h : jk U U') : agr U U' := by
  intro r j e
  refine h r j (fun q => ?_) (fun q q2 => ?_)
  · subst q; simp [scr] at e
  · subst q; subst q2; simp [scr] at e
theorem agr_mk {U U' : am_U} (h : mk U U') : agr U U' := by
  intro r j e
  refine h r j (fun q => ?_) (fun q => ?_)
  · subst q; simp [scr] at e
  · subst q
    refine ⟨fun q => ?_, fun q => ?_, fun q => ?_⟩ <;> subst q <;> simp [scr] at e
noncomputable def pd (p : Prop) : Bool := @decide p (Classical.propDecidable p)
theorem pd_t {p : Prop} (h : p) : pd p = true := @decide_eq_true _ (Classical.propDecidable p) h
theorem pd_f {p : Prop} (h : ¬ p) : pd p = false := @decide_eq_false _ (Classical.propDecidable p) h
theorem pd_iff {p : Prop} : pd p = true ↔ p := by
  rcases Classical.em p with h | h
  · rw [pd_t h]; simp [h]
  · rw [pd_f h]; simp [h]
theorem pd_niff {p : Prop} : pd p = false ↔ ¬ p := by
  rcases Classical.em p with h | h
  · rw [pd_t h]; simp [h]
  · rw [pd_f h]; simp [h]
theorem pd_cg {p q : Prop} (h : p ↔ q) : pd p = pd q := by rw [propext h]
theorem cb_pd (p : Prop) : cb p = if pd p then 1 else 0 := by
  rcases Classical.em p with h | h
  · rw [pd_t h, cb_t h]; rfl
  · rw [pd_f h, cb_f h]; rfl
/-! names -/
def e8 (ls : List Nat) : Nat := ls.foldl (fun a c => 256 * a + (96 + c)) 0
def e5 (ls : List Nat) : Nat := ls.foldl (fun a c => 32 * a + c) 0
def nmR (x y : Int) : Prop := ∃ ls : List Nat, 1 ≤ ls.length ∧ ls.length ≤ 6 ∧ (∀ c, c ∈ ls → 1 ≤ c ∧ c ≤ 26) ∧ x = ((e5 ls * 32 ^ (6 - ls.length) : Nat) : Int) ∧ y = ((e8 ls : Nat) : Int)
/-! houses beside each other -/
def plc (st : Nat → Int) (h : Nat) : Nat := fb_ct (fun k => st k == st h) h
def nbP (st lf lt : Nat → Int) (nl x y : Nat) : Prop := x ≠ y ∧ ((st x = st y ∧ ((plc st x : Int) - plc st y = 1 ∨ (plc st x : Int) - plc st y = -1)) ∨ ∃ k, k < nl ∧ ((lf k = (x : Nat) ∧ lt k = (y : Nat)) ∨ (lf k = (y : Nat) ∧ lt k = (x : Nat))))
theorem nbP_sym {st lf lt : Nat → Int} {nl x y : Nat} (h : nbP st lf lt nl x y) : nbP st lf lt nl y x := by
  obtain ⟨h1, h2⟩ := h
  refine ⟨fun e => h1 e.symm, ?_⟩
  rcases h2 with ⟨a, b⟩ | ⟨k, hk, q⟩
  · left; exact ⟨a.symm, by omega⟩
  · right; exact ⟨k, hk, q.symm⟩
/-! the town as told: class and reference -/
def iTown (V : am_U) (b ns nh nl nw nd cl : Nat) : Prop :=
  (V 86 13 = (b : Nat) ∧ b < 2) ∧
  (V 3 0 = (ns : Nat) ∧ V 88 b = (ns : Nat) ∧ ns ≤ 4 ∧ ∀ s, s < ns → nmR (V 4 s) (V 89 (4 * b + s))) ∧
  (V 3 1 = (nh : Nat) ∧ V 90 b = (nh : Nat) ∧ nh ≤ 12 ∧ ∀ h, h < nh → nmR (V 5 h) (V 91 (12 * b + h)) ∧ (V 92 (12 * b + h) = V 6 h ∧ 0 ≤ V 6 h ∧ V 6 h < (ns : Nat)) ∧ (V 93 (12 * b + h) = V 8 h ∧ 1 ≤ V 8 h ∧ V 8 h ≤ 6) ∧ V 7 h = (plc (V 6) h : Nat) ∧ in32 (V 9 h) ∧ ∀ i, i < 32 → tb (V 9 h) i = pd (i < nh ∧ nbP (V 6) (fun k => V 95 (10 * b + k)) (fun k => V 96 (10 * b + k)) nl h i)) ∧
  (V 3 2 = (nl : Nat) ∧ V 94 b = (nl : Nat) ∧ nl ≤ 10 ∧ ∀ k, k < nl → (0 ≤ V 95 (10 * b + k) ∧ V 95 (10 * b + k) < (nh : Nat)) ∧ 0 ≤ V 96 (10 * b + k) ∧ V 96 (10 * b + k) < (nh : Nat)) ∧
  (V 3 3 = (nd : Nat) ∧ V 106 b = (nd : Nat) ∧ nd ≤ 16 ∧ (∀ k, k < nd → (1 ≤ V 109 (16 * b + k) ∧ V 109 (16 * b + k) ≤ 9999) ∧ (0 ≤ V 107 (16 * b + k) ∧ V 107 (16 * b + k) < (nh : Nat)) ∧ 0 ≤ V 108 (16 * b + k) ∧ V 108 (16 * b + k) < (nh : Nat)) ∧ ∀ h, h < nh → V 10 h = fb_si (fun k => (if V 108 (16 * b + k) = (h : Nat) then V 109 (16 * b + k) else 0) - (if V 107 (16 * b + k) = (h : Nat) then V 109 (16 * b + k) else 0)) nd) ∧
  (V 110 b = V 3 5 ∧ 0 ≤ V 3 5 ∧ V 3 5 ≤ 100) ∧
  (V 3 4 = (nw : Nat) ∧ V 100 b = (nw : Nat) ∧ nw ≤ 8 ∧ cl ≤ 1600 ∧ cdOk (V 15) V b cl ∧ ∀ l, l < nw → V 12 l = 8 + V 101 (8 * b + l) ∧ (V 101 (8 * b + l) = 0 ∨ V 101 (8 * b + l) = 1 ∨ V 101 (8 * b + l) = 2) ∧ ∃ f m : Nat, V 13 l = (f : Nat) ∧ V 14 l = ((f + m : Nat) : Int) ∧ V 102 (8 * b + l) = (f : Nat) ∧ V 103 (8 * b + l) = ((f + m : Nat) : Int) ∧ f + m ≤ cl ∧ wfT (V 15) f m) ∧
  ((V 104 b = -1 ∧ ∃ f : Nat, f ≤ 1600 ∧ V 13 8 = (f : Nat) ∧ V 14 8 = (f : Nat)) ∨ ∃ f m : Nat, V 104 b = (f : Nat) ∧ V 105 b = ((f + m : Nat) : Int) ∧ V 13 8 = (f : Nat) ∧ V 14 8 = ((f + m : Nat) : Int) ∧ 0 < m ∧ f + m ≤ cl ∧ wfT (V 15) f m)
theorem iTown_msk {U : am_U} {b ns nh nl nw nd cl : Nat} : iTown (msk U) b ns nh nl nw nd cl ↔ iTown U b ns nh nl nw nd cl := Iff.rfl
theorem iTown_agr {U U' : am_U} {b ns nh nl nw nd cl : Nat} (h : agr U U') (hi : iTown U b ns nh nl nw nd cl) : iTown U' b ns nh nl nw nd cl := by
  rw [← iTown_msk] at hi ⊢
  rw [agr_msk h]; exact hi
/-! the people -/
def pplOk (num home rooms : Nat → Int) (n nh : Nat) : Prop := (∀ p, p < n → num p ≠ 0 ∧ (-999999999 ≤ num p ∧ num p ≤ 999999999) ∧ -1 ≤ home p ∧ home p < (nh : Nat)) ∧ (∀ p q, p < q → q < n → num p ≠ num q) ∧ ∀ h, h < nh → ((fb_ct (fun p => home p == (h : Nat)) n : Nat) : Int) ≤ rooms h
def iFolk (V : am_U) (n nh : Nat) : Prop :=
  (V 16 0 = (n : Nat) ∧ V 122 0 = (n : Nat) ∧ n ≤ 16) ∧ (V 120 0 = V 16 1 ∧ 0 ≤ V 16 1 ∧ V 16 1 ≤ 9999) ∧ (V 121 0 = V 16 2 ∧ (V 16 2 = 0 ∨ V 16 2 = 1)) ∧
  (∀ p, p < n → V 123 p = V 17 p ∧ V 124 p = V 18 p) ∧ pplOk (V 17) (V 18) (V 8) n nh ∧ DwOk n (V 18) (V 19)
theorem iFolk_agr {U U' : am_U} {n nh : Nat} (h : agr U U') (hi : iFolk U n nh) : iFolk U' n nh := by
  have r : ∀ r, (∀ j, scr r j = false) → U' r = U r := fun r q => funext fun j => h r j (q j)
  unfold iFolk at hi ⊢
  rw [r 17 (fun _ => rfl), r 18 (fun _ => rfl), r 8 (fun _ => rfl), r 19 (fun _ => rfl), r 16 (fun _ => rfl), h 122 0 rfl, h 120 0 rfl, h 121 0 rfl]
  refine ⟨hi.1, hi.2.1, hi.2.2.1, fun p hp => ?_, hi.2.2.2.2⟩
  have : p < 16 := by have := hi.1.2.2; omega
  rw [h 123 p (by simp [scr]; omega), h 124 p (by simp [scr]; omega)]
  exact hi.2.2.2.1 p hp
