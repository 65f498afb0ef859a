/-! each call keeps what holds -/
def scrG (r j : Nat) : Bool := scr r j || decide (r = 2 ∨ r = 20 ∨ r = 45 ∨ (47 ≤ r ∧ r ≤ 55) ∨ r = 78 ∨ r = 79 ∨ r = 81 ∨ r = 84 ∨ r = 85 ∨ r = 87 ∨ r = 119 ∨ r = 137 ∨ r = 138) || (r == 1 && (j == 1 || j == 16)) || (r == 86 && (j == 1 || j == 82 || j == 84 || j == 89))
def mskG (U : am_U) : am_U := fun r j => bif scrG r j then 0 else U r j
def agrG (U U' : am_U) : Prop := ∀ r j, scrG r j = false → U' r j = U r j
theorem agrG_msk {U U' : am_U} (h : agrG U U') : mskG U' = mskG U := by
  funext r j
  unfold mskG
  cases e : scrG r j with
  | true => rfl
  | false => exact h r j e
theorem agrG_row {U U' : am_U} (h : agrG U U') {r : Nat} (q : ∀ j, scrG r j = false) : U' r = U r := funext fun j => h r j (q j)
theorem agrG_of {U U' : am_U} (h : agr U U') : agrG U U' := fun r j e => h r j (by unfold scrG at e; cases q : scr r j with | false => rfl | true => rw [q] at e; simp at e)
theorem agrG_C {U U' : am_U} (h : agrC U U') : agrG U U' := fun r j e => h r j (by
  unfold scrC
  unfold scrG at e
  simp only [Bool.or_eq_false_iff, decide_eq_false_iff_not] at e ⊢
  exact ⟨e.1.1.1, by omega⟩)
theorem iTown_mskG {U : am_U} {b ns nh nl nw nd cl : Nat} : iTown (mskG U) b ns nh nl nw nd cl ↔ iTown U b ns nh nl nw nd cl := Iff.rfl
theorem iTown_agrG {U U' : am_U} {b ns nh nl nw nd cl : Nat} (h : agrG U U') (hi : iTown U b ns nh nl nw nd cl) : iTown U' b ns nh nl nw nd cl := by
  rw [← iTown_mskG] at hi ⊢
  rw [agrG_msk h]; exact hi
theorem iFolk_agrG {U U' : am_U} {n nh : Nat} (h : agrG U U') (hi : iFolk U n nh) : iFolk U' n nh := by
  unfold iFolk at hi ⊢
  rw [agrG_row h (r := 17) (fun _ => rfl), agrG_row h (r := 18) (fun _ => rfl), agrG_row h (r := 8) (fun _ => rfl), agrG_row h (r := 19) (fun _ => rfl), agrG_row h (r := 16) (fun _ => rfl), h 122 0 rfl, h 120 0 rfl, h 121 0 rfl]
  refine ⟨hi.1, hi.2.1, hi.2.2.1, fun p hp => ?_, hi.2.2.2.2⟩
  have : p < 16 := by have := hi.1.2.2; omega
  rw [h 123 p (by simp [scrG, scr]; omega), h 124 p (by simp [scrG, scr]; omega)]
  exact hi.2.2.2.1 p hp
theorem iHist_agrG {U U' : am_U} {nh k w g : Nat} (h : agrG U U') (hi : iHist U nh k w g) : iHist U' nh k w g := by
  obtain ⟨a1, a2, a3, a4⟩ := hi
  refine ⟨by rw [h 56 2 rfl, h 86 58 rfl]; exact a1, by rw [h 56 1 rfl]; exact a2, by rw [h 86 57 rfl]; exact a3, fun i hi => ?_⟩
  have b1 : (w + 20 - i) % 20 < 20 := Nat.mod_lt _ (by decide)
  have b2 : (g + (k - 1 - i)) % 20 < 20 := Nat.mod_lt _ (by decide)
  have h4 := a4 i hi
  generalize (w + 20 - i) % 20 = y at b1 h4
  generalize (g + (k - 1 - i)) % 20 = z at b2 h4
  refine hRow_cg (agrG_row h (r := 8) (fun _ => rfl)) (agrG_row h (r := 58 + y) (fun j => ?_)) (h 120 (2 + z) ?_) (h 121 (2 + z) ?_) (h 122 (2 + z) ?_) (fun p hp => ⟨h 123 _ ?_, h 124 _ ?_⟩) h4
  · unfold scrG
    rw [scr_hist (by omega)]
    simp; omega
  · simp [scrG, scr]; omega
  · simp [scrG, scr]; omega
  · simp [scrG, scr]; omega
  · simp [scrG, scr]; omega
  · simp [scrG, scr]; omega
theorem sq2_agrG {U U' : am_U} {b nl : Nat} (h : agrG U U') : sq2 U U' b nl := sq2_of ⟨agrG_row h (fun _ => rfl), agrG_row h (fun _ => rfl), agrG_row h (fun _ => rfl), agrG_row h (fun _ => rfl), agrG_row h (fun _ => rfl), agrG_row h (fun _ => rfl), agrG_row h (fun _ => rfl), agrG_row h (fun _ => rfl), agrG_row h (fun _ => rfl)⟩
/-- it holds, the town's sizes told -/
def InvP (V : am_U) (b ns nh nl nw nd cl n k w g : Nat) : Prop := iTown V b ns nh nl nw nd cl ∧ iFolk V n nh ∧ iMisc V ∧ iHist V nh k w g ∧ iPrt V ∧ iJdg V b nl nw n ∧ iCpl V n ∧ iPlc V b nl nw n nh ∧ iR2 V ∧ iTape V
theorem inv_P {V : am_U} {b ns nh nl nw nd cl n k w g : Nat} (h : InvP V b ns nh nl nw nd cl n k w g) : Inv V := ⟨b, ns, nh, nl, nw, nd, cl, n, k, w, g, h⟩
section KPS
variable {U U' : am_U} {b ns nh nl nw nd cl n k w g : Nat}
/-- the caches as they were -/
def sameC (U U' : am_U) : Prop := U' 20 = U 20 ∧ U' 45 5 = U 45 5 ∧ U' 47 = U 47 ∧ (∀ j, U' 48 j = U 48 j) ∧ U' 49 = U 49 ∧ U' 50 = U 50 ∧ U' 52 = U 52 ∧ U' 55 = U 55
theorem misc_agrC (h : agrC U U') (hi : iMisc U) : iMisc U' := by
  have e : iMisc (mskC U) ↔ iMisc U := Iff.rfl
  have e' : iMisc (mskC U') ↔ iMisc U' := Iff.rfl
  rw [← e', agrC_msk h, e]; exact hi
theorem r2_agrC (h : agrC U U') (hi : iR2 U) : iR2 U' := by
  have e : iR2 (mskC U) ↔ iR2 U := Iff.rfl
  have e' : iR2 (mskC U') ↔ iR2 U' := Iff.rfl
  rw [← e', agrC_msk h, e]; exact hi
theorem tape_agrC (h : agrC U U') (hi : iTape U) : iTape U' := by
  have e : iTape (mskC U) ↔ iTape U := Iff.rfl
  have e' : iTape (mskC U') ↔ iTape U' := Iff.rfl
  rw [← e', agrC_msk h, e]; exact hi
/-- a question that fills caches -/
theorem inv_agrC (h : agrC U U') (hI : InvP U b ns nh nl nw nd cl n k w g) (h1 : iPrt U') (h2 : iJdg U' b nl nw n) (h3 : iCpl U' n) (h4 : iPlc U' b nl nw n nh) : InvP U' b ns nh nl nw nd cl n k w g := by
  obtain ⟨i1, i2, i3, i4, i5, i6, i7, i8, i9, i10⟩ := hI
  have hG := agrG_C h
  exact ⟨iTown_agrG hG i1, iFolk_agrG hG i2, misc_agrC h i3, iHist_agrG hG i4, h1, h2, h3, h4, r2_agrC h i9, tape_agrC h i10⟩
/-- a question -/
theorem inv_agr (h : agr U U') (hI : InvP U b ns nh nl nw nd cl n k w g) : InvP U' b ns nh nl nw nd cl n k w g := by
  obtain ⟨i1, i2, i3, i4, i5, i6, i7, i8, i9, i10⟩ := id hI
  have r : ∀ {r : Nat}, (∀ j, scr r j = false) → U' r = U r := fun {r} q => funext fun j => h r j (q j)
  have sq : sq2 U U' b nl := sq2_agrG (agrG_of h)
  have e18 : U' 18 = U 18 := r (fun _ => rfl)
  refine inv_agrC (agrC_of h) hI ?_ (iJdg_n sq e18 (h 45 5 rfl) (r (fun _ => rfl)) i6) (iCpl_n sq e18 (h 131 0 rfl) (fun j _ => h 52 j rfl) (r (fun _ => rfl)) i7) (iPlc_n sq e18 (fun j _ => h 48 j rfl) (r (fun _ => rfl)) (r (fun _ => rfl)) i8)
  unfold iPrt
  rw [r (r := 20) (fun _ => rfl), r (r := 17) (fun _ => rfl)]; exact i5
end KPS
