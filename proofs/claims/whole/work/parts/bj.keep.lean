/-! what is kept when the town is told anew -/
/-- a town by its rows, and who stands beside whom -/
def sq2 (U U' : am_U) (b nl : Nat) : Prop := (U' 17 = U 17 ∧ U' 8 = U 8 ∧ U' 6 = U 6 ∧ U' 12 = U 12 ∧ U' 13 = U 13 ∧ U' 14 = U 14 ∧ U' 15 = U 15) ∧ ∀ x y, nbU U' b nl x y ↔ nbU U b nl x y
section SQ2
variable {U U' : am_U} {b nl nw n nh : Nat}
theorem sq2_of (h : stq U U') : sq2 U U' b nl := by
  obtain ⟨h17, h8, h6, h12, h13, h14, h15, h95, h96⟩ := h
  refine ⟨⟨h17, h8, h6, h12, h13, h14, h15⟩, fun x y => ?_⟩
  unfold nbU
  rw [h6, h95, h96]
theorem hTS_n (h : sq2 U U' b nl) (hm : Nat → Int) (l me : Nat) (ot : Int) : hTS U' n hm l me ot ↔ hTS U n hm l me ot := by
  obtain ⟨⟨h17, h8, h6, h12, h13, h14, h15⟩, -⟩ := h
  have e : envS U' n hm me ot = envS U n hm me ot := by
    funext c; unfold envS; rw [h17, h8, h6]
  unfold hTS
  rw [e, h15, h13, h14]
theorem brS_n (h : sq2 U U' b nl) (hm : Nat → Int) (l me i : Nat) : brS U' b nl n hm l me i ↔ brS U b nl n hm l me i := by
  have e := fun ot => hTS_n (n := n) h hm l me ot
  obtain ⟨⟨h17, h8, h6, h12, h13, h14, h15⟩, hn⟩ := h
  unfold brS metS
  rw [e, e, h12, h17, hn]
theorem lawP_n (h : sq2 U U' b nl) (H : Nat → Int) : lawP U' b nl nw n H ↔ lawP U b nl nw n H := by
  unfold lawP
  simp only [brS_n h]
theorem bsP_n (h : sq2 U U' b nl) {m : Nat} (hm : Nat → Int) (w : Nat) : bsP U' b nl nw n nh m hm w = bsP U b nl nw n nh m hm w := by
  have e : okPl U' b nl nw n nh m hm = okPl U b nl nw n nh m hm := funext fun w => by
    unfold okPl
    rw [propext (lawP_n h _), h.1.2.1]
  unfold bsP
  rw [e]
theorem alW_n (h : sq2 U U' b nl) (h18 : U' 18 = U 18) : alW U' n = alW U n := by
  funext x y
  unfold alW wdP wdT
  rw [h18, h.1.1, propext (hTS_n h (U 18) 8 x (U 17 y)), propext (hTS_n h (U 18) 8 y (U 17 x))]
theorem iJdg_n (h : sq2 U U' b nl) (h18 : U' 18 = U 18) (h45 : U' 45 5 = U 45 5) (h47 : U' 47 = U 47) (hi : iJdg U b nl nw n) : iJdg U' b nl nw n := by
  unfold iJdg brT at hi ⊢
  rw [h45, h47, h18]
  rcases hi with hi | ⟨h1, h2⟩
  · exact Or.inl hi
  · refine Or.inr ⟨h1, fun l hl me hme hlt => ?_⟩
    obtain ⟨a1, a2⟩ := h2 l hl me hme hlt
    refine ⟨a1, fun i hi => ?_⟩
    rw [a2 i hi]
    apply pd_cg
    rw [brS_n h]
theorem iCpl_n (h : sq2 U U' b nl) (h18 : U' 18 = U 18) (h131 : U' 131 0 = U 131 0) (h52 : ∀ j, j = 7 ∨ j = 8 → U' 52 j = U 52 j) (h55 : U' 55 = U 55) (hi : iCpl U n) : iCpl U' n := by
  unfold iCpl cplR at hi ⊢
  rw [h131, h52 7 (by omega), h52 8 (by omega), h55, alW_n h h18]; exact hi
theorem iPlc_n (h : sq2 U U' b nl) (h18 : U' 18 = U 18) (h48 : ∀ j, j = 6 ∨ j = 8 ∨ j = 9 → U' 48 j = U 48 j) (h49 : U' 49 = U 49) (h50 : U' 50 = U 50) (hi : iPlc U b nl nw n nh) : iPlc U' b nl nw n nh := by
  unfold iPlc plcR plS at hi ⊢
  rw [h18, h48 6 (by omega), h48 8 (by omega), h48 9 (by omega), h49, h50, bsP_n h]; exact hi
end SQ2
/-! one town or another -/
/-- places of the class's rows that count -/
def cwd (r : Nat) : Nat := if r = 4 then 4 else if r = 12 then 8 else if r = 13 ∨ r = 14 then 9 else 12
/-- two memories tell the same town -/
def tEq (W F : am_U) (b cl : Nat) : Prop := (∀ j, j ≤ 5 → F 3 j = W 3 j) ∧ (∀ r j, 4 ≤ r → r ≤ 14 → r ≠ 11 → j < cwd r → F r j = W r j) ∧ (∀ j, j < cl → F 15 j = W 15 j) ∧ ∀ r j, 88 ≤ r → r ≤ 110 → wdt r * b ≤ j → j < wdt r * b + wdt r → F r j = W r j
section TEQ
variable {W F : am_U} {b ns nh nl nw nd cl : Nat}
theorem nb_cg2 {st st' lf lf' lt lt' : Nat → Int} {x y : Nat} (hst : ∀ k, k < nh → st k = st' k) (hl : ∀ k, k < nl → lf' k = lf k ∧ lt' k = lt k) (hx : x < nh) (hy : y < nh) : nbP st' lf' lt' nl x y ↔ nbP st lf lt nl x y := by
  unfold nbP
  rw [hst x hx, hst y hy, plc_cg hst hx, plc_cg hst hy]
  constructor
  · rintro ⟨h1, h2 | ⟨k, hk, h2⟩⟩
    · exact ⟨h1, Or.inl h2⟩
    · rw [(hl k hk).1, (hl k hk).2] at h2
      exact ⟨h1, Or.inr ⟨k, hk, h2⟩⟩
  · rintro ⟨h1, h2 | ⟨k, hk, h2⟩⟩
    · exact ⟨h1, Or.inl h2⟩
    · exact ⟨h1, Or.inr ⟨k, hk, by rw [(hl k hk).1, (hl k hk).2]; exact h2⟩⟩
theorem iTown_tEq (hb : b < 2) (hF13 : F 86 13 = (b : Nat)) (hS : gSt W b ns) (hH : gHs W b ns nh nl) (hL : gLn W b nh nl) (hD : gDb W b nh nd) (hFr : gFr W b) (hLw : gLw W b nw cl) (hWd : (W 104 b = -1 ∧ ∃ f : Nat, f ≤ 1600 ∧ W 13 8 = (f : Nat) ∧ W 14 8 = (f : Nat)) ∨ ∃ f m : Nat, W 104 b = (f : Nat) ∧ W 105 b = ((f + m : Nat) : Int) ∧ W 13 8 = (f : Nat) ∧ W 14 8 = ((f + m : Nat) : Int) ∧ 0 < m ∧ f + m ≤ cl ∧ wfT (W 15) f m) (hcl : cl ≤ 1600) (hcd : cdOk (F 15) F b cl) (hE : tEq W F b cl) : iTown F b ns nh nl nw nd cl := by
  obtain ⟨e3, eC, e15, eR⟩ := hE
  have one : ∀ r, r = 88 ∨ r = 90 ∨ r = 94 ∨ r = 100 ∨ r = 104 ∨ r = 105 ∨ r = 106 ∨ r = 110 → F r b = W r b := fun r hr => by
    have w1 : wdt r = 1 := by
      rcases hr with rfl | rfl | rfl | rfl | rfl | rfl | rfl | rfl <;> rfl
    exact eR r b (by omega) (by omega) (by rw [w1]; omega) (by rw [w1]; omega)
  have at12 : ∀ r h, r = 91 ∨ r = 92 ∨ r = 93 → h < 12 → F r (12 * b + h) = W r (12 * b + h) := fun r h hr hh => by
    have w1 : wdt r = 12 := by rcases hr with rfl | rfl | rfl <;> rfl
    exact eR r _ (by omega) (by omega) (by rw [w1]; omega) (by rw [w1]; omega)
  have at10 : ∀ r h, r = 95 ∨ r = 96 → h < 10 → F r (10 * b + h) = W r (10 * b + h) := fun r h hr hh => by
    have w1 : wdt r = 10 := by rcases hr with rfl | rfl <;> rfl
    exact eR r _ (by omega) (by omega) (by rw [w1]; omega) (by rw [w1]; omega)
  have at16 : ∀ r h, r = 107 ∨ r = 108 ∨ r = 109 → h < 16 → F r (16 * b + h) = W r (16 * b + h) := fun r h hr hh => by
    have w1 : wdt r = 16 := by rcases hr with rfl | rfl | rfl <;> rfl
    exact eR r _ (by omega) (by omega) (by rw [w1]; omega) (by rw [w1]; omega)
  have at8 : ∀ r h, r = 101 ∨ r = 102 ∨ r = 103 → h < 8 → F r (8 * b + h) = W r (8 * b + h) := fun r h hr hh => by
    have w1 : wdt r = 8 := by rcases hr with rfl | rfl | rfl <;> rfl
    exact eR r _ (by omega) (by omega) (by rw [w1]; omega) (by rw [w1]; omega)
  have at4 : ∀ h, h < 4 → F 89 (4 * b + h) = W 89 (4 * b + h) := fun h hh => eR 89 _ (by omega) (by omega) (by show 4 * b ≤ _; omega) (by show _ < 4 * b + 4; omega)
  have c12 : ∀ r h, 5 ≤ r → r ≤ 10 → h < 12 → F r h = W r h := fun r h q1 q2 hh => eC r h (by omega) (by omega) (by omega) (by
    unfold cwd
    rw [if_neg (by omega), if_neg (by omega), if_neg (by omega)]; exact hh)
  have cd15 : ∀ f m, f + m ≤ cl → wfT (W 15) f m → wfT (F 15) f m := fun f m h hw => wfT_same (fun j hj => e15 (f + j) (by omega)) hw
  have s3 := hS.2.2.1
  have h3' := hH.2.2.1
  refine ⟨⟨hF13, hb⟩, ⟨by rw [e3 0 (by omega)]; exact hS.1, by rw [one 88 (by omega)]; exact hS.2.1, s3, fun s hs => ?_⟩, ⟨by rw [e3 1 (by omega)]; exact hH.1, by rw [one 90 (by omega)]; exact hH.2.1, h3', fun h hh => ?_⟩, ⟨by rw [e3 2 (by omega)]; exact hL.1, by rw [one 94 (by omega)]; exact hL.2.1, hL.2.2.1, fun k hk => ?_⟩, ⟨by rw [e3 3 (by omega)]; exact hD.1, by rw [one 106 (by omega)]; exact hD.2.1, hD.2.2.1, fun k hk => ?_, fun h hh => ?_⟩, ⟨by rw [one 110 (by omega), e3 5 (by omega)]; exact hFr.1, by rw [e3 5 (by omega)]; exact hFr.2.1, by rw [e3 5 (by omega)]; exact hFr.2.2⟩, ⟨by rw [e3 4 (by omega)]; exact hLw.1, by rw [one 100 (by omega)]; exact hLw.2.1, hLw.2.2.1, hcl, hcd, fun l hl => ?_⟩, ?_⟩
  · rw [at4 s (by omega), eC 4 s (by omega) (by omega) (by omega) (by show s < 4; omega)]; exact hS.2.2.2 s hs
  · obtain ⟨b1, b2, b3, b4, b5, b6⟩ := hH.2.2.2 h hh
    rw [c12 5 h (by omega) (by omega) (by omega), c12 6 h (by omega) (by omega) (by omega), c12 7 h (by omega) (by omega) (by omega), c12 8 h (by omega) (by omega) (by omega), c12 9 h (by omega) (by omega) (by omega), at12 91 h (by omega) (by omega), at12 92 h (by omega) (by omega), at12 93 h (by omega) (by omega)]
    have st6 : ∀ k, k < nh → W 6 k = F 6 k := fun k hk => (c12 6 k (by omega) (by omega) (by omega)).symm
    refine ⟨b1, b2, b3, ?_, b5, fun i hi => ?_⟩
    · rw [b4, plc_cg st6 hh]
    · rw [b6 i hi]
      apply pd_cg
      have l10 := hL.2.2.1
      constructor
      · rintro ⟨z1, z2⟩
        exact ⟨z1, (nb_cg2 (lf := fun k => W 95 (10 * b + k)) (lt := fun k => W 96 (10 * b + k)) (lf' := fun k => F 95 (10 * b + k)) (lt' := fun k => F 96 (10 * b + k)) st6 (fun k hk => ⟨at10 95 k (by omega) (by omega), at10 96 k (by omega) (by omega)⟩) hh z1).mpr z2⟩
      · rintro ⟨z1, z2⟩
        exact ⟨z1, (nb_cg2 (lf := fun k => W 95 (10 * b + k)) (lt := fun k => W 96 (10 * b + k)) (lf' := fun k => F 95 (10 * b + k)) (lt' := fun k => F 96 (10 * b + k)) st6 (fun k hk => ⟨at10 95 k (by omega) (by omega), at10 96 k (by omega) (by omega)⟩) hh z1).mp z2⟩
  · have l10 := hL.2.2.1
    rw [at10 95 k (by omega) (by omega), at10 96 k (by omega) (by omega)]; exact hL.2.2.2 k hk
  · have d16 := hD.2.2.1
    rw [at16 107 k (by omega) (by omega), at16 108 k (by omega) (by omega), at16 109 k (by omega) (by omega)]; exact hD.2.2.2.1 k hk
  · have d16 := hD.2.2.1
    rw [c12 10 h (by omega) (by omega) (by omega), hD.2.2.2.2 h hh]
    refine fb_si_cong (fun k hk => ?_)
    unfold dbF
    rw [at16 107 k (by omega) (by omega), at16 108 k (by omega) (by omega), at16 109 k (by omega) (by omega)]
  · have w8 := hLw.2.2.1
    obtain ⟨b1, b2, f, m, b3, b4, b5, b6, b7, b8⟩ := hLw.2.2.2 l hl
    rw [eC 12 l (by omega) (by omega) (by omega) (by show l < 8; omega), eC 13 l (by omega) (by omega) (by omega) (by show l < 9; omega), eC 14 l (by omega) (by omega) (by omega) (by show l < 9; omega), at8 101 l (by omega) (by omega), at8 102 l (by omega) (by omega), at8 103 l (by omega) (by omega)]
    exact ⟨b1, b2, f, m, b3, b4, b5, b6, b7, cd15 f m b7 b8⟩
  · rw [one 104 (by omega), one 105 (by omega), eC 13 8 (by omega) (by omega) (by omega) (by decide), eC 14 8 (by omega) (by omega) (by omega) (by decide)]
    rcases hWd with h | ⟨f, m, b1, b2, b3, b4, b5, b6, b7⟩
    · exact Or.inl h
    · exact Or.inr ⟨f, m, b1, b2, b3, b4, b5, b6, cd15 f m b6 b7⟩
/-- and back: what a told town says -/
theorem iTown_parts (h : iTown W b ns nh nl nw nd cl) : gSt W b ns ∧ gHs W b ns nh nl ∧ gLn W b nh nl ∧ gDb W b nh nd ∧ gFr W b ∧ gLw W b nw cl := by
  obtain ⟨h1, h2, h3, h4, h5, h6, h7, h8⟩ := h
  exact ⟨h2, h3, h4, h5, h6, h7.1, h7.2.1, h7.2.2.1, h7.2.2.2.2.2⟩
end TEQ
