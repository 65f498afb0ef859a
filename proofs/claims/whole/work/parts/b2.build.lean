/-! one more house is built -/
def hs6 (Z : am_U) (k : Nat) (nh : Nat) (x r v : Int) : am_U := am_upd (am_upd (am_upd (am_upd (am_upd (am_upd Z (5 + k) nh x) (6 + k) nh r) (8 + k) nh v) (7 + k) nh 0) (9 + k) nh 0) (10 + k) nh 0
theorem cW_h6 {U W : am_U} {nh : Nat} {x r v : Int} (h : cW U W) : cW (hs6 U 28 nh x r v) (hs6 W 0 nh x r v) :=
  cW_up (cW_up (cW_up (cW_up (cW_up (cW_up h 33 (by omega) (by omega)) 34 (by omega) (by omega)) 36 (by omega) (by omega)) 35 (by omega) (by omega)) 37 (by omega) (by omega)) 38 (by omega) (by omega)
theorem rW_h6 {V W : am_U} {b nh : Nat} {x r v : Int} (h : rW V W b) : rW V (hs6 W 0 nh x r v) b :=
  rW_gh (rW_gh (rW_gh (rW_gh (rW_gh (rW_gh h (by omega) (by omega) (by omega)) (by omega) (by omega) (by omega)) (by omega) (by omega) (by omega)) (by omega) (by omega) (by omega)) (by omega) (by omega) (by omega)) (by omega) (by omega) (by omega)
theorem hs6_row {Z : am_U} {nh q : Nat} {x r v : Int} (h : ¬ (5 ≤ q ∧ q ≤ 10)) : hs6 Z 0 nh x r v q = Z q := by
  unfold hs6
  rw [upd_row (by omega), upd_row (by omega), upd_row (by omega), upd_row (by omega), upd_row (by omega), upd_row (by omega)]
theorem hs6_rw {Z : am_U} {nh q : Nat} {x r v : Int} (h : ¬ (33 ≤ q ∧ q ≤ 38)) : hs6 Z 28 nh x r v q = Z q := by
  unfold hs6
  rw [upd_row (by omega), upd_row (by omega), upd_row (by omega), upd_row (by omega), upd_row (by omega), upd_row (by omega)]
theorem hs6_at {Z : am_U} {nh : Nat} {x r v : Int} (h : Nat) : hs6 Z 0 nh x r v 5 h = (if h = nh then x else Z 5 h) ∧ hs6 Z 0 nh x r v 6 h = (if h = nh then r else Z 6 h) ∧ hs6 Z 0 nh x r v 8 h = (if h = nh then v else Z 8 h) ∧ hs6 Z 0 nh x r v 7 h = (if h = nh then 0 else Z 7 h) ∧ hs6 Z 0 nh x r v 9 h = (if h = nh then 0 else Z 9 h) ∧ hs6 Z 0 nh x r v 10 h = (if h = nh then 0 else Z 10 h) := by
  unfold hs6
  refine ⟨?_, ?_, ?_, ?_, ?_, ?_⟩
  · rw [upd_row (by decide), upd_row (by decide), upd_row (by decide), upd_row (by decide), upd_row (by decide), upd_if]
  · rw [upd_row (by decide), upd_row (by decide), upd_row (by decide), upd_row (by decide), upd_if, upd_row (by decide)]
  · rw [upd_row (by decide), upd_row (by decide), upd_row (by decide), upd_if, upd_row (by decide), upd_row (by decide)]
  · rw [upd_row (by decide), upd_row (by decide), upd_if, upd_row (by decide), upd_row (by decide), upd_row (by decide)]
  · rw [upd_row (by decide), upd_if, upd_row (by decide), upd_row (by decide), upd_row (by decide), upd_row (by decide)]
  · rw [upd_if, upd_row (by decide), upd_row (by decide), upd_row (by decide), upd_row (by decide), upd_row (by decide)]
section BLD
variable {N : Nat} {X : Nat → Int} {b nh : Nat} {W : am_U} {x r v bf : Int}
theorem add_house (h31 : W 3 1 = (nh : Nat)) (hnh : nh < 12) (h7 : ∀ h, h < nh → 0 ≤ W 7 h ∧ W 7 h < 20) (hb : lsR (W 6) r nh bf) : ∃ W' : am_U, (∀ q, q ≠ 3 → ¬ (5 ≤ q ∧ q ≤ 10) → W' q = W q) ∧ (∀ j, j ≠ 1 → W' 3 j = W 3 j) ∧ W' 3 1 = ((nh + 1 : Nat) : Int) ∧ (∀ h, W' 5 h = (if h = nh then x else W 5 h) ∧ W' 6 h = (if h = nh then r else W 6 h) ∧ W' 8 h = (if h = nh then v else W 8 h) ∧ W' 10 h = (if h = nh then 0 else W 10 h) ∧ W' 7 h = (if h = nh then (if bf < 0 then 0 else W 7 bf.toNat + 1) else W 7 h)) ∧ (∀ h, h < nh → in32 (W 9 h) → in32 (W' 9 h) ∧ ∀ i, i < 32 → tb (W' 9 h) i = (tb (W 9 h) i || decide (i = nh ∧ bf = (h : Nat)))) ∧ (in32 (W' 9 nh) ∧ ∀ i, i < 32 → tb (W' 9 nh) i = decide (bf = (i : Nat))) ∧ (∀ (d : Nat) (U : am_U), cW U W → ∃ U', EvK N X (Tw_addHouse_s0 (d + 1) x r v U) (rV U') ∧ cW U' W' ∧ ∀ q, q ≠ 31 → ¬ (33 ≤ q ∧ q ≤ 38) → U' q = U q) ∧ ∀ V : am_U, rW V W b → rW V W' b := by
  have bb : (bf = -1) ∨ ∃ j : Nat, bf = (j : Nat) ∧ j < nh := by
    rcases hb with ⟨b1, _⟩ | ⟨j, b1, b2, _⟩
    · exact Or.inl b1
    · exact Or.inr ⟨j, b1, b2⟩
  obtain ⟨Z, hZ⟩ : ∃ Z, Z = hs6 W 0 nh x r v := ⟨_, rfl⟩
  have zr : ∀ q, ¬ (5 ≤ q ∧ q ≤ 10) → Z q = W q := fun q hq => by rw [hZ]; exact hs6_row hq
  have za : ∀ h, Z 5 h = (if h = nh then x else W 5 h) ∧ Z 6 h = (if h = nh then r else W 6 h) ∧ Z 8 h = (if h = nh then v else W 8 h) ∧ Z 7 h = (if h = nh then 0 else W 7 h) ∧ Z 9 h = (if h = nh then 0 else W 9 h) ∧ Z 10 h = (if h = nh then 0 else W 10 h) := fun h => by rw [hZ]; exact hs6_at h
  -- the class up to the search
  have clsA : ∀ (d : Nat) (U : am_U), cW U W → ∀ R, (∃ (r1 : Int) (U1 : am_U), (r1 = bf ∧ U1 = hs6 U 28 nh x r v) ∧ ((r1 < 0) → R = rV (am_upd U1 31 1 (w32 ((U1 31 1) + 1)))) ∧ ((0 ≤ r1) → (0 ≤ r1 ∧ r1 < 12) ∧ ∃ U2 : am_U, EvK N X (Tw_join_s0 d r1 (nh : Nat) (am_upd (am_upd U1 31 1 (w32 ((U1 31 1) + 1))) 35 nh (w32 ((U1 35 r1.toNat) + 1)))) (rV U2) ∧ R = rV U2)) → EvK N X (Tw_addHouse_s0 (d + 1) x r v U) R := fun d U hU R hR => by
    have e1 : U 31 1 = (nh : Nat) := by rw [hU.1 31 (by decide) (by decide) (by decide)]; exact h31
    obtain ⟨r1, U1, ⟨p1, p2⟩, p3, p4⟩ := hR
    refine Tw_addHouse_r0 ?_
    rw [e1, Int.toNat_natCast]
    refine ⟨fun _ => ⟨by omega, r1, U1, ?_, p3, p4⟩, fun z => absurd z (by omega)⟩
    rw [p1, p2]
    refine ct_lastOn (n := nh) ?_ (by omega) (lsR_cg (f := W 6) (fun j hj => ?_) hb)
    · show hs6 U 28 nh x r v 31 1 = _
      rw [hs6_rw (by decide)]; exact e1
    · show hs6 U 28 nh x r v 34 j = _
      have hc := (cW_h6 (nh := nh) (x := x) (r := r) (v := v) hU).1 34 (by decide) (by decide) (by decide)
      rw [hc]
      show hs6 W 0 nh x r v 6 j = _
      rw [(hs6_at j).2.1, if_neg (by omega)]
  rcases bb with b1 | ⟨j, b1, b2⟩
  · -- none before
    refine ⟨am_upd Z 3 1 ((nh + 1 : Nat) : Int), fun q q1 q2 => by rw [upd_row q1]; exact zr q q2, fun j hj => by rw [upd_ne hj, zr 3 (by decide)], upd_at _ _ _ _, fun h => ?_, fun h hh hin => ?_, ?_, fun d U hU => ?_, fun V hV => ?_⟩
    · obtain ⟨y1, y2, y3, y4, y5, y6⟩ := za h
      rw [upd_row (by decide), upd_row (by decide), upd_row (by decide), upd_row (by decide), upd_row (by decide), if_pos (show bf < 0 by omega)]
      exact ⟨y1, y2, y3, y6, y4⟩
    · rw [upd_row (by decide), (za h).2.2.2.2.1, if_neg (by omega)]
      refine ⟨hin, fun i hi => ?_⟩
      rw [decide_eq_false (fun z => by omega), Bool.or_false]
    · rw [upd_row (by decide), (za nh).2.2.2.2.1, if_pos rfl]
      refine ⟨by unfold in32; omega, fun i hi => ?_⟩
      rw [tb_0, decide_eq_false (fun z => by omega)]
    · have e1 : hs6 U 28 nh x r v 31 1 = (nh : Nat) := by rw [hs6_rw (by decide), hU.1 31 (by decide) (by decide) (by decide)]; exact h31
      refine ⟨am_upd (hs6 U 28 nh x r v) 31 1 ((nh + 1 : Nat) : Int), clsA d U hU _ ⟨bf, _, ⟨rfl, rfl⟩, fun _ => ?_, fun z => absurd z (by omega)⟩, ?_, fun q q1 q2 => by rw [upd_row q1]; exact hs6_rw q2⟩
      · rw [e1, w32_succ (i := nh) (by omega)]
      · rw [hZ]
        exact cW_up (cW_h6 hU) 31 (by omega) (by omega)
    · rw [hZ]
      exact rW_gh (rW_h6 hV) (by omega) (by omega) (by omega)
  · -- one before it
    have hj7 := h7 j b2
    have ne : j ≠ nh := by omega
    have w7 : w32 (Z 7 j + 1) = W 7 j + 1 := by rw [(za j).2.2.2.1, if_neg ne, w32_eq (by omega) (by omega)]
    obtain ⟨Y, hY⟩ : ∃ Y, Y = am_upd (am_upd Z 3 1 ((nh + 1 : Nat) : Int)) 7 nh (W 7 j + 1) := ⟨_, rfl⟩
    have y9 : Y 9 = Z 9 := by rw [hY, upd_row (by decide), upd_row (by decide)]
    refine ⟨jnG Y 9 j nh, fun q q1 q2 => ?_, fun i hi => ?_, ?_, fun h => ?_, fun h hh hin => ?_, ?_, fun d U hU => ?_, fun V hV => ?_⟩
    · rw [jnG_row (by omega), hY, upd_row (by omega), upd_row q1]; exact zr q q2
    · rw [jnG_row (by decide), hY, upd_row (by decide), upd_ne hi, zr 3 (by decide)]
    · rw [jnG_row (by decide), hY, upd_row (by decide), upd_at]
    · obtain ⟨y1, y2, y3, y4, y5, y6⟩ := za h
      rw [jnG_row (by decide), jnG_row (by decide), jnG_row (by decide), jnG_row (by decide), jnG_row (by decide), hY, upd_row (show (5 : Nat) ≠ 7 by decide), upd_row (show (6 : Nat) ≠ 7 by decide), upd_row (show (8 : Nat) ≠ 7 by decide), upd_row (show (10 : Nat) ≠ 7 by decide), upd_if, upd_row (show (5 : Nat) ≠ 3 by decide), upd_row (show (6 : Nat) ≠ 3 by decide), upd_row (show (8 : Nat) ≠ 3 by decide), upd_row (show (10 : Nat) ≠ 3 by decide), upd_row (show (7 : Nat) ≠ 3 by decide)]
      refine ⟨y1, y2, y3, y6, ?_⟩
      by_cases c : h = nh
      · rw [if_pos c, if_pos c, if_neg (by omega), b1, Int.toNat_natCast]
      · rw [if_neg c, if_neg c, y4, if_neg c]
    · have e9 : Z 9 h = W 9 h := by rw [(za h).2.2.2.2.1, if_neg (by omega)]
      refine ⟨jnG_in (by rw [y9, e9]; exact hin), fun i hi => ?_⟩
      rw [jnG_tb ne (by omega) (by omega) hi, y9, e9, decide_eq_false (show ¬ (h = nh ∧ i = j) by omega), Bool.false_or, b1]
      congr 1
      apply decide_eq_decide.mpr
      constructor
      · rintro ⟨q1, q2⟩; exact ⟨q2, by rw [q1]⟩
      · rintro ⟨q1, q2⟩; exact ⟨by omega, q1⟩
    · have e9 : Z 9 nh = 0 := by rw [(za nh).2.2.2.2.1, if_pos rfl]
      refine ⟨jnG_in (by rw [y9, e9]; unfold in32; omega), fun i hi => ?_⟩
      rw [jnG_tb ne (by omega) (by omega) hi, y9, e9, tb_0, Bool.false_or, decide_eq_false (show ¬ (nh = j ∧ i = nh) by omega), Bool.or_false, b1]
      apply decide_eq_decide.mpr
      constructor
      · rintro ⟨q1, q2⟩; rw [q2]
      · intro q; exact ⟨rfl, by omega⟩
    · have e1 : hs6 U 28 nh x r v 31 1 = (nh : Nat) := by rw [hs6_rw (by decide), hU.1 31 (by decide) (by decide) (by decide)]; exact h31
      have c6 := cW_h6 (nh := nh) (x := x) (r := r) (v := v) hU
      have e35 : hs6 U 28 nh x r v 35 j = Z 7 j := by
        rw [c6.1 35 (by decide) (by decide) (by decide), hZ]
      refine ⟨jnG (am_upd (am_upd (hs6 U 28 nh x r v) 31 1 ((nh + 1 : Nat) : Int)) 35 nh (W 7 j + 1)) 37 j nh, clsA d U hU _ ⟨bf, _, ⟨rfl, rfl⟩, fun z => absurd z (by omega), fun _ => ⟨by omega, _, ?_, rfl⟩⟩, ?_, fun q q1 q2 => ?_⟩
      · rw [e1, w32_succ (i := nh) (by omega), b1, Int.toNat_natCast, e35, w7]
        exact ct_join (by omega) (by omega) ne
      · rw [hY, hZ]
        exact cW_jn (cW_up (cW_up c6 31 (by omega) (by omega)) 35 (by omega) (by omega))
      · rw [jnG_row (by omega), upd_row (by omega), upd_row q1]; exact hs6_rw q2
    · rw [hY, hZ]
      exact rW_jn (rW_gh (rW_gh (rW_h6 hV) (by omega) (by omega) (by omega)) (by omega) (by omega) (by omega))
end BLD
