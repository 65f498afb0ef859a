/-! what holds between any two calls; a town that is refused -/
def Inv (V : am_U) : Prop := ∃ b ns nh nl nw nd cl n k w g : Nat, iTown V b ns nh nl nw nd cl ∧ iFolk V n nh ∧ iMisc V ∧ iHist V nh k w g ∧ iPrt V ∧ iJdg V b nl nw n ∧ iCpl V n ∧ iPlc V b nl nw n nh ∧ iR2 V ∧ iTape V
theorem iHist_rows {V V' : am_U} {nh k w g : Nat} (hi : iHist V nh k w g) (h8 : V' 8 = V 8) (h56 : V' 56 = V 56) (hr : ∀ r, 58 ≤ r → r ≤ 77 → V' r = V r) (h86 : V' 86 57 = V 86 57 ∧ V' 86 58 = V 86 58) (h12 : ∀ r, 120 ≤ r → r ≤ 124 → V' r = V r) : iHist V' nh k w g := by
  obtain ⟨a1, a2, a3, a4⟩ := hi
  refine ⟨by rw [h56, h86.2]; exact a1, by rw [h56]; exact a2, by rw [h86.1]; exact a3, fun i hi => ?_⟩
  have b1 : (w + 20 - i) % 20 < 20 := Nat.mod_lt _ (by decide)
  exact hRow_cg h8 (hr _ (by omega) (by omega)) (by rw [h12 120 (by omega) (by omega)]) (by rw [h12 121 (by omega) (by omega)]) (by rw [h12 122 (by omega) (by omega)]) (fun p hp => by rw [h12 123 (by omega) (by omega), h12 124 (by omega) (by omega)]; exact ⟨rfl, rfl⟩) (a4 i hi)
section REF
variable {U F : am_U} {b0 : Nat}
/-- what a refused town may change -/
def fRf (b0 : Nat) (U F : am_U) : Prop := (∀ r, r ≤ 138 → ¬ (21 ≤ r ∧ r ≤ 43) → r ≠ 1 → r ≠ 85 → r ≠ 86 → ¬ (88 ≤ r ∧ r ≤ 119) → F r = U r) ∧ (∀ r j, 88 ≤ r → r ≤ 112 → wdt r * b0 ≤ j → j < wdt r * b0 + wdt r → F r j = U r j) ∧ (∀ j, j = 13 ∨ 51 ≤ j → F 86 j = U 86 j) ∧ (∀ j, 5 ≤ j → F 1 j = U 1 j) ∧ (F 86 1 = 0 ∧ F 1 1 = 0) ∧ (F 86 10 = F 1 3 ∧ F 86 11 = F 1 4) ∧ ∀ j, F 85 j = (if j = 1 then w32 (U 85 1 + 1) else U 85 j) ∧ F 119 j = (if j = 1 then w32 (U 119 1 + 1) else U 119 j)
theorem inv_ref (h : fRf b0 U F) {ns nh nl nw nd cl n k w g : Nat} (ht : iTown U b0 ns nh nl nw nd cl) (hf : iFolk U n nh) (hm : iMisc U) (hh : iHist U nh k w g) (hp : iPrt U) (hj : iJdg U b0 nl nw n) (hc : iCpl U n) (hpl : iPlc U b0 nl nw n nh) (hr2 : iR2 U) (htp : iTape U) : Inv F := by
  obtain ⟨f1, f2, f3, f4, f5, f6, f7⟩ := h
  have r : ∀ r, r ≤ 138 → ¬ (21 ≤ r ∧ r ≤ 43) → r ≠ 1 → r ≠ 85 → r ≠ 86 → ¬ (88 ≤ r ∧ r ≤ 119) → F r = U r := f1
  have rc : ∀ r, r ≤ 20 → r ≠ 1 → F r = U r := fun q h1 h2 => f1 q (by omega) (by omega) h2 (by omega) (by omega) (by omega)
  have rd : ∀ r, 44 ≤ r → r ≤ 84 → F r = U r := fun q h1 h2 => f1 q (by omega) (by omega) (by omega) (by omega) (by omega) (by omega)
  have rm : ∀ r, 120 ≤ r → r ≤ 138 → F r = U r := fun q h1 h2 => f1 q (by omega) (by omega) (by omega) (by omega) (by omega) (by omega)
  have hb := ht.1.2
  have hl10 := ht.2.2.2.1.2.2.1
  have hcl := ht.2.2.2.2.2.2.1.2.2.2.1
  have hcd := ht.2.2.2.2.2.2.1.2.2.2.2.1
  obtain ⟨p1, p2, p3, p4, p5, p6⟩ := iTown_parts ht
  have at10 : ∀ r h, r = 95 ∨ r = 96 → h < 10 → F r (10 * b0 + h) = U r (10 * b0 + h) := fun r h hr hh => by
    have w1 : wdt r = 10 := by rcases hr with rfl | rfl <;> rfl
    exact f2 r _ (by omega) (by omega) (by rw [w1]; omega) (by rw [w1]; omega)
  have sq : sq2 U F b0 nl := by
    refine ⟨⟨rc 17 (by omega) (by omega), rc 8 (by omega) (by omega), rc 6 (by omega) (by omega), rc 12 (by omega) (by omega), rc 13 (by omega) (by omega), rc 14 (by omega) (by omega), rc 15 (by omega) (by omega)⟩, fun x y => ?_⟩
    unfold nbU nbP
    rw [rc 6 (by omega) (by omega)]
    have e : ∀ k, k < nl → F 95 (10 * b0 + k) = U 95 (10 * b0 + k) ∧ F 96 (10 * b0 + k) = U 96 (10 * b0 + k) := fun k hk => ⟨at10 95 k (by omega) (by omega), at10 96 k (by omega) (by omega)⟩
    constructor
    · rintro ⟨h1, h2 | ⟨k, hk, h2⟩⟩
      · exact ⟨h1, Or.inl h2⟩
      · simp only [(e k hk).1, (e k hk).2] at h2
        exact ⟨h1, Or.inr ⟨k, hk, h2⟩⟩
    · rintro ⟨h1, h2 | ⟨k, hk, h2⟩⟩
      · exact ⟨h1, Or.inl h2⟩
      · exact ⟨h1, Or.inr ⟨k, hk, by simp only [(e k hk).1, (e k hk).2]; exact h2⟩⟩
  refine ⟨b0, ns, nh, nl, nw, nd, cl, n, k, w, g, ?_, ?_, ?_, ?_, ?_, ?_, ?_, ?_, ?_, ?_⟩
  · refine iTown_tEq hb (by rw [f3 13 (by omega)]; exact ht.1.1) p1 p2 p3 p4 p5 p6 ht.2.2.2.2.2.2.2 hcl (fun i hi => ?_) ⟨fun j _ => by rw [rc 3 (by omega) (by omega)], fun r j q1 q2 q3 _ => by rw [rc r (by omega) (by omega)], fun j _ => by rw [rc 15 (by omega) (by omega)], fun r j q1 q2 q3 q4 => f2 r j q1 (by omega) q3 q4⟩
    rw [rc 15 (by omega) (by omega), f2 111 (1600 * b0 + i) (by omega) (by omega) (by show 1600 * b0 ≤ _; omega) (by show _ < 1600 * b0 + 1600; omega), f2 112 (1600 * b0 + i) (by omega) (by omega) (by show 1600 * b0 ≤ _; omega) (by show _ < 1600 * b0 + 1600; omega)]
    exact hcd i hi
  · unfold iFolk
    rw [rc 16 (by omega) (by omega), rc 17 (by omega) (by omega), rc 18 (by omega) (by omega), rc 19 (by omega) (by omega), rc 8 (by omega) (by omega), rm 120 (by omega) (by omega), rm 121 (by omega) (by omega), rm 122 (by omega) (by omega), rm 123 (by omega) (by omega), rm 124 (by omega) (by omega)]; exact hf
  · obtain ⟨m1, m2, m3, m4⟩ := hm
    refine ⟨f6, fun j hj => ?_, ?_, ?_⟩
    · rw [(f7 j).1, (f7 j).2, m2 1 (by omega), m2 j hj]
    · rw [f3 59 (by omega), f4 18 (by omega)]; exact m3
    · rw [f3 89 (by omega), f4 16 (by omega), rm 138 (by omega) (by omega), rd 84 (by omega) (by omega)]; exact m4
  · exact iHist_rows hh (rc 8 (by omega) (by omega)) (rd 56 (by omega) (by omega)) (fun r q1 q2 => rd r (by omega) (by omega)) ⟨f3 57 (by omega), f3 58 (by omega)⟩ (fun r q1 q2 => rm r (by omega) (by omega))
  · unfold iPrt
    rw [rc 20 (by omega) (by omega), rc 17 (by omega) (by omega)]; exact hp
  · exact iJdg_n sq (rc 18 (by omega) (by omega)) (by rw [rd 45 (by omega) (by omega)]) (rd 47 (by omega) (by omega)) hj
  · exact iCpl_n sq (rc 18 (by omega) (by omega)) (by rw [rm 131 (by omega) (by omega)]) (fun j _ => by rw [rd 52 (by omega) (by omega)]) (rd 55 (by omega) (by omega)) hc
  · exact iPlc_n sq (rc 18 (by omega) (by omega)) (fun j _ => by rw [rd 48 (by omega) (by omega)]) (rd 49 (by omega) (by omega)) (rd 50 (by omega) (by omega)) hpl
  · unfold iR2 iRid iFoe at hr2 ⊢
    rw [rd 78 (by omega) (by omega), rd 79 (by omega) (by omega), rd 81 (by omega) (by omega), f3 82 (by omega), f3 84 (by omega), rm 137 (by omega) (by omega)]; exact hr2
  · unfold iTape
    rw [f5.1, f5.2, f1 87 (by omega) (by omega) (by omega) (by omega) (by omega) (by omega), rc 2 (by omega) (by omega)]
    exact ⟨⟨rfl, by omega, by omega⟩, htp.2⟩
end REF
