/-! acts, tapes, images keep what holds -/
section KAC
variable {U V : am_U} {b ns nh nl nw nd cl n n' k w g : Nat}
theorem inv_act (hI : InvP U b ns nh nl nw nd cl n k w g) (h : actOk U V nh n n') : Inv V := by
  obtain ⟨i1, i2, i3, i4, i5, i6, i7, i8, i9, i10⟩ := hI
  obtain ⟨hA, hf, hs, ⟨k', w', g', hh⟩, hp, hk⟩ := h
  have r : ∀ {r : Nat}, (∀ j, scrA r j = false) → V r = U r := fun {r} q => funext fun j => hA r j (q j)
  have t1 : iTown V b ns nh nl nw nd cl := by
    rw [← iTown_mskA] at i1 ⊢
    rw [agrA_msk hA]; exact i1
  have t9 : iR2 V := by
    have e : iR2 (mskA U) ↔ iR2 U := Iff.rfl
    have e' : iR2 (mskA V) ↔ iR2 V := Iff.rfl
    rw [← e', agrA_msk hA, e]; exact i9
  have t10 : iTape V := by
    have e : iTape (mskA U) ↔ iTape U := Iff.rfl
    have e' : iTape (mskA V) ↔ iTape V := Iff.rfl
    rw [← e', agrA_msk hA, e]; exact i10
  have t3 := iMisc_agrA hA i3 hs
  have e131 : V 131 0 = U 131 0 := hA 131 0 rfl
  rcases hk with ⟨z1, z2, z3⟩ | ⟨rfl, z0, z1, z2, z3, z4, z5, z6, z7⟩
  · exact ⟨b, ns, nh, nl, nw, nd, cl, n', k', w', g', t1, hf, t3, hh, hp, Or.inl z1, ⟨by rw [e131]; exact i7.1, Or.inl z3⟩, Or.inl z2, t9, t10⟩
  · have sq : sq2 U V b nl := sq2_of ⟨z1, r (fun _ => rfl), r (fun _ => rfl), r (fun _ => rfl), r (fun _ => rfl), r (fun _ => rfl), r (fun _ => rfl), r (fun _ => rfl), r (fun _ => rfl)⟩
    exact ⟨b, ns, nh, nl, nw, nd, cl, n', k', w', g', t1, hf, t3, hh, hp, iJdg_n sq z2 (z5 5 (by decide)) (r (fun _ => rfl)) i6, iCpl_n sq z2 e131 (fun j _ => by rw [z7]) (r (fun _ => rfl)) i7, iPlc_n sq z2 (fun j _ => by rw [z6]) (r (fun _ => rfl)) (r (fun _ => rfl)) i8, t9, t10⟩
theorem inv_tp (hI : InvP U b ns nh nl nw nd cl n k w g) (h : kT U V) (ht : iTape V) (hs : ∀ k, k < 6 → V 119 k = V 85 k) : InvP V b ns nh nl nw nd cl n k w g := by
  obtain ⟨i1, i2, i3, i4, i5, i6, i7, i8, i9, i10⟩ := hI
  have hG : agrG U V := fun r j e => by
    unfold scrG at e
    simp only [Bool.or_eq_false_iff, decide_eq_false_iff_not, Bool.and_eq_false_iff, beq_eq_false_iff_ne, ne_eq] at e
    refine h r j (by omega) (by omega) (by omega) (by omega) (fun z => ?_) (fun z => ?_)
    · obtain ⟨rfl, rfl⟩ := z
      simp at e
    · obtain ⟨rfl, rfl⟩ := z
      simp at e
  have r : ∀ r, r ≠ 1 → r ≠ 2 → r ≠ 85 → r ≠ 86 → r ≠ 87 → r ≠ 119 → V r = U r := fun r q1 q2 q3 q4 q5 q6 => funext fun j => h r j q2 q5 q3 q6 (fun z => q1 z.1) (fun z => q4 z.1)
  have c1 : ∀ j, j ≠ 1 → V 1 j = U 1 j := fun j q => h 1 j (by decide) (by decide) (by decide) (by decide) (fun z => q z.2) (by omega)
  have c86 : ∀ j, j ≠ 1 → V 86 j = U 86 j := fun j q => h 86 j (by decide) (by decide) (by decide) (by decide) (by omega) (fun z => q z.2)
  have sq : sq2 U V b nl := sq2_agrG hG
  have e18 : V 18 = U 18 := r 18 (by decide) (by decide) (by decide) (by decide) (by decide) (by decide)
  refine ⟨iTown_agrG hG i1, iFolk_agrG hG i2, ⟨?_, hs, ?_, ?_⟩, iHist_agrG hG i4, ?_, iJdg_n sq e18 ?_ ?_ i6, iCpl_n sq e18 ?_ (fun j _ => ?_) ?_ i7, iPlc_n sq e18 (fun j _ => ?_) ?_ ?_ i8, ?_, ht⟩
  · rw [c86 10 (by decide), c86 11 (by decide), c1 3 (by decide), c1 4 (by decide)]; exact i3.1
  · rw [c86 59 (by decide), c1 18 (by decide)]; exact i3.2.2.1
  · rw [c86 89 (by decide), c1 16 (by decide), r 138 (by decide) (by decide) (by decide) (by decide) (by decide) (by decide), r 84 (by decide) (by decide) (by decide) (by decide) (by decide) (by decide)]; exact i3.2.2.2
  · unfold iPrt
    rw [r 20 (by decide) (by decide) (by decide) (by decide) (by decide) (by decide), r 17 (by decide) (by decide) (by decide) (by decide) (by decide) (by decide)]; exact i5
  · rw [r 45 (by decide) (by decide) (by decide) (by decide) (by decide) (by decide)]
  · exact r 47 (by decide) (by decide) (by decide) (by decide) (by decide) (by decide)
  · rw [r 131 (by decide) (by decide) (by decide) (by decide) (by decide) (by decide)]
  · rw [r 52 (by decide) (by decide) (by decide) (by decide) (by decide) (by decide)]
  · exact r 55 (by decide) (by decide) (by decide) (by decide) (by decide) (by decide)
  · rw [r 48 (by decide) (by decide) (by decide) (by decide) (by decide) (by decide)]
  · exact r 49 (by decide) (by decide) (by decide) (by decide) (by decide) (by decide)
  · exact r 50 (by decide) (by decide) (by decide) (by decide) (by decide) (by decide)
  · unfold iR2 iRid iFoe at i9 ⊢
    rw [r 78 (by decide) (by decide) (by decide) (by decide) (by decide) (by decide), r 79 (by decide) (by decide) (by decide) (by decide) (by decide) (by decide), r 81 (by decide) (by decide) (by decide) (by decide) (by decide) (by decide), c86 82 (by decide), c86 84 (by decide), r 137 (by decide) (by decide) (by decide) (by decide) (by decide) (by decide)]; exact i9
theorem inv_img (hI : InvP U b ns nh nl nw nd cl n k w g) (h : kI U V) (hm : V 86 89 = V 1 16 ∧ 0 ≤ V 1 16 ∧ V 1 16 ≤ 85 ∧ ∀ k : Nat, (k : Int) < V 1 16 → V 138 k = V 84 k) : InvP V b ns nh nl nw nd cl n k w g := by
  obtain ⟨i1, i2, i3, i4, i5, i6, i7, i8, i9, i10⟩ := hI
  have hG : agrG U V := fun r j e => by
    unfold scrG at e
    simp only [Bool.or_eq_false_iff, decide_eq_false_iff_not, Bool.and_eq_false_iff, beq_eq_false_iff_ne, ne_eq] at e
    refine h r j (by omega) (by omega) (fun z => ?_) (fun z => ?_)
    · obtain ⟨rfl, rfl⟩ := z
      simp at e
    · obtain ⟨rfl, rfl⟩ := z
      simp at e
  have r : ∀ r, r ≠ 1 → r ≠ 84 → r ≠ 86 → r ≠ 138 → V r = U r := fun r q1 q2 q3 q4 => funext fun j => h r j q2 q4 (fun z => q1 z.1) (fun z => q3 z.1)
  have c1 : ∀ j, j ≠ 16 → V 1 j = U 1 j := fun j q => h 1 j (by decide) (by decide) (fun z => q z.2) (by omega)
  have c86 : ∀ j, j ≠ 89 → V 86 j = U 86 j := fun j q => h 86 j (by decide) (by decide) (by omega) (fun z => q z.2)
  have sq : sq2 U V b nl := sq2_agrG hG
  have e18 : V 18 = U 18 := r 18 (by decide) (by decide) (by decide) (by decide)
  refine ⟨iTown_agrG hG i1, iFolk_agrG hG i2, ⟨?_, ?_, ?_, hm⟩, iHist_agrG hG i4, ?_, iJdg_n sq e18 ?_ ?_ i6, iCpl_n sq e18 ?_ (fun j _ => ?_) ?_ i7, iPlc_n sq e18 (fun j _ => ?_) ?_ ?_ i8, ?_, ?_⟩
  · rw [c86 10 (by decide), c86 11 (by decide), c1 3 (by decide), c1 4 (by decide)]; exact i3.1
  · rw [r 119 (by decide) (by decide) (by decide) (by decide), r 85 (by decide) (by decide) (by decide) (by decide)]; exact i3.2.1
  · rw [c86 59 (by decide), c1 18 (by decide)]; exact i3.2.2.1
  · unfold iPrt
    rw [r 20 (by decide) (by decide) (by decide) (by decide), r 17 (by decide) (by decide) (by decide) (by decide)]; exact i5
  · rw [r 45 (by decide) (by decide) (by decide) (by decide)]
  · exact r 47 (by decide) (by decide) (by decide) (by decide)
  · rw [r 131 (by decide) (by decide) (by decide) (by decide)]
  · rw [r 52 (by decide) (by decide) (by decide) (by decide)]
  · exact r 55 (by decide) (by decide) (by decide) (by decide)
  · rw [r 48 (by decide) (by decide) (by decide) (by decide)]
  · exact r 49 (by decide) (by decide) (by decide) (by decide)
  · exact r 50 (by decide) (by decide) (by decide) (by decide)
  · unfold iR2 iRid iFoe at i9 ⊢
    rw [r 78 (by decide) (by decide) (by decide) (by decide), r 79 (by decide) (by decide) (by decide) (by decide), r 81 (by decide) (by decide) (by decide) (by decide), c86 82 (by decide), c86 84 (by decide), r 137 (by decide) (by decide) (by decide) (by decide)]; exact i9
  · unfold iTape at i10 ⊢
    rw [c86 1 (by decide), c1 1 (by decide), r 87 (by decide) (by decide) (by decide) (by decide), r 2 (by decide) (by decide) (by decide) (by decide)]; exact i10
theorem inv_rid (hI : InvP U b ns nh nl nw nd cl n k w g) (h : kR U V) (hr : iR2 V) (hs : ∀ k, k < 6 → V 119 k = V 85 k) : InvP V b ns nh nl nw nd cl n k w g := by
  obtain ⟨i1, i2, i3, i4, i5, i6, i7, i8, i9, i10⟩ := hI
  have hG : agrG U V := fun r j e => by
    unfold scrG at e
    simp only [Bool.or_eq_false_iff, decide_eq_false_iff_not, Bool.and_eq_false_iff, beq_eq_false_iff_ne, ne_eq] at e
    refine h r j e.1.1.1 (by omega) (by omega) (by omega) (by omega) (by omega) (by omega) (fun z => ?_)
    obtain ⟨rfl, z2⟩ := z
    rcases z2 with rfl | rfl <;> simp at e
  have r : ∀ {r : Nat}, (∀ j, scr r j = false) → r ≠ 78 → r ≠ 79 → r ≠ 81 → r ≠ 85 → r ≠ 119 → r ≠ 137 → r ≠ 86 → V r = U r := fun {r} q q1 q2 q3 q4 q5 q6 q7 => funext fun j => h r j (q j) q1 q2 q3 q4 q5 q6 (fun z => q7 z.1)
  have sq : sq2 U V b nl := sq2_agrG hG
  have e18 : V 18 = U 18 := r (fun _ => rfl) (by decide) (by decide) (by decide) (by decide) (by decide) (by decide) (by decide)
  have c86 : ∀ j, scr 86 j = false → j ≠ 82 → j ≠ 84 → V 86 j = U 86 j := fun j q q1 q2 => h 86 j q (by decide) (by decide) (by decide) (by decide) (by decide) (by decide) (by omega)
  have c1 : V 1 = U 1 := r (fun _ => rfl) (by decide) (by decide) (by decide) (by decide) (by decide) (by decide) (by decide)
  refine ⟨iTown_agrG hG i1, iFolk_agrG hG i2, ⟨?_, hs, ?_, ?_⟩, iHist_agrG hG i4, ?_, iJdg_n sq e18 ?_ ?_ i6, iCpl_n sq e18 ?_ (fun j _ => ?_) ?_ i7, iPlc_n sq e18 (fun j _ => ?_) ?_ ?_ i8, hr, ?_⟩
  · rw [c86 10 rfl (by decide) (by decide), c86 11 rfl (by decide) (by decide), c1]; exact i3.1
  · rw [c86 59 rfl (by decide) (by decide), c1]; exact i3.2.2.1
  · rw [c86 89 rfl (by decide) (by decide), c1, r (r := 138) (fun _ => rfl) (by decide) (by decide) (by decide) (by decide) (by decide) (by decide) (by decide), r (r := 84) (fun _ => rfl) (by decide) (by decide) (by decide) (by decide) (by decide) (by decide) (by decide)]; exact i3.2.2.2
  · unfold iPrt
    rw [r (r := 20) (fun _ => rfl) (by decide) (by decide) (by decide) (by decide) (by decide) (by decide) (by decide), r (r := 17) (fun _ => rfl) (by decide) (by decide) (by decide) (by decide) (by decide) (by decide) (by decide)]; exact i5
  · exact h 45 5 rfl (by decide) (by decide) (by decide) (by decide) (by decide) (by decide) (by decide)
  · exact r (fun _ => rfl) (by decide) (by decide) (by decide) (by decide) (by decide) (by decide) (by decide)
  · exact h 131 0 rfl (by decide) (by decide) (by decide) (by decide) (by decide) (by decide) (by decide)
  · rw [r (r := 52) (fun _ => rfl) (by decide) (by decide) (by decide) (by decide) (by decide) (by decide) (by decide)]
  · exact r (fun _ => rfl) (by decide) (by decide) (by decide) (by decide) (by decide) (by decide) (by decide)
  · rw [r (r := 48) (fun _ => rfl) (by decide) (by decide) (by decide) (by decide) (by decide) (by decide) (by decide)]
  · exact r (fun _ => rfl) (by decide) (by decide) (by decide) (by decide) (by decide) (by decide) (by decide)
  · exact r (fun _ => rfl) (by decide) (by decide) (by decide) (by decide) (by decide) (by decide) (by decide)
  · unfold iTape at i10 ⊢
    rw [c86 1 rfl (by decide) (by decide), c1, r (r := 87) (fun _ => rfl) (by decide) (by decide) (by decide) (by decide) (by decide) (by decide) (by decide), r (r := 2) (fun _ => rfl) (by decide) (by decide) (by decide) (by decide) (by decide) (by decide) (by decide)]; exact i10
/-- the tape's length alone -/
theorem inv_cut (hI : InvP U b ns nh nl nw nd cl n k w g) : InvP (am_upd (am_upd U 1 1 0) 86 1 0) b ns nh nl nw nd cl n k w g := by
  refine inv_tp hI (fun r j q1 q2 q3 q4 q5 q6 => by rw [upd_if2 q6, upd_if2 q5]) ?_ (fun k hk => ?_)
  · obtain ⟨⟨t1, t2, t3⟩, t4⟩ := hI.2.2.2.2.2.2.2.2.2
    unfold iTape
    rw [upd_at, upd_row (show (1 : Nat) ≠ 86 by decide), upd_at, upd_row (show (87 : Nat) ≠ 86 by decide), upd_row (show (87 : Nat) ≠ 1 by decide), upd_row (show (2 : Nat) ≠ 86 by decide), upd_row (show (2 : Nat) ≠ 1 by decide)]
    exact ⟨⟨rfl, by omega, by omega⟩, t4⟩
  · rw [upd_row (show (119 : Nat) ≠ 86 by decide), upd_row (show (119 : Nat) ≠ 1 by decide), upd_row (show (85 : Nat) ≠ 86 by decide), upd_row (show (85 : Nat) ≠ 1 by decide)]
    exact hI.2.2.1.2.1 k hk
end KAC
