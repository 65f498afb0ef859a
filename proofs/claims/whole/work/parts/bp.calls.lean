/-! every call: both answer alike, and what holds holds again -/
def pairI (N : Nat) (X : Nat → Int) (sD sM : am_U → am_S) (U : am_U) : Prop := ∃ r U1 U2, EvK N X (sD U) (rI r U1) ∧ EvK N X (sM U1) (rI r U2) ∧ Inv U2
section CAL
variable {N : Nat} {X : Nat → Int} {d : Nat} {U : am_U} {b ns nh nl nw nd cl n k w g : Nat} {sD sM : am_U → am_S}
theorem of_ask2 (hI : InvP U b ns nh nl nw nd cl n k w g) (h : ask2 N X sD sM U) : pairI N X sD sM U := by
  obtain ⟨r, U1, h1, h2, U2, h3, h4⟩ := h
  exact ⟨r, U1, U2, h1, h3, inv_P (inv_agr h4 (inv_agr h2 hI))⟩
theorem of_ask3 {K : am_U → Prop} (hI : InvP U b ns nh nl nw nd cl n k w g) (h : ask3 N X K sD sM U) (hK : ∀ V, agrC U V → K V → iPrt V ∧ iJdg V b nl nw n ∧ iCpl V n ∧ iPlc V b nl nw n nh) : pairI N X sD sM U := by
  obtain ⟨r, U1, h1, h2, h5, U2, h3, h4⟩ := h
  obtain ⟨c1, c2, c3, c4⟩ := hK U1 h2 h5
  exact ⟨r, U1, U2, h1, h3, inv_P (inv_agr h4 (inv_agrC h2 hI c1 c2 c3 c4))⟩
theorem of_act (hI : InvP U b ns nh nl nw nd cl n k w g) (h : act2 N X sD sM U nh n) : pairI N X sD sM U := by
  obtain ⟨r, U1, U2, n', h1, h2, h3⟩ := h
  exact ⟨r, U1, U2, h1, h2, inv_act hI h3⟩
theorem of_tp (hI : InvP U b ns nh nl nw nd cl n k w g) (h : tp2 N X sD sM U) : pairI N X sD sM U := by
  obtain ⟨r, U1, U2, h1, h2, h3, h4, h5⟩ := h
  exact ⟨r, U1, U2, h1, h2, inv_P (inv_tp hI h3 h4 h5)⟩
theorem keep_lkp {V : am_U} (hI : InvP U b ns nh nl nw nd cl n k w g) (h : lkp U V) (hj : iJdg V b nl nw n) : iPrt V ∧ iJdg V b nl nw n ∧ iCpl V n ∧ iPlc V b nl nw n nh := by
  obtain ⟨i1, i2, i3, i4, i5, i6, i7, i8, i9, i10⟩ := hI
  have r : ∀ r, r ≠ 45 → r ≠ 46 → r ≠ 47 → V r = U r := fun r q1 q2 q3 => funext fun j => h r j q2 q3 (fun z => absurd z q1)
  have sq : sq2 U V b nl := sq2_of ⟨r 17 (by decide) (by decide) (by decide), r 8 (by decide) (by decide) (by decide), r 6 (by decide) (by decide) (by decide), r 12 (by decide) (by decide) (by decide), r 13 (by decide) (by decide) (by decide), r 14 (by decide) (by decide) (by decide), r 15 (by decide) (by decide) (by decide), r 95 (by decide) (by decide) (by decide), r 96 (by decide) (by decide) (by decide)⟩
  refine ⟨?_, hj, iCpl_n sq (r 18 (by decide) (by decide) (by decide)) (by rw [r 131 (by decide) (by decide) (by decide)]) (fun j _ => by rw [r 52 (by decide) (by decide) (by decide)]) (r 55 (by decide) (by decide) (by decide)) i7, iPlc_n sq (r 18 (by decide) (by decide) (by decide)) (fun j _ => by rw [r 48 (by decide) (by decide) (by decide)]) (r 49 (by decide) (by decide) (by decide)) (r 50 (by decide) (by decide) (by decide)) i8⟩
  unfold iPrt
  rw [r 20 (by decide) (by decide) (by decide), r 17 (by decide) (by decide) (by decide)]; exact i5
theorem keep_kP {V : am_U} (hI : InvP U b ns nh nl nw nd cl n k w g) (h : kP U V) : iPrt V ∧ iJdg V b nl nw n ∧ iCpl V n ∧ iPlc V b nl nw n nh := by
  obtain ⟨i1, i2, i3, i4, i5, i6, i7, i8, i9, i10⟩ := hI
  have r : ∀ {r : Nat}, r ≠ 20 → (∀ j, scr r j = false) → V r = U r := fun {r} q1 q => funext fun j => h.1 r j q1 (q j)
  have sq : sq2 U V b nl := sq2_of ⟨r (by decide) (fun _ => rfl), r (by decide) (fun _ => rfl), r (by decide) (fun _ => rfl), r (by decide) (fun _ => rfl), r (by decide) (fun _ => rfl), r (by decide) (fun _ => rfl), r (by decide) (fun _ => rfl), r (by decide) (fun _ => rfl), r (by decide) (fun _ => rfl)⟩
  have e18 : V 18 = U 18 := r (by decide) (fun _ => rfl)
  exact ⟨h.2, iJdg_n sq e18 (h.1 45 5 (by decide) rfl) (r (by decide) (fun _ => rfl)) i6, iCpl_n sq e18 (h.1 131 0 (by decide) rfl) (fun j _ => h.1 52 j (by decide) rfl) (r (by decide) (fun _ => rfl)) i7, iPlc_n sq e18 (fun j _ => h.1 48 j (by decide) rfl) (r (by decide) (fun _ => rfl)) (r (by decide) (fun _ => rfl)) i8⟩
theorem keep_kJP {V : am_U} (hI : InvP U b ns nh nl nw nd cl n k w g) (h : kJP U b nl nw n V) : iPrt V ∧ iJdg V b nl nw n ∧ iCpl V n ∧ iPlc V b nl nw n nh := by
  obtain ⟨i1, i2, i3, i4, i5, i6, i7, i8, i9, i10⟩ := hI
  obtain ⟨h1, h2, h3⟩ := h
  have r : ∀ {r : Nat}, r ≠ 20 → r ≠ 45 → r ≠ 46 → r ≠ 47 → (∀ j, scr r j = false) → V r = U r := fun {r} q1 q2 q3 q4 q => funext fun j => h1 r j q1 q3 q4 (fun z => absurd z q2) (q j)
  have sq : sq2 U V b nl := sq2_of ⟨r (by decide) (by decide) (by decide) (by decide) (fun _ => rfl), r (by decide) (by decide) (by decide) (by decide) (fun _ => rfl), r (by decide) (by decide) (by decide) (by decide) (fun _ => rfl), r (by decide) (by decide) (by decide) (by decide) (fun _ => rfl), r (by decide) (by decide) (by decide) (by decide) (fun _ => rfl), r (by decide) (by decide) (by decide) (by decide) (fun _ => rfl), r (by decide) (by decide) (by decide) (by decide) (fun _ => rfl), r (by decide) (by decide) (by decide) (by decide) (fun _ => rfl), r (by decide) (by decide) (by decide) (by decide) (fun _ => rfl)⟩
  have e18 : V 18 = U 18 := r (by decide) (by decide) (by decide) (by decide) (fun _ => rfl)
  exact ⟨h3, h2, iCpl_n sq e18 (h1 131 0 (by decide) (by decide) (by decide) (by decide) rfl) (fun j _ => h1 52 j (by decide) (by decide) (by decide) (by omega) rfl) (r (by decide) (by decide) (by decide) (by decide) (fun _ => rfl)) i7, iPlc_n sq e18 (fun j _ => h1 48 j (by decide) (by decide) (by decide) (by omega) rfl) (r (by decide) (by decide) (by decide) (by decide) (fun _ => rfl)) (r (by decide) (by decide) (by decide) (by decide) (fun _ => rfl)) i8⟩
theorem keep_fW {V : am_U} (hI : InvP U b ns nh nl nw nd cl n k w g) (h : fW U V) (hc : iCpl V n) : iPrt V ∧ iJdg V b nl nw n ∧ iCpl V n ∧ iPlc V b nl nw n nh := by
  obtain ⟨i1, i2, i3, i4, i5, i6, i7, i8, i9, i10⟩ := hI
  have r : ∀ r, r ≠ 44 → r ≠ 45 → r ≠ 46 → ¬ (52 ≤ r ∧ r ≤ 55) → V r = U r := fun r q1 q2 q3 q4 => funext fun j => h r j q1 q3 (fun z => absurd z q2) (fun z => by omega) (by omega) (by omega) (by omega)
  have sq : sq2 U V b nl := sq2_of ⟨r 17 (by decide) (by decide) (by decide) (by decide), r 8 (by decide) (by decide) (by decide) (by decide), r 6 (by decide) (by decide) (by decide) (by decide), r 12 (by decide) (by decide) (by decide) (by decide), r 13 (by decide) (by decide) (by decide) (by decide), r 14 (by decide) (by decide) (by decide) (by decide), r 15 (by decide) (by decide) (by decide) (by decide), r 95 (by decide) (by decide) (by decide) (by decide), r 96 (by decide) (by decide) (by decide) (by decide)⟩
  have e18 : V 18 = U 18 := r 18 (by decide) (by decide) (by decide) (by decide)
  refine ⟨?_, iJdg_n sq e18 (h 45 5 (by decide) (by decide) (by decide) (by decide) (by decide) (by decide) (by decide)) (r 47 (by decide) (by decide) (by decide) (by decide)) i6, hc, iPlc_n sq e18 (fun j _ => by rw [r 48 (by decide) (by decide) (by decide) (by decide)]) (r 49 (by decide) (by decide) (by decide) (by decide)) (r 50 (by decide) (by decide) (by decide) (by decide)) i8⟩
  unfold iPrt
  rw [r 20 (by decide) (by decide) (by decide) (by decide), r 17 (by decide) (by decide) (by decide) (by decide)]; exact i5
theorem keep_fQ {V : am_U} (hI : InvP U b ns nh nl nw nd cl n k w g) (h : fQ U V) (hc : iPlc V b nl nw n nh) : iPrt V ∧ iJdg V b nl nw n ∧ iCpl V n ∧ iPlc V b nl nw n nh := by
  obtain ⟨i1, i2, i3, i4, i5, i6, i7, i8, i9, i10⟩ := hI
  have r : ∀ r, r ≠ 45 → r ≠ 46 → ¬ (48 ≤ r ∧ r ≤ 51) → V r = U r := fun r q1 q2 q4 => funext fun j => h r j q2 (fun z => absurd z q1) (by omega) (by omega) (by omega) (by omega)
  have sq : sq2 U V b nl := sq2_of ⟨r 17 (by decide) (by decide) (by decide), r 8 (by decide) (by decide) (by decide), r 6 (by decide) (by decide) (by decide), r 12 (by decide) (by decide) (by decide), r 13 (by decide) (by decide) (by decide), r 14 (by decide) (by decide) (by decide), r 15 (by decide) (by decide) (by decide), r 95 (by decide) (by decide) (by decide), r 96 (by decide) (by decide) (by decide)⟩
  have e18 : V 18 = U 18 := r 18 (by decide) (by decide) (by decide)
  refine ⟨?_, iJdg_n sq e18 (h 45 5 (by decide) (by decide) (by decide) (by decide) (by decide) (by decide)) (r 47 (by decide) (by decide) (by decide)) i6, iCpl_n sq e18 (by rw [r 131 (by decide) (by decide) (by decide)]) (fun j _ => by rw [r 52 (by decide) (by decide) (by decide)]) (r 55 (by decide) (by decide) (by decide)) i7, hc⟩
  unfold iPrt
  rw [r 20 (by decide) (by decide) (by decide), r 17 (by decide) (by decide) (by decide)]; exact i5
theorem hI_rs (hI : InvP U b ns nh nl nw nd cl n k w g) : iRS U := ⟨hI.2.2.1.2.1, hI.2.2.1.2.2.1⟩
theorem call_may (hI : Inv U) (x y : Int) : pairI N X (D_may_s0 (d + 92) x y) (M_may_s0 (d + 92) x y) U := by
  obtain ⟨b, ns, nh, nl, nw, nd, cl, n, k, w, g, hI⟩ := hI
  have hI' : InvP U b ns nh nl nw nd cl n k w g := hI
  obtain ⟨i1, i2, i3, i4, i5, i6, i7, i8, i9, i10⟩ := hI
  exact of_ask2 hI' (pair_may i1 i2 x y)
theorem call_fault (hI : Inv U) (x : Int) : pairI N X (D_fault_s0 (d + 92) x) (M_fault_s0 (d + 92) x) U := by
  obtain ⟨b, ns, nh, nl, nw, nd, cl, n, k, w, g, hI⟩ := hI
  have hI' : InvP U b ns nh nl nw nd cl n k w g := hI
  obtain ⟨i1, i2, i3, i4, i5, i6, i7, i8, i9, i10⟩ := hI
  exact of_ask2 hI' (pair_fault i3 x)
theorem call_status (hI : Inv U) (x : Int) : pairI N X (D_status_s0 (d + 92) x) (M_status_s0 (d + 92) x) U := by
  obtain ⟨b, ns, nh, nl, nw, nd, cl, n, k, w, g, hI⟩ := hI
  have hI' : InvP U b ns nh nl nw nd cl n k w g := hI
  obtain ⟨i1, i2, i3, i4, i5, i6, i7, i8, i9, i10⟩ := hI
  exact of_ask2 hI' (pair_status1 i3 x)
theorem call_octet (hI : Inv U) (x : Int) : pairI N X (D_octet_s0 (d + 92) x) (M_octet_s0 (d + 92) x) U := by
  obtain ⟨b, ns, nh, nl, nw, nd, cl, n, k, w, g, hI⟩ := hI
  have hI' : InvP U b ns nh nl nw nd cl n k w g := hI
  obtain ⟨i1, i2, i3, i4, i5, i6, i7, i8, i9, i10⟩ := hI
  exact of_ask2 hI' (pair_octet1 i3 x)
theorem call_hidden (hI : Inv U) (x : Int) : pairI N X (D_hidden_s0 (d + 92) x) (M_hidden_s0 (d + 92) x) U := by
  obtain ⟨b, ns, nh, nl, nw, nd, cl, n, k, w, g, hI⟩ := hI
  have hI' : InvP U b ns nh nl nw nd cl n k w g := hI
  obtain ⟨i1, i2, i3, i4, i5, i6, i7, i8, i9, i10⟩ := hI
  exact of_ask2 hI' (pair_hidden i9.1 (by have := i9.2.2; omega) x)
theorem call_number (hI : Inv U) (x : Int) : pairI N X (D_number_s0 (d + 92) x) (M_number_s0 (d + 92) x) U := by
  obtain ⟨b, ns, nh, nl, nw, nd, cl, n, k, w, g, hI⟩ := hI
  have hI' : InvP U b ns nh nl nw nd cl n k w g := hI
  obtain ⟨i1, i2, i3, i4, i5, i6, i7, i8, i9, i10⟩ := hI
  exact of_ask2 hI' (pair_number i2 x)
theorem call_factor (hI : Inv U) (x y : Int) : pairI N X (D_factor_s0 (d + 92) x y) (M_factor_s0 (d + 92) x y) U := by
  obtain ⟨b, ns, nh, nl, nw, nd, cl, n, k, w, g, hI⟩ := hI
  have hI' : InvP U b ns nh nl nw nd cl n k w g := hI
  obtain ⟨i1, i2, i3, i4, i5, i6, i7, i8, i9, i10⟩ := hI
  exact of_ask2 hI' (pair_factor i2 x y)
theorem call_net (hI : Inv U) (x : Int) : pairI N X (D_net_s0 (d + 92) x) (M_net_s0 (d + 92) x) U := by
  obtain ⟨b, ns, nh, nl, nw, nd, cl, n, k, w, g, hI⟩ := hI
  have hI' : InvP U b ns nh nl nw nd cl n k w g := hI
  obtain ⟨i1, i2, i3, i4, i5, i6, i7, i8, i9, i10⟩ := hI
  exact of_ask2 hI' (pair_net i1 x)
theorem call_house (hI : Inv U) (x y : Int) (hy : in32 y) : pairI N X (D_house_s0 (d + 92) x y) (M_house_s0 (d + 92) x y) U := by
  obtain ⟨b, ns, nh, nl, nw, nd, cl, n, k, w, g, hI⟩ := hI
  have hI' : InvP U b ns nh nl nw nd cl n k w g := hI
  obtain ⟨i1, i2, i3, i4, i5, i6, i7, i8, i9, i10⟩ := hI
  exact of_ask2 hI' (pair_house i1 i2 x y hy.2)
theorem call_holds (hI : Inv U) (x y z : Int) : pairI N X (D_holds_s0 (d + 92) x y z) (M_holds_s0 (d + 92) x y z) U := by
  obtain ⟨b, ns, nh, nl, nw, nd, cl, n, k, w, g, hI⟩ := hI
  have hI' : InvP U b ns nh nl nw nd cl n k w g := hI
  obtain ⟨i1, i2, i3, i4, i5, i6, i7, i8, i9, i10⟩ := hI
  exact of_ask2 hI' (pair_holds i1 i2 x y z)
theorem call_twins (hI : Inv U) (x y : Int) : pairI N X (D_twins_s0 (d + 92) x y) (M_twins_s0 (d + 92) x y) U := by
  obtain ⟨b, ns, nh, nl, nw, nd, cl, n, k, w, g, hI⟩ := hI
  have hI' : InvP U b ns nh nl nw nd cl n k w g := hI
  obtain ⟨i1, i2, i3, i4, i5, i6, i7, i8, i9, i10⟩ := hI
  exact of_ask2 hI' (pair_twins i2 x y)
theorem call_breach (hI : Inv U) (x y : Int) (hx : in32 x) : pairI N X (D_breach_s0 (d + 92) x y) (M_breach_s0 (d + 92) x y) U := by
  obtain ⟨b, ns, nh, nl, nw, nd, cl, n, k, w, g, hI⟩ := hI
  have hI' : InvP U b ns nh nl nw nd cl n k w g := hI
  obtain ⟨i1, i2, i3, i4, i5, i6, i7, i8, i9, i10⟩ := hI
  refine of_ask3 hI' (pair_breach i1 i2 i6 x y hx.2) (fun V hV hK => ?_)
  obtain ⟨c1, U0, c2, c3⟩ := hK
  rw [c3] at c2
  exact keep_lkp hI' c2 c1
theorem call_has (hI : Inv U) (x : Int) : pairI N X (D_has_s0 (d + 92) x) (M_has_s0 (d + 92) x) U := by
  obtain ⟨b, ns, nh, nl, nw, nd, cl, n, k, w, g, hI⟩ := hI
  have hI' : InvP U b ns nh nl nw nd cl n k w g := hI
  obtain ⟨i1, i2, i3, i4, i5, i6, i7, i8, i9, i10⟩ := hI
  exact of_ask3 hI' (pair_has i1 i2 i3 (by rw [i4.1.1, i4.1.2.1]) i6 x) (fun V hV hK => keep_lkp hI' hK.1 hK.2)
theorem call_parts (hI : Inv U) (x y : Int) : pairI N X (D_parts_s0 (d + 92) x y) (M_parts_s0 (d + 92) x y) U := by
  obtain ⟨b, ns, nh, nl, nw, nd, cl, n, k, w, g, hI⟩ := hI
  have hI' : InvP U b ns nh nl nw nd cl n k w g := hI
  obtain ⟨i1, i2, i3, i4, i5, i6, i7, i8, i9, i10⟩ := hI
  exact of_ask3 hI' (pair_parts i2 i5 x y) (fun V hV hK => keep_kP hI' hK)
theorem call_quarrel (hI : Inv U) (x : Int) (hx : in32 x) : pairI N X (D_quarrel_s0 (d + 92) x) (M_quarrel_s0 (d + 92) x) U := by
  obtain ⟨b, ns, nh, nl, nw, nd, cl, n, k, w, g, hI⟩ := hI
  have hI' : InvP U b ns nh nl nw nd cl n k w g := hI
  obtain ⟨i1, i2, i3, i4, i5, i6, i7, i8, i9, i10⟩ := hI
  exact of_ask2 hI' (pair_quarrel i1 i2 x hx.2)
theorem call_friends (hI : Inv U) (x : Int) (hx : in32 x) : pairI N X (D_friends_s0 (d + 92) x) (M_friends_s0 (d + 92) x) U := by
  obtain ⟨b, ns, nh, nl, nw, nd, cl, n, k, w, g, hI⟩ := hI
  have hI' : InvP U b ns nh nl nw nd cl n k w g := hI
  obtain ⟨i1, i2, i3, i4, i5, i6, i7, i8, i9, i10⟩ := hI
  exact of_ask3 hI' (pair_friends i2 i5 x hx) (fun V hV hK => keep_kP hI' hK)
theorem call_person (hI : Inv U) (x y : Int) : pairI N X (D_person_s0 (d + 92) x y) (M_person_s0 (d + 92) x y) U := by
  obtain ⟨b, ns, nh, nl, nw, nd, cl, n, k, w, g, hI⟩ := hI
  have hI' : InvP U b ns nh nl nw nd cl n k w g := hI
  obtain ⟨i1, i2, i3, i4, i5, i6, i7, i8, i9, i10⟩ := hI
  exact of_ask3 hI' (pair_person i1 i2 i6 i5 x y) (fun V hV hK => keep_kJP hI' hK)
theorem call_night (hI : Inv U) (x : Int) (hx : x = 0 ∨ x = 1) : pairI N X (D_night_s0 (d + 92) x) (M_night_s0 (d + 92) x) U := by
  obtain ⟨b, ns, nh, nl, nw, nd, cl, n, k, w, g, hI⟩ := hI
  have hI' : InvP U b ns nh nl nw nd cl n k w g := hI
  obtain ⟨i1, i2, i3, i4, i5, i6, i7, i8, i9, i10⟩ := hI
  exact of_act hI' (pair_night i2 (hI_rs hI') i4 i5 x hx)
theorem call_move (hI : Inv U) (x y : Int) : pairI N X (D_move_s0 (d + 92) x y) (M_move_s0 (d + 92) x y) U := by
  obtain ⟨b, ns, nh, nl, nw, nd, cl, n, k, w, g, hI⟩ := hI
  have hI' : InvP U b ns nh nl nw nd cl n k w g := hI
  obtain ⟨i1, i2, i3, i4, i5, i6, i7, i8, i9, i10⟩ := hI
  exact of_act hI' (pair_move i1 i2 (hI_rs hI') i4 i5 x y)
theorem call_housed (hI : Inv U) : pairI N X (D_housed_s0 (d + 92)) (M_housed_s0 (d + 92)) U := by
  obtain ⟨b, ns, nh, nl, nw, nd, cl, n, k, w, g, hI⟩ := hI
  have hI' : InvP U b ns nh nl nw nd cl n k w g := hI
  obtain ⟨i1, i2, i3, i4, i5, i6, i7, i8, i9, i10⟩ := hI
  exact of_act hI' (pair_housed i1 i2 (hI_rs hI') i4 i5)
theorem call_undo (hI : Inv U) : pairI N X (D_undo_s0 (d + 92)) (M_undo_s0 (d + 92)) U := by
  obtain ⟨b, ns, nh, nl, nw, nd, cl, n, k, w, g, hI⟩ := hI
  have hI' : InvP U b ns nh nl nw nd cl n k w g := hI
  obtain ⟨i1, i2, i3, i4, i5, i6, i7, i8, i9, i10⟩ := hI
  exact of_act hI' (pair_undo i1.2.2.1.2.2.1 i2 (hI_rs hI') i4 i5)
theorem call_years (hI : Inv U) (x : Int) : pairI N X (D_years_s0 (d + 92) x) (M_years_s0 (d + 92) x) U := by
  obtain ⟨b, ns, nh, nl, nw, nd, cl, n, k, w, g, hI⟩ := hI
  have hI' : InvP U b ns nh nl nw nd cl n k w g := hI
  obtain ⟨i1, i2, i3, i4, i5, i6, i7, i8, i9, i10⟩ := hI
  exact of_act hI' (pair_years i1 i2 (hI_rs hI') i4 i5 x)
theorem call_end (hI : Inv U) (x : Int) : pairI N X (D_end_s0 (d + 92) x) (M_end_s0 (d + 92) x) U := by
  obtain ⟨b, ns, nh, nl, nw, nd, cl, n, k, w, g, hI⟩ := hI
  have hI' : InvP U b ns nh nl nw nd cl n k w g := hI
  obtain ⟨i1, i2, i3, i4, i5, i6, i7, i8, i9, i10⟩ := hI
  exact of_tp hI' (pair_end i10 i3.2.1 x)
theorem call_feed (hI : Inv U) (x1 x2 x3 x4 x5 : Int) : pairI N X (D_feed_s0 (d + 92) x1 x2 x3 x4 x5) (M_feed_s0 (d + 92) x1 x2 x3 x4 x5) U := by
  obtain ⟨b, ns, nh, nl, nw, nd, cl, n, k, w, g, hI⟩ := hI
  have hI' : InvP U b ns nh nl nw nd cl n k w g := hI
  obtain ⟨i1, i2, i3, i4, i5, i6, i7, i8, i9, i10⟩ := hI
  exact of_tp hI' (pair_feed i10 i3.2.1 x1 x2 x3 x4 x5)
theorem call_seed (hI : Inv U) (x : Int) (hx : in32 x) : pairI N X (D_seed_s0 (d + 92) x) (M_seed_s0 (d + 92) x) U := by
  obtain ⟨b, ns, nh, nl, nw, nd, cl, n, k, w, g, hI⟩ := hI
  have hI' : InvP U b ns nh nl nw nd cl n k w g := hI
  obtain ⟨i1, i2, i3, i4, i5, i6, i7, i8, i9, i10⟩ := hI
  exact of_act hI' (pair_seed i2 (hI_rs hI') i4 i5 x hx.2)
theorem call_image (hI : Inv U) : pairI N X (D_image_s0 (d + 92)) (M_image_s0 (d + 92)) U := by
  obtain ⟨b, ns, nh, nl, nw, nd, cl, n, k, w, g, hI⟩ := hI
  have hI' : InvP U b ns nh nl nw nd cl n k w g := hI
  obtain ⟨i1, i2, i3, i4, i5, i6, i7, i8, i9, i10⟩ := hI
  obtain ⟨r, U1, U2, h1, h2, h3, h4⟩ := pair_image (N := N) (X := X) (d := d + 90) i1.2.2.1.2.2.1 i2
  exact ⟨r, U1, U2, h1, h2, inv_P (inv_img hI' h3 h4)⟩
theorem call_letter (hI : Inv U) (x y z : Int) : pairI N X (D_letter_s0 (d + 92) x y z) (M_letter_s0 (d + 92) x y z) U := by
  obtain ⟨b, ns, nh, nl, nw, nd, cl, n, k, w, g, hI⟩ := hI
  have hI' : InvP U b ns nh nl nw nd cl n k w g := hI
  obtain ⟨i1, i2, i3, i4, i5, i6, i7, i8, i9, i10⟩ := hI
  exact of_ask2 hI' (pair_letter i1 x y z)
theorem call_rent (hI : Inv U) (x y : Int) : pairI N X (D_rent_s0 (d + 92) x y) (M_rent_s0 (d + 92) x y) U := by
  obtain ⟨b, ns, nh, nl, nw, nd, cl, n, k, w, g, hI⟩ := hI
  have hI' : InvP U b ns nh nl nw nd cl n k w g := hI
  obtain ⟨i1, i2, i3, i4, i5, i6, i7, i8, i9, i10⟩ := hI
  exact of_ask2 hI' (pair_rent i1 i2 x y)
theorem call_on (hI : Inv U) : pairI N X (D_on_s0 (d + 92)) (M_on_s0 (d + 92)) U := by
  obtain ⟨b, ns, nh, nl, nw, nd, cl, n, k, w, g, hI⟩ := hI
  have hI' : InvP U b ns nh nl nw nd cl n k w g := hI
  obtain ⟨i1, i2, i3, i4, i5, i6, i7, i8, i9, i10⟩ := hI
  obtain ⟨r, U1, U2, n', h1, h2, h3⟩ := pair_on (N := N) (X := X) (d := d + 88) i1 i2 (hI_rs hI') i4 i5 i10
  exact ⟨r, U1, U2, h1, h2, inv_act (inv_cut hI') h3⟩
theorem call_weds (hI : Inv U) (x : Int) (hx : in32 x) : pairI N X (D_weds_s0 (d + 92) x) (M_weds_s0 (d + 92) x) U := by
  obtain ⟨b, ns, nh, nl, nw, nd, cl, n, k, w, g, hI⟩ := hI
  have hI' : InvP U b ns nh nl nw nd cl n k w g := hI
  obtain ⟨i1, i2, i3, i4, i5, i6, i7, i8, i9, i10⟩ := hI
  exact of_ask3 hI' (pair_weds i1 i2 i7 x hx) (fun V hV hK => keep_fW hI' hK.2 hK.1)
theorem call_placed (hI : Inv U) (x : Int) : pairI N X (D_placed_s0 (d + 92) x) (M_placed_s0 (d + 92) x) U := by
  obtain ⟨b, ns, nh, nl, nw, nd, cl, n, k, w, g, hI⟩ := hI
  have hI' : InvP U b ns nh nl nw nd cl n k w g := hI
  obtain ⟨i1, i2, i3, i4, i5, i6, i7, i8, i9, i10⟩ := hI
  exact of_ask3 hI' (pair_placed i1 i2 i8 x) (fun V hV hK => keep_fQ hI' hK.2 hK.1)
theorem call_sum (hI : Inv U) (x y : Int) : pairI N X (D_sum_s0 (d + 92) x y) (M_sum_s0 (d + 92) x y) U := by
  obtain ⟨b, ns, nh, nl, nw, nd, cl, n, k, w, g, hI⟩ := hI
  have hI' : InvP U b ns nh nl nw nd cl n k w g := hI
  obtain ⟨i1, i2, i3, i4, i5, i6, i7, i8, i9, i10⟩ := hI
  exact of_ask2 hI' (pair_sum1 i1 i2 x y)
theorem call_struck (hI : Inv U) : pairI N X (D_struck_s0 (d + 92)) (M_struck_s0 (d + 92)) U := by
  obtain ⟨b, ns, nh, nl, nw, nd, cl, n, k, w, g, hI⟩ := hI
  have hI' : InvP U b ns nh nl nw nd cl n k w g := hI
  obtain ⟨i1, i2, i3, i4, i5, i6, i7, i8, i9, i10⟩ := hI
  exact of_ask2 hI' (pair_struck1 i1)
theorem call_tell (hI : Inv U) : pairI N X (D_tell_s0 (d + 92)) (M_tell_s0 (d + 92)) U := by
  obtain ⟨b, ns, nh, nl, nw, nd, cl, n, k, w, g, hI⟩ := hI
  have hI' : InvP U b ns nh nl nw nd cl n k w g := hI
  obtain ⟨i1, i2, i3, i4, i5, i6, i7, i8, i9, i10⟩ := hI
  obtain ⟨r, U1, U2, h1, h2, h3, h4, h5⟩ := pair_tell1 (N := N) (X := X) (d := d + 84) i10 i9 i3.2.1
  exact ⟨r, U1, U2, h1, h2, inv_P (inv_rid (inv_cut hI') h3 h4 h5)⟩
theorem call_town (hI : Inv U) : pairI N X (D_town_s0 (d + 92)) (M_town_s0 (d + 92)) U := by
  obtain ⟨b, ns, nh, nl, nw, nd, cl, n, k, w, g, hI⟩ := hI
  have hI' : InvP U b ns nh nl nw nd cl n k w g := hI
  obtain ⟨i1, i2, i3, i4, i5, i6, i7, i8, i9, i10⟩ := hI
  exact pair_town (inv_P hI')
end CAL
