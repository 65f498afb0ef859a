theorem pair_years {N : Nat} {X : Nat → Int} {d : Nat} {U : am_U} {b ns nh nl nw nd cl n k w g : Nat} (ht : iTown U b ns nh nl nw nd cl) (hf : iFolk U n nh) (hs : iRS U) (hh : iHist U nh k w g) (hp : iPrt U) (x : Int) : act2 N X (D_years_s0 (d + 5) x) (M_years_s0 (d + 5) x) U nh n := by
  have hyr := hf.2.1
  by_cases ok : (1 ≤ x ∧ x ≤ 50) ∧ U 16 1 ≤ 9999 - x
  · obtain ⟨m, rfl⟩ : ∃ m : Nat, x = m := ⟨x.toNat, by omega⟩
    obtain ⟨sd, hsd⟩ : ∃ sd : Nat, U 1 18 = sd := ⟨(U 1 18).toNat, by have := hs.2.2.1; omega⟩
    have hsd2 : sd < 2147483648 := by have := hs.2.2.2; omega
    have t31 := ht.2.2.1.1
    have t90 := ht.2.2.1.2.1
    have t12 := ht.2.2.1.2.2.1
    have tr := ht.2.2.1.2.2.2
    have t35 := ht.2.2.2.2.2.1
    obtain ⟨Uk, k1, k2, k3⟩ := act_done (N := N) (X := X) (d := d + 3) hf hs hh
    have kr : ∀ r, r ≤ 55 → Uk r = U r := fun r q => k2 r (by omega) (by omega)
    have kr' : ∀ r, 78 ≤ r → Uk r = U r := fun r q => k2 r (by omega) (by omega)
    have fo : FOk (U 8) nh (n, U 17, U 18) := ⟨hf.1.2.2, hf.2.2.2.2.1⟩
    have rd : RD Uk Uk (U 16 1) (n, U 17, U 18) sd := by
      refine ⟨by rw [kr 16 (by decide)]; exact hf.1.1, kr 17 (by decide), kr 18 (by decide), by rw [kr 19 (by decide)]; exact hf.2.2.2.2.2, by unfold iPrt; rw [kr 20 (by decide), kr 17 (by decide)]; exact hp, ⟨by rw [kr 1 (by decide)]; exact hsd, hsd2⟩, fun _ _ _ _ => rfl, rfl, by rw [kr 16 (by decide)]⟩
    obtain ⟨U5, d1, d2⟩ := D_years_l (N := N) (X := X) (d := d) (m := m) (U0 := Uk) (nh := nh) (F := U 3 5) (by omega) (by rw [kr 3 (by decide)]; exact t31) t12 (by rw [kr 3 (by decide)]) m 0 (by omega) Uk (U 16 1) (n, U 17, U 18) sd 0 rd (by rw [kr 8 (by decide)]; exact fo) (by omega) (by omega)
    rw [kr 8 (by decide)] at d1 d2
    have fo' : FOk (U 8) nh (ysF (U 8) nh (U 3 5) m (n, U 17, U 18) sd 0).1 := FOk_ys m _ _ _ fo
    generalize hU1 : am_upd (am_upd (am_upd U5 45 5 0) 48 9 0) 52 8 0 = U1 at d1
    have u1 : ∀ r, r ≠ 45 → r ≠ 48 → r ≠ 52 → U1 r = U5 r := fun r q3 q4 q5 => by rw [← hU1, upd_row q5, upd_row q4, upd_row q3]
    have u1j : ∀ r j, ¬ (16 ≤ r ∧ r ≤ 20) → r ≠ 45 → r ≠ 48 → r ≠ 52 → ¬ (r = 1 ∧ j = 18) → U1 r j = Uk r j := fun r j a c e f q => by rw [u1 r c e f]; exact d2.2.2.2.2.2.2.1 r j a q
    have z45 : U1 45 5 = 0 := by rw [← hU1, upd_row (by decide), upd_row (by decide), upd_at]
    have z48 : U1 48 9 = 0 := by rw [← hU1, upd_row (by decide), upd_at]
    have z52 : U1 52 8 = 0 := by rw [← hU1, upd_at]
    clear hU1
    obtain ⟨Um, m1, m2, m3, m4, m5, m6⟩ := k3 U1 (fun r j q1 q2 q3 q4 q5 q6 => u1j r j q1 q2 q3 q4 q5)
    have u1r : ∀ r, 78 ≤ r → U1 r = U r := fun r q => funext fun j => by rw [u1j r j (by omega) (by omega) (by omega) (by omega) (by omega), kr' r q]
    have rm : RM Um Um (U 16 1) (n, U 17, U 18) sd := by
      refine ⟨by rw [(m4 0 (by decide)).2.2, u1r 122 (by decide)]; exact hf.1.2.1, fun p hp' => ?_, ⟨by rw [m3 59 (by decide) (by decide), u1r 86 (by decide), hs.2.1]; exact hsd, hsd2⟩, fun _ _ _ _ _ _ _ => rfl, by rw [(m4 0 (by decide)).1, u1r 120 (by decide)]; exact hf.2.1.1⟩
      have hp2 : p < n := hp'
      have := hf.1.2.2
      rw [(m5 p (by omega)).1, (m5 p (by omega)).2, u1r 123 (by decide), u1r 124 (by decide)]
      exact hf.2.2.2.1 p hp2
    have um : ∀ r, 87 ≤ r → r < 120 → Um r = U r := fun r q1 q2 => by rw [m2 r (by omega) (by omega), u1r r (by omega)]
    obtain ⟨V, e1, e2⟩ := M_years_l (N := N) (X := X) (d := d + 1) (m := m) (U0 := Um) (nh := nh) (b := b) (F := U 3 5) (rm := U 8) (by omega) (by rw [m3 13 (by decide) (by decide), u1r 86 (by decide)]; exact ht.1.1) ht.1.2 (by rw [um 90 (by decide) (by decide)]; exact t90) t12 (by rw [um 110 (by decide) (by decide)]; exact t35.1) (fun h hh' => by rw [um 93 (by decide) (by decide)]; exact (tr h hh').2.2.1.1) m 0 (by omega) Um (U 16 1) (n, U 17, U 18) sd 0 rm fo (by omega) (by omega)
    generalize ysF (U 8) nh (U 3 5) m (n, U 17, U 18) sd 0 = res at d1 d2 e1 e2 fo'
    obtain ⟨w1, w2, w3, w4, w5⟩ := e2
    obtain ⟨y1, y2, y3, y4, y5, y6, y7, y8, y9⟩ := d2
    obtain ⟨g1, g2, g3, g4⟩ := m6 V (fun r j q1 q2 q3 => w4 r j (by omega) (by omega) (by omega) q2 (by omega)) (fun j hj => ⟨w4 120 j (by omega) (by omega) (by omega) (by omega) (by omega), w4 121 j (by omega) (by omega) (by omega) (by omega) (by omega), w4 122 j (by omega) (by omega) (by omega) (by omega) (by omega)⟩) (fun j hj => ⟨w4 123 j (by omega) (by omega) (by omega) (by omega) (by omega), w4 124 j (by omega) (by omega) (by omega) (by omega) (by omega)⟩)
    have vr : ∀ r, r < 86 → V r = U1 r := fun r q => by
      rw [show V r = Um r from funext fun j => w4 r j (by omega) (by omega) (by omega) (by omega) (by omega), m2 r (by omega) (by omega)]
    have vu : ∀ r, r < 86 → r ≠ 45 → r ≠ 48 → r ≠ 52 → V r = U5 r := fun r q a c e => (vr r q).trans (u1 r a c e)
    have v121 : V 121 0 = U 121 0 := by rw [w4 121 0 (by decide) (by decide) (by decide) (by decide) (by decide), (m4 0 (by decide)).2.1, u1r 121 (by decide)]
    have v8 : V 8 = U 8 := by rw [vu 8 (by decide) (by decide) (by decide) (by decide), show U5 8 = Uk 8 from funext fun j => y7 8 j (by omega) (by omega), kr 8 (by decide)]
    have hA : EvK N X (D_years_s0 (d + 5) ((m : Nat) : Int) U) (rI ((res.2.2 : Nat) : Int) U1) := by
      refine D_years_r0 ⟨fun z => absurd z (by omega), fun _ => ⟨fun z => absurd z (by omega), fun _ => ?_⟩⟩
      rw [w32_eq (x := 9999 - ((m : Nat) : Int)) (by omega) (by omega)]
      exact ⟨fun _ => ⟨_, k1, d1⟩, fun z => absurd z (by omega)⟩
    have hB : EvK N X (M_years_s0 (d + 5) ((m : Nat) : Int) U1) (rI ((res.2.2 : Nat) : Int) V) := by
      refine M_years_r0 ⟨1, U1, M_is1 ok.1, fun z => absurd z (by decide), fun _ => ?_⟩
      rw [u1r 120 (by decide), hf.2.1.1, w32_eq (x := U 16 1 + ((m : Nat) : Int)) (by omega) (by omega)]
      exact ⟨fun _ => ⟨_, m1, e1⟩, fun z => absurd z (by omega)⟩
    refine ⟨_, U1, V, res.1.1, hA, hB, g1, ?_, ⟨g2, ?_⟩, g3, ?_, Or.inl ⟨?_, ?_, ?_⟩⟩
    · unfold iFolk
      rw [vu 16 (by decide) (by decide) (by decide) (by decide), vu 17 (by decide) (by decide) (by decide) (by decide), vu 18 (by decide) (by decide) (by decide) (by decide), vu 19 (by decide) (by decide) (by decide) (by decide), v8, v121, w5, y9, y8, kr 16 (by decide), y2, y3]
      exact ⟨⟨y1, w1, fo'.1⟩, ⟨rfl, by omega⟩, hf.2.2.1, w2, fo'.2, y4⟩
    · rw [w3.1, vu 1 (by decide) (by decide) (by decide) (by decide), y6.1]
      have := w3.2
      exact ⟨rfl, by omega, by omega⟩
    · unfold iPrt; rw [vu 20 (by decide) (by decide) (by decide) (by decide), vu 17 (by decide) (by decide) (by decide) (by decide)]; exact y5
    · rw [vr 45 (by decide)]; exact z45
    · rw [vr 48 (by decide)]; exact z48
    · rw [vr 52 (by decide)]; exact z52
  · have s119 : (am_upd U 85 3 (w32 (U 85 3 + 1))) 119 3 = U 119 3 := by rw [upd_row (by decide)]
    have mr := ct_M_refuses (N := N) (X := X) (d := d + 4) (U := am_upd U 85 3 (w32 (U 85 3 + 1))) 3 (by decide)
    rw [s119] at mr
    clear s119
    refine act_refused (c := 3) (ra := -1) hf hs hh hp (by decide) (D_years_r0 ?_) (M_years_r0 ?_)
    · refine ⟨fun _ => ⟨_, _, ct_D_refuse 3 (by decide), rfl⟩, fun c1 => ⟨fun _ => ⟨_, _, ct_D_refuse 3 (by decide), rfl⟩, fun c2 => ?_⟩⟩
      rw [w32_eq (x := 9999 - x) (by omega) (by omega)]
      exact ⟨fun z => absurd ⟨⟨c1, c2⟩, z⟩ ok, fun _ => ⟨_, _, ct_D_refuse 3 (by decide), rfl⟩⟩
    · by_cases c : 1 ≤ x ∧ x ≤ 50
      · refine ⟨1, _, M_is1 c, fun z => absurd z (by decide), fun _ => ?_⟩
        rw [upd_row (show 120 ≠ 85 by decide), hf.2.1.1, w32_eq (x := U 16 1 + x) (by omega) (by omega)]
        exact ⟨fun z => absurd ⟨c, by omega⟩ ok, fun _ => ⟨_, _, mr, rfl⟩⟩
      · exact ⟨0, _, M_is0 c, fun _ => ⟨_, _, mr, rfl⟩, fun z => absurd rfl z⟩
