/-! town: both alike -/
section TWN
variable {N : Nat} {X : Nat → Int} {d : Nat} {U : am_U}
theorem scY_86 {b j : Nat} (h : scY b 86 j) : j = 3 ∨ j = 4 ∨ j = 5 ∨ j = 6 ∨ j = 7 ∨ j = 8 ∨ j = 9 ∨ j = 12 ∨ j = 39 ∨ j = 46 ∨ j = 47 ∨ j = 49 ∨ j = 50 := by
  unfold scY at h
  omega
theorem scY_row {b r j : Nat} (h1 : r ≠ 86) (h2 : ¬ (88 ≤ r ∧ r ≤ 118)) : ¬ scY b r j := fun h => by
  unfold scY at h
  omega
theorem scY_bank {b b0 r j : Nat} (hb : b = 1 - b0) (hb0 : b0 < 2) (h1 : 88 ≤ r ∧ r ≤ 112) (h3 : wdt r * b0 ≤ j) (h4 : j < wdt r * b0 + wdt r) : ¬ scY b r j := fun h => by
  unfold scY at h
  have hb' : b0 = 0 ∧ b = 1 ∨ b0 = 1 ∧ b = 0 := by omega
  generalize wdt r = w at h h3 h4
  rcases hb' with ⟨rfl, rfl⟩ | ⟨rfl, rfl⟩ <;> omega
theorem pair_town (hI : Inv U) : ∃ r U1 U2, EvK N X (D_town_s0 (d + 92) U) (rI r U1) ∧ EvK N X (M_town_s0 (d + 92) U1) (rI r U2) ∧ Inv U2 := by
  obtain ⟨b0, ns, nh, nl, nw, nd, cl, n, k, w, g, ht, hf, hm, hh, hp, hj, hc, hpl, hr2, htp⟩ := hI
  obtain ⟨⟨t1, t2, t3⟩, t4⟩ := id htp
  obtain ⟨L, hL⟩ : ∃ L : Nat, U 1 1 = (L : Nat) := ⟨(U 1 1).toNat, by omega⟩
  obtain ⟨b, hb⟩ : ∃ b : Nat, b = 1 - b0 := ⟨_, rfl⟩
  have hb2 : b < 2 := by omega
  have hb02 := ht.1.2
  obtain ⟨q, q1, q2, ⟨U1, r, k1, k2, k3, k4⟩, q4⟩ := town_read (N := N) (X := X) (U0 := U) (b := b) d hL (by omega) (by rw [t1]; exact hL) t4 ht.1.1 hb02 hb
  obtain ⟨Z, hZ⟩ : ∃ Z, Z = am_upd (am_upd (am_upd U1 1 1 0) 1 3 (U1 26 4)) 1 4 (U1 26 5) := ⟨_, rfl⟩
  have zr : ∀ r, r ≠ 1 → Z r = U1 r := fun r q => by rw [hZ, upd_row q, upd_row q, upd_row q]
  have z1 : Z 1 1 = 0 ∧ Z 1 3 = U1 26 4 ∧ Z 1 4 = U1 26 5 ∧ ∀ j, 5 ≤ j → Z 1 j = U 1 j := by
    rw [hZ]
    refine ⟨?_, ?_, upd_at _ _ _ _, fun j hj => ?_⟩
    · rw [upd_ne (by decide), upd_ne (by decide), upd_at]
    · rw [upd_ne (by decide), upd_at]
    · rw [upd_ne (by omega), upd_ne (by omega), upd_ne (by omega), k2 1 (by omega)]
  cases hq : q.1 with
  | none =>
    -- it is refused
    have fk1 := q1 hq
    obtain ⟨x1, x2, x3⟩ := k4 hq
    obtain ⟨U2, hU2⟩ : ∃ U2, U2 = am_upd Z 85 1 (w32 (Z 85 1 + 1)) := ⟨_, rfl⟩
    have u2 : ∀ r, r ≠ 85 → U2 r = Z r := fun r q => by rw [hU2, upd_row q]
    have dU : EvK N X (D_town_s0 (d + 92) U) (rI (-1) U2) := by
      refine D_town_r0 ⟨r, U1, k1, fun z => absurd x1 z, fun _ => ⟨0, U2, ?_, rfl⟩⟩
      rw [← hZ, hU2]; exact ct_D_refuse 1 (by decide)
    have ur : ∀ r, ¬ (21 ≤ r ∧ r ≤ 43) → r ≠ 1 → r ≠ 85 → U2 r = U r := fun r q1 q2 q3 => by rw [u2 r q3, zr r q2, k2 r q1]
    obtain ⟨V', n', ⟨y1, y1a, y1b⟩, y2, -, y4⟩ := q4 (d + 83) U2 (fun r a1 a2 => ur r (by omega) (by omega) (by omega))
    obtain ⟨v8, v9⟩ := y4 hq
    obtain ⟨Y, hY⟩ : ∃ Y, Y = am_upd (am_upd V' 86 10 (V' 86 8)) 86 11 (V' 86 9) := ⟨_, rfl⟩
    obtain ⟨F, hF⟩ : ∃ F, F = am_upd Y 119 1 (w32 (Y 119 1 + 1)) := ⟨_, rfl⟩
    have mU : EvK N X (M_town_s0 (d + 92) U2) (rI (-1) F) := by
      refine y2 _ (M_town_r129 ⟨fun _ => ⟨fun z => absurd z (by omega), fun _ => ⟨-1, F, ?_, rfl⟩⟩, fun z => absurd z (by omega)⟩)
      rw [← hY, hF]; exact ct_M_refuses 1 (by decide)
    have fr : ∀ r j, r ≠ 86 → r ≠ 119 → ¬ scY b r j → F r j = U2 r j := fun r j a1 a2 a3 => by
      rw [hF, upd_row a2, hY, upd_row a1, upd_row a1]
      exact y1 r j a3 (fun z => a1 z.1)
    refine ⟨-1, U2, F, dU, mU, inv_ref (b0 := b0) ⟨fun r a0 a1 a2 a3 a4 a5 => funext fun j => ?_, fun r j a1 a2 a3 a4 => ?_, fun j hj => ?_, fun j hj => ?_, ⟨?_, ?_⟩, ⟨?_, ?_⟩, fun j => ⟨?_, ?_⟩⟩ ht hf hm hh hp hj hc hpl hr2 htp⟩
    · rw [fr r j a4 (by omega) (scY_row a4 (by omega)), ur r a1 a2 a3]
    · rw [fr r j (by omega) (by omega) (scY_bank hb hb02 ⟨a1, a2⟩ a3 a4), ur r (by omega) (by omega) (by omega)]
    · rw [hF, upd_row (by decide), hY, upd_ne (by omega), upd_ne (by omega), y1 86 j (fun z => by have := scY_86 z; omega) (fun z => by omega), ur 86 (by omega) (by omega) (by omega)]
    · rw [fr 1 j (by decide) (by decide) (scY_row (by decide) (by decide)), u2 1 (by decide)]; exact z1.2.2.2 j hj
    · rw [hF, upd_row (by decide), hY, upd_ne (by decide), upd_ne (by decide)]; exact y1a
    · rw [fr 1 1 (by decide) (by decide) (scY_row (by decide) (by decide)), u2 1 (by decide)]; exact z1.1
    · rw [hF, upd_row (by decide), hY, upd_ne (by decide), upd_at, upd_row (by decide), upd_row (by decide), upd_row (by decide), y1 1 3 (scY_row (by decide) (by decide)) (by decide), u2 1 (by decide), z1.2.1, v8, x2]
    · rw [hF, upd_row (by decide), hY, upd_at, upd_row (by decide), upd_row (by decide), upd_row (by decide), y1 1 4 (scY_row (by decide) (by decide)) (by decide), u2 1 (by decide), z1.2.2.1, v9, x3]
    · rw [fr 85 j (by decide) (by decide) (scY_row (by decide) (by decide)), hU2, upd_if, zr 85 (by decide), k2 85 (by omega)]
    · have e119 : ∀ j, Y 119 j = U 119 j := fun j => by
        rw [hY, upd_row (by decide), upd_row (by decide), y1 119 j (scY_row (by decide) (by decide)) (by omega), ur 119 (by omega) (by omega) (by omega)]
      rw [hF, upd_if, e119, e119]
  | some p =>
    -- it is the new town
    obtain ⟨s', W⟩ := p
    obtain ⟨s80, ns', nh', nl', nw', nd', cl', n', hG, hcl'⟩ := q2 s' W hq
    obtain ⟨x1, x2, x3, x4, x5⟩ := k3 s' W hq
    obtain ⟨hbW, h18, hS, hH, hLn, hD, hFr, hLw, hWd, hP⟩ := hG
    have hnh := hH.2.2.1
    have hn16 := hP.2.2.1
    have u31 : U1 31 = W 3 := x2.1 31 (by decide) (by decide) (by decide)
    obtain ⟨g21, g22, g23⟩ := x2.2.2.1
    -- the class
    obtain ⟨Ua, a1, a2, a3, a4, a5⟩ := ct_Tw_copyFrom (N := N) (X := X) (d := d + 89) (U := Z) (L := cl') (by rw [zr 31 (by decide), u31]; exact h18) hcl'
    have ar : ∀ r, ¬ (3 ≤ r ∧ r ≤ 15) → r ≠ 1 → Ua r = U1 r := fun r q1 q2 => by rw [a2 r (by omega) (by omega), zr r q2]
    have iPa : iPrt Ua := by
      unfold iPrt
      rw [ar 20 (by omega) (by omega), ar 17 (by omega) (by omega), k2 20 (by omega), k2 17 (by omega)]; exact hp
    obtain ⟨Ub, b1, b2, b3, b4, b5, b6, b7⟩ := ct_copyFrom (N := N) (X := X) (d := d + 89) (m := n') (U := Ua) (by rw [ar 21 (by omega) (by omega), g21]; exact hP.1) hn16 (by rw [ar 21 (by omega) (by omega), g21]; exact Or.inl hP.2.2.2.2.2.2) (fun p hp' => by
      rw [ar 23 (by omega) (by omega), g23]
      have := (hP.2.2.2.2.1.1 p hp').2.2
      omega) iPa
    obtain ⟨Ue, hUe⟩ : ∃ Ue, Ue = am_upd (am_upd (am_upd (am_upd (am_upd Ub 78 5 0) 56 2 0) 45 5 0) 48 9 0) 52 8 0 := ⟨_, rfl⟩
    have er : ∀ r, r ≠ 78 → r ≠ 56 → r ≠ 45 → r ≠ 48 → r ≠ 52 → Ue r = Ub r := fun r q1 q2 q3 q4 q5 => by rw [hUe, upd_row q5, upd_row q4, upd_row q3, upd_row q2, upd_row q1]
    have e26 : Ue 26 3 = (s' : Nat) := by rw [er 26 (by decide) (by decide) (by decide) (by decide) (by decide), b2 26 (by omega), ar 26 (by omega) (by omega)]; exact x3
    have dU : EvK N X (D_town_s0 (d + 92) U) (rI ((s' : Nat) : Int) Ue) := by
      refine D_town_r0 ⟨r, U1, k1, fun _ => ⟨Ua, by rw [← hZ]; exact a1, Ub, b1, _, Rl_forget_r0 rfl, _, Hs_forget_r0 rfl, Ue, ?_, by rw [e26]⟩, fun z => absurd z (by rw [x1]; decide)⟩
      rw [hUe]; exact ct_forget (d := d + 90) _
    have eu : ∀ r, r ≠ 78 → r ≠ 56 → r ≠ 45 → r ≠ 48 → r ≠ 52 → r ≠ 1 → ¬ (3 ≤ r ∧ r ≤ 43) → Ue r = U r := fun r q1 q2 q3 q4 q5 q6 q7 => by rw [er r q1 q2 q3 q4 q5, b2 r (by omega), ar r (by omega) q6, k2 r (by omega)]
    -- the reference
    obtain ⟨V', m', ⟨y1, y1a, y1b⟩, y2, y3, -⟩ := q4 (d + 83) Ue (fun r a1 a2 => eu r (by omega) (by omega) (by omega) (by omega) (by omega) (by omega) (by omega))
    obtain ⟨rfl, v8, v3, v9, rw1, rw2, rw3, rw4⟩ := y3 s' W hq
    obtain ⟨Y, hY⟩ : ∃ Y, Y = am_upd (am_upd (am_upd V' 86 10 (V' 86 8)) 86 11 (V' 86 9)) 86 13 (V' 86 40) := ⟨_, rfl⟩
    have yr : ∀ r, r ≠ 86 → Y r = V' r := fun r q => by rw [hY, upd_row q, upd_row q, upd_row q]
    obtain ⟨F, f1, f2, f3, ⟨f4, f5⟩, ⟨f6, f7, f8⟩, f9⟩ := ct_begin (N := N) (X := X) (d := d + 91) (V := Y) (b := b) (n := n') (by rw [hY, upd_at]; exact y1b) hb2 (by rw [yr 97 (by decide), rw2 97 (by decide) (by decide)]; exact hP.2.1) hn16
    have mU : EvK N X (M_town_s0 (d + 92) Ue) (rI ((m' : Nat) : Int) F) := by
      refine y2 _ (M_town_r129 ⟨fun z => absurd v8 z, fun _ => ⟨fun _ => ⟨fun _ => ⟨F, by rw [← hY]; exact f1, rfl⟩, fun z => absurd z (by omega)⟩, fun z => absurd v3 z⟩⟩)
    -- rows of the class
    have fc : ∀ r, r ≤ 85 → F r = Ue r := fun r hr => by
      rw [f2 r (by omega) (by omega), yr r (by omega)]
      exact funext fun j => y1 r j (scY_row (by omega) (by omega)) (fun z => by omega)
    have fm : ∀ r, 125 ≤ r → F r = U r := fun r hr => by
      rw [f2 r (by omega) (by omega), yr r (by omega)]
      have : V' r = Ue r := funext fun j => y1 r j (scY_row (by omega) (by omega)) (fun z => by omega)
      rw [this, eu r (by omega) (by omega) (by omega) (by omega) (by omega) (by omega) (by omega)]
    have fb : ∀ r, 88 ≤ r → r ≤ 110 → F r = W r := fun r q1 q2 => by rw [f2 r (by omega) (by omega), yr r (by omega)]; exact rw2 r q1 q2
    have fu : ∀ r, r ≤ 85 → r ≠ 78 → r ≠ 56 → r ≠ 45 → r ≠ 48 → r ≠ 52 → r ≠ 1 → ¬ (3 ≤ r ∧ r ≤ 43) → F r = U r := fun r q0 q1 q2 q3 q4 q5 q6 q7 => by rw [fc r q0]; exact eu r q1 q2 q3 q4 q5 q6 q7
    have f86 : ∀ j, j = 51 ∨ 56 ≤ j → j ≠ 58 → j ≠ 82 → F 86 j = U 86 j := fun j hj q1 q2 => by
      rw [f3 j q1 q2, hY, upd_ne (by omega), upd_ne (by omega), upd_ne (by omega), y1 86 j (fun z => by have := scY_86 z; omega) (fun z => by omega), eu 86 (by decide) (by decide) (by decide) (by decide) (by decide) (by decide) (by decide)]
    have ct : ∀ r, 3 ≤ r → r ≤ 15 → F r = Ua r := fun r q1 q2 => by rw [fc r (by omega), er r (by omega) (by omega) (by omega) (by omega) (by omega), b2 r (by omega)]
    have c1 : ∀ j, 5 ≤ j → F 1 j = U 1 j := fun j hj => by
      rw [fc 1 (by omega), er 1 (by decide) (by decide) (by decide) (by decide) (by decide), b2 1 (by omega), a2 1 (by omega) (by omega)]; exact z1.2.2.2 j hj
    have c1' : F 1 1 = 0 ∧ F 1 3 = 0 ∧ F 1 4 = -1 := by
      rw [fc 1 (by omega), er 1 (by decide) (by decide) (by decide) (by decide) (by decide), b2 1 (by omega), a2 1 (by omega) (by omega)]
      exact ⟨z1.1, by rw [z1.2.1]; exact x4, by rw [z1.2.2.1]; exact x5⟩
    have cp : ∀ r, 16 ≤ r → r ≤ 20 → F r = Ub r := fun r q1 q2 => by rw [fc r (by omega), er r (by omega) (by omega) (by omega) (by omega) (by omega)]
    have p17 : ∀ p, p < n' → F 17 p = W 17 p ∧ F 18 p = W 18 p := fun p hp' => by
      obtain ⟨z1, z2⟩ := b5 p hp'
      rw [cp 17 (by omega) (by omega), cp 18 (by omega) (by omega), z1, z2, ar 22 (by omega) (by omega), ar 23 (by omega) (by omega), g22, g23]; exact ⟨rfl, rfl⟩
    have r8 : ∀ h, h < 12 → F 8 h = W 8 h := fun h hh => by
      rw [ct 8 (by omega) (by omega), a4 8 h (by omega) (by omega) (by omega) (by show h < 12; omega), zr 36 (by decide), x2.1 36 (by decide) (by decide) (by decide)]
    refine ⟨_, Ue, F, dU, mU, b, ns', nh', nl', nw', nd', cl', n', 0, w, g, ?_, ?_, ?_, ?_, ?_, ?_, ?_, ?_, ?_, ?_⟩
    · refine iTown_tEq hb2 ?_ hS hH hLn hD hFr hLw ?_ hcl' (fun i hi => ?_) ⟨fun j hj => ?_, fun r j q1 q2 q3 q4 => ?_, fun j hj => ?_, fun r j q1 q2 _ _ => by rw [fb r q1 q2]⟩
      · rw [f3 13 (by decide) (by decide), hY, upd_at]; exact y1b
      · rcases hWd with ⟨w1, w2, w3⟩ | h
        · exact Or.inl ⟨w1, 0, by omega, w2, w3⟩
        · exact Or.inr h
      · have e15 : F 15 i = W 15 i := by
          rw [ct 15 (by omega) (by omega), a5 i hi, zr 43 (by decide)]
          exact x2.2.1 i (by rw [h18]; omega)
        rw [e15, f2 111 (by decide) (by decide), f2 112 (by decide) (by decide), yr 111 (by decide), yr 112 (by decide)]
        exact rw4 i (by rw [h18]; omega)
      · rw [ct 3 (by omega) (by omega), a3 j (Or.inl hj), zr 31 (by decide), u31]
      · rw [ct r (by omega) (by omega), a4 r j q1 q2 q3 q4, zr (r + 28) (by omega), x2.1 (r + 28) (by omega) (by omega) (by omega), show r + 28 - 28 = r by omega]
      · rw [ct 15 (by omega) (by omega), a5 j hj, zr 43 (by decide)]
        exact x2.2.1 j (by rw [h18]; omega)
    · obtain ⟨o1, o2, o3⟩ := hP.2.2.2.2.1
      have u16 : F 16 1 = 0 ∧ F 16 2 = 0 := by
        rw [cp 16 (by omega) (by omega), b4.1, b4.2, ar 21 (by omega) (by omega), g21]; exact ⟨hP.2.2.2.2.2.1, hP.2.2.2.2.2.2⟩
      refine ⟨⟨by rw [cp 16 (by omega) (by omega)]; exact b3, f8, hn16⟩, ⟨by rw [f6, u16.1], by rw [u16.1]; omega, by rw [u16.1]; omega⟩, ⟨by rw [f7, u16.2], Or.inl u16.2⟩, fun p hp' => ?_, ⟨fun p hp' => ?_, fun p q hpq hq' => ?_, fun h hh' => ?_⟩, ?_⟩
      · obtain ⟨z1, z2⟩ := f9 p hp'
        obtain ⟨z3, z4⟩ := p17 p hp'
        obtain ⟨z5, z6⟩ := hP.2.2.2.1 p hp'
        rw [z1, z2, z3, z4, yr 98 (by decide), yr 99 (by decide), rw2 98 (by decide) (by decide), rw2 99 (by decide) (by decide)]; exact ⟨z5, z6⟩
      · obtain ⟨z3, z4⟩ := p17 p hp'
        rw [z3, z4]; exact o1 p hp'
      · rw [(p17 p (by omega)).1, (p17 q hq').1]; exact o2 p q hpq hq'
      · rw [r8 h (by omega), fb_ct_cong (q := fun p => W 18 p == ((h : Nat) : Int)) (fun p hp' => by rw [(p17 p hp').2])]; exact o3 h hh'
      · rw [cp 18 (by omega) (by omega), cp 19 (by omega) (by omega)]; exact b6
    · obtain ⟨m1, m2, m3, m4⟩ := hm
      refine ⟨⟨?_, ?_⟩, fun j hj => ?_, ?_, ?_⟩
      · rw [f3 10 (by decide) (by decide), hY, upd_ne (by decide), upd_ne (by decide), upd_at, v8, c1'.2.1]
      · rw [f3 11 (by decide) (by decide), hY, upd_ne (by decide), upd_at, v9, c1'.2.2]
      · have : F 119 = U 119 := by
          rw [f2 119 (by omega) (by omega), yr 119 (by omega)]
          have : V' 119 = Ue 119 := funext fun j => y1 119 j (scY_row (by omega) (by omega)) (fun z => by omega)
          rw [this, eu 119 (by omega) (by omega) (by omega) (by omega) (by omega) (by omega) (by omega)]
        rw [this, fu 85 (by decide) (by decide) (by decide) (by decide) (by decide) (by decide) (by decide) (by decide)]; exact m2 j hj
      · rw [f86 59 (by omega) (by omega) (by omega), c1 18 (by omega)]; exact m3
      · rw [f86 89 (by omega) (by omega) (by omega), c1 16 (by omega), fm 138 (by omega), fu 84 (by decide) (by decide) (by decide) (by decide) (by decide) (by decide) (by decide) (by decide)]; exact m4
    · have e56 : F 56 2 = 0 ∧ F 56 1 = U 56 1 := by
        rw [fc 56 (by omega), hUe, upd_row (by decide), upd_row (by decide), upd_row (by decide), upd_at, upd_ne (by decide), upd_row (by decide), b2 56 (by omega), ar 56 (by omega) (by omega), k2 56 (by omega)]; exact ⟨rfl, rfl⟩
      refine ⟨⟨e56.1, f4, by omega⟩, ⟨by rw [e56.2]; exact hh.2.1.1, hh.2.1.2⟩, ⟨by rw [f86 57 (by omega) (by omega) (by omega)]; exact hh.2.2.1.1, hh.2.2.1.2⟩, fun i hi => absurd hi (Nat.not_lt_zero i)⟩
    · unfold iPrt
      rw [cp 20 (by omega) (by omega), cp 17 (by omega) (by omega)]; exact b7
    · refine Or.inl ?_
      rw [fc 45 (by omega), hUe, upd_row (by decide), upd_row (by decide), upd_at]
    · refine ⟨by rw [fm 131 (by omega)]; exact hc.1, Or.inl ?_⟩
      rw [fc 52 (by omega), hUe, upd_at]
    · refine Or.inl ?_
      rw [fc 48 (by omega), hUe, upd_row (by decide), upd_at]
    · refine ⟨Or.inl ⟨?_, Or.inl f5⟩, ?_, by rw [f5]; omega, by rw [f5]; omega⟩
      · rw [fc 78 (by omega), hUe, upd_row (by decide), upd_row (by decide), upd_row (by decide), upd_row (by decide), upd_at]
      · have := hr2.2.1
        unfold iFoe at this ⊢
        rw [fu 79 (by decide) (by decide) (by decide) (by decide) (by decide) (by decide) (by decide) (by decide)]; exact this
    · unfold iTape
      have f861 : F 86 1 = 0 := by rw [f3 1 (by decide) (by decide), hY, upd_ne (by decide), upd_ne (by decide), upd_ne (by decide)]; exact y1a
      have f87 : F 87 = U 87 := by
        rw [f2 87 (by omega) (by omega), yr 87 (by omega)]
        have : V' 87 = Ue 87 := funext fun j => y1 87 j (scY_row (by omega) (by omega)) (fun z => by omega)
        rw [this, eu 87 (by omega) (by omega) (by omega) (by omega) (by omega) (by omega) (by omega)]
      rw [f861, c1'.1, f87, fu 2 (by decide) (by decide) (by decide) (by decide) (by decide) (by decide) (by decide) (by decide)]
      exact ⟨⟨rfl, by omega, by omega⟩, t4⟩
end TWN
