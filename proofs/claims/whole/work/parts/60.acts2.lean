/-! acts that are kept -/
/-- both sides kept the act, then changed the people -/
theorem act_done {N : Nat} {X : Nat → Int} {d : Nat} {U : am_U} {n nh k w g : Nat} (hf : iFolk U n nh) (hs : iRS U) (hh : iHist U nh k w g) : ∃ Uk, EvK N X (Hs_keep_s0 (d + 1) U) (rV Uk) ∧ (∀ r, r ≠ 56 → ¬ (58 ≤ r ∧ r < 78) → Uk r = U r) ∧ ∀ U1, (∀ r j, ¬ (16 ≤ r ∧ r ≤ 20) → r ≠ 45 → r ≠ 48 → r ≠ 52 → ¬ (r = 1 ∧ j = 18) → scr r j = false → U1 r j = Uk r j) → ∃ Um, EvK N X (M_keeps_s0 (d + 1) U1) (rV Um) ∧ (∀ r, r ≠ 86 → ¬ (120 ≤ r ∧ r ≤ 124) → Um r = U1 r) ∧ (∀ j, j ≠ 57 → j ≠ 58 → Um 86 j = U1 86 j) ∧ (∀ j, j < 2 → Um 120 j = U1 120 j ∧ Um 121 j = U1 121 j ∧ Um 122 j = U1 122 j) ∧ (∀ j, j < 32 → Um 123 j = U1 123 j ∧ Um 124 j = U1 124 j) ∧ ∀ V, (∀ r j, ¬ (120 ≤ r ∧ r ≤ 124) → ¬ (r = 86 ∧ j = 59) → scr r j = false → V r j = Um r j) → (∀ j, 2 ≤ j → V 120 j = Um 120 j ∧ V 121 j = Um 121 j ∧ V 122 j = Um 122 j) → (∀ j, 32 ≤ j → V 123 j = Um 123 j ∧ V 124 j = Um 124 j) → agrA U V ∧ (∀ k, k < 6 → V 119 k = V 85 k) ∧ (∃ k w g, iHist V nh k w g) ∧ ((∀ j, U1 1 j = U 1 j) → (∀ j, V 86 j = Um 86 j) → iRS V) := by
  have hh' := hh
  obtain ⟨⟨a1, a2, a3⟩, ⟨a4, a5⟩, ⟨a6, a7⟩, a8⟩ := hh'
  have b1 : (w + 1) % 20 < 20 := Nat.mod_lt _ (by decide)
  have bg : (g + k) % 20 < 20 := Nat.mod_lt _ (by decide)
  obtain ⟨Uk, k1, k2, k3, k4, k5⟩ := ct_keep (N := N) (X := X) (d := d) hf.1.1 hf.1.2.2 hf.2.2.1.2 a1 a3 a4 a5
  refine ⟨Uk, k1, fun r q1 q2 => k2 r q1 (by omega), fun U1 h1 => ?_⟩
  have e1 : ∀ r, ¬ (16 ≤ r ∧ r ≤ 20) → r ≠ 45 → r ≠ 48 → r ≠ 52 → r ≠ 1 → (∀ j, scr r j = false) → U1 r = Uk r := fun r q1 q2 q3 q4 q5 q6 => funext fun j => h1 r j q1 q2 q3 q4 (fun z => q5 z.1) (q6 j)
  have k86 : Uk 86 = U 86 := k2 86 (by decide) (by omega)
  obtain ⟨Um, g', m1, m2, m3, m4, m5, m6, m7, m8, m9, m10, m11, m12, m13⟩ := ct_keeps (N := N) (X := X) (d := d) (U := U1) (k := k) (g := g) (by rw [h1 86 58 (by decide) (by decide) (by decide) (by decide) (by decide) rfl, k86]; exact a2) a3 (by rw [h1 86 57 (by decide) (by decide) (by decide) (by decide) (by decide) rfl, k86]; exact a6) a7
  refine ⟨Um, m1, fun r q1 q2 => m7 r q1 (by omega) (by omega) (by omega) (by omega) (by omega), m8, fun j hj => ?_, fun j hj => ?_, fun V v1 v2 v3 => ?_⟩
  · rw [m9, m10, m11, if_neg (by omega), if_neg (by omega), if_neg (by omega)]; exact ⟨rfl, rfl, rfl⟩
  · rw [m12, m13, if_neg (by omega), if_neg (by omega)]; exact ⟨rfl, rfl⟩
  have big : ∀ r, ¬ (16 ≤ r ∧ r ≤ 20) → r ≠ 45 → r ≠ 48 → r ≠ 52 → r ≠ 1 → (∀ j, scr r j = false) → r ≠ 86 → ¬ (120 ≤ r ∧ r ≤ 124) → V r = Uk r := fun r q1 q2 q3 q4 q5 q6 q7 q8 => funext fun j => by
    rw [v1 r j q8 (fun z => q7 z.1) (q6 j), m7 r q7 (by omega) (by omega) (by omega) (by omega) (by omega), e1 r q1 q2 q3 q4 q5 q6]
  have hrow : ∀ r, 58 ≤ r → r < 78 → V r = Uk r := fun r q1 q2 => big r (by omega) (by omega) (by omega) (by omega) (by omega) (fun j => by unfold scr; rw [if_neg (by omega), if_neg (by omega), if_neg (by omega), if_neg (by omega), if_neg (by omega), if_neg (by omega)]) (by omega) (by omega)
  have lay : ∀ r, 120 ≤ r → r ≤ 124 → ∀ j, scr r j = false → U1 r j = U r j := fun r q1 q2 j q3 => by
    rw [h1 r j (by omega) (by omega) (by omega) (by omega) (by omega) q3, k2 r (by omega) (by omega)]
  have s3 : ∀ j, 2 ≤ j → scr 120 j = false ∧ scr 121 j = false ∧ scr 122 j = false := fun j hj => by simp [scr]; omega
  have s32 : ∀ j, ¬ (16 ≤ j ∧ j < 32) → scr 123 j = false ∧ scr 124 j = false := fun j hj => by simp [scr]; omega
  refine ⟨fun r j e => ?_, fun j hj => ?_, ⟨min (k + 1) 20, (w + 1) % 20, g', ?_⟩, fun z1 z2 => ⟨fun j hj => ?_, ?_⟩⟩
  · have es : scr r j = false := by
      unfold scrA at e
      cases q : scr r j with
      | false => rfl
      | true => rw [q] at e; simp at e
    have er : ¬ ((16 ≤ r ∧ r ≤ 20) ∨ r = 45 ∨ r = 48 ∨ r = 52 ∨ r = 56 ∨ (58 ≤ r ∧ r ≤ 77) ∨ r = 85 ∨ (119 ≤ r ∧ r ≤ 124)) := by
      intro z
      unfold scrA at e
      rw [decide_eq_true z] at e; simp at e
    have e86 : ¬ (r = 86 ∧ (j = 57 ∨ j = 58 ∨ j = 59)) := by
      rintro ⟨rfl, z⟩
      rcases z with rfl | rfl | rfl <;> exact absurd e (by decide)
    have e18 : ¬ (r = 1 ∧ j = 18) := by
      rintro ⟨rfl, rfl⟩
      exact absurd e (by decide)
    rw [v1 r j (by omega) (by omega) es]
    have f1 : U1 r j = U r j := by rw [h1 r j (by omega) (by omega) (by omega) (by omega) e18 es, k2 r (by omega) (by omega)]
    by_cases c : r = 86
    · subst c; rw [m8 j (by omega) (by omega), f1]
    · rw [m7 r c (by omega) (by omega) (by omega) (by omega) (by omega), f1]
  · rw [big 119 (by decide) (by decide) (by decide) (by decide) (by decide) (fun _ => rfl) (by decide) (by decide), big 85 (by decide) (by decide) (by decide) (by decide) (by decide) (fun _ => rfl) (by decide) (by decide), k2 119 (by decide) (by omega), k2 85 (by decide) (by omega)]
    exact hs.1 j hj
  · have v56 : V 56 = Uk 56 := big 56 (by decide) (by decide) (by decide) (by decide) (by decide) (fun _ => rfl) (by decide) (by decide)
    have v8 : V 8 = U 8 := by rw [big 8 (by decide) (by decide) (by decide) (by decide) (by decide) (fun _ => rfl) (by decide) (by decide), k2 8 (by decide) (by omega)]
    refine hist_kept hf hh v8 (fun ρ q1 q2 q3 => ?_) (rowIs_cg (hrow _ (by omega) (by omega)) k3) (by rw [v56]; exact k4) (by rw [v56]; exact k5) m2 (by rw [v1 86 57 (by decide) (by decide) rfl]; exact m3) (by rw [v1 86 58 (by decide) (by decide) rfl]; exact m4) m5 m6 (fun j hj => ?_) (fun j hj => ?_) (fun j hj => ?_) (fun j hj => ?_) (fun j hj => ?_)
    · rw [hrow ρ q1 q2, k2 ρ (by omega) q3]
    · rw [(v2 j hj).1, m9, lay 120 (by decide) (by decide) 0 rfl, lay 120 (by decide) (by decide) j (s3 j hj).1]
    · rw [(v2 j hj).2.1, m10, lay 121 (by decide) (by decide) 0 rfl, lay 121 (by decide) (by decide) j (s3 j hj).2.1]
    · rw [(v2 j hj).2.2, m11, lay 122 (by decide) (by decide) 0 rfl, lay 122 (by decide) (by decide) j (s3 j hj).2.2]
    · rw [(v3 j hj).1, m12, lay 123 (by decide) (by decide) j (s32 j (by omega)).1]
      by_cases c : 16 * (2 + (g + k) % 20) ≤ j ∧ j < 16 * (2 + (g + k) % 20) + 16
      · rw [if_pos c, if_pos c, lay 123 (by decide) (by decide) _ (s32 _ (by omega)).1]
      · rw [if_neg c, if_neg c]
    · rw [(v3 j hj).2, m13, lay 124 (by decide) (by decide) j (s32 j (by omega)).2]
      by_cases c : 16 * (2 + (g + k) % 20) ≤ j ∧ j < 16 * (2 + (g + k) % 20) + 16
      · rw [if_pos c, if_pos c, lay 124 (by decide) (by decide) _ (s32 _ (by omega)).2]
      · rw [if_neg c, if_neg c]
  · rw [big 119 (by decide) (by decide) (by decide) (by decide) (by decide) (fun _ => rfl) (by decide) (by decide), big 85 (by decide) (by decide) (by decide) (by decide) (by decide) (fun _ => rfl) (by decide) (by decide), k2 119 (by decide) (by omega), k2 85 (by decide) (by omega)]
    exact hs.1 j hj
  · rw [z2 59, m8 59 (by decide) (by decide), v1 1 18 (by decide) (by decide) rfl, m7 1 (by decide) (by decide) (by decide) (by decide) (by decide) (by decide), z1 18, h1 86 59 (by decide) (by decide) (by decide) (by decide) (by decide) rfl, k86]
    exact hs.2
theorem pair_night {N : Nat} {X : Nat → Int} {d : Nat} {U : am_U} {n nh k w g : Nat} (hf : iFolk U n nh) (hs : iRS U) (hh : iHist U nh k w g) (hp : iPrt U) (x : Int) (hx : x = 0 ∨ x = 1) : act2 N X (D_night_s0 (d + 2) x) (M_night_s0 (d + 2) x) U nh n := by
  have e2 := hf.2.2.1
  by_cases c : U 16 2 = x
  · refine act_refused (c := 2) hf hs hh hp (by decide) (D_night_r0 ⟨fun z => absurd c z, fun _ => ⟨_, _, ct_D_refuse 2 (by decide), Or.inl rfl, rfl⟩⟩) (M_night_r0 ?_)
    have s : (am_upd U 85 2 (w32 (U 85 2 + 1))) 121 0 = x := by rw [upd_row (by decide), e2.1]; exact c
    have s119 : (am_upd U 85 2 (w32 (U 85 2 + 1))) 119 2 = U 119 2 := by rw [upd_row (by decide)]
    have mr := ct_M_refuses (N := N) (X := X) (d := d + 1) (U := am_upd U 85 2 (w32 (U 85 2 + 1))) 2 (by decide)
    rw [s119] at mr
    rw [s]
    clear s s119
    rcases hx with rfl | rfl
    · exact ⟨fun _ => ⟨fun z => absurd rfl z, fun _ => ⟨_, _, mr, fun _ => rfl, fun z => absurd z (by decide)⟩⟩, fun z => absurd z (by decide)⟩
    · exact ⟨fun z => absurd rfl z, fun _ => ⟨fun z => absurd rfl z, fun _ => ⟨_, _, mr, fun _ => rfl, fun z => absurd z (by decide)⟩⟩⟩
  · obtain ⟨Uk, k1, k2, k3⟩ := act_done (N := N) (X := X) (d := d) hf hs hh
    obtain ⟨Um, m1, m2, m3, m4, m5, m6⟩ := k3 (am_upd Uk 16 2 x) (fun r j q1 q2 q3 q4 q5 q6 => by rw [upd_row (by omega)])
    obtain ⟨g1, g2, g3, g4⟩ := m6 (am_upd Um 121 0 x) (fun r j q1 q2 q3 => by rw [upd_row (by omega)]) (fun j hj => by rw [upd_row (show 120 ≠ 121 by decide), upd_row (show 122 ≠ 121 by decide), upd_ne (by omega)]; exact ⟨rfl, rfl, rfl⟩) (fun j hj => by rw [upd_row (show 123 ≠ 121 by decide), upd_row (show 124 ≠ 121 by decide)]; exact ⟨rfl, rfl⟩)
    have s : (am_upd Uk 16 2 x) 121 0 = U 16 2 := by rw [upd_row (by decide), k2 121 (by decide) (by omega), e2.1]
    have rV' : ∀ r, ¬ (r = 16) → r ≠ 56 → ¬ (58 ≤ r ∧ r < 78) → r ≠ 86 → ¬ (120 ≤ r ∧ r ≤ 124) → am_upd Um 121 0 x r = U r := fun r q1 q2 q3 q4 q5 => by rw [upd_row (by omega), m2 r q4 q5, upd_row q1, k2 r q2 q3]
    have v16 : ∀ j, am_upd Um 121 0 x 16 j = if j = 2 then x else U 16 j := fun j => by rw [upd_row (by decide), m2 16 (by decide) (by decide), upd_if, k2 16 (by decide) (by decide)]
    have v120 : am_upd Um 121 0 x 120 0 = U 120 0 := by rw [upd_row (by decide), (m4 0 (by decide)).1, upd_row (by decide), k2 120 (by decide) (by decide)]
    have v122 : am_upd Um 121 0 x 122 0 = U 122 0 := by rw [upd_row (by decide), (m4 0 (by decide)).2.2, upd_row (by decide), k2 122 (by decide) (by decide)]
    have v123 : ∀ j, j < 16 → am_upd Um 121 0 x 123 j = U 123 j ∧ am_upd Um 121 0 x 124 j = U 124 j := fun j hj => by rw [upd_row (show 123 ≠ 121 by decide), upd_row (show 124 ≠ 121 by decide), (m5 j (by omega)).1, (m5 j (by omega)).2, upd_row (show 123 ≠ 16 by decide), upd_row (show 124 ≠ 16 by decide), k2 123 (by decide) (by decide), k2 124 (by decide) (by decide)]; exact ⟨rfl, rfl⟩
    have v121 : am_upd Um 121 0 x 121 0 = x := upd_at _ _ _ _
    refine ⟨1, am_upd Uk 16 2 x, am_upd Um 121 0 x, n, D_night_r0 ⟨fun _ => ⟨_, k1, hx, rfl⟩, fun z => absurd z c⟩, M_night_r0 ?_, g1, ?_, g4 (fun j => by rw [upd_row (by decide), k2 1 (by decide) (by decide)]) (fun j => by rw [upd_row (by decide)]), g3, ?_, Or.inr ⟨rfl, ?_, rV' 17 (by decide) (by decide) (by decide) (by decide) (by decide), rV' 18 (by decide) (by decide) (by decide) (by decide) (by decide), rV' 19 (by decide) (by decide) (by decide) (by decide) (by decide), rV' 20 (by decide) (by decide) (by decide) (by decide) (by decide), fun j _ => by rw [rV' 45 (by decide) (by decide) (by decide) (by decide) (by decide)], rV' 48 (by decide) (by decide) (by decide) (by decide) (by decide), rV' 52 (by decide) (by decide) (by decide) (by decide) (by decide)⟩⟩
    · rw [s]
      have e3 := e2.2
      rcases hx with rfl | rfl
      · exact ⟨fun z => absurd (e3.resolve_right z) c, fun _ => ⟨fun _ => ⟨_, m1, fun _ => rfl, fun z => absurd rfl z⟩, fun z => absurd z (by decide)⟩⟩
      · exact ⟨fun _ => ⟨fun _ => ⟨_, m1, fun z => absurd z (by decide), fun _ => rfl⟩, fun z => absurd z (by decide)⟩, fun z => absurd z c⟩
    · obtain ⟨⟨f1, f2, f3⟩, ⟨f4, f5⟩, ⟨f6, f7⟩, f8, f9, f10⟩ := hf
      refine ⟨⟨by rw [v16, if_neg (by decide)]; exact f1, by rw [v122]; exact f2, f3⟩, ⟨by rw [v120, v16, if_neg (by decide)]; exact f4, by rw [v16, if_neg (by decide)]; exact f5⟩, ⟨by rw [v121, v16, if_pos rfl], by rw [v16, if_pos rfl]; exact hx⟩, fun p hp => ?_, ?_, ?_⟩
      · rw [(v123 p (by omega)).1, (v123 p (by omega)).2, rV' 17 (by decide) (by decide) (by decide) (by decide) (by decide), rV' 18 (by decide) (by decide) (by decide) (by decide) (by decide)]; exact f8 p hp
      · rw [rV' 17 (by decide) (by decide) (by decide) (by decide) (by decide), rV' 18 (by decide) (by decide) (by decide) (by decide) (by decide), rV' 8 (by decide) (by decide) (by decide) (by decide) (by decide)]; exact f9
      · rw [rV' 18 (by decide) (by decide) (by decide) (by decide) (by decide), rV' 19 (by decide) (by decide) (by decide) (by decide) (by decide)]; exact f10
    · unfold iPrt; rw [rV' 20 (by decide) (by decide) (by decide) (by decide) (by decide), rV' 17 (by decide) (by decide) (by decide) (by decide) (by decide)]; exact hp
    · rw [v16, if_neg (by decide)]
