/-! undo -/
theorem pplOk_cg {num num' hm hm' rm rm' : Nat → Int} {n nh : Nat} (h1 : ∀ p, p < n → num' p = num p ∧ hm' p = hm p) (h2 : rm' = rm) (h : pplOk num hm rm n nh) : pplOk num' hm' rm' n nh := by
  obtain ⟨a, b, c⟩ := h
  refine ⟨fun p hp => ?_, fun p q hpq hq => ?_, fun g hg => ?_⟩
  · rw [(h1 p hp).1, (h1 p hp).2]; exact a p hp
  · rw [(h1 p (by omega)).1, (h1 q hq).1]; exact b p q hpq hq
  · rw [h2, fb_ct_cong (q := fun p => hm p == ((g : Nat) : Int)) (fun p hp => by rw [(h1 p hp).2])]; exact c g hg
theorem iPrt_add {U U' : am_U} {n : Nat} {v : Int} (h : iPrt U) (h17 : U' 17 = s1 (U 17) n v) (h20 : U' 20 = s1 (U 20) n (-1) ∨ U 17 n = v ∧ U' 20 = U 20) : iPrt U' := by
  intro p hp
  rw [h17]
  rcases h20 with e | ⟨e1, e2⟩
  · rw [e]
    by_cases c : p = n
    · left; rw [c, s1_at]; decide
    · rw [s1_ne c, s1_ne c]; exact h p hp
  · rw [e2, s1_id e1]; exact h p hp
theorem ct_loadRow_l {N : Nat} {X : Nat → Int} {d ρ : Nat} (hρ : 58 ≤ ρ ∧ ρ < 78) {U0 : am_U} {m : Nat} {yr ni : Int} {num hm : Nat → Int} (hm2 : m ≤ 16) (hr : rowIs U0 ρ m yr ni num hm) (hhm : ∀ p, p < m → -1 ≤ hm p ∧ hm p < 12) : ∀ t i : Nat, i + t = m → ∀ U : am_U, (∀ r, ¬ (16 ≤ r ∧ r ≤ 20) → U r = U0 r) → U 16 0 = (i : Nat) → (U 16 1 = yr ∧ U 16 2 = ni) → (∀ p, p < i → U 17 p = num p ∧ U 18 p = hm p) → DwOk i (U 18) (U 19) → iPrt U → ∃ U', EvK N X (Fk_loadRow_s37 (d + 2) ρ (i : Nat) U) (rV U') ∧ (∀ r, ¬ (16 ≤ r ∧ r ≤ 20) → U' r = U0 r) ∧ U' 16 0 = (m : Nat) ∧ (U' 16 1 = yr ∧ U' 16 2 = ni) ∧ (∀ p, p < m → U' 17 p = num p ∧ U' 18 p = hm p) ∧ DwOk m (U' 18) (U' 19) ∧ iPrt U' := by
  intro t
  induction t with
  | zero =>
    intro i hi U h1 h2 h3 h4 h5 h6
    obtain rfl : i = m := by omega
    exact ⟨U, Fk_loadRow_r37 hρ ⟨fun _ => rfl, fun h => absurd h (by rw [h1 ρ (by omega), hr.1]; omega)⟩, h1, h2, h3, h4, h5, h6⟩
  | succ t ih =>
    intro i hi U h1 h2 h3 h4 h5 h6
    have rr : U ρ = U0 ρ := h1 ρ (by omega)
    obtain ⟨z1, z2⟩ := hr.2.2.2 i (by omega)
    obtain ⟨U1, f1, f2, f3, f4, f5, f6, f7⟩ := ct_add_16 (N := N) (X := X) (d := d) (U := U) (v := num i) (hs := hm i) h2 (by omega) (hhm i (by omega))
    obtain ⟨U', k1, k2⟩ := ih (i + 1) (by omega) U1 (fun r q => by rw [f7 r (by omega) (by omega) (by omega) (by omega) (by omega)]; exact h1 r q) (by rw [f2, s1_at]) (by rw [f2, s1_ne (by decide), s1_ne (by decide)]; exact h3) (fun p hp => by
      rw [f3, f4]
      by_cases c : p = i
      · rw [c, s1_at, s1_at]; exact ⟨rfl, rfl⟩
      · rw [s1_ne c, s1_ne c]; exact h4 p (by omega)) (f5 h5) (iPrt_add h6 f3 f6)
    refine ⟨U', Fk_loadRow_r37 hρ ⟨fun h => absurd h (by rw [rr, hr.1]; omega), fun _ => ⟨fun h => absurd h (by omega), fun _ => ?_⟩⟩, k2⟩
    rw [w32_eq (x := 2 * ((i : Nat) : Int)) (by omega) (by omega), w32_eq (x := 3 + 2 * ((i : Nat) : Int)) (by omega) (by omega), w32_eq (x := 4 + 2 * ((i : Nat) : Int)) (by omega) (by omega), w32_succ (i := i) (by omega), show (3 + 2 * ((i : Nat) : Int)).toNat = 3 + 2 * i from by omega, show (4 + 2 * ((i : Nat) : Int)).toNat = 4 + 2 * i from by omega, rr, z1, z2]
    exact ⟨by omega, by omega, U1, f1, k1⟩
theorem ct_loadRow {N : Nat} {X : Nat → Int} {d ρ : Nat} (hρ : 58 ≤ ρ ∧ ρ < 78) {U : am_U} {m : Nat} {yr ni : Int} {num hm : Nat → Int} (hm2 : m ≤ 16) (hni : ni = 0 ∨ ni = 1) (hr : rowIs U ρ m yr ni num hm) (hhm : ∀ p, p < m → -1 ≤ hm p ∧ hm p < 12) (hp : iPrt U) : ∃ U', EvK N X (Fk_loadRow_s0 (d + 2) ρ U) (rV U') ∧ (∀ r, ¬ (16 ≤ r ∧ r ≤ 20) → U' r = U r) ∧ U' 16 0 = (m : Nat) ∧ (U' 16 1 = yr ∧ U' 16 2 = ni) ∧ (∀ p, p < m → U' 17 p = num p ∧ U' 18 p = hm p) ∧ DwOk m (U' 18) (U' 19) ∧ iPrt U' := by
  obtain ⟨U1, c1, c2, c3, c4, c5, c6⟩ := ct_clear_16 (N := N) (X := X) (d := d) (U := U)
  have r1 : U1 ρ = U ρ := c6 ρ (by omega) (by omega)
  obtain ⟨U', k1, k2⟩ := ct_loadRow_l (N := N) (X := X) (d := d) hρ (U0 := U) hm2 hr hhm m 0 (by omega) (am_upd (am_upd U1 16 1 yr) 16 2 ni) (fun r q => by rw [upd_row (by omega), upd_row (by omega)]; exact c6 r (by omega) (by omega)) (by rw [upd_ne (by decide), upd_ne (by decide)]; exact c2) ⟨by rw [upd_ne (by decide), upd_at], upd_at _ _ _ _⟩ (fun p h => absurd h (Nat.not_lt_zero p)) (by rw [upd_row (by decide), upd_row (by decide), upd_row (by decide), upd_row (by decide)]; exact c5) (by
    unfold iPrt; rw [upd_row (by decide), upd_row (by decide), upd_row (by decide), upd_row (by decide), c6 20 (by decide) (by decide), c6 17 (by decide) (by decide)]; exact hp)
  refine ⟨U', Fk_loadRow_r0 hρ ⟨U1, c1, ?_⟩, k2⟩
  rw [upd_row (show ρ ≠ 16 by omega), r1, hr.2.1, hr.2.2.1]
  rcases hni with rfl | rfl
  · exact ⟨fun _ => k1, fun z => absurd z (by decide)⟩
  · exact ⟨fun z => absurd rfl z, fun _ => k1⟩
theorem pair_undo {N : Nat} {X : Nat → Int} {d : Nat} {U : am_U} {n nh k w g : Nat} (hnh : nh ≤ 12) (hf : iFolk U n nh) (hs : iRS U) (hh : iHist U nh k w g) (hp : iPrt U) : act2 N X (D_undo_s0 (d + 4)) (M_undo_s0 (d + 4)) U nh n := by
  have hh' := hh
  obtain ⟨⟨a1, a2, a3⟩, ⟨a4, a5⟩, ⟨a6, a7⟩, a8⟩ := hh'
  by_cases c : k = 0
  · subst c
    refine act_refused (c := 4) hf hs hh hp (by decide) (D_undo_r0 ⟨_, _, Hs_giveBack_r0 ⟨fun z => absurd a1 z, fun _ => rfl⟩, fun z => absurd rfl z, fun _ => ⟨_, _, ct_D_refuse 4 (by decide), Or.inl rfl, rfl⟩⟩) (M_undo_r0 ?_)
    have s119 : (am_upd U 85 4 (w32 (U 85 4 + 1))) 119 4 = U 119 4 := by rw [upd_row (by decide)]
    have mr := ct_M_refuses (N := N) (X := X) (d := d + 3) (U := am_upd U 85 4 (w32 (U 85 4 + 1))) 4 (by decide)
    rw [s119] at mr
    clear s119
    rw [upd_row (show 86 ≠ 85 by decide)]
    exact ⟨fun z => absurd a2 z, fun _ => ⟨_, _, mr, fun _ => rfl, fun z => absurd z (by decide)⟩⟩
  · have a8' := a8 0 (by omega)
    rw [show 58 + (w + 20 - 0) % 20 = 58 + w from by omega, show 2 + (g + (k - 1 - 0)) % 20 = 2 + (g + (k - 1)) % 20 from rfl] at a8'
    obtain ⟨m, yr, ni, num, hm, b1, b2, b3, b4, b5, b6⟩ := a8'
    obtain ⟨U1, f1, f2, f3, f4, f5, f6, f7⟩ := ct_loadRow (N := N) (X := X) (d := d) (ρ := 58 + w) (by omega) b1 b3 b5 (fun p hp' => by have := b4.1 p hp'; omega) hp
    have hw : Int.tmod (w32 (w32 (U1 56 1 + 20) - 1)) 20 = (((w + 19) % 20 : Nat) : Int) := by
      rw [f2 56 (by decide), a4, w32_eq (x := ((w : Nat) : Int) + 20) (by omega) (by omega), w32_eq (x := ((w : Nat) : Int) + 20 - 1) (by omega) (by omega), show ((w : Nat) : Int) + 20 - 1 = ((w + 19 : Nat) : Int) from by omega]
      exact tmod_nat _ 20
    have hc1 : w32 (U1 56 2 - 1) = ((k - 1 : Nat) : Int) := by
      rw [f2 56 (by decide), a1, w32_eq (by omega) (by omega)]; omega
    have hc2 : w32 (U 86 58 - 1) = ((k - 1 : Nat) : Int) := by
      rw [a2, w32_eq (by omega) (by omega)]; omega
    have gb : EvK N X (Hs_giveBack_s0 (d + 3) U) (rI 1 (am_upd (am_upd U1 56 1 (((w + 19) % 20 : Nat) : Int)) 56 2 ((k - 1 : Nat) : Int))) := by
      refine Hs_giveBack_r0 ⟨fun _ => ?_, fun z => absurd z (by rw [a1]; clear hw hc1 hc2; omega)⟩
      rw [a4, Int.toNat_natCast]
      exact ⟨by clear hw hc1 hc2; omega, U1, f1, by rw [hw, hc1]⟩
    generalize hU3 : am_upd (am_upd (am_upd (am_upd (am_upd U1 56 1 (((w + 19) % 20 : Nat) : Int)) 56 2 ((k - 1 : Nat) : Int)) 45 5 0) 48 9 0) 52 8 0 = U3
    have dU : EvK N X (D_undo_s0 (d + 4) U) (rI 1 U3) := D_undo_r0 ⟨_, _, gb, fun _ => ⟨_, ct_forget (d := d + 2) _, by rw [hU3]⟩, fun z => absurd z (by decide)⟩
    have u3 : ∀ r, r ≠ 56 → r ≠ 45 → r ≠ 48 → r ≠ 52 → U3 r = U1 r := fun r q1 q2 q3 q4 => by rw [← hU3, upd_row q4, upd_row q3, upd_row q2, upd_row q1, upd_row q1]
    have u3' : ∀ r, ¬ (16 ≤ r ∧ r ≤ 20) → r ≠ 56 → r ≠ 45 → r ≠ 48 → r ≠ 52 → U3 r = U r := fun r q0 q1 q2 q3 q4 => by rw [u3 r q1 q2 q3 q4, f2 r q0]
    have z56a : U3 56 1 = (((w + 19) % 20 : Nat) : Int) := by rw [← hU3, upd_row (by decide), upd_row (by decide), upd_row (by decide), upd_ne (by decide), upd_at]
    have z56b : U3 56 2 = ((k - 1 : Nat) : Int) := by rw [← hU3, upd_row (by decide), upd_row (by decide), upd_row (by decide), upd_at]
    have z45 : U3 45 5 = 0 := by rw [← hU3, upd_row (by decide), upd_row (by decide), upd_at]
    have z48 : U3 48 9 = 0 := by rw [← hU3, upd_row (by decide), upd_at]
    have z52 : U3 52 8 = 0 := by rw [← hU3, upd_at]
    clear hU3 hw hc1 gb f1
    have e86 : U3 86 = U 86 := u3' 86 (by decide) (by decide) (by decide) (by decide) (by decide)
    have yb : (g + (k - 1)) % 20 < 20 := Nat.mod_lt _ (by decide)
    have ri := ct_ring (N := N) (X := X) (d := d + 3) (U := am_upd U3 86 58 ((k - 1 : Nat) : Int)) (g := g) (j := k - 1) (by rw [upd_ne (by decide), e86]; exact a6) a7 (by clear hc2; omega)
    obtain ⟨V, m1, m2, m3, m4, m5, m6, m7⟩ := ct_copies (N := N) (X := X) (d := d + 3) (a := 0) (c := 2 + (g + (k - 1)) % 20) (by decide) (by clear hc2; omega) (by clear hc2; omega) (U := am_upd U3 86 58 ((k - 1 : Nat) : Int))
    have mU : EvK N X (M_undo_s0 (d + 4) U3) (rI 1 V) := by
      refine M_undo_r0 ?_
      rw [e86, hc2]
      exact ⟨fun _ => ⟨_, _, ri, V, m1, rfl⟩, fun z => absurd z (by rw [a2]; clear hc2; omega)⟩
    clear hc2 ri m1
    have v : ∀ r, r ≠ 86 → ¬ (120 ≤ r ∧ r ≤ 124) → V r = U3 r := fun r q1 q2 => by rw [m2 r (by omega) (by omega) (by omega) (by omega) (by omega), upd_row q1]
    have v86 : ∀ j, j ≠ 58 → V 86 j = U 86 j := fun j q => by rw [m2 86 (by decide) (by decide) (by decide) (by decide) (by decide), upd_ne q, e86]
    have v8658 : V 86 58 = ((k - 1 : Nat) : Int) := by rw [m2 86 (by decide) (by decide) (by decide) (by decide) (by decide), upd_at]
    have lr : ∀ r, 120 ≤ r → am_upd U3 86 58 ((k - 1 : Nat) : Int) r = U r := fun r q => by rw [upd_row (by omega), u3' r (by omega) (by omega) (by omega) (by omega) (by omega)]
    rw [lr 120 (by decide)] at m3
    rw [lr 121 (by decide)] at m4
    rw [lr 122 (by decide)] at m5
    rw [lr 123 (by decide)] at m6
    rw [lr 124 (by decide)] at m7
    have v16 : V 16 = U1 16 := by rw [v 16 (by decide) (by decide), u3 16 (by decide) (by decide) (by decide) (by decide)]
    have v17 : V 17 = U1 17 := by rw [v 17 (by decide) (by decide), u3 17 (by decide) (by decide) (by decide) (by decide)]
    have v18 : V 18 = U1 18 := by rw [v 18 (by decide) (by decide), u3 18 (by decide) (by decide) (by decide) (by decide)]
    have v19 : V 19 = U1 19 := by rw [v 19 (by decide) (by decide), u3 19 (by decide) (by decide) (by decide) (by decide)]
    have v20 : V 20 = U1 20 := by rw [v 20 (by decide) (by decide), u3 20 (by decide) (by decide) (by decide) (by decide)]
    have v8 : V 8 = U 8 := by rw [v 8 (by decide) (by decide), u3' 8 (by decide) (by decide) (by decide) (by decide) (by decide)]
    refine ⟨1, U3, V, m, dU, mU, fun r j e => ?_, ?_, ⟨fun j hj => ?_, ?_⟩, ⟨k - 1, (w + 19) % 20, g, ?_⟩, ?_, Or.inl ⟨?_, ?_, ?_⟩⟩
    · have er : ¬ ((16 ≤ r ∧ r ≤ 20) ∨ r = 45 ∨ r = 48 ∨ r = 52 ∨ r = 56 ∨ (58 ≤ r ∧ r ≤ 77) ∨ r = 85 ∨ (119 ≤ r ∧ r ≤ 124)) := by
        intro z
        unfold scrA at e
        rw [decide_eq_true z] at e; simp at e
      by_cases q : r = 86
      · subst q
        exact v86 j (fun z => by subst z; exact absurd e (by decide))
      · rw [v r q (by omega), u3' r (by omega) (by omega) (by omega) (by omega) (by omega)]
    · unfold iFolk
      rw [v16, v17, v18, v19, v8, m3 0, m4 0, m5 0, if_pos rfl, if_pos rfl, if_pos rfl]
      obtain ⟨l1, l2, l3, l4⟩ := b6
      refine ⟨⟨f3, l1, b1⟩, ⟨by rw [l2, f4.1], by rw [f4.1]; exact b2⟩, ⟨by rw [l3, f4.2], by rw [f4.2]; exact b3⟩, fun p hp' => ?_, pplOk_cg f5 rfl b4, f6⟩
      rw [m6, m7, if_pos (by omega), if_pos (by omega), Nat.mul_zero, Nat.sub_zero, (l4 p hp').1, (l4 p hp').2, (f5 p hp').1, (f5 p hp').2]
      exact ⟨rfl, rfl⟩
    · rw [v 119 (by decide) (by decide), v 85 (by decide) (by decide), u3' 119 (by decide) (by decide) (by decide) (by decide) (by decide), u3' 85 (by decide) (by decide) (by decide) (by decide) (by decide)]
      exact hs.1 j hj
    · rw [v86 59 (by decide), v 1 (by decide) (by decide), u3' 1 (by decide) (by decide) (by decide) (by decide) (by decide)]
      exact hs.2
    · have bw : (w + 19) % 20 < 20 := Nat.mod_lt _ (by decide)
      refine ⟨⟨by rw [v 56 (by decide) (by decide)]; exact z56b, v8658, by omega⟩, ⟨by rw [v 56 (by decide) (by decide)]; exact z56a, bw⟩, ⟨by rw [v86 57 (by decide)]; exact a6, a7⟩, fun i hi => ?_⟩
      have q1 : ((w + 19) % 20 + 20 - i) % 20 = (w + 20 - (i + 1)) % 20 := by omega
      have q2 : k - 1 - 1 - i = k - 1 - (i + 1) := by omega
      rw [q1, q2]
      have q3 : (w + 20 - (i + 1)) % 20 < 20 := Nat.mod_lt _ (by decide)
      have q4 : (g + (k - 1 - (i + 1))) % 20 < 20 := Nat.mod_lt _ (by decide)
      refine hRow_cg v8 (by rw [v _ (by omega) (by omega), u3' _ (by omega) (by omega) (by omega) (by omega) (by omega)]) ?_ ?_ ?_ (fun p hp' => ⟨?_, ?_⟩) (a8 (i + 1) (by omega))
      · rw [m3, if_neg (by omega)]
      · rw [m4, if_neg (by omega)]
      · rw [m5, if_neg (by omega)]
      · rw [m6, if_neg (by omega)]
      · rw [m7, if_neg (by omega)]
    · unfold iPrt; rw [v20, v17]; exact f7
    · rw [v 45 (by decide) (by decide)]; exact z45
    · rw [v 48 (by decide) (by decide)]; exact z48
    · rw [v 52 (by decide) (by decide)]; exact z52
