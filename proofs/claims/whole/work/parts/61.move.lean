/-! move -/
theorem ct_forget {N : Nat} {X : Nat → Int} {d : Nat} (U : am_U) : EvK N X (D_forgetAnswers_s0 (d + 1) U) (rV (am_upd (am_upd (am_upd U 45 5 0) 48 9 0) 52 8 0)) := D_forgetAnswers_r0 ⟨_, Jg_forget_r0 rfl, _, Pl_forget_r0 rfl, _, Cp_forget_r0 rfl, rfl⟩
def mvD (U : am_U) (x1 x2 : Int) : Prop := (0 ≤ x1 ∧ x1 < U 16 0) ∧ (x2 = -1 ∨ (0 ≤ x2 ∧ x2 < U 3 1)) ∧ U 18 x1.toNat ≠ x2 ∧ (0 ≤ U 17 x1.toNat ∨ U 16 2 ≠ 0) ∧ (x2 ≠ -1 → ((fb_ct (tb (U 19 x2.toNat)) 32 : Nat) : Int) < U 8 x2.toNat)
theorem ct_D_move {N : Nat} {X : Nat → Int} {d : Nat} {U : am_U} {x1 x2 : Int} {R : Option am_V × am_M} (h16 : U 16 0 ≤ 16) (h31 : U 3 1 ≤ 12) (hR : ¬ mvD U x1 x2 → ∃ (r : Int) (U1 : am_U), EvK N X (D_refuse_s0 (d + 1) 2 U) (rI r U1) ∧ (r = 0 ∨ r = 1) ∧ R = rI r U1) (hG : mvD U x1 x2 → ∃ U4 : am_U, EvK N X (Hs_keep_s0 (d + 1) U) (rV U4) ∧ ∃ U5 : am_U, EvK N X (Fk_settle_16_s0 (d + 1) x1 x2 U4) (rV U5) ∧ ∃ U6 : am_U, EvK N X (D_forgetAnswers_s0 (d + 1) U5) (rV U6) ∧ R = rI 1 U6) : EvK N X (D_move_s0 (d + 2) x1 x2 U) R := by
  refine D_move_r0 ?_
  by_cases c1 : 0 ≤ x1 ∧ x1 < U 16 0
  · refine ⟨1, U, D_p1 c1, fun z => absurd z (by decide), fun _ => ⟨fun c2 => ⟨by omega, fun c3 => hR (fun o => o.2.2.1 c3), fun c3 => ⟨fun c4 => hG ⟨c1, Or.inl c2, c3, Or.inl c4, fun z => absurd c2 z⟩, fun c4 => ⟨fun c5 => hG ⟨c1, Or.inl c2, c3, Or.inr c5, fun z => absurd c2 z⟩, fun c5 => hR (fun o => o.2.2.2.1.elim (fun z => by omega) (fun z => z c5))⟩⟩⟩, fun c2 => ?_⟩⟩
    by_cases c6 : 0 ≤ x2 ∧ x2 < U 3 1
    · have lv : EvK N X (Fk_living_16_s0 (d + 1) x2 U) (rI ((fb_ct (tb (U 19 x2.toNat)) 32 : Nat) : Int) U) := by
        have := ct_Fk_living_16 (N := N) (X := X) (d := d) (U := U) x2.toNat (by omega)
        rwa [Int.toNat_of_nonneg c6.1] at this
      exact ⟨1, U, D_h1 c6, fun _ => ⟨by omega, fun c3 => hR (fun o => o.2.2.1 c3), fun c3 => ⟨fun c4 => ⟨_, _, lv, by omega, fun c7 => hG ⟨c1, Or.inr c6, c3, Or.inl c4, fun _ => c7⟩, fun c7 => hR (fun o => absurd (o.2.2.2.2 c2) (by omega))⟩, fun c4 => ⟨fun c5 => ⟨_, _, lv, by omega, fun c7 => hG ⟨c1, Or.inr c6, c3, Or.inr c5, fun _ => c7⟩, fun c7 => hR (fun o => absurd (o.2.2.2.2 c2) (by omega))⟩, fun c5 => hR (fun o => o.2.2.2.1.elim (fun z => by omega) (fun z => z c5))⟩⟩⟩, fun z => absurd z (by decide)⟩
    · exact ⟨0, U, D_h0 c6, fun z => absurd rfl z, fun _ => hR (fun o => o.2.1.elim c2 c6)⟩
  · exact ⟨0, U, D_p0 c1, fun _ => hR (fun o => c1 o.1), fun z => absurd rfl z⟩
def mvM (U : am_U) (b n : Nat) (x1 x2 : Int) : Prop := (0 ≤ x1 ∧ x1 < U 122 0) ∧ (x2 = -1 ∨ (0 ≤ x2 ∧ x2 < U 90 b)) ∧ U 124 x1.toNat ≠ x2 ∧ (0 < U 123 x1.toNat ∨ U 121 0 = 1) ∧ (x2 ≠ -1 → ((fb_ct (fun p => U 124 (16 * 0 + p) == x2) n : Nat) : Int) < U 93 (12 * b + x2.toNat))
theorem ct_M_move {N : Nat} {X : Nat → Int} {d : Nat} {U : am_U} {b n : Nat} {x1 x2 : Int} {R : Option am_V × am_M} (hb : U 86 13 = (b : Nat)) (hb2 : b < 2) (hn : U 122 0 = (n : Nat)) (hn2 : n ≤ 16) (h90 : U 90 b ≤ 12) (hR : ¬ mvM U b n x1 x2 → R = rI 0 (am_upd U 119 2 (w32 (U 119 2 + 1)))) (hG : mvM U b n x1 x2 → ∃ U1 : am_U, EvK N X (M_keeps_s0 (d + 1) U) (rV U1) ∧ R = rI 1 (am_upd U1 124 x1.toNat x2)) : EvK N X (M_move_s0 (d + 2) x1 x2 U) R := by
  have rf : ∀ y, ¬ mvM U b n x1 x2 → EvK N X (M_move_s83 (d + 1 + 1) x1 x2 y U) R := fun y z => M_move_r83 ⟨_, _, ct_M_refuses 2 (by decide), fun _ => hR z, fun q => absurd q (by decide)⟩
  by_cases c1 : 0 ≤ x1 ∧ x1 < U 122 0
  · have s21 : (x2 = -1 ∨ (0 ≤ x2 ∧ x2 < U 90 b)) → EvK N X (M_move_s21 (d + 1 + 1) x1 x2 U) R := fun c2 => by
      refine M_move_r21 ⟨by omega, fun c3 => rf _ (fun o => o.2.2.1 c3), fun c3 => ⟨fun c4 => ⟨fun c5 => hG ⟨c1, c2, c3, Or.inl c5, fun z => absurd c4 z⟩, fun c5 => ⟨fun c6 => rf _ (fun o => o.2.2.2.1.elim (fun z => by omega) c6), fun c6 => hG ⟨c1, c2, c3, Or.inr c6, fun z => absurd c4 z⟩⟩⟩, fun c4 => ?_⟩⟩
      have c2' : 0 ≤ x2 ∧ x2 < U 90 b := c2.resolve_left c4
      have lv := ct_M_living (N := N) (X := X) (d := d) (U := U) 0 x2 (by decide) hn hn2
      have rm : EvK N X (M_roomsOf_s0 (d + 1) x2 U) (rI (U 93 (12 * b + x2.toNat)) U) := by
        have := ct_M_roomsOf (N := N) (X := X) (d := d + 1) (U := U) x2.toNat hb hb2 (by omega)
        rwa [Int.toNat_of_nonneg c2'.1] at this
      exact ⟨_, _, lv, _, _, rm, fun c5 => rf _ (fun o => absurd (o.2.2.2.2 c4) (by omega)), fun c5 => ⟨fun c6 => hG ⟨c1, c2, c3, Or.inl c6, fun _ => c5⟩, fun c6 => ⟨fun c7 => rf _ (fun o => o.2.2.2.1.elim (fun z => by omega) c7), fun c7 => hG ⟨c1, c2, c3, Or.inr c7, fun _ => c5⟩⟩⟩⟩
    refine M_move_r0 ⟨1, U, M_p1 c1, fun z => absurd z (by decide), fun _ => ⟨fun c2 => s21 (Or.inl c2), fun c2 => ?_⟩⟩
    by_cases c6 : 0 ≤ x2 ∧ x2 < U 90 b
    · exact ⟨1, U, M_h1 hb hb2 c6, fun z => absurd z (by decide), fun _ => s21 (Or.inr c6)⟩
    · exact ⟨0, U, M_h0 hb hb2 c6, fun _ => M_move_r25 (rf _ (fun o => o.2.1.elim c2 c6)), fun z => absurd rfl z⟩
  · exact M_move_r0 ⟨0, U, M_p0 c1, fun _ => M_move_r25 (rf _ (fun o => c1 o.1)), fun z => absurd rfl z⟩
theorem mv_iff {U : am_U} {b ns nh nl nw nd cl n : Nat} (ht : iTown U b ns nh nl nw nd cl) (hf : iFolk U n nh) (x1 x2 : Int) : mvM U b n x1 x2 ↔ mvD U x1 x2 := by
  obtain ⟨⟨f1, f2, f3⟩, ⟨f4, f5⟩, ⟨f6, f7⟩, f8, f9, f10⟩ := hf
  have t31 := ht.2.2.1.1
  have t90 := ht.2.2.1.2.1
  have t12 := ht.2.2.1.2.2.1
  have tr := ht.2.2.1.2.2.2
  unfold mvM mvD
  rw [f1, f2, t31, t90, f6]
  refine and_congr_right fun c1 => and_congr_right fun c2 => ?_
  have p1 := f8 x1.toNat (by omega)
  have p2 := f9.1 x1.toNat (by omega)
  rw [p1.1, p1.2]
  refine and_congr_right fun c3 => and_congr (by omega) ?_
  refine forall_congr' fun c4 => ?_
  have c2' := c2.resolve_left c4
  rw [(tr x2.toNat (by omega)).2.2.1.1, dw_ct f10 f3 (show x2.toNat < 12 by omega), Int.toNat_of_nonneg c2'.1]
  have e : fb_ct (fun p => U 124 (16 * 0 + p) == x2) n = fb_ct (fun p => U 18 p == x2) n := fb_ct_cong (fun p hp => by rw [Nat.mul_zero, Nat.zero_add, (f8 p hp).2])
  rw [e]
theorem pair_move {N : Nat} {X : Nat → Int} {d : Nat} {U : am_U} {b ns nh nl nw nd cl n k w g : Nat} (ht : iTown U b ns nh nl nw nd cl) (hf : iFolk U n nh) (hs : iRS U) (hh : iHist U nh k w g) (hp : iPrt U) (x1 x2 : Int) : act2 N X (D_move_s0 (d + 2) x1 x2) (M_move_s0 (d + 2) x1 x2) U nh n := by
  have h16 : U 16 0 ≤ 16 := by have := hf.1; omega
  have h31 : U 3 1 ≤ 12 := by have := ht.2.2.1; omega
  have h90 : U 90 b ≤ 12 := by have := ht.2.2.1; omega
  by_cases ok : mvD U x1 x2
  · have okM := (mv_iff ht hf x1 x2).mpr ok
    obtain ⟨p, rfl⟩ : ∃ p : Nat, x1 = p := ⟨x1.toNat, by have := ok.1; omega⟩
    have hpn : p < n := by have := ok.1; rw [hf.1.1] at this; omega
    have hhp := hf.2.2.2.2.1.1 p hpn
    have t12 := ht.2.2.1.2.2.1
    have hx2 : -1 ≤ x2 ∧ x2 < (nh : Nat) := by
      have := ok.2.1; rw [ht.2.2.1.1] at this; omega
    have okM' := okM
    obtain ⟨Uk, k1, k2, k3⟩ := act_done (N := N) (X := X) (d := d) hf hs hh
    have k18 := k2 18 (by decide) (by decide)
    have k19 := k2 19 (by decide) (by decide)
    obtain ⟨U5, f1, f2, f3, f4, f5⟩ := ct_settle_16 (N := N) (X := X) (d := d + 1) (U := Uk) (hs := x2) hpn hf.1.2.2 (by omega) (by rw [k18]; omega)
    rw [k18] at f2
    rw [k18, k19] at f3
    have f3' := f3 hf.2.2.2.2.2
    generalize hU1 : am_upd (am_upd (am_upd U5 45 5 0) 48 9 0) 52 8 0 = U1
    have u1 : ∀ r, r ≠ 18 → r ≠ 19 → r ≠ 45 → r ≠ 48 → r ≠ 52 → U1 r = Uk r := fun r q1 q2 q3 q4 q5 => by rw [← hU1, upd_row q5, upd_row q4, upd_row q3, f5 r q1 q2]
    have u1' : ∀ r, r ≠ 18 → r ≠ 19 → r ≠ 45 → r ≠ 48 → r ≠ 52 → r ≠ 56 → ¬ (58 ≤ r ∧ r < 78) → U1 r = U r := fun r q1 q2 q3 q4 q5 q6 q7 => by rw [u1 r q1 q2 q3 q4 q5, k2 r q6 q7]
    have u18 : U1 18 = s1 (U 18) p x2 := by rw [← hU1, upd_row (by decide), upd_row (by decide), upd_row (by decide), f2]
    have u19 : U1 19 = U5 19 := by rw [← hU1, upd_row (by decide), upd_row (by decide), upd_row (by decide)]
    have z45 : U1 45 5 = 0 := by rw [← hU1, upd_row (by decide), upd_row (by decide), upd_at]
    have z48 : U1 48 9 = 0 := by rw [← hU1, upd_row (by decide), upd_at]
    have z52 : U1 52 8 = 0 := by rw [← hU1, upd_at]
    have dM : EvK N X (D_move_s0 (d + 2) (p : Nat) x2 U) (rI 1 U1) := ct_D_move h16 h31 (fun z => absurd ok z) (fun _ => ⟨_, k1, _, f1, _, ct_forget U5, by rw [hU1]⟩)
    obtain ⟨Um, m1, m2, m3, m4, m5, m6⟩ := k3 U1 (fun r j q1 q2 q3 q4 q5 q6 => by rw [u1 r (by omega) (by omega) q2 q3 q4])
    obtain ⟨g1, g2, g3, g4⟩ := m6 (am_upd Um 124 p x2) (fun r j q1 q2 q3 => by rw [upd_row (by omega)]) (fun j hj => by rw [upd_row (show 120 ≠ 124 by decide), upd_row (show 121 ≠ 124 by decide), upd_row (show 122 ≠ 124 by decide)]; exact ⟨rfl, rfl, rfl⟩) (fun j hj => by rw [upd_row (show 123 ≠ 124 by decide), upd_ne (by have := hf.1.2.2; omega)]; exact ⟨rfl, rfl⟩)
    have okU1 : mvM U1 b n (p : Nat) x2 := by
      unfold mvM at okM ⊢
      rw [u1' 122 (by decide) (by decide) (by decide) (by decide) (by decide) (by decide) (by decide), u1' 90 (by decide) (by decide) (by decide) (by decide) (by decide) (by decide) (by decide), u1' 124 (by decide) (by decide) (by decide) (by decide) (by decide) (by decide) (by decide), u1' 123 (by decide) (by decide) (by decide) (by decide) (by decide) (by decide) (by decide), u1' 121 (by decide) (by decide) (by decide) (by decide) (by decide) (by decide) (by decide), u1' 93 (by decide) (by decide) (by decide) (by decide) (by decide) (by decide) (by decide)]
      exact okM
    have eM : EvK N X (M_move_s0 (d + 2) (p : Nat) x2 U1) (rI 1 (am_upd Um 124 p x2)) := ct_M_move (b := b) (n := n) (by rw [u1' 86 (by decide) (by decide) (by decide) (by decide) (by decide) (by decide) (by decide)]; exact ht.1.1) ht.1.2 (by rw [u1' 122 (by decide) (by decide) (by decide) (by decide) (by decide) (by decide) (by decide)]; exact hf.1.2.1) hf.1.2.2 (by rw [u1' 90 (by decide) (by decide) (by decide) (by decide) (by decide) (by decide) (by decide)]; exact h90) (fun z => absurd okU1 z) (fun _ => ⟨_, m1, by rw [Int.toNat_natCast]⟩)
    have v : ∀ r, r ≠ 86 → ¬ (120 ≤ r ∧ r ≤ 124) → am_upd Um 124 p x2 r = U1 r := fun r q1 q2 => by rw [upd_row (by omega), m2 r q1 q2]
    have v120 : am_upd Um 124 p x2 120 0 = U 120 0 := by rw [upd_row (by decide), (m4 0 (by decide)).1, u1' 120 (by decide) (by decide) (by decide) (by decide) (by decide) (by decide) (by decide)]
    have v121 : am_upd Um 124 p x2 121 0 = U 121 0 := by rw [upd_row (by decide), (m4 0 (by decide)).2.1, u1' 121 (by decide) (by decide) (by decide) (by decide) (by decide) (by decide) (by decide)]
    have v122 : am_upd Um 124 p x2 122 0 = U 122 0 := by rw [upd_row (by decide), (m4 0 (by decide)).2.2, u1' 122 (by decide) (by decide) (by decide) (by decide) (by decide) (by decide) (by decide)]
    have v123 : ∀ j, j < 16 → am_upd Um 124 p x2 123 j = U 123 j ∧ am_upd Um 124 p x2 124 j = if j = p then x2 else U 124 j := fun j hj => by rw [upd_row (show 123 ≠ 124 by decide), upd_if, (m5 j (by omega)).1, (m5 j (by omega)).2, u1' 123 (by decide) (by decide) (by decide) (by decide) (by decide) (by decide) (by decide), u1' 124 (by decide) (by decide) (by decide) (by decide) (by decide) (by decide) (by decide)]; exact ⟨rfl, rfl⟩
    have v16 : am_upd Um 124 p x2 16 = U 16 := by rw [v 16 (by decide) (by decide), u1' 16 (by decide) (by decide) (by decide) (by decide) (by decide) (by decide) (by decide)]
    have v17 : am_upd Um 124 p x2 17 = U 17 := by rw [v 17 (by decide) (by decide), u1' 17 (by decide) (by decide) (by decide) (by decide) (by decide) (by decide) (by decide)]
    have v18 : am_upd Um 124 p x2 18 = s1 (U 18) p x2 := by rw [v 18 (by decide) (by decide), u18]
    have v19 : am_upd Um 124 p x2 19 = U5 19 := by rw [v 19 (by decide) (by decide), u19]
    have v8 : am_upd Um 124 p x2 8 = U 8 := by rw [v 8 (by decide) (by decide), u1' 8 (by decide) (by decide) (by decide) (by decide) (by decide) (by decide) (by decide)]
    have v20 : am_upd Um 124 p x2 20 = U 20 := by rw [v 20 (by decide) (by decide), u1' 20 (by decide) (by decide) (by decide) (by decide) (by decide) (by decide) (by decide)]
    refine ⟨1, U1, am_upd Um 124 p x2, n, dM, eM, g1, ?_, g4 (fun j => by rw [u1' 1 (by decide) (by decide) (by decide) (by decide) (by decide) (by decide) (by decide)]) (fun j => by rw [upd_row (by decide)]), g3, ?_, Or.inl ⟨by rw [v 45 (by decide) (by decide)]; exact z45, by rw [v 48 (by decide) (by decide)]; exact z48, by rw [v 52 (by decide) (by decide)]; exact z52⟩⟩
    · obtain ⟨⟨q1, q2, q3⟩, ⟨q4, q5⟩, ⟨q6, q7⟩, q8, q9, q10⟩ := hf
      unfold iFolk
      rw [v16, v120, v121, v122, v17, v18, v19, v8]
      refine ⟨⟨q1, q2, q3⟩, ⟨q4, q5⟩, ⟨q6, q7⟩, fun j hj => ?_, ?_, by rw [f2] at f3'; exact f3'⟩
      · rw [(v123 j (by omega)).1, (v123 j (by omega)).2, (q8 j hj).1, (q8 j hj).2]; exact ⟨rfl, rfl⟩
      · rcases ok.2.1 with c | c
        · subst c; exact ppl_out hpn q9
        · have lt := ok.2.2.2.2 (by omega)
          obtain ⟨gh, rfl⟩ : ∃ gh : Nat, x2 = gh := ⟨x2.toNat, by omega⟩
          rw [Int.toNat_natCast, dw_ct q10 q3 (by omega)] at lt
          exact ppl_move hpn (by omega) q9 lt
    · unfold iPrt; rw [v20, v17]; exact hp
  · have nM : ¬ mvM (am_upd U 85 2 (w32 (U 85 2 + 1))) b n x1 x2 := by
      intro z
      apply ok
      refine (mv_iff ht hf x1 x2).mp ?_
      unfold mvM at z ⊢
      rwa [upd_row (show 122 ≠ 85 by decide), upd_row (show 90 ≠ 85 by decide), upd_row (show 124 ≠ 85 by decide), upd_row (show 123 ≠ 85 by decide), upd_row (show 121 ≠ 85 by decide), upd_row (show 93 ≠ 85 by decide)] at z
    refine act_refused (c := 2) hf hs hh hp (by decide) (ct_D_move h16 h31 (fun _ => ⟨_, _, ct_D_refuse 2 (by decide), Or.inl rfl, rfl⟩) (fun z => absurd z ok)) (ct_M_move (b := b) (n := n) ?_ ht.1.2 ?_ hf.1.2.2 ?_ (fun _ => ?_) (fun z => absurd z nM))
    · rw [upd_row (by decide)]; exact ht.1.1
    · rw [upd_row (by decide)]; exact hf.1.2.1
    · rw [upd_row (by decide)]; exact h90
    · rw [upd_row (show 119 ≠ 85 by decide)]
