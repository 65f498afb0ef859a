/-! parts: both sides alike where no frame opens -/
section PT2
variable {N : Nat} {X : Nat → Int} {L K i o : Nat} {T kk vv : Nat → Int} {bp : Int}
theorem tk_num (hk : tkS T L K kk vv bp) (hi : i ≤ K) (h3 : kk i = 3) : 0 ≤ vv i ∧ vv i ≤ 999999999 := by
  rcases hk.2.2.2.1 i hi with ⟨_, z⟩ | ⟨_, _, len, _, _, _, z⟩ | ⟨_, _, len, _, _, h5, z⟩ | ⟨_, _, _, z⟩
  · omega
  · rcases z with ⟨z, _⟩ | ⟨_, _, ⟨z, _⟩ | ⟨z, _⟩⟩ <;> omega
  · rcases z with ⟨z, _⟩ | ⟨_, z1, _, z2⟩
    · omega
    · have vl := v10_lt h5
      have vl2 : v10 T (tkA T L (enS T L i)) len < 1000000000 := Nat.lt_of_lt_of_le vl (Nat.le_trans (Nat.pow_le_pow_right (by decide) z1) (by decide))
      clear vl
      omega
  · rcases z with ⟨z, _⟩ | ⟨z, _⟩ <;> omega
theorem tk_lt (hk : tkS T L K kk vv bp) (hi : i ≤ K) (h : kk i ≠ 0 ∧ kk i ≠ 5) : i < K := by
  rcases Nat.lt_or_ge i K with q | q
  · exact q
  · have e : i = K := by omega
    rw [e] at h
    rcases hk.2.2.2.2.2 with z | z
    · exact absurd z h.1
    · exact absurd z h.2
theorem val_ty {c : Int} (hk : tkS T L K kk vv bp) (hi : i ≤ K) (hc : valC kk vv i c) (t : List Bool) : tyc c t = some (false :: t) := by
  rcases hc with ⟨h1, h2⟩ | ⟨h1, h2, h3⟩
  · have := tk_num hk hi h1
    unfold tyc
    rw [if_pos (by omega), if_pos (by omega)]
  · have e : c = -15 ∨ c = -16 ∨ c = -4 ∨ c = -17 ∨ c = -2 ∨ c = -1 := by omega
    rcases e with rfl | rfl | rfl | rfl | rfl | rfl <;> rfl
theorem part_val {c : Int} (hk : tkS T L K kk vv bp) (hi : i ≤ K) (ho : o ≤ 7) (hc : valC kk vv i c) : PartC N X T L K kk vv bp i o := by
  have hK : K ≤ 1600 := Nat.le_trans hk.2.1 hk.1
  have iK : i < K := tk_lt hk hi (by rcases hc with ⟨h1, _⟩ | ⟨h1, _⟩ <;> omega)
  refine ⟨some (i + 1, [c]), 0, 0, [c], [], (fun e => by cases e), fun i' ds e => ?_, fun d U cl hcS hcl hle => ?_, fun d V b cl f kd ph bg q0 O hb hf ho' hp hF hO hcl hq => ⟨fun i' ds e => ?_, (fun e => by cases e)⟩⟩
  · obtain ⟨rfl, rfl⟩ : i + 1 = i' ∧ [c] = ds := by simpa using e
    exact ⟨by omega, by omega, by simp; omega, fun t ht => tyl_one (val_ty hk hi hc t) (by simp only [List.length_cons]; omega), rfl, (fun c' h => by cases h), by simp, trivial⟩
  · obtain ⟨U1, n1, n2, n3⟩ := ct_Rd_next (N := N) (X := X) (d := d + (10 * (8 - o) + 3)) (by omega) hK hcS iK
    have l1 : U1 31 18 = (cl : Nat) := by rw [n2 31 18 (by omega)]; exact hcl
    have e7 := hcS.2.2.2.2.2.1
    have e8 := hcS.2.2.2.2.2.2.1
    rcases hc with ⟨h1, h2⟩ | ⟨h1, h2, h3⟩
    · obtain ⟨U2, m1, m2, m3, m4⟩ := ct_emit (N := N) (X := X) (d := d + (10 * (8 - o) + 3)) l1 (by omega) c
      refine ⟨U2, 1, Rd_readPart_r0 ⟨fun z => absurd (by rw [e7]; exact h1) z, fun _ => ⟨U1, n1, 1, U2, ?_, Or.inr rfl, rfl⟩⟩, fE_trans (fE_fN n2) m2, fun i' ds e => ?_, (fun e => by cases e)⟩
      · rw [e8, ← h2]; exact m1
      · obtain ⟨rfl, rfl⟩ : i + 1 = i' ∧ [c] = ds := by simpa using e
        exact ⟨rfl, cS_fE m2 m3 n3, emW_app (emW_fN hcl n2) m4⟩
    · obtain ⟨U2, m1, m2, m3, m4⟩ := ct_emitWord (N := N) (X := X) (d := d + (10 * (8 - o) + 2)) l1 (by omega) n3 (vv i) (by omega)
      have sg := ct_Rd_isSign (N := N) (X := X) (d := d + (10 * (8 - o) + 3)) hcS 40
      rw [b2i_f (fun z => by omega)] at sg
      have fin : ∃ U2' : am_U, EvK N X (Rd_next_s0 (d + (10 * (8 - o) + 3)) U) (rV U2') ∧ ∃ (r3 : Int) (U3 : am_U), EvK N X (Tw_emitWord_s0 (d + (10 * (8 - o) + 3)) (U 26 8) U2') (rI r3 U3) ∧ (r3 = 0 ∨ r3 = 1) ∧ rI 1 U2 = rI r3 U3 := ⟨U1, n1, 1, U2, by rw [e8]; exact m1, Or.inr rfl, rfl⟩
      refine ⟨U2, 1, Rd_readPart_r0 ⟨fun _ => ⟨0, U, sg, fun _ => ⟨fun _ => ?_, fun z => absurd (by rw [e7]; exact h1) z⟩, fun z => absurd rfl z⟩, fun z => absurd z (by rw [e7]; omega)⟩, fE_trans (fE_fN n2) m2, fun i' ds e => ?_, (fun e => by cases e)⟩
      · repeat' apply And.intro
        all_goals intro z
        all_goals first
          | exact absurd z (by rw [e8]; omega)
          | exact fin
      · obtain ⟨rfl, rfl⟩ : i + 1 = i' ∧ [c] = ds := by simpa using e
        rw [h2]
        exact ⟨rfl, m3, emW_app (emW_fN hcl n2) m4⟩
  · obtain ⟨rfl, rfl⟩ : i + 1 = i' ∧ [c] = ds := by simpa using e
    have hx : V 86 12 = -1 := by
      rcases Int.decEq (V 86 12) (-1) with z | z
      · have := (rT_bad hk hF.1 hi z).1
        rcases hc with ⟨h1, _⟩ | ⟨h1, _⟩ <;> omega
      · exact z
    obtain ⟨hF0, kb0, em0⟩ := rF_bg hF
    have hx0 : am_upd V 115 f 0 86 12 = -1 := by rw [upd_row (by decide)]; exact hx
    obtain ⟨x, og⟩ := opd_go (N := N) (X := X) (d := d) hk hi hF.1 hx (show f < 20 by omega) hF.2.2.2.1 hF.2.2.2.2.2.2.1.1 (fun z1 z2 => hp.2 z1 (by rw [← hF.2.2.2.2.2.2.1.2.2.1]; exact z2))
    obtain ⟨V1, k1, k2, k3, k4⟩ := s458_val (N := N) (X := X) (d := d) (x := x) (c := c) hk hb (show cl < 1600 by omega) hF0 (fun z => by
      rcases hc with ⟨h1, h2⟩ | ⟨h1, h2, h3⟩
      · rw [h2]; exact ((rT_num hk hF0.1 hi hx0).2 h1).1
      · omega) (by
      rcases hc with ⟨h1, h2⟩ | ⟨h1, h2, h3⟩
      · have := tk_num hk hi h1
        unfold srt; rw [if_pos (by omega)]; decide
      · have e' : c = -15 ∨ c = -16 ∨ c = -4 ∨ c = -17 ∨ c = -2 ∨ c = -1 := by omega
        rcases e' with rfl | rfl | rfl | rfl | rfl | rfl <;> decide)
    have run1 : EvK N X (M_operand_s0 (d + 5) V) (rI 1 V1) := og _ (s229_go hk hi hF0.1 hx0 (fun z => by rcases hc with ⟨h1, _⟩ | ⟨h1, _⟩ <;> omega) (fun z => by rcases hc with ⟨h1, _⟩ | ⟨h1, _, h3⟩ <;> omega) (by
      rcases hc with ⟨h1, h2⟩ | ⟨h1, h2, h3⟩
      · have := tk_num hk hi h1
        left; refine ⟨h1, ?_⟩
        unfold srt; rw [if_pos (by omega)]
      · right
        rcases h3 with e' | e' | e' | e' | e' | e'
        · left; refine ⟨h1, e', ?_⟩; rw [h2, e']; rfl
        · right; left; refine ⟨h1, e', ?_⟩; rw [h2, e']; rfl
        · right; right; left; refine ⟨h1, e', ?_⟩; rw [h2, e']; rfl
        · right; right; right; left; refine ⟨h1, e', ?_⟩; rw [h2, e']; rfl
        · right; right; right; right; left; refine ⟨h1, e', ?_⟩; rw [h2, e']; rfl
        · right; right; right; right; right; left; refine ⟨h1, e', ?_⟩; rw [h2, e']; rfl) _ k1)
    obtain ⟨g1, g2, g3⟩ := rF_50 k2 1
    refine ⟨am_upd V1 86 50 1, g1, ?_, kB_trans kb0 (kB_trans k4 (g2 f q0)), fun R hR => loop_op hF.2.2.2.2.2.1 run1 (Or.inr rfl) (fun z => absurd k2.1.2.2 z) (fun _ => hR)⟩
    have t1 := emR_app k3 g3 (by simp; omega)
    rw [List.append_nil] at t1
    have t2 := emR_app em0 t1 (by simp; omega)
    rw [List.nil_append] at t2; exact t2
/-- a fault in the reference where it stands -/
theorem part_no (hk : tkS T L K kk vv bp) (hi : i ≤ K) (ho : o ≤ 7) (n1 : kk i ≠ 3) (n2 : ¬ (kk i = 4 ∧ vv i = 40)) (n3 : ¬ (kk i = 1 ∧ (vv i = 14 ∨ vv i = 15 ∨ vv i = 3 ∨ vv i = 16 ∨ vv i = 1 ∨ vv i = 0))) (n4 : ¬ (kk i = 1 ∧ (vv i = 23 ∨ vv i = 24 ∨ vv i = 25))) : PartC N X T L K kk vv bp i o := by
  refine ⟨none, 1, fpl T L kk bp i, [], [], fun _ => Int.le_refl 1, (fun i' ds e => by cases e), fun d U cl hcS hcl hle => ?_, fun d V b cl f kd ph bg q0 O hb hf ho' hp hF hO hcl hq => ⟨(fun i' ds e => by cases e), fun _ => ?_⟩⟩
  · obtain ⟨U1, n5, n6, n7, n8⟩ := ct_refuseHere (N := N) (X := X) (d := d + (10 * (8 - o) + 3)) hcS
    have e7 := hcS.2.2.2.2.2.1
    have e8 := hcS.2.2.2.2.2.2.1
    have sg := ct_Rd_isSign (N := N) (X := X) (d := d + (10 * (8 - o) + 3)) hcS 40
    rw [b2i_f n2] at sg
    have fin : ∃ (r3 : Int) (U3 : am_U), EvK N X (Rd_refuseHere_s0 (d + (10 * (8 - o) + 3)) U) (rI r3 U3) ∧ (r3 = 0 ∨ r3 = 1) ∧ rI 0 U1 = rI r3 U3 := ⟨0, U1, n5, Or.inl rfl, rfl⟩
    refine ⟨U1, 0, Rd_readPart_r0 ⟨fun _ => ⟨0, U, sg, fun _ => ⟨fun z => ?_, fun _ => fin⟩, fun z => absurd rfl z⟩, fun z => absurd (by rw [← e7]; exact z) n1⟩, fE_fN n6, (fun i' ds e => by cases e), fun _ => ⟨rfl, n7, n8⟩⟩
    rw [e7] at z
    have m3 : ¬ (vv i = 14 ∨ vv i = 15 ∨ vv i = 3 ∨ vv i = 16 ∨ vv i = 1 ∨ vv i = 0) := fun y => n3 ⟨z, y⟩
    have m4 : ¬ (vv i = 23 ∨ vv i = 24 ∨ vv i = 25) := fun y => n4 ⟨z, y⟩
    repeat' apply And.intro
    all_goals intro z
    all_goals first
      | exact fin
      | exact absurd z (by rw [e8]; omega)
  · by_cases hx : V 86 12 = -1
    · obtain ⟨hF0, kb0, em0⟩ := rF_bg hF
      have hx0 : am_upd V 115 f 0 86 12 = -1 := by rw [upd_row (by decide)]; exact hx
      obtain ⟨x, og⟩ := opd_go (N := N) (X := X) (d := d) hk hi hF.1 hx (show f < 20 by omega) hF.2.2.2.1 hF.2.2.2.2.2.2.1.1 (fun z1 z2 => hp.2 z1 (by rw [← hF.2.2.2.2.2.2.1.2.2.1]; exact z2))
      have bl := ct_blame1 (N := N) (X := X) (d := d + 4) hF0.1.2.2 1 (am_upd V 115 f 0 86 4)
      have run1 : EvK N X (M_operand_s0 (d + 5) V) (rI 1 (am_upd (am_upd (am_upd V 115 f 0) 86 8 1) 86 9 (am_upd V 115 f 0 86 4))) := og _ (s229_go (s := -1) hk hi hF0.1 hx0 n2 n4 (by right; right; right; right; right; right; right; exact ⟨n1, n3, rfl⟩) _ (M_operand_r458 ⟨fun z => absurd rfl z, fun _ => ⟨_, bl, fun z => absurd z (by rw [upd_ne (by decide), upd_at]; decide), fun _ => rfl⟩⟩))
      refine ⟨am_upd (am_upd (am_upd (am_upd V 115 f 0) 86 8 1) 86 9 (am_upd V 115 f 0 86 4)) 86 50 1, fZ_upd rfl (fZ_upd rfl (fZ_upd rfl kb0.1)), by rw [upd_ne (by decide), upd_ne (by decide), upd_at], ?_, fun R hR => loop_op hF.2.2.2.2.2.1 run1 (Or.inr rfl) (fun _ => hR) (fun z => absurd z (by rw [upd_ne (by decide), upd_at]; decide))⟩
      rw [upd_ne (by decide), upd_at, rT_pl hF0.1, fpl_pl hk hF.1 hi hx]
    · have bd := rT_bad hk hF.1 hi hx
      refine ⟨am_upd (am_upd (am_upd V 86 8 1) 86 9 (V 86 12)) 86 50 1, fZ_upd rfl (fZ_upd rfl (fZ_upd rfl (fZ_refl V))), by rw [upd_ne (by decide), upd_ne (by decide), upd_at], by rw [upd_ne (by decide), upd_at]; exact bd.2, fun R hR => loop_op hF.2.2.2.2.2.1 (opd_bad hF.1 hx) (Or.inr rfl) (fun _ => hR) (fun z => absurd z (by rw [upd_ne (by decide), upd_at]; decide))⟩
end PT2
