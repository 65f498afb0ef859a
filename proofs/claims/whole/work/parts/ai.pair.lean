/-! parts: min, max and gcd of two sums -/
section TWO
variable {N : Nat} {X : Nat → Int} {L K i o : Nat} {T kk vv : Nat → Int} {bp : Int}
theorem srt_two' {w : Int} (h : w = 23 ∨ w = 24 ∨ w = 25) : srt (-1 - w) = (if w = 23 then 15 else if w = 24 then 16 else 23) := by rcases h with rfl | rfl | rfl <;> rfl
theorem ty_two {w : Int} (h : w = 23 ∨ w = 24 ∨ w = 25) (t : List Bool) : tyc (-1 - w) (false :: false :: t) = some (false :: t) := by rcases h with rfl | rfl | rfl <;> rfl
/-- the reference comes to what opens the two -/
theorem two_go {d b cl f q0 : Nat} {V : am_U} {kd ph bg : Int} {O : List Int} (hk : tkS T L K kk vv bp) (hi : i ≤ K) (hf : f < 20) (hw : kk i = 1 ∧ (vv i = 23 ∨ vv i = 24 ∨ vv i = 25)) (hp : prP kk vv i kd ph bg) (hF : rF V T L i b cl f kd ph bg 0 o q0 O) : ∃ V1, rF V1 T L (i + 1) b cl f kd ph 0 0 o q0 O ∧ emR V V1 b cl [] ∧ kB V V1 f q0 ∧ ∀ R, (∃ U2 : am_U, EvK N X (M_lex_s0 (d + 4) V1) (rV U2) ∧ ∃ (r3 : Int) (U3 : am_U), EvK N X (M_isSign_s0 (d + 4) 40 U2) (rI r3 U3) ∧ ((r3 ≠ 0) → ∃ U4 : am_U, EvK N X (M_opens_s0 (d + 4) 3 U3) (rV U4) ∧ (((U4 86 8) ≠ 0) → R = rI 0 U4) ∧ (((U4 86 8) = 0) → (0 ≤ (w32 ((U4 86 46) - 1)) ∧ (w32 ((U4 86 46) - 1)) < 20) ∧ R = rI 0 (am_upd U4 116 ((w32 ((U4 86 46) - 1)).toNat) (srt (-1 - vv i))))) ∧ ((r3 = 0) → ∃ U5 : am_U, EvK N X (M_blame_s0 (d + 4) 1 (U3 86 4) U3) (rV U5) ∧ ∃ U6 : am_U, EvK N X (M_opens_s0 (d + 4) 3 U5) (rV U6) ∧ (((U6 86 8) ≠ 0) → R = rI 0 U6) ∧ (((U6 86 8) = 0) → (0 ≤ (w32 ((U6 86 46) - 1)) ∧ (w32 ((U6 86 46) - 1)) < 20) ∧ R = rI 0 (am_upd U6 116 ((w32 ((U6 86 46) - 1)).toNat) (srt (-1 - vv i)))))) → EvK N X (M_operand_s0 (d + 5) V) R := by
  have hx : V 86 12 = -1 := by
    rcases Int.decEq (V 86 12) (-1) with z | z
    · have := (rT_bad hk hF.1 hi z).1
      omega
    · exact z
  obtain ⟨hF0, kb0, em0⟩ := rF_bg hF
  have hx0 : am_upd V 115 f 0 86 12 = -1 := by rw [upd_row (by decide)]; exact hx
  obtain ⟨x, og⟩ := opd_go (N := N) (X := X) (d := d) hk hi hF.1 hx hf hF.2.2.2.1 hF.2.2.2.2.2.2.1.1 (fun z1 z2 => hp.2 z1 (by rw [← hF.2.2.2.2.2.2.1.2.2.1]; exact z2))
  obtain ⟨V1, l1, l2, l3⟩ := ct_ahead1 (N := N) (X := X) (d := d + 3) hk hF0.1
  have yr : ∀ r, r ≠ 86 → V1 r = am_upd V 115 f 0 r := fun r hr => fA6_row l2 hr
  obtain ⟨c1, c2, c3, c4, c5, c6, ⟨c7, c8, c9, c10⟩, c11⟩ := hF0
  have e2 : emR (am_upd V 115 f 0) V1 b cl [] := emR_nil (by rw [l2 86 39 (by decide)]; exact c3) (yr 111 (by decide)) (yr 112 (by decide))
  have sg := ct_isSign1 (N := N) (X := X) (d := d + 4) hk c1 hi hx0 40 (by decide)
  rw [b2i_f (fun z => by omega)] at sg
  have ww : ∀ w : Nat, w < 26 → EvK N X (M_isWord_s0 (d + 4) (ow8 w) (am_upd V 115 f 0)) (rI (b2i (vv i = (w : Nat))) (am_upd V 115 f 0)) := fun w h3 => by
    have := ct_isWord1 (N := N) (X := X) (d := d + 4) hk c1 hi hx0 w h3
    rw [show b2i (kk i = 1 ∧ vv i = (w : Nat)) = b2i (vv i = (w : Nat)) from b2i_cg ⟨fun z => z.2, fun z => ⟨hw.1, z⟩⟩] at this; exact this
  refine ⟨V1, ⟨l3, by rw [l2 86 40 (by decide)]; exact c2, by rw [l2 86 39 (by decide)]; exact c3, by rw [l2 86 46 (by decide)]; exact c4, by rw [l2 86 47 (by decide)]; exact c5, by rw [l2 86 50 (by decide)]; exact c6, ⟨by rw [yr 113 (by decide)]; exact c7, by rw [yr 114 (by decide)]; exact c8, by rw [yr 115 (by decide)]; exact c9, by rw [yr 117 (by decide)]; exact c10⟩, hst_cg c11 (yr 118 (by decide)) (l2 86 49 (by decide))⟩, ⟨by rw [l2 86 39 (by decide)]; exact c3, fun j hj => by rw [(e2.2.1 j hj).1, (e2.2.1 j hj).2]; exact em0.2.1 j hj, fun k c h => by simp at h⟩, kB_trans kb0 (kB_A6 l2 f q0), fun R hR => og _ ?_⟩
  have s307 : EvK N X (M_operand_s307 (d + 5) (f : Nat) x (srt (-1 - vv i)) (am_upd V 115 f 0)) R := M_operand_r307 ⟨V1, l1, hR⟩
  have s275 : EvK N X (M_operand_s275 (d + 5) (f : Nat) x (am_upd V 115 f 0)) R := by
    rw [srt_two' hw.2] at s307
    refine M_operand_r275 ⟨_, _, ww 23 (by decide), fun z => ⟨_, _, ww 24 (by decide), fun z2 => ?_, fun z2 => ?_⟩, fun z => ?_⟩
    · rw [if_neg (show ¬ vv i = 23 from b2i_eq.mp z), if_neg (show ¬ vv i = 24 from b2i_eq.mp z2)] at s307; exact s307
    · rw [if_neg (show ¬ vv i = 23 from b2i_eq.mp z), if_pos (show vv i = 24 from b2i_ne.mp z2)] at s307; exact s307
    · rw [if_pos (show vv i = 23 from b2i_ne.mp z)] at s307; exact s307
  refine M_operand_r229 ⟨0, _, sg, fun _ => ⟨_, _, ww 23 (by decide), fun _ => s275, fun z => ⟨_, _, ww 24 (by decide), fun _ => s275, fun z2 => ⟨_, _, ww 25 (by decide), fun z3 => ?_, fun _ => s275⟩⟩⟩, fun z => absurd rfl z⟩
  have y1 := b2i_eq.mp z
  have y2 := b2i_eq.mp z2
  have y3 := b2i_eq.mp z3
  exfalso
  rcases hw.2 with e | e | e
  · exact y1 e
  · exact y2 e
  · exact y3 e
/-- no two begin there: a fault on both sides -/
theorem two_no (hk : tkS T L K kk vv bp) (hi : i < K) (ho : o ≤ 7) (hw : kk i = 1 ∧ (vv i = 23 ∨ vv i = 24 ∨ vv i = 25)) (hn : ¬ (kk (i + 1) = 4 ∧ vv (i + 1) = 40) ∨ o = 7) : PartC N X T L K kk vv bp i o := by
  have hK : K ≤ 1600 := Nat.le_trans hk.2.1 hk.1
  -- the fault
  obtain ⟨fk, fp, hfk, hf1, hf2⟩ : ∃ fk fp : Int, 1 ≤ fk ∧ (¬ (kk (i + 1) = 4 ∧ vv (i + 1) = 40) → fk = 1 ∧ fp = fpl T L kk bp (i + 1)) ∧ ((kk (i + 1) = 4 ∧ vv (i + 1) = 40) → fk = 5 ∧ fp = (plS1 T L (i + 1) : Nat)) := by
    by_cases c : kk (i + 1) = 4 ∧ vv (i + 1) = 40
    · exact ⟨5, _, by decide, fun z => absurd c z, fun _ => ⟨rfl, rfl⟩⟩
    · exact ⟨1, _, by decide, fun _ => ⟨rfl, rfl⟩, fun z => absurd z c⟩
  refine ⟨none, fk, fp, [], [], fun _ => hfk, (fun i' ds e => by cases e), fun d U cl hcS hcl hle => ?_, fun d V b cl f kd ph bg q0 O hb hf ho' hp hF hO hcl hq => ⟨(fun i' ds e => by cases e), fun _ => ?_⟩⟩
  · have e7 := hcS.2.2.2.2.2.1
    have e8 := hcS.2.2.2.2.2.2.1
    obtain ⟨U1, n1, n2, n3⟩ := ct_Rd_next (N := N) (X := X) (d := d + (10 * (8 - o) + 3)) (by omega) hK hcS hi
    have sg0 := ct_Rd_isSign (N := N) (X := X) (d := d + (10 * (8 - o) + 3)) hcS 40
    rw [b2i_f (fun z => by omega)] at sg0
    have sg1 := ct_Rd_isSign (N := N) (X := X) (d := d + (10 * (8 - o) + 2)) n3 40
    obtain ⟨U2, t1, t2, t3, t4⟩ : ∃ U2, EvK N X (Rd_readTwo_s0 (d + (10 * (8 - o) + 3)) (o : Nat) U1) (rI 0 U2) ∧ fN U1 U2 ∧ U2 26 4 = fk ∧ U2 26 5 = fp := by
      by_cases c : kk (i + 1) = 4 ∧ vv (i + 1) = 40
      · have o7 : o = 7 := by
          rcases hn with z | z
          · exact absurd c z
          · exact z
        rw [b2i_t c] at sg1
        obtain ⟨U2, m1, m2, m3, m4⟩ := ct_refuseFor (N := N) (X := X) (d := d + (10 * (8 - o) + 1)) (U := U1) 5 (U1 26 9)
        refine ⟨U2, Rd_readTwo_r0 ⟨1, U1, sg1, fun _ => ⟨0, U2, Rd_opens_r0 ⟨fun z => absurd z (by omega), fun _ => ⟨0, U2, m1, Or.inl rfl, rfl⟩⟩, fun _ => rfl, fun z => absurd rfl z⟩, fun z => absurd z (by decide)⟩, m2, by rw [m3, (hf2 c).1], by rw [m4, (hf2 c).2]; exact n3.2.2.2.2.2.2.2⟩
      · rw [b2i_f c] at sg1
        obtain ⟨U2, m1, m2, m3, m4⟩ := ct_refuseHere (N := N) (X := X) (d := d + (10 * (8 - o) + 2)) n3
        exact ⟨U2, Rd_readTwo_r0 ⟨0, U1, sg1, fun z => absurd rfl z, fun _ => ⟨0, U2, m1, Or.inl rfl, rfl⟩⟩, m2, by rw [m3, (hf1 c).1], by rw [m4, (hf1 c).2]⟩
    have fin : ∃ U31 : am_U, EvK N X (Rd_next_s0 (d + (10 * (8 - o) + 3)) U) (rV U31) ∧ ∃ (r32 : Int) (U32 : am_U), EvK N X (Rd_readTwo_s0 (d + (10 * (8 - o) + 3)) (o : Nat) U31) (rI r32 U32) ∧ ((r32 = 0) → rI 0 U2 = rI 0 U32) ∧ ((r32 ≠ 0) → ∃ (r33 : Int) (U33 : am_U), EvK N X (Tw_emitWord_s0 (d + (10 * (8 - o) + 3)) (U 26 8) U32) (rI r33 U33) ∧ ((r33 = 0) → rI 0 U2 = rI 0 U33) ∧ ((r33 ≠ 0) → rI 0 U2 = rI 1 U33)) := ⟨U1, n1, 0, U2, t1, fun _ => rfl, fun z => absurd rfl z⟩
    refine ⟨U2, 0, Rd_readPart_r0 ⟨fun _ => ⟨0, U, sg0, fun _ => ⟨fun _ => ?_, fun z => absurd (by rw [e7]; exact hw.1) z⟩, fun z => absurd rfl z⟩, fun z => absurd z (by rw [e7]; omega)⟩, fE_fN (fun r j q => by rw [t2 r j q, n2 r j q]), (fun i' ds e => by cases e), fun _ => ⟨rfl, t3, t4⟩⟩
    have hw2 := hw.2
    repeat' apply And.intro
    all_goals intro z
    all_goals first
      | exact fin
      | exact absurd z (by rw [e8]; omega)
  · obtain ⟨V1, k1, k2, k3, k4⟩ := two_go (N := N) (X := X) (d := d) hk (Nat.le_of_lt hi) (show f < 20 by omega) hw hp hF
    have st : ∀ W : am_U, fZ V1 W → 0 < W 86 8 → W 86 8 = fk → W 86 9 = fp → EvK N X (M_operand_s0 (d + 5) V) (rI 0 W) → ltB N X d V fk fp := fun W h1 h2 h3 h4 h5 => ⟨am_upd W 86 50 0, fZ_upd rfl (fZ_trans k3.1 h1), by rw [upd_ne (by decide)]; exact h3, by rw [upd_ne (by decide)]; exact h4, fun R hR => loop_op hF.2.2.2.2.2.1 h5 (Or.inl rfl) (fun _ => hR) (fun z => absurd z (by omega))⟩
    by_cases hx : V1 86 12 = -1
    · have sg := ct_isSign1 (N := N) (X := X) (d := d + 4) hk k1.1 (show i + 1 ≤ K by omega) hx 40 (by decide)
      by_cases c : kk (i + 1) = 4 ∧ vv (i + 1) = 40
      · have o7 : o = 7 := by
          rcases hn with z | z
          · exact absurd c z
          · exact z
        rw [b2i_t c] at sg
        have op7 := ct_open7 (N := N) (X := X) (d := d + 1) k1.1 (by rw [k1.2.2.2.2.1, o7]; rfl) 3
        refine st _ (fZ_upd rfl (fZ_upd rfl (fZ_refl V1))) (by rw [upd_ne (by decide), upd_at]; decide) (by rw [upd_ne (by decide), upd_at, (hf2 c).1]) (by rw [upd_at, (hf2 c).2]) (k4 _ ⟨V1, ct_lex1 (d := d + 3) hx, 1, V1, sg, fun _ => ⟨_, op7, fun _ => rfl, fun z => absurd z (by rw [upd_ne (by decide), upd_at]; decide)⟩, fun z => absurd z (by decide)⟩)
      · rw [b2i_f c] at sg
        have bl := ct_blame1 (N := N) (X := X) (d := d + 4) k1.1.2.2 1 (V1 86 4)
        have h8 : 0 < am_upd (am_upd V1 86 8 1) 86 9 (V1 86 4) 86 8 := by rw [upd_ne (by decide), upd_at]; decide
        refine st _ (fZ_upd rfl (fZ_upd rfl (fZ_refl V1))) h8 (by rw [upd_ne (by decide), upd_at, (hf1 c).1]) (by rw [upd_at, (hf1 c).2, rT_pl k1.1, fpl_pl hk k1.1 (by omega) hx]) (k4 _ ⟨V1, ct_lex1 (d := d + 3) hx, 0, V1, sg, fun z => absurd rfl z, fun _ => ⟨_, bl, _, ct_openF (d := d + 1) h8 3, fun _ => rfl, fun z => absurd z (by omega)⟩⟩)
    · have bd := rT_bad hk k1.1 (show i + 1 ≤ K by omega) hx
      have nc : ¬ (kk (i + 1) = 4 ∧ vv (i + 1) = 40) := fun z => by omega
      have h8 : 0 < am_upd (am_upd V1 86 8 1) 86 9 (V1 86 12) 86 8 := by rw [upd_ne (by decide), upd_at]; decide
      refine st _ (fZ_upd rfl (fZ_upd rfl (fZ_refl V1))) h8 (by rw [upd_ne (by decide), upd_at, (hf1 nc).1]) (by rw [upd_at, (hf1 nc).2]; exact bd.2) (k4 _ ⟨_, ct_lexB (d := d + 3) k1.1.2.2 hx, ?_⟩)
      obtain ⟨W, hW⟩ : ∃ W, W = am_upd (am_upd V1 86 8 1) 86 9 (V1 86 12) := ⟨_, rfl⟩
      rw [← hW] at h8 ⊢
      refine ⟨b2i (W 86 3 = 3 ∧ W 86 6 = 40), W, M_isSign_r0 ⟨fun z => by rw [b2i_f (fun y => z y.1)], fun z => ⟨fun y => by rw [b2i_f (fun x => y x.2)], fun y => by rw [b2i_t ⟨z, y⟩]⟩⟩, fun _ => ⟨W, ct_openF (d := d + 1) h8 3, fun _ => rfl, fun z => absurd z (by omega)⟩, fun _ => ⟨W, M_blame_r0 ⟨fun z => absurd z (by omega), fun _ => rfl⟩, W, ct_openF (d := d + 1) h8 3, fun _ => rfl, fun z => absurd z (by omega)⟩⟩
end TWO
