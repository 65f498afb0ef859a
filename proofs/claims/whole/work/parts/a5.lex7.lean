/-! the whole tape is cut; both know the same -/
def cutOk (U : am_U) (T : Nat → Int) (L K : Nat) : Prop := K ≤ L ∧ (∀ j, j ≤ K → cTok T L (enS T L j) (tK U j) (tV U j) (U 27 2) ∧ tP U j = (plS1 T L j : Nat) ∧ tokB U j) ∧ (∀ j, j < K → 1 ≤ tK U j ∧ tK U j ≤ 4 ∧ plS1 T L j < L) ∧ (tK U K = 0 ∨ tK U K = 5) ∧ ((K + 1 : Nat) : Int) ≤ U 27 1 ∧ U 27 1 ≤ 1601
/-- the rows so far -/
def cutP (U : am_U) (T : Nat → Int) (L i : Nat) : Prop := U 27 1 = (i : Nat) ∧ ∀ j, j < i → (1 ≤ tK U j ∧ tK U j ≤ 4 ∧ plS1 T L j < L) ∧ (tP U j = (plS1 T L j : Nat) ∧ tokB U j) ∧ ∀ bp, cTok T L (enS T L j) (tK U j) (tV U j) bp
theorem cTok_bp {T : Nat → Int} {L e : Nat} {k v bp : Int} (hk : k ≠ 5) (h : cTok T L e k v bp) (bp' : Int) : cTok T L e k v bp' := by
  rcases h with h | ⟨h1, h2, len, h3, h4, h5, h6⟩ | ⟨h1, h2, len, h3, h4, h5, h6⟩ | ⟨h1, h2, h3, h4⟩
  · exact Or.inl h
  · refine Or.inr (Or.inl ⟨h1, h2, len, h3, h4, h5, ?_⟩)
    rcases h6 with z | z
    · exact absurd z.1 hk
    · exact Or.inr z
  · refine Or.inr (Or.inr (Or.inl ⟨h1, h2, len, h3, h4, h5, ?_⟩))
    rcases h6 with z | z
    · exact absurd z.1 hk
    · exact Or.inr z
  · refine Or.inr (Or.inr (Or.inr ⟨h1, h2, h3, ?_⟩))
    rcases h4 with z | z
    · exact Or.inl z
    · exact absurd z.1 hk
theorem cutP_grown {U U' : am_U} {T : Nat → Int} {L i : Nat} {k v bp : Int} (hp : cutP U T L i) (hg : grown U U' i k v (plS1 T L i : Nat)) (hk : 1 ≤ k ∧ k ≤ 4) (hlt : plS1 T L i < L) (ht : cTok T L (enS T L i) k v bp) : cutP U' T L (i + 1) := by
  obtain ⟨g1, g2, ⟨g3, g4, g5, g7⟩, g6⟩ := hg
  refine ⟨g2, fun j hj => ?_⟩
  by_cases e : j = i
  · subst e
    rw [g3, g4, g5]
    exact ⟨⟨hk.1, hk.2, hlt⟩, ⟨rfl, g7⟩, fun bp' => cTok_bp (by omega) ht bp'⟩
  · rw [(g6 j e).1, (g6 j e).2.1, (g6 j e).2.2.1]
    obtain ⟨y1, ⟨y2, y3⟩, y4⟩ := hp.2 j (by omega)
    exact ⟨y1, ⟨y2, (g6 j e).2.2.2 y3⟩, y4⟩
/-- the last one: END or a bad one, and what stands behind it -/
theorem cut_end {U U' : am_U} {T : Nat → Int} {L i : Nat} {k v : Int} (hi : i ≤ L) (hL : L ≤ 1600) (hp : cutP U T L i) (hg : grown U U' i k v (plS1 T L i : Nat)) (hk : k = 0 ∨ k = 5) (ht : cTok T L (enS T L i) k v (U' 27 2)) (V : am_U) (h4 : V 27 2 = U' 27 2) (hc : ((i + 1 : Nat) : Int) ≤ V 27 1 ∧ V 27 1 ≤ 1601) (hr : ∀ j, j ≤ i → tQ U' V j) : cutOk V T L i := by
  obtain ⟨g1, g2, ⟨g3, g4, g5, g7⟩, g6⟩ := hg
  refine ⟨hi, fun j hj => ?_, fun j hj => ?_, ?_, hc⟩
  · obtain ⟨r1, r2, r3, r4⟩ := hr j hj
    rw [r1, r2, r3, h4]
    by_cases e : j = i
    · subst e; rw [g3, g4, g5]; exact ⟨ht, rfl, r4 g7⟩
    · rw [(g6 j e).1, (g6 j e).2.1, (g6 j e).2.2.1]
      have := hp.2 j (by omega)
      exact ⟨this.2.2 _, this.2.1.1, r4 ((g6 j e).2.2.2 this.2.1.2)⟩
  · rw [(hr j (by omega)).1, (g6 j (by omega)).1]
    exact (hp.2 j hj).1
  · rw [(hr i (Nat.le_refl i)).1, g3]; exact hk
theorem jnt_s {T : Nat → Int} {p : Nat} : jnt T (p + 1) = (isL (T p) || isD (T p)) := by
  unfold jnt
  rw [decide_eq_true (Nat.succ_pos p), Bool.true_and, Nat.add_sub_cancel]
theorem cut_l {N : Nat} {X : Nat → Int} {d L : Nat} {T : Nat → Int} {U0 : am_U} (hL : L ≤ 1600) (hT : ∀ j, j < L → U0 2 j = T j ∧ 0 ≤ T j ∧ T j ≤ 255) : ∀ m p : Nat, p + m = L → ∀ (q i : Nat) (U : am_U), fT4 U0 U → q ≤ p → enS T L i ≤ p → tkA T L p = tkA T L (enS T L i) → cutP U T L i → U 27 3 ≤ ((p : Nat) : Int) → (U 27 3 = ((p : Nat) : Int) ↔ jnt T p = true) → ∃ U' K, EvK N X (Tk_cut_s20 (d + 8) (L : Nat) (p : Nat) (q : Nat) U) (rV U') ∧ fT4 U0 U' ∧ cutOk U' T L K := by
  intro m
  induction m using Nat.strongRecOn with
  | _ m ih =>
  intro p hm q i U f hq he ea hp hj1 hj2
  have iL : i ≤ L := by
    have := enS_idx (T := T) (L := L) (i := i) (fun j hj => (hp.2 j hj).1.2.2)
    have := enS_le T L i
    omega
  -- a bad one ends it
  have bad : ∀ (U1 : am_U) (v : Int) (q' : Nat), grown U U1 i 5 v (plS1 T L i : Nat) → cTok T L (enS T L i) 5 v (U1 27 2) → i < L → ∃ U' K, EvK N X (Tk_cut_s20 (d + 8) (L : Nat) (L : Nat) (q' : Nat) U1) (rV U') ∧ fT4 U0 U' ∧ cutOk U' T L K := fun U1 v q' hg ht hlt => by
    obtain ⟨U2, b1, b2, b3, b4, b5, b6, b7⟩ := ct_Tk_put (N := N) (X := X) (d := d + 7) (U := U1) (k := 0) (v := 0) (p := (L : Nat)) (by decide) (by decide) (by omega) hg.2.1 (by omega)
    refine ⟨U2, i, Tk_cut_r20 ⟨fun _ => ⟨U2, b1, rfl⟩, fun _ => ⟨fun _ => ⟨U2, b1, rfl⟩, fun z => absurd z (by omega)⟩⟩, fT4_trans f (fT4_trans hg.1 b2), cut_end iL hL hp hg (Or.inr rfl) ht U2 b4 (by rw [b3]; omega) (fun j hj => b7 j (by omega))⟩
  by_cases cp : p = L
  · -- the tape's end
    subst cp
    have eA : tkA T p (enS T p i) = p := by rw [← ea]; unfold tkA; exact fr1_stop (Or.inl (Nat.le_refl p))
    obtain ⟨U2, b1, b2, b3, b4, b5, b6, b7⟩ := ct_Tk_put (N := N) (X := X) (d := d + 7) (U := U) (k := 0) (v := 0) (p := (p : Nat)) (by decide) (by decide) (by omega) hp.1 (by omega)
    have epl : ((p : Nat) : Int) = ((plS1 T p i : Nat) : Int) := by unfold plS1; rw [eA]
    refine ⟨U2, i, Tk_cut_r20 ⟨fun _ => ⟨U2, b1, rfl⟩, fun _ => ⟨fun _ => ⟨U2, b1, rfl⟩, fun z => absurd z (by omega)⟩⟩, fT4_trans f b2, ?_⟩
    rw [epl] at b6
    exact cut_end iL hL hp ⟨b2, b3, b6, b7⟩ (Or.inl rfl) (Or.inl ⟨eA, rfl⟩) U2 rfl (by rw [b3]; omega) (fun j _ => tQ_of rfl)
  · have hlt : p < L := by omega
    have hTU : ∀ j, j < L → U 2 j = T j := fun j hj => by rw [f 2 j (by decide) (by decide) (by decide) (by omega)]; exact (hT j hj).1
    have cb := hT p hlt
    have st : ∀ {R} {r : Int} {U1 : am_U}, EvK N X (Tk_cutOne_s0 (d + 7) (L : Nat) (p : Nat) U) (rI r U1) → EvK N X (Tk_cut_s20 (d + 8) (L : Nat) r ((q + 1 : Nat) : Int) U1) R → EvK N X (Tk_cut_s20 (d + 8) (L : Nat) (p : Nat) (q : Nat) U) R := fun {R r U1} h1 h2 => by
      refine Tk_cut_r20 ⟨fun z => absurd z (by omega), fun _ => ⟨fun z => absurd z (by omega), fun _ => ⟨r, U1, h1, ?_⟩⟩⟩
      rw [w32_succ (i := q) (by omega)]; exact h2
    by_cases cs : isB (T p) = true
    · -- blank
      have cs' := isB_iff.mp cs
      have nl : isL (T p) = false := Bool.eq_false_iff.mpr (fun z => by have := isL_iff.mp z; omega)
      have nd : isD (T p) = false := Bool.eq_false_iff.mpr (fun z => by have := isD_iff.mp z; omega)
      obtain ⟨U', K, k1, k2⟩ := ih (L - (p + 1)) (by omega) (p + 1) (by omega) (q + 1) i U f (by omega) (by omega) (by rw [← ea]; unfold tkA; exact (fr1_step hlt (by rw [cs]; rfl)).symm) hp (by omega) (by
        rw [jnt_s, nl, nd]
        exact ⟨fun z => by omega, fun z => absurd z (by decide)⟩)
      refine ⟨U', K, st (r := ((p + 1 : Nat) : Int)) (U1 := U) (Tk_cutOne_r0 ⟨by omega, ?_⟩) k1, k2⟩
      rw [Int.toNat_natCast, hTU p hlt, w32_succ (i := p) (by omega)]
      exact ⟨fun _ => rfl, fun z => ⟨fun z2 => by omega, fun _ => rfl⟩⟩
    · have cs' : ¬ (T p = 32 ∨ T p = 10) := fun z => cs (isB_iff.mpr z)
      have eA : tkA T L (enS T L i) = p := by rw [← ea]; unfold tkA; exact fr1_stop (Or.inr (by rw [Bool.eq_false_iff.mpr cs]; rfl))
      have epl : plS1 T L i = p := eA
      have i2 : i < L := by
        have := enS_idx (T := T) (L := L) (i := i) (fun j hj => (hp.2 j hj).1.2.2)
        omega
      have cl := ct_T_isL (N := N) (X := X) (d := d + 6) (U := U) (T p)
      have cd := ct_T_isD (N := N) (X := X) (d := d + 6) (U := U) (T p)
      by_cases hl : isL (T p) = true
      · have eE : tkE T L (enS T L i) = fr1 (fun j => !(isL (T j))) L p := by unfold tkE; rw [eA, if_neg (by omega), if_pos hl]
        rw [b2i_t hl] at cl
        obtain ⟨U1, r, k, v, k1, k2, len, l1, l2, l3⟩ := ct_cutRun_L (N := N) (X := X) (d := d) hL hlt hTU hp.1 (show i < 1601 by omega) hl hj2
        have one : EvK N X (Tk_cutOne_s0 (d + 7) (L : Nat) (p : Nat) U) (rI r U1) := Tk_cutOne_r0 ⟨by omega, by
          rw [Int.toNat_natCast, hTU p hlt]
          exact ⟨fun z => absurd (Or.inr z) cs', fun _ => ⟨fun _ => ⟨1, U, cl, fun _ => ⟨1, U, cl, r, U1, k1, rfl⟩, fun z => absurd z (by decide)⟩, fun z => absurd (Or.inl z) cs'⟩⟩⟩
        have h1 : 1 ≤ len := by
          have := (tkE_spec (T := T) (enS_le T L i)).2.2 (by omega)
          omega
        have k2' : grown U U1 i k v (plS1 T L i : Nat) := by rw [epl]; exact k2
        rcases l3 with ⟨z1, z2, z3, z4⟩ | ⟨z1, z2, z3, z4, z5, z6⟩
        · subst z1; subst z2
          obtain ⟨U', K, m1, m2⟩ := bad U1 v (q + 1) k2' (Or.inr (Or.inl ⟨by omega, by rw [eA]; exact hl, len, by rw [eE, eA, l1], h1, by rw [eA]; exact l2, Or.inl ⟨rfl, by rw [eA]; exact z3, z4⟩⟩)) i2
          exact ⟨U', K, st one m1, m2⟩
        · have tk : cTok T L (enS T L i) k v (U1 27 2) := Or.inr (Or.inl ⟨by omega, by rw [eA]; exact hl, len, by rw [eE, eA, l1], h1, by rw [eA]; exact l2, Or.inr ⟨by rw [eA]; exact z1, z2, by rw [eA]; exact z6⟩⟩)
          have kk : 1 ≤ k ∧ k ≤ 4 := by rcases z6 with ⟨y, _⟩ | ⟨y, _⟩ <;> omega
          have een : enS T L (i + 1) = p + len := by show tkE T L (enS T L i) = _; rw [eE, l1]
          have lel := enS_le T L (i + 1)
          obtain ⟨U', K, m1, m2⟩ := ih (L - (p + len)) (by omega) (p + len) (by omega) (q + 1) (i + 1) U1 (fT4_trans f k2.1) (by omega) (by omega) (by rw [een]) (cutP_grown hp k2' kk (by omega) tk) (by rw [z4]; exact Int.le_refl _) (by
            rw [z4]
            refine ⟨fun _ => ?_, fun _ => rfl⟩
            rw [show p + len = (p + (len - 1)) + 1 by omega, jnt_s, l2 (len - 1) (by omega)]; rfl)
          subst z3
          exact ⟨U', K, st one m1, m2⟩
      · rw [b2i_f hl] at cl
        by_cases hd : isD (T p) = true
        · have eE : tkE T L (enS T L i) = fr1 (fun j => !(isD (T j))) L p := by unfold tkE; rw [eA, if_neg (by omega), if_neg hl, if_pos hd]
          rw [b2i_t hd] at cd
          obtain ⟨U1, r, k, v, k1, k2, len, l1, l2, l3⟩ := ct_cutRun_D (N := N) (X := X) (d := d) hL hlt hTU hp.1 (show i < 1601 by omega) hd hj2
          have one : EvK N X (Tk_cutOne_s0 (d + 7) (L : Nat) (p : Nat) U) (rI r U1) := Tk_cutOne_r0 ⟨by omega, by
            rw [Int.toNat_natCast, hTU p hlt]
            exact ⟨fun z => absurd (Or.inr z) cs', fun _ => ⟨fun _ => ⟨0, U, cl, fun z => absurd rfl z, fun _ => ⟨1, U, cd, fun z => absurd z (by decide), fun _ => ⟨0, U, cl, r, U1, k1, rfl⟩⟩⟩, fun z => absurd (Or.inl z) cs'⟩⟩⟩
          have h1 : 1 ≤ len := by
            have := (tkE_spec (T := T) (enS_le T L i)).2.2 (by omega)
            omega
          have k2' : grown U U1 i k v (plS1 T L i : Nat) := by rw [epl]; exact k2
          rcases l3 with ⟨z1, z2, z3, z4⟩ | ⟨z1, z2, z3, z4, z5, z6, z7⟩
          · subst z1; subst z2
            obtain ⟨U', K, m1, m2⟩ := bad U1 v (q + 1) k2' (Or.inr (Or.inr (Or.inl ⟨by omega, by rw [eA]; exact hd, len, by rw [eE, eA, l1], h1, by rw [eA]; exact l2, Or.inl ⟨rfl, by rw [eA]; exact z3, z4⟩⟩))) i2
            exact ⟨U', K, st one m1, m2⟩
          · have tk : cTok T L (enS T L i) k v (U1 27 2) := Or.inr (Or.inr (Or.inl ⟨by omega, by rw [eA]; exact hd, len, by rw [eE, eA, l1], h1, by rw [eA]; exact l2, Or.inr ⟨by rw [eA]; exact z1, z2, z6, by rw [eA]; exact z7⟩⟩))
            have een : enS T L (i + 1) = p + len := by show tkE T L (enS T L i) = _; rw [eE, l1]
            have lel := enS_le T L (i + 1)
            obtain ⟨U', K, m1, m2⟩ := ih (L - (p + len)) (by omega) (p + len) (by omega) (q + 1) (i + 1) U1 (fT4_trans f k2.1) (by omega) (by omega) (by rw [een]) (cutP_grown hp k2' (by omega) (by omega) tk) (by rw [z4]; exact Int.le_refl _) (by
              rw [z4]
              refine ⟨fun _ => ?_, fun _ => rfl⟩
              rw [show p + len = (p + (len - 1)) + 1 by omega, jnt_s, l2 (len - 1) (by omega)]; simp)
            subst z3
            exact ⟨U', K, st one m1, m2⟩
        · rw [b2i_f hd] at cd
          have hl' := Bool.eq_false_iff.mpr hl
          have hd' := Bool.eq_false_iff.mpr hd
          have eE : tkE T L (enS T L i) = p + 1 := by unfold tkE; rw [eA, if_neg (by omega), if_neg hl, if_neg hd]
          obtain ⟨r, s1', s2⟩ := ct_signs (N := N) (X := X) (d := d + 2) (c := (T p).toNat) (U := U) (by omega)
          rw [show (((T p).toNat : Nat) : Int) = T p by omega] at s1' s2
          have one : ∀ {r' : Int} {U1 : am_U}, (((0 ≤ r) → ∃ U6 : am_U, EvK N X (Tk_put_s0 (d + 6) 4 (T p) (p : Nat) U) (rV U6) ∧ rI r' U1 = rI ((p + 1 : Nat) : Int) U6) ∧ ((r < 0) → ∃ (r7 : Int) (U7 : am_U), EvK N X (Tk_putBad_s0 (d + 6) (p : Nat) (p : Nat) (L : Nat) U) (rI r7 U7) ∧ rI r' U1 = rI r7 U7)) → EvK N X (Tk_cutOne_s0 (d + 7) (L : Nat) (p : Nat) U) (rI r' U1) := fun {r' U1} y => Tk_cutOne_r0 ⟨by omega, by
            rw [Int.toNat_natCast, hTU p hlt, w32_succ (i := p) (by omega)]
            exact ⟨fun z => absurd (Or.inr z) cs', fun _ => ⟨fun _ => ⟨0, U, cl, fun z => absurd rfl z, fun _ => ⟨0, U, cd, fun _ => ⟨r, U, s1', y⟩, fun z => absurd rfl z⟩⟩, fun z => absurd (Or.inl z) cs'⟩⟩⟩
          by_cases hg : isG (T p) = true
          · obtain ⟨U1, b1, b2, b3, b4, b5, b6, b7⟩ := ct_Tk_put (N := N) (X := X) (d := d + 6) (U := U) (k := 4) (v := T p) (p := (p : Nat)) (by decide) (by omega) (by omega) hp.1 (show i < 1601 by omega)
            have k2' : grown U U1 i 4 (T p) (plS1 T L i : Nat) := by rw [epl]; exact ⟨b2, b3, b6, b7⟩
            have een : enS T L (i + 1) = p + 1 := by show tkE T L (enS T L i) = _; rw [eE]
            obtain ⟨U', K, m1, m2⟩ := ih (L - (p + 1)) (by omega) (p + 1) (by omega) (q + 1) (i + 1) U1 (fT4_trans f b2) (by omega) (by omega) (by rw [een]) (cutP_grown (bp := 0) hp k2' (by omega) (by omega) (Or.inr (Or.inr (Or.inr ⟨by omega, by rw [eA]; exact hl', by rw [eA]; exact hd', Or.inl ⟨rfl, by rw [eA], hg⟩⟩)))) (by rw [b5]; omega) (by
              rw [b5, jnt_s, hl', hd']
              exact ⟨fun z => by omega, fun z => absurd z (by decide)⟩)
            exact ⟨U', K, st (one ⟨fun _ => ⟨U1, b1, rfl⟩, fun z => absurd (s2.mpr hg) (by omega)⟩) m1, m2⟩
          · obtain ⟨U1, k1, k2, k3⟩ := ct_putBad (N := N) (X := X) (d := d + 5) (p := (p : Nat)) (q := (p : Nat)) (L := (L : Nat)) (by omega) hp.1 (show i < 1601 by omega)
            have k2' : grown U U1 i 5 0 (plS1 T L i : Nat) := by rw [epl]; exact k2
            obtain ⟨U', K, m1, m2⟩ := bad U1 0 (q + 1) k2' (Or.inr (Or.inr (Or.inr ⟨by omega, by rw [eA]; exact hl', by rw [eA]; exact hd', Or.inr ⟨rfl, by rw [k3, eA], by rw [eA]; exact Bool.eq_false_iff.mpr hg⟩⟩))) i2
            exact ⟨U', K, st (one ⟨fun z => absurd (s2.mp z) hg, fun _ => ⟨_, U1, k1, rfl⟩⟩) m1, m2⟩
theorem ct_Tk_cut {N : Nat} {X : Nat → Int} {d L : Nat} {T : Nat → Int} {U : am_U} (hL : L ≤ 1600) (hT : ∀ j, j < L → U 2 j = T j ∧ 0 ≤ T j ∧ T j ≤ 255) : ∃ U' K, EvK N X (Tk_cut_s0 (d + 8) (L : Nat) U) (rV U') ∧ fT4 U U' ∧ cutOk U' T L K := by
  obtain ⟨U', K, k1, k2⟩ := cut_l (N := N) (X := X) (d := d) (U0 := U) hL hT L 0 (by omega) 0 0 (am_upd (am_upd (am_upd U 27 1 0) 27 2 (L : Nat)) 27 3 (-1)) (fun r j q1 q2 q3 q4 => by
    by_cases c : r = 27
    · subst c
      rw [upd_ne (fun z => q4 ⟨rfl, Or.inr (Or.inr z)⟩), upd_ne (fun z => q4 ⟨rfl, Or.inr (Or.inl z)⟩), upd_ne (fun z => q4 ⟨rfl, Or.inl z⟩)]
    · rw [upd_row c, upd_row c, upd_row c]) (Nat.le_refl 0) (Nat.le_refl 0) rfl ⟨by rw [upd_ne (by decide), upd_ne (by decide), upd_at]; rfl, fun j hj => absurd hj (Nat.not_lt_zero j)⟩ (by rw [upd_at]; decide) (by
    rw [upd_at]
    exact ⟨fun z => absurd z (by decide), fun z => absurd z (by unfold jnt; simp)⟩)
  exact ⟨U', K, Tk_cut_r0 k1, k2⟩
/-- both know the same of one -/
def tokR (k v bp at' sg va wo lx : Int) : Prop :=
  (k = 0 ∧ sg = 0 ∧ lx = -1) ∨
  (k = 5 ∧ ((lx = bp ∧ lx ≠ -1) ∨ (lx = -1 ∧ bp = at' ∧ sg = 3 ∧ isG va = false))) ∨
  (k = 4 ∧ lx = -1 ∧ sg = 3 ∧ va = v ∧ isG v = true) ∨
  (k = 3 ∧ lx = -1 ∧ sg = 2 ∧ va = v ∧ 0 ≤ v ∧ v ≤ 999999999) ∨
  (k = 1 ∧ lx = -1 ∧ sg = 1 ∧ ∃ w : Nat, w < 26 ∧ v = (w : Nat) ∧ wo = ow8 w) ∨
  (k = 2 ∧ lx = -1 ∧ sg = 1 ∧ nmR v wo ∧ ∀ w, w < 26 → wo ≠ ow8 w)
theorem tok_R {T : Nat → Int} {L e : Nat} {k v bp : Int} {V : am_U} (hc : cTok T L e k v bp) (hr : rTok V T L e) : tokR k v bp (tkA T L e : Nat) (V 86 3) (V 86 6) (V 86 7) (V 86 12) := by
  obtain ⟨r1, r2, r3⟩ := hr
  rcases hc with ⟨c1, c2⟩ | ⟨c1, c2, len, c3, c4, c5, c6⟩ | ⟨c1, c2, len, c3, c4, c5, c6⟩ | ⟨c1, c2, c3, c4⟩
  · rcases r3 with ⟨_, s1', s2⟩ | ⟨z, _⟩ | ⟨z, _⟩ | ⟨z, _⟩
    · exact Or.inl ⟨c2, s1', s2⟩
    · omega
    · omega
    · omega
  · rcases r3 with ⟨z, _⟩ | ⟨_, _, s1', len', s2, s3, s4, s5, s6⟩ | ⟨_, z, _⟩ | ⟨_, z, _⟩
    · omega
    · obtain rfl : len' = len := by omega
      rcases c6 with ⟨y1, y2, y3⟩ | ⟨y1, y2, y3⟩
      · exact Or.inr (Or.inl ⟨y1, Or.inl ⟨by rw [s6, y2], by rw [s6, ← y2]; exact y3⟩⟩)
      · rw [show min len' 6 = len' by omega] at s5
        rw [y1] at s6
        rcases y3 with ⟨x1, w, x2, x3, x4⟩ | ⟨x1, x2, x3⟩
        · exact Or.inr (Or.inr (Or.inr (Or.inr (Or.inl ⟨x1, s6, s1', w, x2, x3, by rw [s5, x4]⟩))))
        · refine Or.inr (Or.inr (Or.inr (Or.inr (Or.inr ⟨x1, s6, s1', ?_, fun w hw => by rw [s5]; exact x3 w hw⟩))))
          rw [x2, s5]
          exact nmR_T s3 y2 s4
    · have := isL_iff.mp c2
      have := isD_iff.mp z
      omega
    · rw [c2] at z; exact absurd z (by decide)
  · rcases r3 with ⟨z, _⟩ | ⟨_, z, _⟩ | ⟨_, _, s1', len', s2, s3, s4, s5, s6⟩ | ⟨_, _, z, _⟩
    · omega
    · have := isL_iff.mp z
      have := isD_iff.mp c2
      omega
    · obtain rfl : len' = len := by omega
      rcases c6 with ⟨y1, y2, y3⟩ | ⟨y1, y2, y3, y4⟩
      · exact Or.inr (Or.inl ⟨y1, Or.inl ⟨by rw [s6, y2], by rw [s6, ← y2]; exact y3⟩⟩)
      · rw [show min len' 9 = len' by omega] at s5
        rw [y1] at s6
        have vl := v10_lt s4
        have vl2 : v10 T (tkA T L e) len' < 1000000000 := Nat.lt_of_lt_of_le vl (Nat.le_trans (Nat.pow_le_pow_right (by decide) y2) (by decide))
        exact Or.inr (Or.inr (Or.inr (Or.inl ⟨y3, s6, s1', by rw [s5, y4], by omega, by omega⟩)))
    · rw [c2] at z; exact absurd z (by decide)
  · rcases r3 with ⟨z, _⟩ | ⟨_, z, _⟩ | ⟨_, z, _⟩ | ⟨_, _, _, s1', s2, s3⟩
    · omega
    · rw [c2] at z; exact absurd z (by decide)
    · rw [c3] at z; exact absurd z (by decide)
    · rcases c4 with ⟨y1, y2, y3⟩ | ⟨y1, y2, y3⟩
      · exact Or.inr (Or.inr (Or.inl ⟨y1, s3, s1', by rw [s2, y2], y3⟩))
      · exact Or.inr (Or.inl ⟨y1, Or.inr ⟨s3, y2, s1', by rw [s2]; exact y3⟩⟩)
