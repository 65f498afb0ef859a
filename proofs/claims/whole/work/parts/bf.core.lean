/-! a statement told up to its end: both sides -/
section SCO
variable {N : Nat} {X : Nat → Int} {T : Nat → Int} {L K : Nat} {kk vv : Nat → Int} {bp : Int} {i b ns nh nl nw nd cl n : Nat} {W : am_U}
theorem core_of {FC FR : Nat → am_U → am_S} {dC dR : Nat} {w : Int} (hdC : dC ≤ 89) (hdR : dR ≤ 7) (hS : StS N X T L K kk vv bp FC dC FR dR i b W) (hq : ∀ (d : Nat) (U : am_U) (r : Int) (U' : am_U), U 26 7 = 1 → U 26 8 = w → cW U W → (r = 0 ∨ r = 1) → EvK N X (FC (d + 89) U) (rI r U') → QQ N X d U r U') (hr : ∀ (d : Nat) (V V' : am_U), rT V T L i → rW V W b → EvK N X (FR (d + 7) V) (rV V') → EvK N X (M_statement_s0 (d + 8) V) (rV V')) (h1 : kk i = 1) (hw : vv i = w) : StQ N X T L K kk vv bp (QQ N X) M_statement_s0 8 i b W := by
  obtain ⟨q, q1, q2, q3, q4⟩ := hS
  refine ⟨q, q1, q2, fun d U hc hU => ?_, fun d V hV1 hV2 => ?_⟩
  · obtain ⟨U', r, k1, k2, k3, k4⟩ := q3 (d + (89 - dC)) U hc hU
    rw [show d + (89 - dC) + dC = d + 89 by omega] at k1
    have h01 : r = 0 ∨ r = 1 := by
      cases hq1 : q.1 with
      | none => exact Or.inl (k4 hq1).1
      | some p => exact Or.inr (k3 p.1 p.2 hq1).1
    exact ⟨U', r, hq d U r U' (by rw [hc.2.2.2.2.2.1]; exact h1) (by rw [hc.2.2.2.2.2.2.1]; exact hw) hU h01 k1, k2, k3, k4⟩
  · obtain ⟨V', k1, k2⟩ := q4 (d + (7 - dR)) V hV1 hV2
    rw [show d + (7 - dR) + dR = d + 7 by omega] at k1
    exact ⟨V', hr d V V' hV1 hV2 k1, k2⟩
theorem core_Q {Q : Nat → am_U → Int → am_U → Prop} {FR : Nat → am_U → am_S} {w : Int} (hS : StQ N X T L K kk vv bp Q FR 7 i b W) (hq : ∀ (d : Nat) (U : am_U) (r : Int) (U' : am_U), U 26 7 = 1 → U 26 8 = w → cW U W → Q d U r U' → QQ N X d U r U') (hr : ∀ (d : Nat) (V V' : am_U), rT V T L i → rW V W b → EvK N X (FR (d + 7) V) (rV V') → EvK N X (M_statement_s0 (d + 8) V) (rV V')) (h1 : kk i = 1) (hw : vv i = w) : StQ N X T L K kk vv bp (QQ N X) M_statement_s0 8 i b W := by
  obtain ⟨q, q1, q2, q3, q4⟩ := hS
  refine ⟨q, q1, q2, fun d U hc hU => ?_, fun d V hV1 hV2 => ?_⟩
  · obtain ⟨U', r, k1, k2, k3, k4⟩ := q3 d U hc hU
    exact ⟨U', r, hq d U r U' (by rw [hc.2.2.2.2.2.1]; exact h1) (by rw [hc.2.2.2.2.2.2.1]; exact hw) hU k1, k2, k3, k4⟩
  · obtain ⟨V', k1, k2⟩ := q4 d V hV1 hV2
    exact ⟨V', hr d V V' hV1 hV2 k1, k2⟩
theorem st_x12 {V : am_U} (hk : tkS T L K kk vv bp) (hi : i ≤ K) (hr : rT V T L i) (h1 : kk i = 1) : V 86 12 = -1 := by
  rcases Int.decEq (V 86 12) (-1) with z | z
  · have := (rT_bad hk hr hi z).1; omega
  · exact z
theorem sR_0 {d : Nat} {V V' : am_U} (hk : tkS T L K kk vv bp) (hi : i ≤ K) (hr : rT V T L i) (h1 : kk i = 1) (hw : vv i = 0) (hm : EvK N X (M_streeting_s0 (d + 7) V) (rV V')) : EvK N X (M_statement_s0 (d + 8) V) (rV V') :=
  stm_R hk hi hr (st_x12 hk hi hr h1) ⟨⟨fun _ => ⟨V', hm, rfl⟩, fun z => by exfalso; omega, fun z => by exfalso; omega, fun z => by exfalso; omega, fun z => by exfalso; omega, fun z => by exfalso; omega, fun z => by exfalso; omega, fun z => by exfalso; omega⟩, fun z => absurd ⟨h1, by unfold stW; omega⟩ z⟩
theorem sR_1 {d : Nat} {V V' : am_U} (hk : tkS T L K kk vv bp) (hi : i ≤ K) (hr : rT V T L i) (h1 : kk i = 1) (hw : vv i = 1) (hm : EvK N X (M_housing_s0 (d + 7) V) (rV V')) : EvK N X (M_statement_s0 (d + 8) V) (rV V') :=
  stm_R hk hi hr (st_x12 hk hi hr h1) ⟨⟨fun z => by exfalso; omega, fun _ => ⟨V', hm, rfl⟩, fun z => by exfalso; omega, fun z => by exfalso; omega, fun z => by exfalso; omega, fun z => by exfalso; omega, fun z => by exfalso; omega, fun z => by exfalso; omega⟩, fun z => absurd ⟨h1, by unfold stW; omega⟩ z⟩
theorem sR_4 {d : Nat} {V V' : am_U} (hk : tkS T L K kk vv bp) (hi : i ≤ K) (hr : rT V T L i) (h1 : kk i = 1) (hw : vv i = 4) (hm : EvK N X (M_laning_s0 (d + 7) V) (rV V')) : EvK N X (M_statement_s0 (d + 8) V) (rV V') :=
  stm_R hk hi hr (st_x12 hk hi hr h1) ⟨⟨fun z => by exfalso; omega, fun z => by exfalso; omega, fun _ => ⟨V', hm, rfl⟩, fun z => by exfalso; omega, fun z => by exfalso; omega, fun z => by exfalso; omega, fun z => by exfalso; omega, fun z => by exfalso; omega⟩, fun z => absurd ⟨h1, by unfold stW; omega⟩ z⟩
theorem sR_5 {d : Nat} {V V' : am_U} (hk : tkS T L K kk vv bp) (hi : i ≤ K) (hr : rT V T L i) (h1 : kk i = 1) (hw : vv i = 5) (hm : EvK N X (M_numbering_s0 (d + 7) V) (rV V')) : EvK N X (M_statement_s0 (d + 8) V) (rV V') :=
  stm_R hk hi hr (st_x12 hk hi hr h1) ⟨⟨fun z => by exfalso; omega, fun z => by exfalso; omega, fun z => by exfalso; omega, fun _ => ⟨V', hm, rfl⟩, fun z => by exfalso; omega, fun z => by exfalso; omega, fun z => by exfalso; omega, fun z => by exfalso; omega⟩, fun z => absurd ⟨h1, by unfold stW; omega⟩ z⟩
theorem sR_7 {d : Nat} {V V' : am_U} (hk : tkS T L K kk vv bp) (hi : i ≤ K) (hr : rT V T L i) (h1 : kk i = 1) (hw : vv i = 7) (hm : EvK N X (M_lawing_s0 (d + 7) V) (rV V')) : EvK N X (M_statement_s0 (d + 8) V) (rV V') :=
  stm_R hk hi hr (st_x12 hk hi hr h1) ⟨⟨fun z => by exfalso; omega, fun z => by exfalso; omega, fun z => by exfalso; omega, fun z => by exfalso; omega, fun _ => ⟨V', hm, rfl⟩, fun z => by exfalso; omega, fun z => by exfalso; omega, fun z => by exfalso; omega⟩, fun z => absurd ⟨h1, by unfold stW; omega⟩ z⟩
theorem sR_11 {d : Nat} {V V' : am_U} (hk : tkS T L K kk vv bp) (hi : i ≤ K) (hr : rT V T L i) (h1 : kk i = 1) (hw : vv i = 11) (hm : EvK N X (M_wedding_s0 (d + 7) V) (rV V')) : EvK N X (M_statement_s0 (d + 8) V) (rV V') :=
  stm_R hk hi hr (st_x12 hk hi hr h1) ⟨⟨fun z => by exfalso; omega, fun z => by exfalso; omega, fun z => by exfalso; omega, fun z => by exfalso; omega, fun z => by exfalso; omega, fun _ => ⟨V', hm, rfl⟩, fun z => by exfalso; omega, fun z => by exfalso; omega⟩, fun z => absurd ⟨h1, by unfold stW; omega⟩ z⟩
theorem sR_12 {d : Nat} {V V' : am_U} (hk : tkS T L K kk vv bp) (hi : i ≤ K) (hr : rT V T L i) (h1 : kk i = 1) (hw : vv i = 12) (hm : EvK N X (M_owing_s0 (d + 7) V) (rV V')) : EvK N X (M_statement_s0 (d + 8) V) (rV V') :=
  stm_R hk hi hr (st_x12 hk hi hr h1) ⟨⟨fun z => by exfalso; omega, fun z => by exfalso; omega, fun z => by exfalso; omega, fun z => by exfalso; omega, fun z => by exfalso; omega, fun z => by exfalso; omega, fun _ => ⟨V', hm, rfl⟩, fun z => by exfalso; omega⟩, fun z => absurd ⟨h1, by unfold stW; omega⟩ z⟩
theorem sR_13 {d : Nat} {V V' : am_U} (hk : tkS T L K kk vv bp) (hi : i ≤ K) (hr : rT V T L i) (h1 : kk i = 1) (hw : vv i = 13) (hm : EvK N X (M_burning_s0 (d + 7) V) (rV V')) : EvK N X (M_statement_s0 (d + 8) V) (rV V') :=
  stm_R hk hi hr (st_x12 hk hi hr h1) ⟨⟨fun z => by exfalso; omega, fun z => by exfalso; omega, fun z => by exfalso; omega, fun z => by exfalso; omega, fun z => by exfalso; omega, fun z => by exfalso; omega, fun z => by exfalso; omega, fun _ => ⟨V', hm, rfl⟩⟩, fun z => absurd ⟨h1, by unfold stW; omega⟩ z⟩
theorem fullR_0 {d : Nat} {V V' : am_U} (h40 : V 86 40 = (b : Nat)) (hb : b < 2) (h : V 88 b = 4) (hc : EvK N X (M_counts_s0 (d + 6) 1 V) (rI 0 V')) : EvK N X (M_streeting_s0 (d + 7) V) (rV V') := by
  refine M_streeting_r0 ?_
  rw [h40, Int.toNat_natCast, h]
  exact ⟨by omega, fun z => absurd rfl z, fun _ => ⟨0, V', hc, fun z => absurd rfl z, fun _ => rfl⟩⟩
theorem fullR_1 {d : Nat} {V V' : am_U} (h40 : V 86 40 = (b : Nat)) (hb : b < 2) (h : V 90 b = 12) (hc : EvK N X (M_counts_s0 (d + 6) 1 V) (rI 0 V')) : EvK N X (M_housing_s0 (d + 7) V) (rV V') := by
  refine M_housing_r0 ?_
  rw [h40, Int.toNat_natCast, h]
  exact ⟨by omega, fun z => absurd rfl z, fun _ => ⟨0, V', hc, fun z => absurd rfl z, fun _ => rfl⟩⟩
theorem fullR_4 {d : Nat} {V V' : am_U} (h40 : V 86 40 = (b : Nat)) (hb : b < 2) (h : V 94 b = 10) (hc : EvK N X (M_counts_s0 (d + 6) 1 V) (rI 0 V')) : EvK N X (M_laning_s0 (d + 7) V) (rV V') := by
  refine M_laning_r0 ?_
  rw [h40, Int.toNat_natCast, h]
  exact ⟨by omega, fun z => absurd rfl z, fun _ => ⟨0, V', hc, fun z => absurd rfl z, fun _ => rfl⟩⟩
theorem fullR_7 {d : Nat} {V V' : am_U} (h40 : V 86 40 = (b : Nat)) (hb : b < 2) (h : V 100 b = 8) (hc : EvK N X (M_counts_s0 (d + 6) 1 V) (rI 0 V')) : EvK N X (M_lawing_s0 (d + 7) V) (rV V') := by
  refine M_lawing_r0 ?_
  rw [h40, Int.toNat_natCast, h]
  exact ⟨by omega, fun z => absurd rfl z, fun _ => ⟨0, V', hc, fun z => absurd rfl z, fun _ => rfl⟩⟩
theorem fullR_12 {d : Nat} {V V' : am_U} (h40 : V 86 40 = (b : Nat)) (hb : b < 2) (h : V 106 b = 16) (hc : EvK N X (M_counts_s0 (d + 6) 1 V) (rI 0 V')) : EvK N X (M_owing_s0 (d + 7) V) (rV V') := by
  refine M_owing_r0 ?_
  rw [h40, Int.toNat_natCast, h]
  exact ⟨by omega, fun z => absurd rfl z, fun _ => ⟨0, V', hc, fun z => absurd rfl z, fun _ => rfl⟩⟩
theorem fullR_5 {d : Nat} {V V' : am_U} (h40 : V 86 40 = (b : Nat)) (hb : b < 2) (h : V 97 b = 16) (hc : EvK N X (M_counts_s0 (d + 6) 1 V) (rI 0 V')) : EvK N X (M_numbering_s0 (d + 7) V) (rV V') := by
  refine M_numbering_r0 ?_
  rw [h40, Int.toNat_natCast, h]
  exact ⟨by omega, fun z => absurd rfl z, fun _ => M_numbering_r20 ⟨0, V', hc, fun z => absurd rfl z, fun _ => rfl⟩⟩
theorem fullR_11 {d : Nat} {V V' : am_U} (h40 : V 86 40 = (b : Nat)) (hb : b < 2) (h : V 104 b ≠ -1) (hc : EvK N X (M_counts_s0 (d + 6) 1 V) (rI 0 V')) : EvK N X (M_wedding_s0 (d + 7) V) (rV V') := by
  refine M_wedding_r0 ?_
  rw [h40, Int.toNat_natCast]
  exact ⟨by omega, fun z => absurd z h, fun _ => ⟨0, V', hc, fun z => absurd rfl z, fun _ => rfl⟩⟩
/-- one too many of its kind -/
theorem core_full {w : Int} (hi : i ≤ K) (h1 : kk i = 1) (hw : vv i = w) (hf : ∀ (d : Nat) (U : am_U), cW U W → EvK N X (Rd_isFull_s0 (d + 89) w U) (rI 1 U)) (hr : ∀ (d : Nat) (V V' : am_U), rT V T L i → rW V W b → EvK N X (M_counts_s0 (d + 6) 1 V) (rI 0 V') → EvK N X (M_statement_s0 (d + 8) V) (rV V')) : StQ N X T L K kk vv bp (QQ N X) M_statement_s0 8 i b W := by
  refine ⟨(none, 6, ((plS1 T L i : Nat) : Int)), (fun _ => by show (1 : Int) ≤ 6; decide), (fun i' W' e => by cases e), fun d U hc hU => ?_, fun d V hV1 hV2 => ?_⟩
  · obtain ⟨U1, g1, g2, g3, g4⟩ := ct_refuseFor (N := N) (X := X) (d := d + 89) (U := U) 6 ((plS1 T L i : Nat) : Int)
    have e9 : U 26 9 = (plS1 T L i : Nat) := hc.2.2.2.2.2.2.2
    refine ⟨U1, 0, fun h3 => ⟨fun _ => s36_go (by rw [hc.2.2.2.2.2.1]; exact h1) (by rw [hc.2.2.2.2.2.2.1]; exact hw) h3 (s36_full (hf d U hU) (by rw [e9]; exact g1)), fun z => absurd rfl z⟩, fCz_N g2, (fun i' W' e => by cases e), fun _ => ⟨rfl, g3, g4⟩⟩
  · obtain ⟨V', k1, k2, k3, k4⟩ := ct_counts1 (N := N) (X := X) (d := d + 4) hV1
    exact ⟨V', hr d V V' hV1 hV2 k1, fY_89 k2, (fun i' W' e => by cases e), fun _ => ⟨k3, k4⟩⟩
theorem st_core (hk : tkS T L K kk vv bp) (hi : i ≤ K) (h0 : kk i ≠ 0) (hG : gIn W b ns nh nl nw nd cl n) (hcl : cl ≤ i) : StQ N X T L K kk vv bp (QQ N X) M_statement_s0 8 i b W := by
  have hG' := hG
  obtain ⟨hb, h18, hS, hH, hL, hD, hF, hLw, hWd, hP⟩ := hG
  by_cases cw : kk i = 1 ∧ stW (vv i)
  · obtain ⟨h1, hw⟩ := cw
    have iK : i < K := tk_lt hk hi (by omega)
    have row31 : ∀ U : am_U, cW U W → ∀ j, U 31 j = W 3 j := fun U hU j => by rw [hU.1 31 (by decide) (by decide) (by decide)]
    have rowV : ∀ V : am_U, rW V W b → ∀ r, 88 ≤ r → r ≤ 110 → V r = W r := fun V hV => hV.2.1
    unfold stW at hw
    rcases hw with hw | hw | hw | hw | hw | hw | hw | hw
    · have q1 := hS.1
      have q2 := hS.2.1
      have q3 := hS.2.2.1
      by_cases c : ns = 4
      · refine core_full hi h1 hw (fun d U hU => ?_) (fun d V V' hV1 hV2 hm => sR_0 hk hi hV1 h1 hw (fullR_0 hV2.1 hb (by rw [rowV V hV2 88 (by decide) (by decide)]; omega) hm))
        have := isFull_0 (N := N) (X := X) (d := d + 88) (U := U)
        rw [b2i_t (by rw [row31 U hU]; omega)] at this; exact this
      · refine core_of (by decide) (by decide) (st_street hk iK hG' hcl (by omega)) (fun d U r U' e7 e8 hU h01 hm => QQ_0 e7 e8 ?_ h01 hm) (fun d V V' hV1 hV2 hm => sR_0 hk hi hV1 h1 hw hm) h1 hw
        have := isFull_0 (N := N) (X := X) (d := d + 88) (U := U)
        rw [b2i_f (by rw [row31 U hU]; omega)] at this; exact this
    · have q1 := hH.1
      have q2 := hH.2.1
      have q3 := hH.2.2.1
      by_cases c : nh = 12
      · refine core_full hi h1 hw (fun d U hU => ?_) (fun d V V' hV1 hV2 hm => sR_1 hk hi hV1 h1 hw (fullR_1 hV2.1 hb (by rw [rowV V hV2 90 (by decide) (by decide)]; omega) hm))
        have := isFull_1 (N := N) (X := X) (d := d + 88) (U := U)
        rw [b2i_t (by rw [row31 U hU]; omega)] at this; exact this
      · refine core_of (by decide) (by decide) (st_house hk iK hG' hcl (by omega)) (fun d U r U' e7 e8 hU h01 hm => QQ_1 e7 e8 ?_ h01 hm) (fun d V V' hV1 hV2 hm => sR_1 hk hi hV1 h1 hw hm) h1 hw
        have := isFull_1 (N := N) (X := X) (d := d + 88) (U := U)
        rw [b2i_f (by rw [row31 U hU]; omega)] at this; exact this
    · have q1 := hL.1
      have q2 := hL.2.1
      have q3 := hL.2.2.1
      by_cases c : nl = 10
      · refine core_full hi h1 hw (fun d U hU => ?_) (fun d V V' hV1 hV2 hm => sR_4 hk hi hV1 h1 hw (fullR_4 hV2.1 hb (by rw [rowV V hV2 94 (by decide) (by decide)]; omega) hm))
        have := isFull_4 (N := N) (X := X) (d := d + 88) (U := U)
        rw [b2i_t (by rw [row31 U hU]; omega)] at this; exact this
      · refine core_of (by decide) (by decide) (st_lane hk iK hG' hcl (by omega)) (fun d U r U' e7 e8 hU h01 hm => QQ_4 e7 e8 ?_ h01 hm) (fun d V V' hV1 hV2 hm => sR_4 hk hi hV1 h1 hw hm) h1 hw
        have := isFull_4 (N := N) (X := X) (d := d + 88) (U := U)
        rw [b2i_f (by rw [row31 U hU]; omega)] at this; exact this
    · have q1 := hP.1
      have q2 := hP.2.1
      have q3 := hP.2.2.1
      by_cases c : n = 16
      · refine core_full hi h1 hw (fun d U hU => ?_) (fun d V V' hV1 hV2 hm => sR_5 hk hi hV1 h1 hw (fullR_5 hV2.1 hb (by rw [rowV V hV2 97 (by decide) (by decide)]; omega) hm))
        have := isFull_5 (N := N) (X := X) (d := d + 88) (U := U)
        rw [b2i_t (by rw [hU.2.2.1.1]; omega)] at this; exact this
      · refine core_of (by decide) (by decide) (st_person hk iK hG' hcl (by omega)) (fun d U r U' e7 e8 hU h01 hm => QQ_5 e7 e8 ?_ h01 hm) (fun d V V' hV1 hV2 hm => sR_5 hk hi hV1 h1 hw hm) h1 hw
        have := isFull_5 (N := N) (X := X) (d := d + 88) (U := U)
        rw [b2i_f (by rw [hU.2.2.1.1]; omega)] at this; exact this
    · have q1 := hLw.1
      have q2 := hLw.2.1
      have q3 := hLw.2.2.1
      by_cases c : nw = 8
      · refine core_full hi h1 hw (fun d U hU => ?_) (fun d V V' hV1 hV2 hm => sR_7 hk hi hV1 h1 hw (fullR_7 hV2.1 hb (by rw [rowV V hV2 100 (by decide) (by decide)]; omega) hm))
        have := isFull_7 (N := N) (X := X) (d := d + 88) (U := U)
        rw [b2i_t (by rw [row31 U hU]; omega)] at this; exact this
      · refine core_Q (st_law hk iK hG' hcl (by omega)) (fun d U r U' e7 e8 hU hm => QQ_7 e7 e8 ?_ hm) (fun d V V' hV1 hV2 hm => sR_7 hk hi hV1 h1 hw hm) h1 hw
        have := isFull_7 (N := N) (X := X) (d := d + 88) (U := U)
        rw [b2i_f (by rw [row31 U hU]; omega)] at this; exact this
    · have q4 : 0 ≤ W 3 4 ∧ W 3 4 ≤ 8 := by have := hLw.1; have := hLw.2.2.1; omega
      have fl := fun (d : Nat) (U : am_U) (hU : cW U W) => isFull_11 (N := N) (X := X) (d := d + 88) (U := U) (by rw [row31 U hU]; exact q4)
      have e41 : ∀ U : am_U, cW U W → U 41 8 = W 13 8 ∧ U 42 8 = W 14 8 := fun U hU => by rw [hU.1 41 (by decide) (by decide) (by decide), hU.1 42 (by decide) (by decide) (by decide)]; exact ⟨rfl, rfl⟩
      rcases hWd with ⟨z1, z2, z3⟩ | ⟨f, m, z1, z2, z3, z4, z5, z6, z7⟩
      · refine core_Q (st_wed hk iK hG' hcl z1) (fun d U r U' e7 e8 hU hm => QQ_11 e7 e8 ?_ hm) (fun d V V' hV1 hV2 hm => sR_11 hk hi hV1 h1 hw hm) h1 hw
        have := fl d U hU
        rw [b2i_f (by rw [(e41 U hU).1, (e41 U hU).2]; omega)] at this; exact this
      · refine core_full hi h1 hw (fun d U hU => ?_) (fun d V V' hV1 hV2 hm => sR_11 hk hi hV1 h1 hw (fullR_11 hV2.1 hb (by rw [rowV V hV2 104 (by decide) (by decide)]; omega) hm))
        have := fl d U hU
        rw [b2i_t (by rw [(e41 U hU).1, (e41 U hU).2]; omega)] at this; exact this
    · have q1 := hD.1
      have q2 := hD.2.1
      have q3 := hD.2.2.1
      by_cases c : nd = 16
      · refine core_full hi h1 hw (fun d U hU => ?_) (fun d V V' hV1 hV2 hm => sR_12 hk hi hV1 h1 hw (fullR_12 hV2.1 hb (by rw [rowV V hV2 106 (by decide) (by decide)]; omega) hm))
        have := isFull_12 (N := N) (X := X) (d := d + 88) (U := U)
        rw [b2i_t (by rw [row31 U hU]; omega)] at this; exact this
      · refine core_of (by decide) (by decide) (st_debt hk iK hG' hcl (by omega)) (fun d U r U' e7 e8 hU h01 hm => QQ_12 e7 e8 ?_ h01 hm) (fun d V V' hV1 hV2 hm => sR_12 hk hi hV1 h1 hw hm) h1 hw
        have := isFull_12 (N := N) (X := X) (d := d + 88) (U := U)
        rw [b2i_f (by rw [row31 U hU]; omega)] at this; exact this
    · exact core_of (by decide) (by decide) (st_fire hk iK hG' hcl) (fun d U r U' e7 e8 hU h01 hm => QQ_13 e7 e8 (isFull_o (Or.inr rfl)) h01 hm) (fun d V V' hV1 hV2 hm => sR_13 hk hi hV1 h1 hw hm) h1 hw
  · refine ⟨(none, 1, fpl T L kk bp i), (fun _ => by show (1 : Int) ≤ 1; decide), (fun i' W' e => by cases e), fun d U hc hU => ?_, fun d V hV1 hV2 => ?_⟩
    · obtain ⟨U1, g1, g2, g3, g4⟩ := ct_refuseHere (N := N) (X := X) (d := d + 89) hc
      refine ⟨U1, 0, fun h3 => ⟨fun _ => ?_, fun z => absurd rfl z⟩, fCz_N g2, (fun i' W' e => by cases e), fun _ => ⟨rfl, g3, g4⟩⟩
      refine Rd_readStatement_r0 ⟨fun _ => ⟨fun _ => s36_no (by unfold stW; decide) g1, fun z => ?_⟩, fun z => absurd z (by omega)⟩
      rw [hc.2.2.2.2.2.1] at z
      rw [hc.2.2.2.2.2.2.1]
      exact s36_no (fun y => cw ⟨z, y⟩) g1
    · rcases Int.decEq (V 86 12) (-1) with hx | hx
      · obtain ⟨V', k1, k2, k3, k4⟩ := lexB_at (N := N) (X := X) (d := d + 6) hk hV1 hi hx
        exact ⟨V', M_statement_r0 ⟨V', k1, fun z => absurd z (by omega), fun _ => rfl⟩, fY_89 k2, (fun i' W' e => by cases e), fun _ => ⟨k3, k4⟩⟩
      · obtain ⟨V', k1, k2, k3, k4⟩ := blame_at (N := N) (X := X) (d := d + 7) hk hV1 hi hx 1
        have no : ∀ w : Int, stW w → kk i = 1 ∧ vv i = w → False := fun w hw z => cw ⟨z.1, by rw [z.2]; exact hw⟩
        exact ⟨V', stm_R hk hi hV1 hx ⟨⟨fun z => absurd z (no 0 (by unfold stW; decide)), fun z => absurd z (no 1 (by unfold stW; decide)), fun z => absurd z (no 4 (by unfold stW; decide)), fun z => absurd z (no 5 (by unfold stW; decide)), fun z => absurd z (no 7 (by unfold stW; decide)), fun z => absurd z (no 11 (by unfold stW; decide)), fun z => absurd z (no 12 (by unfold stW; decide)), fun z => absurd z (no 13 (by unfold stW; decide))⟩, fun _ => ⟨V', k1, rfl⟩⟩, fY_89 k2, (fun i' W' e => by cases e), fun _ => ⟨k3, k4⟩⟩
end SCO
