/-! between the two of a pair -/
section CMM
variable {N : Nat} {X : Nat → Int} {L K i o : Nat} {T kk vv : Nat → Int} {bp : Int}
theorem ct_openF {d : Nat} {V : am_U} (h8 : 0 < V 86 8) (kn : Int) : EvK N X (M_opens_s0 (d + 3) kn V) (rV V) := by
  refine M_opens_r0 ⟨fun _ => ⟨fun z => absurd z (by omega), fun _ => rfl⟩, fun _ => ⟨V, M_blame_r0 ⟨fun z => absurd z (by omega), fun _ => rfl⟩, fun z => absurd z (by omega), fun _ => rfl⟩⟩
theorem ct_comma {d b cl f q' : Nat} {V : am_U} {ph bg : Int} {pend : List Int} (hk : tkS T L K kk vv bp) (hi : i ≤ K) (hb2 : b < 2) (hf : f < 20) (hF : rF V T L i b cl f 3 ph bg 1 o q' pend) (hx : V 86 12 = -1) (h4 : kk i = 4 ∧ vv i = 44) (hp : ∀ c, c ∈ pend → 4 ≤ rkC c) (hpl : pend.length ≤ 90) (hq : q' ≤ 400) (hcl : cl + pend.length ≤ 1600) (ho : o < 50) : ∃ V', EvK N X (M_goesOn_s422 (d + 5) (f : Nat) 3 0 V) (rI 1 V') ∧ rF V' T L (i + 1) b (cl + pend.length) f 4 ph bg 0 o q' [] ∧ emR V V' b cl pend ∧ kB V V' f q' := by
  obtain ⟨a1, a2, a3, a4, a5, a6, ⟨a7, a8, a9, a10⟩, a11⟩ := hF
  have hF : rF V T L i b cl f 3 ph bg 1 o q' pend := ⟨a1, a2, a3, a4, a5, a6, ⟨a7, a8, a9, a10⟩, a11⟩
  have nn := nNot_0 hp
  have a11' : hst V q' (pend ++ []) := by rw [List.append_nil]; exact a11
  obtain ⟨V1, j1, j2, j3, j4, j5⟩ := ct_joins1 (N := N) (X := X) (d := d + 3) (least := 1) (S1 := []) (f := f) hb2 hf (by simpa using hq) (fun c S' e => by cases e) pend V cl o (fun c hc => by have := hp c hc; omega) a11' hpl a2 a3 hcl a4 a10 (by rw [nn]; exact a5) (by rw [nn]; omega)
  obtain ⟨c1, c2, c3, c4, c5, c6, ⟨c7, c8, c9, c10⟩, c11⟩ := rF_join hF o j2 j3 j4 j5
  obtain ⟨W, hW⟩ : ∃ W, W = am_upd V1 113 f 4 := ⟨_, rfl⟩
  have wr : ∀ r, r ≠ 113 → W r = V1 r := fun r hr => by rw [hW, upd_row hr]
  obtain ⟨W2, l1, l2, l3⟩ := ct_ahead1 (N := N) (X := X) (d := d + 3) hk (rT_cg c1 (wr 87 (by decide)) (fun j _ _ => by rw [wr 86 (by decide)]) : rT W T L i)
  have yr : ∀ r, r ≠ 86 → W2 r = W r := fun r hr => fA6_row l2 hr
  have hF2 : rF W2 T L (i + 1) b (cl + pend.length) f 4 ph bg 1 o q' [] := ⟨l3, by rw [l2 86 40 (by decide), wr 86 (by decide)]; exact c2, by rw [l2 86 39 (by decide), wr 86 (by decide)]; exact c3, by rw [l2 86 46 (by decide), wr 86 (by decide)]; exact c4, by rw [l2 86 47 (by decide), wr 86 (by decide)]; exact c5, by rw [l2 86 50 (by decide), wr 86 (by decide)]; exact c6, ⟨by rw [yr 113 (by decide), hW, upd_at], by rw [yr 114 (by decide), wr 114 (by decide)]; exact c8, by rw [yr 115 (by decide), wr 115 (by decide)]; exact c9, by rw [yr 117 (by decide), wr 117 (by decide)]; exact c10⟩, hst_cg c11 (by rw [yr 118 (by decide), wr 118 (by decide)]) (by rw [l2 86 49 (by decide), wr 86 (by decide)])⟩
  obtain ⟨g1, g2, g3⟩ := rF_50 hF2 0
  have sg := ct_isSign1 (N := N) (X := X) (d := d + 4) hk a1 hi hx 44 (by decide)
  rw [b2i_t h4] at sg
  refine ⟨am_upd W2 86 50 0, M_goesOn_r422 ⟨fun _ => ⟨fun z => absurd rfl z, fun _ => ⟨1, V, sg, fun _ => M_goesOn_r464 ⟨fun _ => ⟨V1, j1, by omega, W2, ?_, rfl⟩, fun z => absurd z (by rw [a1.2.2]; decide)⟩, fun z => absurd z (by decide)⟩⟩, fun z => absurd z (by decide)⟩, g1, ?_, ?_⟩
  · rw [Int.toNat_natCast, ← hW]; exact l1
  · have e2 : emR V1 W2 b (cl + pend.length) [] := emR_nil (by rw [l2 86 39 (by decide), wr 86 (by decide)]; exact c3) (by rw [yr 111 (by decide), wr 111 (by decide)]) (by rw [yr 112 (by decide), wr 112 (by decide)])
    have t1 := emR_app j3 e2 hcl
    rw [List.append_nil] at t1
    have t2 := emR_app t1 g3 hcl
    rw [List.append_nil] at t2; exact t2
  · refine kB_trans (kB_join a2 j3 j5) (kB_trans (V1 := W2) ⟨?_, fun g hg => ?_, ?_, fun j hj => ?_⟩ (g2 f q'))
    · exact (fZ_trans (by rw [hW]; exact fZ_upd (scZ_row (by omega) _) (fZ_refl V1)) (fZ_A6 l2) : fZ V1 W2)
    · rw [yr 113 (by decide), yr 114 (by decide), yr 115 (by decide), yr 116 (by decide), yr 117 (by decide), wr 114 (by decide), wr 115 (by decide), wr 116 (by decide), wr 117 (by decide), hW, upd_ne (by omega)]
      exact ⟨rfl, rfl, rfl, rfl, rfl⟩
    · rw [yr 116 (by decide), wr 116 (by decide)]
    · rw [yr 118 (by decide), wr 118 (by decide)]
/-- the end of the first of a pair -/
theorem comma_end {d b cl f q' : Nat} {V : am_U} {pend : List Int} (hk : tkS T L K kk vv bp) (hi : i ≤ K) (hb : b < 2) (hf : f < 20) (ho : o < 50) (hF : rF V T L i b cl f 3 0 0 1 o q' pend) (hn : noAr kk vv i) (hp : ∀ c, c ∈ pend → 5 ≤ rkC c) (hpl : pend.length ≤ 2) (hq : q' ≤ 400) (hcl : cl + pend.length ≤ 1600) : ((kk i = 4 ∧ vv i = 44) → ∃ V', rF V' T L (i + 1) b (cl + pend.length) f 4 0 0 0 o q' [] ∧ emR V V' b cl pend ∧ kB V V' f q' ∧ lpB N X d V V') ∧ (¬ (kk i = 4 ∧ vv i = 44) → ltB N X d V 1 (fpl T L kk bp i)) := by
  have h50 : V 86 50 ≠ 0 := by rw [hF.2.2.2.2.2.1]; decide
  by_cases hx : V 86 12 = -1
  · have en := on_end (N := N) (X := X) (d := d) (kd := 3) hk hi hF.1 hx hf hF.2.2.2.1 hF.2.2.2.2.2.2.1.1 (fun _ => hn) (fun z => by rcases z with z | z <;> exact absurd z (by decide))
    refine ⟨fun h => ?_, fun h => ?_⟩
    · obtain ⟨V', k1, k2, k3, k4⟩ := ct_comma (N := N) (X := X) (d := d) hk hi hb hf hF hx h (fun c hc => by have := hp c hc; omega) (by omega) hq hcl ho
      exact ⟨V', k2, k3, k4, fun R hR => loop_on h50 (en _ k1) (fun z => absurd z (by decide)) (fun _ z => absurd k2.1.2.2 z) (fun _ _ => hR)⟩
    · refine blame_B (f := f) (x1 := 0) (x3 := 0) hk hi hF.1 hx hF.2.2.2.1 h50 (fun R hR => en _ ?_)
      have sg := ct_isSign1 (N := N) (X := X) (d := d + 4) hk hF.1 hi hx 44 (by decide)
      rw [b2i_f h] at sg
      exact M_goesOn_r422 ⟨fun _ => ⟨fun z => absurd rfl z, fun _ => ⟨0, V, sg, fun z => absurd rfl z, fun _ => ⟨_, ct_blame1 hF.1.2.2 _ _, M_goesOn_r464 ⟨fun z => absurd z (by rw [upd_ne (by decide), upd_at]; decide), fun _ => hR⟩⟩⟩⟩, fun z => absurd z (by decide)⟩
  · have bd := rT_bad hk hF.1 hi hx
    exact ⟨fun h => by omega, fun _ => bad_B hk hi hF.1 hx h50⟩
/-- the end of the second of a pair -/
theorem two_end {d b cl f q0 q' : Nat} {V : am_U} {kd ph c4' : Int} {O pend : List Int} (hk : tkS T L K kk vv bp) (hi : i ≤ K) (hb : b < 2) (hf : f + 1 < 20) (ho : o < 50) (hF : rF V T L i b cl (f + 1) 4 0 0 1 (o + 1) q' pend) (h116 : V 116 (f + 1) = srt c4') (hneg : c4' < 0) (hn : noAr kk vv i) (hp : ∀ c, c ∈ pend → 5 ≤ rkC c) (hpl : pend.length ≤ 2) (hq : q' ≤ 400) (hcl : cl + pend.length ≤ i) (hiK : i ≤ 1600) (hl : lowF V f kd ph 0 q0 O q') : ((kk i = 4 ∧ vv i = 41) → i < 1600 → ∃ V', rF V' T L (i + 1) b (cl + pend.length + 1) f kd ph 0 1 o q0 O ∧ emR V V' b cl (pend ++ [c4']) ∧ kB V V' f q0 ∧ lpB N X d V V') ∧ (¬ (kk i = 4 ∧ vv i = 41) → ltB N X d V 1 (fpl T L kk bp i)) := by
  have h50 : V 86 50 ≠ 0 := by rw [hF.2.2.2.2.2.1]; decide
  by_cases hx : V 86 12 = -1
  · have en := on_end (N := N) (X := X) (d := d) (kd := 4) hk hi hF.1 hx hf hF.2.2.2.1 hF.2.2.2.2.2.2.1.1 (fun _ => hn) (fun z => by rcases z with z | z <;> exact absurd z (by decide))
    refine ⟨fun h h16 => ?_, fun h => ?_⟩
    · obtain ⟨V', k1, k2, k3, k4⟩ := ct_close4 (N := N) (X := X) (d := d) hk hi hb hf hF h116 hneg hx h (fun c hc => by have := hp c hc; omega) (by omega) hq (by omega) ho hl
      exact ⟨V', k2, k3, k4, fun R hR => loop_on h50 (en _ k1) (fun z => absurd z (by decide)) (fun _ z => absurd k2.1.2.2 z) (fun _ _ => hR)⟩
    · refine blame_B (f := f + 1) (x1 := 0) (x3 := 0) hk hi hF.1 hx hF.2.2.2.1 h50 (fun R hR => en _ ?_)
      have sg := ct_isSign1 (N := N) (X := X) (d := d + 4) hk hF.1 hi hx 41 (by decide)
      rw [b2i_f h] at sg
      exact M_goesOn_r422 ⟨fun _ => ⟨fun _ => ⟨fun _ => ⟨0, V, sg, fun z => absurd rfl z, fun _ => ⟨_, ct_blame1 hF.1.2.2 _ _, fun z => absurd z (by rw [upd_ne (by decide), upd_at]; decide), fun _ => hR⟩⟩, fun z => absurd z (by decide)⟩, fun z => absurd z (by decide)⟩, fun z => absurd z (by decide)⟩
  · have bd := rT_bad hk hF.1 hi hx
    exact ⟨fun h => by omega, fun _ => bad_B hk hi hF.1 hx h50⟩
end CMM
