/-! facts: a test in square ones -/
section FBK
variable {N : Nat} {X : Nat → Int} {T : Nat → Int} {L K : Nat} {kk vv : Nat → Int} {bp : Int} {i o : Nat}
theorem nNot_le (p : List Int) : nNot p ≤ p.length := by unfold nNot; exact List.length_filter_le _ _
/-- behind a test: neither word follows -/
def noTw (kk vv : Nat → Int) (j : Nat) : Prop := ¬ (kk j = 1 ∧ vv j = 20) ∧ ¬ (kk j = 1 ∧ vv j = 19)
/-- the end of a test in its frame -/
theorem tst_end {d b cl f q0 : Nat} {V : am_U} {kd ph bg op : Int} {S : List Int} (hk : tkS T L K kk vv bp) (hi : i ≤ K) (hF : rF V T L i b cl f kd ph bg op o q0 S) (hx : V 86 12 = -1) (hf : f < 20) (hts : isTs kd) (hph : phT kk vv i ph) (hn : noTw kk vv i) : ∀ R, EvK N X (M_goesOn_s422 (d + 5) (f : Nat) kd 1 V) R → EvK N X (M_goesOn_s0 (d + 5) V) R := fun R hR => by
  have e114 : V 114 f = ph := hF.2.2.2.2.2.2.1.2.1
  have p0 : ph ≠ 0 := by rcases hph with ⟨e, _⟩ | e <;> omega
  refine on_skip hk hi hF.1 hx hf hF.2.2.2.1 hF.2.2.2.2.2.2.1.1 (fun z => ?_) R ?_
  · rcases hph with ⟨_, e⟩ | e
    · exact e
    · rw [e114, e] at z; exact absurd z (by decide)
  · rw [cb_t hts]
    have w20 := ct_isWord1 (N := N) (X := X) (d := d + 4) hk hF.1 hi hx 20 (by decide)
    rw [b2i_f (show ¬ (kk i = 1 ∧ vv i = ((20 : Nat) : Int)) from hn.1)] at w20
    have w19 := ct_isWord1 (N := N) (X := X) (d := d + 4) hk hF.1 hi hx 19 (by decide)
    rw [b2i_f (show ¬ (kk i = 1 ∧ vv i = ((19 : Nat) : Int)) from hn.2)] at w19
    refine M_goesOn_r188 ⟨fun z => absurd z (by decide), fun _ => ⟨by omega, fun _ => ?_, fun z => absurd z (by rw [Int.toNat_natCast, e114]; exact p0)⟩⟩
    refine M_goesOn_r285 ⟨fun z => absurd z (by decide), fun _ => ⟨0, V, w20, fun z => absurd rfl z, fun _ => ⟨0, V, w19, fun _ => ?_, fun z => absurd rfl z⟩⟩⟩
    exact M_goesOn_r400 ⟨fun z => absurd z (by decide), fun _ => ⟨by omega, fun _ => hR, fun z => absurd z (by rw [Int.toNat_natCast, e114]; exact p0)⟩⟩
theorem ct_close5 {d b cl f q0 q' : Nat} {V : am_U} {ph bg kdf phf bgf : Int} {S pend : List Int} (hk : tkS T L K kk vv bp) (hi : i ≤ K) (hb2 : b < 2) (hf : f + 1 < 20) (hF : rF V T L i b cl (f + 1) 5 ph bg 1 (o + 1 + nNot pend) q' pend) (hx : V 86 12 = -1) (h4 : kk i = 4 ∧ vv i = 93) (hp : ∀ c, c ∈ pend → 1 ≤ rkC c) (hpl : pend.length ≤ 40) (hq : q' ≤ 400) (hcl : cl + pend.length ≤ 1600) (ho : o < 50) (hl : lowF V f kdf phf bgf q0 S q') : ∃ V', EvK N X (M_goesOn_s422 (d + 5) ((f + 1 : Nat) : Int) 5 1 V) (rI 1 V') ∧ rF V' T L (i + 1) b (cl + pend.length) f kdf 2 bgf 1 o q0 S ∧ emR V V' b cl pend ∧ kB V V' f q0 := by
  obtain ⟨a1, a2, a3, a4, a5, a6, ⟨a7, a8, a9, a10⟩, a11⟩ := hF
  have hF : rF V T L i b cl (f + 1) 5 ph bg 1 (o + 1 + nNot pend) q' pend := ⟨a1, a2, a3, a4, a5, a6, ⟨a7, a8, a9, a10⟩, a11⟩
  have nl := nNot_le pend
  have a11' : hst V q' (pend ++ []) := by rw [List.append_nil]; exact a11
  obtain ⟨V1, j1, j2, j3, j4, j5⟩ := ct_joins1 (N := N) (X := X) (d := d + 3) (least := 1) (S1 := []) (f := f + 1) hb2 hf (by simpa using hq) (fun c S' e => by cases e) pend V cl (o + 1) hp a11' (by omega) a2 a3 hcl a4 a10 a5 (by omega)
  have hF1 := rF_join hF (o + 1) j2 j3 j4 j5
  have l1 : lowF V1 f kdf phf bgf q0 S q' := lowF_kB hl (kB_join a2 j3 j5)
  obtain ⟨c1, c2, c3, c4, c5, c6, -, c11⟩ := hF1
  obtain ⟨W, hW⟩ : ∃ W, W = am_upd (am_upd (am_upd V1 86 46 ((f + 1 : Nat) : Int)) 86 47 ((o : Nat) : Int)) 114 f 2 := ⟨_, rfl⟩
  have wr : ∀ r, r ≠ 86 → r ≠ 114 → W r = V1 r := fun r hr hr2 => by rw [hW, upd_row hr2, upd_row hr, upd_row hr]
  have wj : ∀ j, j ≠ 46 → j ≠ 47 → W 86 j = V1 86 j := fun j q1 q2 => by rw [hW, upd_row (by decide), upd_ne q2, upd_ne q1]
  have w114 : ∀ j, j ≠ f → W 114 j = V1 114 j := fun j q => by rw [hW, upd_ne q, upd_row (by decide), upd_row (by decide)]
  obtain ⟨V', k1, k2, k3, k4⟩ := close_go (N := N) (X := X) (d := d) (V := W) (b := b) (cl := cl + pend.length) (o := o) (q' := q') (kdf := kdf) (phf := 2) (bgf := bgf) (q0 := q0) (S := S) (f := f) hk (rT_cg c1 (wr 87 (by decide) (by decide)) (fun j q1 _ => wj j (by omega) (by omega))) (by rw [wj 40 (by decide) (by decide)]; exact c2) (by rw [wj 39 (by decide) (by decide)]; exact c3) (by rw [hW, upd_row (by decide), upd_ne (by decide), upd_at]) (by rw [hW, upd_row (by decide), upd_at]) (by rw [wj 50 (by decide) (by decide)]; exact c6) (by rw [wj 49 (by decide) (by decide)]; exact c11.1) (by
    obtain ⟨⟨b1, b2, b3, b4⟩, b5, b6, b7⟩ := l1
    refine ⟨⟨?_, ?_, ?_, ?_⟩, b5, b6, ?_⟩
    · rw [wr 113 (by decide) (by decide)]; exact b1
    · rw [hW, upd_at]
    · rw [wr 115 (by decide) (by decide)]; exact b3
    · rw [wr 117 (by decide) (by decide)]; exact b4
    · rw [wr 118 (by decide) (by decide)]; exact b7)
  have sg := ct_isSign1 (N := N) (X := X) (d := d + 4) hk a1 hi hx 93 (by decide)
  rw [b2i_t h4] at sg
  have q46 : eqI (w32 (V1 86 46 - 1)) ((f + 1 : Nat) : Int) := by show _ = _; rw [c4, w32_eq (by omega) (by omega)]; omega
  have q45 : eqI (w32 (((f + 1 : Nat) : Int) - 1)) ((f : Nat) : Int) := by show _ = _; rw [w32_eq (by omega) (by omega)]; omega
  have q47 : eqI (w32 (V1 86 47 - 1)) ((o : Nat) : Int) := by show _ = _; rw [c5, w32_eq (by omega) (by omega)]; omega
  refine ⟨V', M_goesOn_r422 ⟨fun _ => ⟨fun _ => ⟨fun z => absurd rfl z, fun _ => ⟨1, V, sg, fun _ => ⟨fun _ => ⟨V1, j1, fun _ => ?_, fun z => absurd z (by decide)⟩, fun z => absurd z (by rw [a1.2.2]; decide)⟩, fun z => absurd z (by decide)⟩⟩, fun z => absurd z (by decide)⟩, fun z => absurd z (by decide)⟩, k2, ?_, ?_⟩
  · rw [eqI_o q46, eqI_o q47, eqI_o q45, Int.toNat_natCast, ← hW]
    exact ⟨by omega, V', k1, rfl⟩
  · have e2 : emR V1 V' b (cl + pend.length) [] := ⟨k3.1, fun j hj => by have := k3.2.1 j hj; rw [wr 111 (by decide) (by decide), wr 112 (by decide) (by decide)] at this; exact this, fun k c h => by simp at h⟩
    have := emR_app j3 e2 hcl
    rw [List.append_nil] at this; exact this
  · refine kB_trans (kB_join a2 j3 j5) (kB_trans ⟨?_, fun g hg => ?_, ?_, fun j hj => ?_⟩ (kB_A6 k4 f q0))
    · rw [hW]; exact fZ_upd (scZ_row (by omega) _) (fZ_upd rfl (fZ_upd rfl (fZ_refl V1)))
    · rw [wr 113 (by decide) (by decide), w114 g (by omega), wr 115 (by decide) (by decide), wr 116 (by decide) (by decide), wr 117 (by decide) (by decide)]
      exact ⟨rfl, rfl, rfl, rfl, rfl⟩
    · rw [wr 116 (by decide) (by decide)]
    · rw [wr 118 (by decide) (by decide)]
/-- the end of a test in square ones: closed, or a fault -/
theorem brk_end {d b cl f q0 q' : Nat} {V : am_U} {kd ph ph' : Int} {O pend : List Int} (hk : tkS T L K kk vv bp) (hi : i ≤ K) (hb : b < 2) (hf : f + 1 < 20) (ho : o < 50) (hF : rF V T L i b cl (f + 1) 5 ph' 0 1 (o + 1 + nNot pend) q' pend) (hph : phT kk vv i ph') (hn : noTw kk vv i) (hp : ∀ c, c ∈ pend → 1 ≤ rkC c) (hpl : pend.length ≤ 40) (hq : q' ≤ 400) (hcl : cl + pend.length ≤ 1600) (hl : lowF V f kd ph 0 q0 O q') : ((kk i = 4 ∧ vv i = 93) → ∃ V', rF V' T L (i + 1) b (cl + pend.length) f kd 2 0 1 o q0 O ∧ emR V V' b cl pend ∧ kB V V' f q0 ∧ lpB N X d V V') ∧ (¬ (kk i = 4 ∧ vv i = 93) → ltB N X d V 1 (fpl T L kk bp i)) := by
  have h50 : V 86 50 ≠ 0 := by rw [hF.2.2.2.2.2.1]; decide
  by_cases hx : V 86 12 = -1
  · have en := tst_end (N := N) (X := X) (d := d) hk hi hF hx hf (Or.inr rfl) hph hn
    refine ⟨fun h => ?_, fun h => ?_⟩
    · obtain ⟨V', k1, k2, k3, k4⟩ := ct_close5 (N := N) (X := X) (d := d) hk hi hb hf hF hx h hp hpl hq hcl ho hl
      exact ⟨V', k2, k3, k4, fun R hR => loop_on h50 (en _ k1) (fun z => absurd z (by decide)) (fun _ z => absurd k2.1.2.2 z) (fun _ _ => hR)⟩
    · refine blame_B (x1 := 0) (x3 := 0) hk hi hF.1 hx hF.2.2.2.1 h50 (fun R hR => en _ ?_)
      have sg := ct_isSign1 (N := N) (X := X) (d := d + 4) hk hF.1 hi hx 93 (by decide)
      rw [b2i_f h] at sg
      exact M_goesOn_r422 ⟨fun _ => ⟨fun _ => ⟨fun z => absurd rfl z, fun _ => ⟨0, V, sg, fun z => absurd rfl z, fun _ => ⟨_, ct_blame1 hF.1.2.2 _ _, fun z => absurd z (by rw [upd_ne (by decide), upd_at]; decide), fun _ => hR⟩⟩⟩, fun z => absurd z (by decide)⟩, fun z => absurd z (by decide)⟩
  · have bd := rT_bad hk hF.1 hi hx
    exact ⟨fun h => by omega, fun _ => bad_B hk hi hF.1 hx h50⟩
end FBK
