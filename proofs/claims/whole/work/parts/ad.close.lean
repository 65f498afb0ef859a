/-! frames closed -/
section CLS
variable {N : Nat} {X : Nat → Int} {d L K i b cl f o q0 q' : Nat} {T kk vv : Nat → Int} {bp : Int} {V : am_U} {kd ph bg op kdf phf bgf : Int} {S pend : List Int}
/-- what is known of the frame below -/
def lowF (V : am_U) (f : Nat) (kdf phf bgf : Int) (q0 : Nat) (S : List Int) (q' : Nat) : Prop := (V 113 f = kdf ∧ V 114 f = phf ∧ V 115 f = bgf ∧ V 117 f = (q0 : Nat)) ∧ q' = q0 + S.length ∧ (∀ c, c ∈ S → isOp c) ∧ ∀ k c, S[k]? = some c → V 118 (q0 + (S.length - 1 - k)) = srt c
theorem lowF_kB {V V' : am_U} (h : lowF V f kdf phf bgf q0 S q') (hB : kB V V' (f + 1) q') : lowF V' f kdf phf bgf q0 S q' := by
  obtain ⟨⟨a1, a2, a3, a4⟩, a5, a6, a7⟩ := h
  obtain ⟨b1, b2, b3, b4, b5⟩ := hB.2.1 f (by omega)
  refine ⟨⟨by rw [b1]; exact a1, by rw [b2]; exact a2, by rw [b3]; exact a3, by rw [b5]; exact a4⟩, a5, a6, fun k c hk => ?_⟩
  have lt : k < S.length := by
    rcases Nat.lt_or_ge k S.length with z | z
    · exact z
    · rw [List.getElem?_eq_none z] at hk; cases hk
  rw [hB.2.2.2 _ (by omega)]
  exact a7 k c hk
/-- back in the frame below, the next one looked at -/
theorem close_go (hk : tkS T L K kk vv bp) (hr : rT V T L i) (h40 : V 86 40 = (b : Nat)) (h39 : V 86 39 = (cl : Nat)) (h46 : V 86 46 = ((f + 1 : Nat) : Int)) (h47 : V 86 47 = (o : Nat)) (h50 : V 86 50 = 1) (h49 : V 86 49 = (q' : Nat)) (hl : lowF V f kdf phf bgf q0 S q') : ∃ V', EvK N X (M_ahead_s0 (d + 4) V) (rV V') ∧ rF V' T L (i + 1) b cl f kdf phf bgf 1 o q0 S ∧ emR V V' b cl [] ∧ fA6 V V' := by
  obtain ⟨V', k1, k2, k3⟩ := ct_ahead1 (N := N) (X := X) (d := d + 3) hk hr
  obtain ⟨⟨a1, a2, a3, a4⟩, a5, a6, a7⟩ := hl
  have r : ∀ r, r ≠ 86 → V' r = V r := fun r hr' => fA6_row k2 hr'
  refine ⟨V', k1, ⟨k3, by rw [k2 86 40 (by decide)]; exact h40, by rw [k2 86 39 (by decide)]; exact h39, by rw [k2 86 46 (by decide)]; exact h46, by rw [k2 86 47 (by decide)]; exact h47, by rw [k2 86 50 (by decide)]; exact h50, ⟨by rw [r 113 (by decide)]; exact a1, by rw [r 114 (by decide)]; exact a2, by rw [r 115 (by decide)]; exact a3, by rw [r 117 (by decide)]; exact a4⟩, ?_, a6, ?_⟩, emR_nil (by rw [k2 86 39 (by decide)]; exact h39) (r 111 (by decide)) (r 112 (by decide)), k2⟩
  · rw [k2 86 49 (by decide), h49, a5]
  · rw [r 118 (by decide)]; exact a7
theorem ct_close2 (hk : tkS T L K kk vv bp) (hi : i ≤ K) (hb2 : b < 2) (hf : f + 1 < 20) (hF : rF V T L i b cl (f + 1) 2 ph bg 1 (o + 1) q' pend) (hx : V 86 12 = -1) (h4 : kk i = 4 ∧ vv i = 41) (hp : ∀ c, c ∈ pend → 4 ≤ rkC c) (hpl : pend.length ≤ 90) (hq : q' ≤ 400) (hcl : cl + pend.length ≤ 1600) (ho : o < 50) (hl : lowF V f kdf phf bgf q0 S q') : ∃ V', EvK N X (M_goesOn_s422 (d + 5) ((f + 1 : Nat) : Int) 2 0 V) (rI 1 V') ∧ rF V' T L (i + 1) b (cl + pend.length) f kdf phf bgf 1 o q0 S ∧ emR V V' b cl pend ∧ kB V V' f q0 := by
  obtain ⟨a1, a2, a3, a4, a5, a6, ⟨a7, a8, a9, a10⟩, a11⟩ := hF
  have hF : rF V T L i b cl (f + 1) 2 ph bg 1 (o + 1) q' pend := ⟨a1, a2, a3, a4, a5, a6, ⟨a7, a8, a9, a10⟩, a11⟩
  have nn := nNot_0 hp
  have a11' : hst V q' (pend ++ []) := by rw [List.append_nil]; exact a11
  obtain ⟨V1, j1, j2, j3, j4, j5⟩ := ct_joins1 (N := N) (X := X) (d := d + 3) (least := 1) (S1 := []) (f := f + 1) hb2 hf (by simpa using hq) (fun c S' e => by cases e) pend V cl (o + 1) (fun c hc => by have := hp c hc; omega) a11' hpl a2 a3 hcl a4 a10 (by rw [nn]; exact a5) (by rw [nn]; omega)
  have hF1 := rF_join hF (o + 1) j2 j3 j4 j5
  have l1 : lowF V1 f kdf phf bgf q0 S q' := lowF_kB hl (kB_join a2 j3 j5)
  obtain ⟨c1, c2, c3, c4, c5, c6, -, c11⟩ := hF1
  obtain ⟨W, hW⟩ : ∃ W, W = am_upd (am_upd V1 86 46 ((f + 1 : Nat) : Int)) 86 47 ((o : Nat) : Int) := ⟨_, rfl⟩
  have wr : ∀ r, r ≠ 86 → W r = V1 r := fun r hr => by rw [hW, upd_row hr, upd_row hr]
  have wj : ∀ j, j ≠ 46 → j ≠ 47 → W 86 j = V1 86 j := fun j q1 q2 => by rw [hW, upd_ne q2, upd_ne q1]
  obtain ⟨V', k1, k2, k3, k4⟩ := close_go (N := N) (X := X) (d := d) (V := W) (b := b) (cl := cl + pend.length) (o := o) (q' := q') (kdf := kdf) (phf := phf) (bgf := bgf) (q0 := q0) (S := S) (f := f) hk (rT_cg c1 (wr 87 (by decide)) (fun j q1 _ => wj j (by omega) (by omega))) (by rw [wj 40 (by decide) (by decide)]; exact c2) (by rw [wj 39 (by decide) (by decide)]; exact c3) (by rw [hW, upd_ne (by decide), upd_at]) (by rw [hW, upd_at]) (by rw [wj 50 (by decide) (by decide)]; exact c6) (by rw [wj 49 (by decide) (by decide)]; exact c11.1) (by
    unfold lowF
    rw [wr 113 (by decide), wr 114 (by decide), wr 115 (by decide), wr 117 (by decide), wr 118 (by decide)]; exact l1)
  have sg := ct_isSign1 (N := N) (X := X) (d := d + 4) hk a1 hi hx 41 (by decide)
  rw [b2i_t h4] at sg
  refine ⟨V', M_goesOn_r422 ⟨fun _ => ⟨fun _ => ⟨fun _ => ⟨1, V, sg, fun _ => ⟨fun _ => ⟨V1, j1, fun _ => ⟨V', ?_, rfl⟩, fun z => absurd z (by decide)⟩, fun z => absurd z (by rw [a1.2.2]; decide)⟩, fun z => absurd z (by decide)⟩, fun z => absurd z (by decide)⟩, fun z => absurd z (by decide)⟩, fun z => absurd z (by decide)⟩, k2, ?_, ?_⟩
  · rw [c4, c5, w32_eq (x := ((f + 1 + 1 : Nat) : Int) - 1) (by omega) (by omega), w32_eq (x := ((o + 1 : Nat) : Int) - 1) (by omega) (by omega), show ((f + 1 + 1 : Nat) : Int) - 1 = ((f + 1 : Nat) : Int) by omega, show ((o + 1 : Nat) : Int) - 1 = ((o : Nat) : Int) by omega, ← hW]
    exact k1
  · have e2 : emR V1 V' b (cl + pend.length) [] := ⟨k3.1, fun j hj => by have := k3.2.1 j hj; rw [wr 111 (by decide), wr 112 (by decide)] at this; exact this, fun k c h => by simp at h⟩
    have := emR_app j3 e2 hcl
    rw [List.append_nil] at this; exact this
  · refine kB_trans (kB_join a2 j3 j5) (kB_trans ⟨?_, fun g hg => ?_, ?_, fun j hj => ?_⟩ (kB_A6 k4 f q0))
    · rw [hW]; exact fZ_upd rfl (fZ_upd rfl (fZ_refl V1))
    · rw [wr 113 (by decide), wr 114 (by decide), wr 115 (by decide), wr 116 (by decide), wr 117 (by decide)]
      exact ⟨rfl, rfl, rfl, rfl, rfl⟩
    · rw [wr 116 (by decide)]
    · rw [wr 118 (by decide)]
theorem ct_close4 {c4' : Int} (hk : tkS T L K kk vv bp) (hi : i ≤ K) (hb2 : b < 2) (hf : f + 1 < 20) (hF : rF V T L i b cl (f + 1) 4 ph bg 1 (o + 1) q' pend) (h116 : V 116 (f + 1) = srt c4') (hneg : c4' < 0) (hx : V 86 12 = -1) (h4 : kk i = 4 ∧ vv i = 41) (hp : ∀ c, c ∈ pend → 4 ≤ rkC c) (hpl : pend.length ≤ 90) (hq : q' ≤ 400) (hcl : cl + pend.length < 1600) (ho : o < 50) (hl : lowF V f kdf phf bgf q0 S q') : ∃ V', EvK N X (M_goesOn_s422 (d + 5) ((f + 1 : Nat) : Int) 4 0 V) (rI 1 V') ∧ rF V' T L (i + 1) b (cl + pend.length + 1) f kdf phf bgf 1 o q0 S ∧ emR V V' b cl (pend ++ [c4']) ∧ kB V V' f q0 := by
  obtain ⟨a1, a2, a3, a4, a5, a6, ⟨a7, a8, a9, a10⟩, a11⟩ := hF
  have hF : rF V T L i b cl (f + 1) 4 ph bg 1 (o + 1) q' pend := ⟨a1, a2, a3, a4, a5, a6, ⟨a7, a8, a9, a10⟩, a11⟩
  have nn := nNot_0 hp
  have a11' : hst V q' (pend ++ []) := by rw [List.append_nil]; exact a11
  obtain ⟨V1, j1, j2, j3, j4, j5⟩ := ct_joins1 (N := N) (X := X) (d := d + 3) (least := 1) (S1 := []) (f := f + 1) hb2 hf (by simpa using hq) (fun c S' e => by cases e) pend V cl (o + 1) (fun c hc => by have := hp c hc; omega) a11' hpl a2 a3 (by omega) a4 a10 (by rw [nn]; exact a5) (by rw [nn]; omega)
  have hF1 := rF_join hF (o + 1) j2 j3 j4 j5
  have l1 : lowF V1 f kdf phf bgf q0 S q' := lowF_kB hl (kB_join a2 j3 j5)
  obtain ⟨c1, c2, c3, c4, c5, c6, -, c11⟩ := hF1
  obtain ⟨W, hW⟩ : ∃ W, W = am_upd (am_upd V1 86 46 ((f + 1 : Nat) : Int)) 86 47 ((o : Nat) : Int) := ⟨_, rfl⟩
  have wr : ∀ r, r ≠ 86 → W r = V1 r := fun r hr => by rw [hW, upd_row hr, upd_row hr]
  have wj : ∀ j, j ≠ 46 → j ≠ 47 → W 86 j = V1 86 j := fun j q1 q2 => by rw [hW, upd_ne q2, upd_ne q1]
  obtain ⟨W2, x1, x2, x3⟩ := ct_add1 (N := N) (X := X) (d := d + 4) (V := W) (b := b) (cl := cl + pend.length) (c := c4') (v := 0) (by rw [wj 40 (by decide) (by decide)]; exact c2) hb2 (by rw [wj 39 (by decide) (by decide)]; exact c3) hcl (fun z => absurd z (by omega))
  have yr : ∀ r, r ≠ 86 → r ≠ 111 → r ≠ 112 → W2 r = V1 r := fun r q1 q2 q3 => by rw [← wr r q1]; exact funext fun j => x3 r j q2 q3 (fun z => q1 z.1)
  have yj : ∀ j, j ≠ 39 → W2 86 j = W 86 j := fun j q => x3 86 j (by decide) (by decide) (by omega)
  obtain ⟨V', k1, k2, k3, k4⟩ := close_go (N := N) (X := X) (d := d) (V := W2) (b := b) (cl := cl + pend.length + 1) (o := o) (q' := q') (kdf := kdf) (phf := phf) (bgf := bgf) (q0 := q0) (S := S) (f := f) hk (rT_cg c1 (yr 87 (by decide) (by decide) (by decide)) (fun j q1 _ => by rw [yj j (by omega), wj j (by omega) (by omega)])) (by rw [yj 40 (by decide), wj 40 (by decide) (by decide)]; exact c2) x2.1 (by rw [yj 46 (by decide), hW, upd_ne (by decide), upd_at]) (by rw [yj 47 (by decide), hW, upd_at]) (by rw [yj 50 (by decide), wj 50 (by decide) (by decide)]; exact c6) (by rw [yj 49 (by decide), wj 49 (by decide) (by decide)]; exact c11.1) (by
    unfold lowF
    rw [yr 113 (by decide) (by decide) (by decide), yr 114 (by decide) (by decide) (by decide), yr 115 (by decide) (by decide) (by decide), yr 117 (by decide) (by decide) (by decide), yr 118 (by decide) (by decide) (by decide)]; exact l1)
  have sg := ct_isSign1 (N := N) (X := X) (d := d + 4) hk a1 hi hx 41 (by decide)
  rw [b2i_t h4] at sg
  refine ⟨V', M_goesOn_r422 ⟨fun _ => ⟨fun _ => ⟨fun _ => ⟨1, V, sg, fun _ => ⟨fun _ => ⟨V1, j1, fun z => absurd rfl z, fun _ => ⟨by omega, W2, ?_, V', k1, rfl⟩⟩, fun z => absurd z (by rw [a1.2.2]; decide)⟩, fun z => absurd z (by decide)⟩, fun z => absurd z (by decide)⟩, fun z => absurd z (by decide)⟩, fun z => absurd z (by decide)⟩, k2, ?_, ?_⟩
  · rw [c4, c5, w32_eq (x := ((f + 1 + 1 : Nat) : Int) - 1) (by omega) (by omega), w32_eq (x := ((o + 1 : Nat) : Int) - 1) (by omega) (by omega), show ((f + 1 + 1 : Nat) : Int) - 1 = ((f + 1 : Nat) : Int) by omega, show ((o + 1 : Nat) : Int) - 1 = ((o : Nat) : Int) by omega, ← hW, Int.toNat_natCast, j5 116 (f + 1) (by decide) (by decide) (by omega), h116]
    exact x1
  · have e1 : emR V1 W2 b (cl + pend.length) [c4'] := ⟨x2.1, fun j hj => by have := x2.2.1 j hj; rw [wr 111 (by decide), wr 112 (by decide)] at this; exact this, x2.2.2⟩
    have e2 : emR W2 V' b (cl + pend.length + [c4'].length) [] := k3
    have t1 := emR_app e1 e2 (by simp; omega)
    rw [List.append_nil] at t1
    exact emR_app j3 t1 (by omega)
  · refine kB_trans (kB_join a2 j3 j5) (kB_trans ⟨⟨fun r j e => ?_, fX_em c2 (⟨x2.1, fun j hj => by have := x2.2.1 j hj; rw [wr 111 (by decide), wr 112 (by decide)] at this; exact this, x2.2.2⟩ : emR V1 W2 b (cl + pend.length) [c4'])⟩, fun g hg => ?_, ?_, fun j hj => ?_⟩ (kB_A6 k4 f q0))
    · rw [x3 r j (fun z => by subst z; rw [scZ_row (by omega)] at e; exact absurd e (by decide)) (fun z => by subst z; rw [scZ_row (by omega)] at e; exact absurd e (by decide)) (fun z => by obtain ⟨rfl, rfl⟩ := z; simp [scZ] at e), hW]
      exact (fZ_upd rfl (fZ_upd rfl (fZ_refl V1)) : fZ V1 _).1 r j e
    · rw [yr 113 (by decide) (by decide) (by decide), yr 114 (by decide) (by decide) (by decide), yr 115 (by decide) (by decide) (by decide), yr 116 (by decide) (by decide) (by decide), yr 117 (by decide) (by decide) (by decide)]
      exact ⟨rfl, rfl, rfl, rfl, rfl⟩
    · rw [yr 116 (by decide) (by decide) (by decide)]
    · rw [yr 118 (by decide) (by decide) (by decide)]
end CLS
