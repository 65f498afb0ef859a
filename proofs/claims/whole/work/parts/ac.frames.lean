/-! frames of the reference: opened and closed -/
section FRM
variable {N : Nat} {X : Nat → Int} {d L K i b cl f o q0 : Nat} {T kk vv : Nat → Int} {bp : Int} {V : am_U} {kd ph bg op : Int} {S : List Int}
/-- a frame is opened -/
theorem ct_open1 (hk : tkS T L K kk vv bp) (hF : rF V T L i b cl f kd ph bg op o q0 S) (hf : f ≤ 8) (ho : o < 7) (hq : q0 + S.length < 1000) (kn : Int) : ∃ V', EvK N X (M_opens_s0 (d + 3) kn V) (rV V') ∧ rF V' T L (i + 1) b cl (f + 1) kn 0 1 op (o + 1) (q0 + S.length) [] ∧ emR V V' b cl [] ∧ fZ V V' ∧ (∀ g, g ≤ f → V' 113 g = V 113 g ∧ V' 114 g = V 114 g ∧ V' 115 g = V 115 g ∧ V' 116 g = V 116 g ∧ V' 117 g = V 117 g) ∧ V' 118 = V 118 := by
  obtain ⟨a1, a2, a3, a4, a5, a6, ⟨a7, a8, a9, a10⟩, a11⟩ := hF
  have r0 : rT (am_upd V 86 47 ((o + 1 : Nat) : Int)) T L i := rT_cg a1 (upd_row (by decide)) (fun j q1 _ => upd_ne (by omega))
  obtain ⟨V1, k1, k2, k3⟩ := ct_ahead1 (N := N) (X := X) (d := d + 1) hk r0
  have j1 : ∀ j, j ≠ 3 → j ≠ 4 → j ≠ 5 → j ≠ 6 → j ≠ 7 → j ≠ 12 → j ≠ 47 → V1 86 j = V 86 j := fun j q1 q2 q3 q4 q5 q6 q7 => by rw [k2 86 j (by omega), upd_ne q7]
  have r1 : ∀ r, r ≠ 86 → V1 r = V r := fun r hr => by rw [fA6_row k2 hr, upd_row hr]
  have e46 : V1 86 46 = ((f + 1 : Nat) : Int) := by rw [j1 46 (by decide) (by decide) (by decide) (by decide) (by decide) (by decide) (by decide)]; exact a4
  have e49 : V1 86 49 = ((q0 + S.length : Nat) : Int) := by rw [j1 49 (by decide) (by decide) (by decide) (by decide) (by decide) (by decide) (by decide)]; exact a11.1
  have e47 : V1 86 47 = ((o + 1 : Nat) : Int) := by rw [k2 86 47 (by decide), upd_at]
  obtain ⟨V2, hV2⟩ : ∃ V2, V2 = am_upd (am_upd (am_upd (am_upd (am_upd V1 113 (f + 1) kn) 114 (f + 1) 0) 115 (f + 1) 1) 117 (f + 1) ((q0 + S.length : Nat) : Int)) 86 46 ((f + 1 + 1 : Nat) : Int) := ⟨_, rfl⟩
  have p1 : EvK N X (M_pushes_s0 (d + 2) kn V1) (rV V2) := M_pushes_r0 (by
    rw [e46, e49, Int.toNat_natCast, w32_succ (i := f + 1) (by omega), hV2]
    exact ⟨by omega, rfl⟩)
  have j2 : ∀ j, j ≠ 46 → V2 86 j = V1 86 j := fun j q => by rw [hV2, upd_ne q, upd_row (by decide), upd_row (by decide), upd_row (by decide), upd_row (by decide)]
  have r2 : ∀ r, r ≠ 86 → r ≠ 113 → r ≠ 114 → r ≠ 115 → r ≠ 117 → V2 r = V1 r := fun r q1 q2 q3 q4 q5 => by rw [hV2, upd_row q1, upd_row q5, upd_row q4, upd_row q3, upd_row q2]
  have g2 : ∀ g, g ≠ f + 1 → V2 113 g = V1 113 g ∧ V2 114 g = V1 114 g ∧ V2 115 g = V1 115 g ∧ V2 117 g = V1 117 g := fun g hg => by
    rw [hV2]
    refine ⟨?_, ?_, ?_, ?_⟩
    · rw [upd_row (by decide), upd_row (by decide), upd_row (by decide), upd_row (by decide), upd_ne hg]
    · rw [upd_row (by decide), upd_row (by decide), upd_row (by decide), upd_ne hg, upd_row (by decide)]
    · rw [upd_row (by decide), upd_row (by decide), upd_ne hg, upd_row (by decide), upd_row (by decide)]
    · rw [upd_row (by decide), upd_ne hg, upd_row (by decide), upd_row (by decide), upd_row (by decide)]
  refine ⟨V2, M_opens_r0 ⟨fun _ => ⟨fun _ => ⟨V1, ?_, V2, p1, rfl⟩, fun z => absurd z (by rw [a1.2.2]; omega)⟩, fun z => absurd z (by rw [a5]; omega)⟩, ⟨?_, ?_, ?_, ?_, ?_, ?_, ⟨?_, ?_, ?_, ?_⟩, ⟨?_, (fun c h => by cases h), (fun k c h => by simp at h)⟩⟩, ?_, ?_, fun g hg => ?_, ?_⟩
  · rw [a5, w32_succ (i := o) (by omega)]; exact k1
  · exact rT_cg k3 (r2 87 (by decide) (by decide) (by decide) (by decide) (by decide)) (fun j q1 _ => j2 j (by omega))
  · rw [j2 40 (by decide), j1 40 (by decide) (by decide) (by decide) (by decide) (by decide) (by decide) (by decide)]; exact a2
  · rw [j2 39 (by decide), j1 39 (by decide) (by decide) (by decide) (by decide) (by decide) (by decide) (by decide)]; exact a3
  · rw [hV2, upd_at]
  · rw [j2 47 (by decide)]; exact e47
  · rw [j2 50 (by decide), j1 50 (by decide) (by decide) (by decide) (by decide) (by decide) (by decide) (by decide)]; exact a6
  · rw [hV2, upd_row (by decide), upd_row (by decide), upd_row (by decide), upd_row (by decide), upd_at]
  · rw [hV2, upd_row (by decide), upd_row (by decide), upd_row (by decide), upd_at]
  · rw [hV2, upd_row (by decide), upd_row (by decide), upd_at]
  · rw [hV2, upd_row (by decide), upd_at]
  · rw [j2 49 (by decide)]; exact e49
  · refine emR_nil ?_ ?_ ?_
    · rw [j2 39 (by decide), j1 39 (by decide) (by decide) (by decide) (by decide) (by decide) (by decide) (by decide)]; exact a3
    · rw [r2 111 (by decide) (by decide) (by decide) (by decide) (by decide), r1 111 (by decide)]
    · rw [r2 112 (by decide) (by decide) (by decide) (by decide) (by decide), r1 112 (by decide)]
  · rw [hV2]
    exact fZ_upd rfl (fZ_upd (scZ_row (by omega) _) (fZ_upd (scZ_row (by omega) _) (fZ_upd (scZ_row (by omega) _) (fZ_upd (scZ_row (by omega) _) (fZ_trans (fZ_upd rfl (fZ_refl V)) (fZ_A6 k2))))))
  · obtain ⟨x1, x2, x3, x4⟩ := g2 g (by omega)
    rw [x1, x2, x3, x4, r2 116 (by decide) (by decide) (by decide) (by decide) (by decide), r1 113 (by decide), r1 114 (by decide), r1 115 (by decide), r1 116 (by decide), r1 117 (by decide)]
    exact ⟨rfl, rfl, rfl, rfl, rfl⟩
  · rw [r2 118 (by decide) (by decide) (by decide) (by decide) (by decide), r1 118 (by decide)]
/-- one too many open: a fault -/
theorem ct_open7 (hr : rT V T L i) (h7 : V 86 47 = 7) (kn : Int) : EvK N X (M_opens_s0 (d + 3) kn V) (rV (am_upd (am_upd V 86 8 5) 86 9 (plS1 T L i : Nat))) := by
  refine M_opens_r0 ⟨fun z => absurd h7 z, fun _ => ⟨_, ?_, fun z => absurd z (by rw [upd_ne (by decide), upd_at]; decide), fun _ => rfl⟩⟩
  rw [hr.2.1.1]
  exact ct_blame1 hr.2.2 _ _
/-- no sign of numbers stands there: the frame's end, or a test's words -/
theorem on_skip (hk : tkS T L K kk vv bp) (hi : i ≤ K) (hr : rT V T L i) (hx : V 86 12 = -1) (hf : f < 20) (h46 : V 86 46 = ((f + 1 : Nat) : Int)) (h113 : V 113 f = kd) (hn : V 114 f < 2 → noAr kk vv i) : ∀ R, EvK N X (M_goesOn_s188 (d + 5) (f : Nat) kd (cb (isTs kd)) V) R → EvK N X (M_goesOn_s0 (d + 5) V) R := by
  intro R hR
  have e46 : eqI (w32 (V 86 46 - 1)) ((f : Nat) : Int) := by show _ = _; rw [h46, w32_eq (by omega) (by omega)]; omega
  have sg : ∀ (x : Int), isG x = true → ¬ (kk i = 4 ∧ vv i = x) → EvK N X (M_isSign_s0 (d + 4) x V) (rI 0 V) := fun x h3 h4 => by
    have := ct_isSign1 (N := N) (X := X) (d := d + 4) hk hr hi hx x h3
    rw [b2i_f h4] at this; exact this
  refine M_goesOn_r0 ⟨V, ct_lex1 (d := d + 3) hx, fun _ => ?_, fun z => absurd z (by rw [hr.2.2]; omega)⟩
  rw [eqI_o e46, Int.toNat_natCast, h113]
  refine ⟨by omega, _, V, ct_isTest1, fun _ => hR, fun z => ?_⟩
  obtain ⟨⟨-, n1⟩, n2⟩ := hn z
  exact ⟨0, V, sg 43 (by decide) (fun y => n2 ⟨y.1, Or.inl y.2⟩), fun y => absurd rfl y, fun _ => ⟨0, V, sg 45 (by decide) (fun y => n2 ⟨y.1, Or.inr y.2⟩), fun y => absurd rfl y, fun _ => ⟨0, V, sg 42 (by decide) (fun y => n1 ⟨y.1, Or.inl y.2⟩), fun y => absurd rfl y, fun _ => ⟨0, V, sg 47 (by decide) (fun y => n1 ⟨y.1, Or.inr (Or.inl y.2)⟩), fun y => absurd rfl y, fun _ => ⟨0, V, sg 37 (by decide) (fun y => n1 ⟨y.1, Or.inr (Or.inr y.2)⟩), fun _ => hR, fun y => absurd rfl y⟩⟩⟩⟩⟩
theorem on_end (hk : tkS T L K kk vv bp) (hi : i ≤ K) (hr : rT V T L i) (hx : V 86 12 = -1) (hf : f < 20) (h46 : V 86 46 = ((f + 1 : Nat) : Int)) (h113 : V 113 f = kd) (hn : V 114 f < 2 → noAr kk vv i) (ht : ¬ isTs kd) : ∀ R, EvK N X (M_goesOn_s422 (d + 5) (f : Nat) kd 0 V) R → EvK N X (M_goesOn_s0 (d + 5) V) R := fun R hR => by
  refine on_skip hk hi hr hx hf h46 h113 hn R ?_
  rw [cb_f ht]
  exact M_goesOn_r188 ⟨fun _ => M_goesOn_r285 ⟨fun _ => M_goesOn_r400 ⟨fun _ => hR, fun z => absurd rfl z⟩, fun z => absurd rfl z⟩, fun z => absurd rfl z⟩
end FRM
