/-! tests: the word between two facts, the reference -/
section TWD
variable {N : Nat} {X : Nat → Int} {T : Nat → Int} {L K : Nat} {kk vv : Nat → Int} {bp : Int} {i o : Nat}
/-- w = 20 is 'and', held with 2; w = 19 is 'or', held with 1 -/
theorem on_word {d b cl f q0 : Nat} {V : am_U} {kd ph bg : Int} {S1 S2 : List Int} {w : Int} {ls : Int} (hk : tkS T L K kk vv bp) (hi : i < K) (hb2 : b < 2) (hf : f < 20) (hts : isTs kd) (hF : rF V T L i b cl f kd ph bg 1 (o + nNot S2) q0 (S2 ++ S1)) (hph : phT kk vv i ph) (hw : kk i = 1 ∧ vv i = w) (hwl : (w = 20 ∧ ls = 2) ∨ (w = 19 ∧ ls = 1)) (hS2 : ∀ x, x ∈ S2 → ls ≤ rkC x) (hS1 : ∀ x, x ∈ S1 → rkC x < ls) (hl : S2.length ≤ 40) (hq : q0 + S1.length ≤ 400) (hcl : cl + S2.length ≤ 1600) (ho : o < 50) : ∃ V', rF V' T L (i + 1) b (cl + S2.length) f kd 0 1 0 o q0 ((-1 - w) :: S1) ∧ emR V V' b cl S2 ∧ kB V V' f q0 ∧ lpB N X d V V' := by
  have hF0 := hF
  obtain ⟨a1, a2, a3, a4, a5, a6, ⟨a7, a8, a9, a10⟩, a11⟩ := hF
  have hx : V 86 12 = -1 := by
    rcases Int.decEq (V 86 12) (-1) with z | z
    · have := (rT_bad hk a1 (by omega) z).1
      omega
    · exact z
  have p0 : ph ≠ 0 := by rcases hph with ⟨e, _⟩ | e <;> omega
  have nl := nNot_le S2
  obtain ⟨V1, j1, j2, j3, j4, j5⟩ := ct_joins1 (N := N) (X := X) (d := d + 3) (least := ls) hb2 hf hq (fun x S' e => hS1 x (by rw [e]; exact List.mem_cons_self)) S2 V cl o hS2 a11 (by omega) a2 a3 hcl a4 a10 a5 (by omega)
  have hF1 := rF_join hF0 o j2 j3 j4 j5
  have hx1 : V1 86 12 = -1 := by rw [j5 86 12 (by decide) (by decide) (by decide)]; exact hx
  have isop : isOp (-1 - w) := by rcases hwl with ⟨e, _⟩ | ⟨e, _⟩ <;> rw [e] <;> unfold isOp <;> decide
  obtain ⟨V2, -, k1, k2, -, k3, k4, k5⟩ := hold_go (N := N) (X := X) (d := d) (c := -1 - w) hk hF1 isop (by omega)
  obtain ⟨W, hW⟩ : ∃ W, W = am_upd (am_upd V2 114 f 0) 115 f 1 := ⟨_, rfl⟩
  have wr : ∀ r, r ≠ 114 → r ≠ 115 → W r = V2 r := fun r hr hr2 => by rw [hW, upd_row hr2, upd_row hr]
  obtain ⟨W2, l1, l2, l3⟩ := k2 W (fun r j z => by rw [wr r (fun y => z (Or.inl y)) (fun y => z (Or.inr y))])
  have yr : ∀ r, r ≠ 86 → W2 r = W r := fun r hr => fA6_row l2 hr
  have yq : ∀ r, r ≠ 86 → r ≠ 114 → r ≠ 115 → r ≠ 118 → W2 r = V1 r := fun r q1 q2 q2' q3 => by rw [yr r q1, wr r q2 q2']; exact funext fun j => k5 r j q3 (fun z => q1 z.1)
  have w86 : ∀ j, j ≠ 3 → j ≠ 4 → j ≠ 5 → j ≠ 6 → j ≠ 7 → j ≠ 12 → j ≠ 49 → W2 86 j = V1 86 j := fun j q1 q2 q3 q4 q5 q6 q7 => by rw [l2 86 j (by omega), wr 86 (by decide) (by decide), k5 86 j (by decide) (by omega)]
  obtain ⟨c1, c2, c3, c4, c5, c6, ⟨c7, c8, c9, c10⟩, c11⟩ := hF1
  have hF2 : rF W2 T L (i + 1) b (cl + S2.length) f kd 0 1 1 o q0 ((-1 - w) :: S1) := ⟨l3, by rw [w86 40 (by decide) (by decide) (by decide) (by decide) (by decide) (by decide) (by decide)]; exact c2, by rw [w86 39 (by decide) (by decide) (by decide) (by decide) (by decide) (by decide) (by decide)]; exact c3, by rw [w86 46 (by decide) (by decide) (by decide) (by decide) (by decide) (by decide) (by decide)]; exact c4, by rw [w86 47 (by decide) (by decide) (by decide) (by decide) (by decide) (by decide) (by decide)]; exact c5, by rw [w86 50 (by decide) (by decide) (by decide) (by decide) (by decide) (by decide) (by decide)]; exact c6, ⟨by rw [yq 113 (by decide) (by decide) (by decide) (by decide)]; exact c7, by rw [yr 114 (by decide), hW, upd_row (by decide), upd_at], by rw [yr 115 (by decide), hW, upd_at], by rw [yq 117 (by decide) (by decide) (by decide) (by decide)]; exact c10⟩, hst_cg k3 (by rw [yr 118 (by decide), wr 118 (by decide) (by decide)]) (by rw [l2 86 49 (by decide), wr 86 (by decide) (by decide)])⟩
  obtain ⟨g1, g2, g3⟩ := rF_50 hF2 0
  have n114 : V 114 ((f : Nat) : Int).toNat ≠ 0 := by rw [Int.toNat_natCast, a8]; exact p0
  have s372 : ∀ x4 : Int, EvK N X (M_goesOn_s372 (d + 5) (f : Nat) kd 1 x4 (srt (-1 - w)) V1) (rI 1 (am_upd W2 86 50 0)) := fun x4 => M_goesOn_r372 ⟨V2, k1, by omega, W2, by rw [Int.toNat_natCast, ← hW]; exact l1, rfl⟩
  have w20 := ct_isWord1 (N := N) (X := X) (d := d + 4) hk a1 (Nat.le_of_lt hi) hx 20 (by decide)
  have w19 := ct_isWord1 (N := N) (X := X) (d := d + 4) hk a1 (Nat.le_of_lt hi) hx 19 (by decide)
  have s309 : EvK N X (M_goesOn_s309 (d + 5) (f : Nat) kd 1 V) (rI 1 (am_upd W2 86 50 0)) := by
    refine M_goesOn_r309 ⟨by omega, fun _ => M_goesOn_r327 ⟨fun _ => ?_, fun z => absurd z (by rw [a1.2.2]; decide)⟩, fun z => absurd z n114⟩
    rcases hwl with ⟨e, e2⟩ | ⟨e, e2⟩
    · rw [b2i_t (show kk i = 1 ∧ vv i = ((20 : Nat) : Int) from ⟨hw.1, by rw [hw.2, e]; rfl⟩)] at w20
      rw [e] at s372
      rw [e2] at j1
      exact ⟨1, V, w20, fun z => absurd z (by decide), fun _ => M_goesOn_r356 ⟨V1, j1, fun z => absurd z (by decide), fun _ => s372 1⟩⟩
    · rw [b2i_f (show ¬ (kk i = 1 ∧ vv i = ((20 : Nat) : Int)) from fun z => by omega)] at w20
      rw [e] at s372
      rw [e2] at j1
      exact ⟨0, V, w20, fun _ => M_goesOn_r356 ⟨V1, j1, fun _ => s372 0, fun z => absurd rfl z⟩, fun z => absurd rfl z⟩
  have run1 : EvK N X (M_goesOn_s0 (d + 5) V) (rI 1 (am_upd W2 86 50 0)) := by
    refine on_skip hk (Nat.le_of_lt hi) a1 hx hf a4 a7 (fun z => ?_) _ ?_
    · rcases hph with ⟨_, e⟩ | e
      · exact e
      · rw [a8, e] at z; exact absurd z (by decide)
    · rw [cb_t hts]
      refine M_goesOn_r188 ⟨fun z => absurd z (by decide), fun _ => ⟨by omega, fun _ => ?_, fun z => absurd z n114⟩⟩
      refine M_goesOn_r285 ⟨fun z => absurd z (by decide), fun _ => ⟨_, V, w20, fun _ => s309, fun z => ⟨_, V, w19, fun z2 => ?_, fun _ => s309⟩⟩⟩
      have y1 := b2i_eq.mp z
      have y2 := b2i_eq.mp z2
      exfalso
      rcases hwl with ⟨e, _⟩ | ⟨e, _⟩
      · exact y1 ⟨hw.1, by rw [hw.2, e]; rfl⟩
      · exact y2 ⟨hw.1, by rw [hw.2, e]; rfl⟩
  have kW : kB V1 W2 f q0 := ⟨⟨fun r j e => by
    have n118 : r ≠ 118 := fun z => by subst z; rw [scZ_row (by omega)] at e; exact absurd e (by decide)
    have n114' : r ≠ 114 := fun z => by subst z; rw [scZ_row (by omega)] at e; exact absurd e (by decide)
    have n115' : r ≠ 115 := fun z => by subst z; rw [scZ_row (by omega)] at e; exact absurd e (by decide)
    rw [(fZ_A6 l2).1 r j e, wr r n114' n115']
    exact k5 r j n118 (fun z => by obtain ⟨rfl, rfl⟩ := z; simp [scZ] at e), fun j _ => by rw [yq 111 (by decide) (by decide) (by decide) (by decide), yq 112 (by decide) (by decide) (by decide) (by decide)]; exact ⟨rfl, rfl⟩⟩, fun g hg => by
    rw [yr 114 (by decide), yr 115 (by decide), hW, upd_row (by decide : (114 : Nat) ≠ 115), upd_ne (by omega), upd_ne (by omega), upd_row (by decide : (115 : Nat) ≠ 114), k5 114 g (by decide) (by omega), k5 115 g (by decide) (by omega), yq 113 (by decide) (by decide) (by decide) (by decide), yq 116 (by decide) (by decide) (by decide) (by decide), yq 117 (by decide) (by decide) (by decide) (by decide)]
    exact ⟨rfl, rfl, rfl, rfl, rfl⟩, by rw [yq 116 (by decide) (by decide) (by decide) (by decide)], fun j hj => by rw [yr 118 (by decide), wr 118 (by decide) (by decide)]; exact k4 j hj⟩
  refine ⟨am_upd W2 86 50 0, g1, ?_, kB_trans (kB_join a2 j3 j5) (kB_trans kW (g2 f q0)), fun R hR => loop_on (by rw [a6]; decide) run1 (fun z => absurd z (by decide)) (fun _ z => absurd g1.1.2.2 z) (fun _ _ => hR)⟩
  have eW : emR V1 W2 b (cl + S2.length) [] := emR_nil hF2.2.2.1 (yq 111 (by decide) (by decide) (by decide) (by decide)) (yq 112 (by decide) (by decide) (by decide) (by decide))
  have t1 := emR_app eW g3 (by simp; omega)
  rw [List.append_nil] at t1
  have t2 := emR_app j3 t1 hcl
  rw [List.append_nil] at t2; exact t2
end TWD
