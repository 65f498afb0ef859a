/-! facts: two sums held against each other, the reference -/
section FCM
variable {N : Nat} {X : Nat → Int} {T : Nat → Int} {L K : Nat} {kk vv : Nat → Int} {bp : Int} {i o : Nat}
def isCm (c : Int) : Prop := c = 60 ∨ c = 62 ∨ c = 61
theorem isSign_any {d : Nat} {V : am_U} (c : Int) : ∃ r : Int, EvK N X (M_isSign_s0 d c V) (rI r V) := by
  by_cases h1 : V 86 3 = 3
  · by_cases h2 : V 86 6 = c
    · exact ⟨1, M_isSign_r0 ⟨fun z => absurd h1 z, fun _ => ⟨fun z => absurd h2 z, fun _ => rfl⟩⟩⟩
    · exact ⟨0, M_isSign_r0 ⟨fun z => absurd h1 z, fun _ => ⟨fun _ => rfl, fun z => absurd z h2⟩⟩⟩
  · exact ⟨0, M_isSign_r0 ⟨fun _ => rfl, fun z => absurd z h1⟩⟩
/-- a fault told stays, at a test's end -/
theorem s422_told {d f : Nat} {V : am_U} {kd : Int} (hts : isTs kd) (h8 : V 86 8 = 1) : EvK N X (M_goesOn_s422 (d + 5) (f : Nat) kd 1 V) (rI 0 V) := by
  have bl : ∀ p : Int, EvK N X (M_blame_s0 (d + 4) 1 p V) (rV V) := fun p => M_blame_r0 ⟨fun z => absurd z (by rw [h8]; decide), fun _ => rfl⟩
  rcases hts with rfl | rfl
  · exact M_goesOn_r422 ⟨fun z => absurd z (by decide), fun _ => ⟨fun _ => M_goesOn_r439 rfl, fun z => absurd z (by rw [h8]; decide)⟩⟩
  · obtain ⟨r, hr⟩ := isSign_any (N := N) (X := X) (d := d + 4) (V := V) 93
    exact M_goesOn_r422 ⟨fun _ => ⟨fun _ => ⟨fun z => absurd rfl z, fun _ => ⟨r, V, hr, fun _ => ⟨fun z => absurd z (by rw [h8]; decide), fun _ => rfl⟩, fun _ => ⟨V, bl _, fun z => absurd z (by rw [h8]; decide), fun _ => rfl⟩⟩⟩, fun z => absurd z (by decide)⟩, fun z => absurd z (by decide)⟩
/-- a sum ends a test too early -/
theorem no_cmp {d b cl f q0 : Nat} {V : am_U} {kd bg : Int} {S : List Int} (hk : tkS T L K kk vv bp) (hi : i ≤ K) (hf : f < 20) (hts : isTs kd) (hF : rF V T L i b cl f kd 0 bg 1 o q0 S) (hn : noAr kk vv i) (hc : ¬ (kk i = 4 ∧ isCm (vv i))) : ltB N X d V 1 (fpl T L kk bp i) := by
  have h50 : V 86 50 ≠ 0 := by rw [hF.2.2.2.2.2.1]; decide
  have e114 : V 114 f = 0 := hF.2.2.2.2.2.2.1.2.1
  by_cases hx : V 86 12 = -1
  · refine blame_B (x1 := 0) (x3 := 0) hk hi hF.1 hx hF.2.2.2.1 h50 (fun R hR => on_skip hk hi hF.1 hx hf hF.2.2.2.1 hF.2.2.2.2.2.2.1.1 (fun _ => hn) _ ?_)
    rw [cb_t hts, hR]
    have sg : ∀ x : Int, isG x = true → isCm x → EvK N X (M_isSign_s0 (d + 4) x V) (rI 0 V) := fun x h1 h2 => by
      have := ct_isSign1 (N := N) (X := X) (d := d + 4) hk hF.1 hi hx x h1
      rw [b2i_f (fun z => hc ⟨z.1, by rw [z.2]; exact h2⟩)] at this; exact this
    have bl := ct_blame1 (N := N) (X := X) (d := d + 4) hF.1.2.2 1 (V 86 4)
    have n8 : am_upd (am_upd V 86 8 1) 86 9 (V 86 4) 86 8 = 1 := by rw [upd_ne (by decide), upd_at]
    have n114 : V 114 ((f : Nat) : Int).toNat = 0 := by rw [Int.toNat_natCast]; exact e114
    have s309 : EvK N X (M_goesOn_s309 (d + 5) (f : Nat) kd 1 V) (rI 0 (am_upd (am_upd V 86 8 1) 86 9 (V 86 4))) := M_goesOn_r309 ⟨by omega, fun z => absurd n114 z, fun _ => ⟨_, bl, M_goesOn_r327 ⟨fun z => absurd z (by rw [n8]; decide), fun _ => rfl⟩⟩⟩
    have s400 : EvK N X (M_goesOn_s400 (d + 5) (f : Nat) kd 1 V) (rI 0 (am_upd (am_upd V 86 8 1) 86 9 (V 86 4))) := M_goesOn_r400 ⟨fun z => absurd z (by decide), fun _ => ⟨by omega, fun z => absurd n114 z, fun _ => ⟨_, bl, s422_told hts n8⟩⟩⟩
    refine M_goesOn_r188 ⟨fun z => absurd z (by decide), fun _ => ⟨by omega, fun z => absurd n114 z, fun _ => ⟨0, V, sg 60 (by decide) (Or.inl rfl), fun z => absurd rfl z, fun _ => ⟨0, V, sg 62 (by decide) (Or.inr (Or.inl rfl)), fun z => absurd rfl z, fun _ => ⟨0, V, sg 61 (by decide) (Or.inr (Or.inr rfl)), fun _ => ?_, fun z => absurd rfl z⟩⟩⟩⟩⟩
    exact M_goesOn_r285 ⟨fun z => absurd z (by decide), fun _ => ⟨_, V, ct_isWord1 (N := N) (X := X) (d := d + 4) hk hF.1 hi hx 20 (by decide), fun _ => s309, fun _ => ⟨_, V, ct_isWord1 (N := N) (X := X) (d := d + 4) hk hF.1 hi hx 19 (by decide), fun _ => s400, fun _ => s309⟩⟩⟩
  · exact bad_B hk hi hF.1 hx h50
/-- the sign between two sums -/
theorem on_cmp {d b cl f q0 : Nat} {V : am_U} {kd bg : Int} {S1 S2 : List Int} (hk : tkS T L K kk vv bp) (hi : i < K) (hb2 : b < 2) (hf : f < 20) (hts : isTs kd) (hF : rF V T L i b cl f kd 0 bg 1 o q0 (S2 ++ S1)) (hn : noAr kk vv i) (hc : kk i = 4 ∧ isCm (vv i)) (hS2 : ∀ x, x ∈ S2 → 5 ≤ rkC x) (hS1 : ∀ x, x ∈ S1 → rkC x < 4) (hl : S2.length ≤ 90) (hq : q0 + S1.length ≤ 400) (hcl : cl + S2.length ≤ 1600) (ho : o < 100) : ∃ V', rF V' T L (i + 1) b (cl + S2.length) f kd 1 bg 0 o q0 ((-100 - vv i) :: S1) ∧ emR V V' b cl S2 ∧ kB V V' f q0 ∧ lpB N X d V V' := by
  have hF0 := hF
  obtain ⟨a1, a2, a3, a4, a5, a6, ⟨a7, a8, a9, a10⟩, a11⟩ := hF
  have hx : V 86 12 = -1 := by
    rcases Int.decEq (V 86 12) (-1) with z | z
    · have := (rT_bad hk a1 (by omega) z).1
      omega
    · exact z
  have nn : nNot S2 = 0 := nNot_0 (fun x hx' => by have := hS2 x hx'; omega)
  obtain ⟨V1, j1, j2, j3, j4, j5⟩ := ct_joins1 (N := N) (X := X) (d := d + 3) (least := 5) hb2 hf hq (fun x S' e => by have := hS1 x (by rw [e]; exact List.mem_cons_self); omega) S2 V cl o hS2 a11 hl a2 a3 hcl a4 a10 (by rw [nn]; exact a5) (by rw [nn]; exact ho)
  have hF1 := rF_join hF0 o j2 j3 j4 j5
  have hx1 : V1 86 12 = -1 := by rw [j5 86 12 (by decide) (by decide) (by decide)]; exact hx
  have isop : isOp (-100 - vv i) := by rcases hc.2 with e | e | e <;> rw [e] <;> unfold isOp <;> decide
  obtain ⟨V2, -, k1, k2, -, k3, k4, k5⟩ := hold_go (N := N) (X := X) (d := d) (c := -100 - vv i) hk hF1 isop (by omega)
  obtain ⟨W, hW⟩ : ∃ W, W = am_upd V2 114 f 1 := ⟨_, rfl⟩
  have wr : ∀ r, r ≠ 114 → W r = V2 r := fun r hr => by rw [hW, upd_row hr]
  obtain ⟨W2, l1, l2, l3⟩ := k2 W (fun r j z => by rw [wr r (fun y => z (Or.inl y))])
  have yr : ∀ r, r ≠ 86 → W2 r = W r := fun r hr => fA6_row l2 hr
  have yq : ∀ r, r ≠ 86 → r ≠ 114 → r ≠ 118 → W2 r = V1 r := fun r q1 q2 q3 => by rw [yr r q1, wr r q2]; exact funext fun j => k5 r j q3 (fun z => q1 z.1)
  have w86 : ∀ j, j ≠ 3 → j ≠ 4 → j ≠ 5 → j ≠ 6 → j ≠ 7 → j ≠ 12 → j ≠ 49 → W2 86 j = V1 86 j := fun j q1 q2 q3 q4 q5 q6 q7 => by rw [l2 86 j (by omega), wr 86 (by decide), k5 86 j (by decide) (by omega)]
  obtain ⟨c1, c2, c3, c4, c5, c6, ⟨c7, c8, c9, c10⟩, c11⟩ := hF1
  have hF2 : rF W2 T L (i + 1) b (cl + S2.length) f kd 1 bg 1 o q0 ((-100 - vv i) :: S1) := ⟨l3, by rw [w86 40 (by decide) (by decide) (by decide) (by decide) (by decide) (by decide) (by decide)]; exact c2, by rw [w86 39 (by decide) (by decide) (by decide) (by decide) (by decide) (by decide) (by decide)]; exact c3, by rw [w86 46 (by decide) (by decide) (by decide) (by decide) (by decide) (by decide) (by decide)]; exact c4, by rw [w86 47 (by decide) (by decide) (by decide) (by decide) (by decide) (by decide) (by decide)]; exact c5, by rw [w86 50 (by decide) (by decide) (by decide) (by decide) (by decide) (by decide) (by decide)]; exact c6, ⟨by rw [yq 113 (by decide) (by decide) (by decide)]; exact c7, by rw [yr 114 (by decide), hW, upd_at], by rw [yq 115 (by decide) (by decide) (by decide)]; exact c9, by rw [yq 117 (by decide) (by decide) (by decide)]; exact c10⟩, hst_cg k3 (by rw [yr 118 (by decide), wr 118 (by decide)]) (by rw [l2 86 49 (by decide), wr 86 (by decide)])⟩
  obtain ⟨g1, g2, g3⟩ := rF_50 hF2 0
  have sg : ∀ (Z : am_U) (x : Int), rT Z T L i → Z 86 12 = -1 → isG x = true → EvK N X (M_isSign_s0 (d + 4) x Z) (rI (b2i (vv i = x)) Z) := fun Z x h1 h2 h3 => by
    have := ct_isSign1 (N := N) (X := X) (d := d + 4) hk h1 (Nat.le_of_lt hi) h2 x h3
    rw [show b2i (kk i = 4 ∧ vv i = x) = b2i (vv i = x) from b2i_cg ⟨fun z => z.2, fun z => ⟨hc.1, z⟩⟩] at this
    exact this
  have s264 : EvK N X (M_goesOn_s264 (d + 5) (f : Nat) kd 1 (srt (-100 - vv i)) V1) (rI 1 (am_upd W2 86 50 0)) := M_goesOn_r264 ⟨V2, k1, by omega, W2, by rw [Int.toNat_natCast, ← hW]; exact l1, rfl⟩
  have s228 : EvK N X (M_goesOn_s228 (d + 5) (f : Nat) kd 1 V) (rI 1 (am_upd W2 86 50 0)) := by
    refine M_goesOn_r228 ⟨V1, j1, _, V1, sg V1 60 c1 hx1 (by decide), fun z => ⟨_, V1, sg V1 62 c1 hx1 (by decide), fun z2 => ?_, fun z2 => ?_⟩, fun z => ?_⟩
    · have e : vv i = 61 := by
        have y1 := b2i_eq.mp z
        have y2 := b2i_eq.mp z2
        rcases hc.2 with e | e | e
        · exact absurd e y1
        · exact absurd e y2
        · exact e
      rw [e] at s264; exact s264
    · have e : vv i = 62 := b2i_ne.mp z2
      rw [e] at s264; exact s264
    · have e : vv i = 60 := b2i_ne.mp z
      rw [e] at s264; exact s264
  have run1 : EvK N X (M_goesOn_s0 (d + 5) V) (rI 1 (am_upd W2 86 50 0)) := by
    refine on_skip hk (Nat.le_of_lt hi) a1 hx hf a4 a7 (fun _ => hn) _ ?_
    rw [cb_t hts]
    refine M_goesOn_r188 ⟨fun z => absurd z (by decide), fun _ => ⟨by omega, fun z => absurd (by rw [Int.toNat_natCast]; exact a8) z, fun _ => ⟨_, V, sg V 60 a1 hx (by decide), fun _ => s228, fun z => ⟨_, V, sg V 62 a1 hx (by decide), fun _ => s228, fun z2 => ⟨_, V, sg V 61 a1 hx (by decide), fun z3 => ?_, fun _ => s228⟩⟩⟩⟩⟩
    have y1 := b2i_eq.mp z
    have y2 := b2i_eq.mp z2
    have y3 := b2i_eq.mp z3
    exfalso
    rcases hc.2 with e | e | e
    · exact y1 e
    · exact y2 e
    · exact y3 e
  have kW : kB V1 W2 f q0 := ⟨⟨fun r j e => by
    have n118 : r ≠ 118 := fun z => by subst z; rw [scZ_row (by omega)] at e; exact absurd e (by decide)
    have n114 : r ≠ 114 := fun z => by subst z; rw [scZ_row (by omega)] at e; exact absurd e (by decide)
    rw [(fZ_A6 l2).1 r j e, wr r n114]
    exact k5 r j n118 (fun z => by obtain ⟨rfl, rfl⟩ := z; simp [scZ] at e), fun j _ => by rw [yq 111 (by decide) (by decide) (by decide), yq 112 (by decide) (by decide) (by decide)]; exact ⟨rfl, rfl⟩⟩, fun g hg => by
    rw [yr 114 (by decide), hW, upd_ne (by omega), k5 114 g (by decide) (by omega), yq 113 (by decide) (by decide) (by decide), yq 115 (by decide) (by decide) (by decide), yq 116 (by decide) (by decide) (by decide), yq 117 (by decide) (by decide) (by decide)]
    exact ⟨rfl, rfl, rfl, rfl, rfl⟩, by rw [yq 116 (by decide) (by decide) (by decide)], fun j hj => by rw [yr 118 (by decide), wr 118 (by decide)]; exact k4 j hj⟩
  refine ⟨am_upd W2 86 50 0, g1, ?_, kB_trans (kB_join a2 j3 j5) (kB_trans kW (g2 f q0)), fun R hR => loop_on (by rw [a6]; decide) run1 (fun z => absurd z (by decide)) (fun _ z => absurd g1.1.2.2 z) (fun _ _ => hR)⟩
  have eW : emR V1 W2 b (cl + S2.length) [] := emR_nil hF2.2.2.1 (yq 111 (by decide) (by decide) (by decide)) (yq 112 (by decide) (by decide) (by decide))
  have t1 := emR_app eW g3 (by simp; omega)
  rw [List.append_nil] at t1
  have t2 := emR_app j3 t1 hcl
  rw [List.append_nil] at t2; exact t2
end FCM
