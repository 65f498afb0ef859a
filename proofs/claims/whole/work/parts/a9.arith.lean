/-! the reference goes on: signs between parts -/
section ARI
variable {N : Nat} {X : Nat → Int} {d L K i b cl f o q0 : Nat} {T kk vv : Nat → Int} {bp : Int} {V : am_U} {kd ph bg op : Int}
def isAr (c : Int) : Prop := c = 43 ∨ c = 45 ∨ c = 42 ∨ c = 47 ∨ c = 37
theorem isAr_G {c : Int} (h : isAr c) : isG c = true := by rcases h with rfl | rfl | rfl | rfl | rfl <;> decide
theorem isAr_op {c : Int} (h : isAr c) : isOp (-100 - c) := by unfold isAr at h; unfold isOp; omega
def lsA (c : Int) : Int := if c = 43 ∨ c = 45 then 5 else 6
theorem nNot_0 : ∀ {S : List Int}, (∀ c, c ∈ S → 4 ≤ rkC c) → nNot S = 0
  | [], _ => rfl
  | c :: S, h => by
    rw [nNot_cons, nNot_0 (fun x hx => h x (List.mem_cons_of_mem _ hx))]
    have := h c List.mem_cons_self
    by_cases z : c = -22
    · rw [z] at this; exact absurd this (by decide)
    · rw [if_neg z]
/-- the state behind joining: the same but for codes, ops and what is open -/
theorem rF_join {V V' : am_U} {S S1 ds : List Int} (hF : rF V T L i b cl f kd ph bg op o q0 S) (o' : Nat) (h1 : hst V' q0 S1) (h2 : emR V V' b cl ds) (h3 : V' 86 47 = (o' : Nat)) (h4 : ∀ r j, r ≠ 111 → r ≠ 112 → ¬ (r = 86 ∧ (j = 39 ∨ j = 47 ∨ j = 49)) → V' r j = V r j) : rF V' T L i b (cl + ds.length) f kd ph bg op o' q0 S1 := by
  obtain ⟨a1, a2, a3, a4, a5, a6, ⟨a7, a8, a9, a10⟩, a11⟩ := hF
  refine ⟨rT_cg a1 (funext fun j => h4 87 j (by decide) (by decide) (by omega)) (fun j q1 _ => h4 86 j (by decide) (by decide) (by omega)), ?_, h2.1, ?_, h3, ?_, ⟨?_, ?_, ?_, ?_⟩, h1⟩
  · rw [h4 86 40 (by decide) (by decide) (by decide)]; exact a2
  · rw [h4 86 46 (by decide) (by decide) (by decide)]; exact a4
  · rw [h4 86 50 (by decide) (by decide) (by decide)]; exact a6
  · rw [h4 113 f (by decide) (by decide) (by omega)]; exact a7
  · rw [h4 114 f (by decide) (by decide) (by omega)]; exact a8
  · rw [h4 115 f (by decide) (by decide) (by omega)]; exact a9
  · rw [h4 117 f (by decide) (by decide) (by omega)]; exact a10
theorem kB_join {V V' : am_U} {g q b cl : Nat} {ds : List Int} (h40 : V 86 40 = (b : Nat)) (he : emR V V' b cl ds) (h4 : ∀ r j, r ≠ 111 → r ≠ 112 → ¬ (r = 86 ∧ (j = 39 ∨ j = 47 ∨ j = 49)) → V' r j = V r j) : kB V V' g q := by
  have rw' : ∀ r, 112 < r → V' r = V r := fun r hr => funext fun j => h4 r j (by omega) (by omega) (by omega)
  refine ⟨⟨fun r j e => h4 r j (fun z => by subst z; rw [scZ_row (by omega)] at e; exact absurd e (by decide)) (fun z => by subst z; rw [scZ_row (by omega)] at e; exact absurd e (by decide)) (fun z => by obtain ⟨rfl, z⟩ := z; rcases z with rfl | rfl | rfl <;> simp [scZ] at e), fX_em h40 he⟩, fun g' _ => ?_, by rw [rw' 116 (by decide)], fun j _ => by rw [rw' 118 (by decide)]⟩
  rw [rw' 113 (by decide), rw' 114 (by decide), rw' 115 (by decide), rw' 116 (by decide), rw' 117 (by decide)]
  exact ⟨rfl, rfl, rfl, rfl, rfl⟩
/-- one more is held back, and the next one looked at -/
theorem hold_go {S : List Int} {c : Int} (hk : tkS T L K kk vv bp) (hF : rF V T L i b cl f kd ph bg op o q0 S) (hc : isOp c) (hq : q0 + S.length < 500) : ∃ V1 V2, EvK N X (M_holdsBack_s0 (d + 4) (srt c) V) (rV V1) ∧ (∀ W, (∀ r j, ¬ (r = 114 ∨ r = 115) → W r j = V1 r j) → ∃ W2, EvK N X (M_ahead_s0 (d + 4) W) (rV W2) ∧ fA6 W W2 ∧ rT W2 T L (i + 1)) ∧ V2 = V1 ∧ hst V1 q0 (c :: S) ∧ (∀ j, j < q0 → V1 118 j = V 118 j) ∧ (∀ r j, r ≠ 118 → ¬ (r = 86 ∧ j = 49) → V1 r j = V r j) := by
  obtain ⟨V1, k1, k2, k3, k4⟩ := ct_hold1 (N := N) (X := X) (d := d + 4) hF.2.2.2.2.2.2.2 hq hc
  refine ⟨V1, V1, k1, fun W hW => ?_, rfl, k2, k3, k4⟩
  have hr : rT W T L i := rT_cg hF.1 (funext fun j => by rw [hW 87 j (by omega), k4 87 j (by decide) (by omega)]) (fun j q1 _ => by rw [hW 86 j (by omega), k4 86 j (by decide) (by omega)])
  obtain ⟨W2, l1, l2, l3⟩ := ct_ahead1 (N := N) (X := X) (d := d + 3) hk hr
  exact ⟨W2, l1, l2, l3⟩
theorem ct_on_ar {S1 S2 : List Int} {c : Int} (hk : tkS T L K kk vv bp) (hi : i < K) (hb2 : b < 2) (hf : f < 20) (hF : rF V T L i b cl f kd ph bg 1 o q0 (S2 ++ S1)) (hx : V 86 12 = -1) (hph : ph < 2) (h4 : kk i = 4 ∧ vv i = c) (hc : isAr c) (hS2 : ∀ x, x ∈ S2 → lsA c ≤ rkC x) (hS1 : ∀ x S', S1 = x :: S' → rkC x < lsA c) (hl : S2.length ≤ 90) (hq : q0 + S1.length ≤ 400) (hcl : cl + S2.length ≤ 1600) (ho : o < 100) : ∃ V', EvK N X (M_goesOn_s0 (d + 5) V) (rI 1 V') ∧ rF V' T L (i + 1) b (cl + S2.length) f kd ph bg 0 o q0 ((-100 - c) :: S1) ∧ emR V V' b cl S2 ∧ kB V V' f q0 := by
  obtain ⟨a1, a2, a3, a4, a5, a6, ⟨a7, a8, a9, a10⟩, a11⟩ := hF
  have hF : rF V T L i b cl f kd ph bg 1 o q0 (S2 ++ S1) := ⟨a1, a2, a3, a4, a5, a6, ⟨a7, a8, a9, a10⟩, a11⟩
  have ls4 : 4 ≤ lsA c := by unfold lsA; split <;> omega
  have nn : nNot S2 = 0 := nNot_0 (fun x hx' => by have := hS2 x hx'; omega)
  obtain ⟨V1, j1, j2, j3, j4, j5⟩ := ct_joins1 (N := N) (X := X) (d := d + 3) (least := lsA c) hb2 hf hq hS1 S2 V cl o hS2 a11 hl a2 a3 hcl a4 a10 (by rw [nn]; exact a5) (by rw [nn]; exact ho)
  have hF1 := rF_join hF o j2 j3 j4 j5
  obtain ⟨V2, -, k1, k2, -, k3, k4, k5⟩ := hold_go (N := N) (X := X) (d := d) (c := -100 - c) hk hF1 (isAr_op hc) (by omega)
  obtain ⟨W2, l1, l2, l3⟩ := k2 V2 (fun _ _ _ => rfl)
  have hx1 : V1 86 12 = -1 := by rw [j5 86 12 (by decide) (by decide) (by decide)]; exact hx
  have sg : ∀ (W : am_U) (x : Int), rT W T L i → W 86 12 = -1 → isG x = true → EvK N X (M_isSign_s0 (d + 4) x W) (rI (b2i (c = x)) W) := fun W x h1 h2 h3 => by
    have := ct_isSign1 (N := N) (X := X) (d := d + 4) hk h1 (Nat.le_of_lt hi) h2 x h3
    rw [show b2i (kk i = 4 ∧ vv i = x) = b2i (c = x) from b2i_cg ⟨fun z => by rw [← h4.2]; exact z.2, fun z => ⟨h4.1, by rw [h4.2]; exact z⟩⟩] at this
    exact this
  have e46 : eqI (w32 (V 86 46 - 1)) ((f : Nat) : Int) := by show _ = _; rw [a4, w32_eq (by omega) (by omega)]; omega
  refine ⟨am_upd W2 86 50 0, ?_, ?_, ?_, ?_⟩
  · -- what runs
    have fin : ∀ x3 : Int, EvK N X (M_goesOn_s174 (d + 5) (f : Nat) kd x3 (srt (-100 - c)) V1) (rI 1 (am_upd W2 86 50 0)) := fun x3 => M_goesOn_r174 ⟨V2, k1, W2, l1, rfl⟩
    have s112 : ∀ x3 : Int, EvK N X (M_goesOn_s112 (d + 5) (f : Nat) kd x3 (lsA c) V) (rI 1 (am_upd W2 86 50 0)) := fun x3 => by
      refine M_goesOn_r112 ⟨V1, j1, b2i (c = 43), V1, sg V1 43 hF1.1 hx1 (by decide), fun z => ?_, fun z => ?_⟩
      · have z' := b2i_eq.mp z
        refine ⟨b2i (c = 45), V1, sg V1 45 hF1.1 hx1 (by decide), fun z2 => ?_, fun z2 => ?_⟩
        · have z2' := b2i_eq.mp z2
          refine ⟨b2i (c = 42), V1, sg V1 42 hF1.1 hx1 (by decide), fun z3 => ?_, fun z3 => ?_⟩
          · have z3' := b2i_eq.mp z3
            refine ⟨b2i (c = 47), V1, sg V1 47 hF1.1 hx1 (by decide), fun z4 => ?_, fun z4 => ?_⟩
            · have z4' := b2i_eq.mp z4
              have : c = 37 := by unfold isAr at hc; omega
              have := fin x3
              subst c; exact this
            · have := fin x3
              have e := b2i_ne.mp z4
              subst e; exact this
          · have := fin x3
            have e := b2i_ne.mp z3
            subst e; exact this
        · have := fin x3
          have e := b2i_ne.mp z2
          subst e; exact this
      · have := fin x3
        have e := b2i_ne.mp z
        subst e; exact this
    have s87 : ∀ x3 : Int, EvK N X (M_goesOn_s87 (d + 5) (f : Nat) kd x3 V) (rI 1 (am_upd W2 86 50 0)) := fun x3 => by
      refine M_goesOn_r87 ⟨b2i (c = 43), V, sg V 43 a1 hx (by decide), fun z => M_goesOn_r106 ?_, fun z => ⟨b2i (c = 45), V, sg V 45 a1 hx (by decide), fun z2 => ?_, fun z2 => M_goesOn_r106 ?_⟩⟩
      · have e : lsA c = 5 := by unfold lsA; rw [if_pos (Or.inl (b2i_ne.mp z))]
        rw [← e]; exact s112 x3
      · have e : lsA c = 6 := by
          have y1 := b2i_eq.mp z
          have y2 := b2i_eq.mp z2
          unfold lsA; rw [if_neg (by omega)]
        rw [← e]; exact s112 x3
      · have e : lsA c = 5 := by unfold lsA; rw [if_pos (Or.inr (b2i_ne.mp z2))]
        rw [← e]; exact s112 x3
    refine M_goesOn_r0 ⟨V, ct_lex1 (d := d + 3) hx, fun _ => ?_, fun z => absurd z (by rw [a1.2.2]; omega)⟩
    rw [eqI_o e46, Int.toNat_natCast, a7]
    refine ⟨by omega, _, V, ct_isTest1, fun z => absurd z (by rw [a8]; omega), fun _ => ⟨b2i (c = 43), V, sg V 43 a1 hx (by decide), fun _ => s87 _, fun z => ⟨b2i (c = 45), V, sg V 45 a1 hx (by decide), fun _ => s87 _, fun z2 => ⟨b2i (c = 42), V, sg V 42 a1 hx (by decide), fun _ => s87 _, fun z3 => ⟨b2i (c = 47), V, sg V 47 a1 hx (by decide), fun _ => s87 _, fun z4 => ⟨b2i (c = 37), V, sg V 37 a1 hx (by decide), fun z5 => ?_, fun _ => s87 _⟩⟩⟩⟩⟩⟩
    have y1 := b2i_eq.mp z
    have y2 := b2i_eq.mp z2
    have y3 := b2i_eq.mp z3
    have y4 := b2i_eq.mp z4
    have y5 := b2i_eq.mp z5
    unfold isAr at hc; omega
  · obtain ⟨c1, c2, c3, c4, c5, c6, ⟨c7, c8, c9, c10⟩, c11⟩ := hF1
    have rr : ∀ r, r ≠ 86 → r ≠ 118 → am_upd W2 86 50 0 r = V1 r := fun r q1 q2 => by
      rw [upd_row q1, fA6_row l2 q1]
      exact funext fun j => k5 r j q2 (by omega)
    have jj : ∀ j, j ≠ 50 → j ≠ 3 → j ≠ 4 → j ≠ 5 → j ≠ 6 → j ≠ 7 → j ≠ 12 → j ≠ 49 → am_upd W2 86 50 0 86 j = V1 86 j := fun j q1 q2 q3 q4 q5 q6 q7 q8 => by
      rw [upd_ne q1, l2 86 j (by omega), k5 86 j (by decide) (by omega)]
    refine ⟨rT_cg l3 (by rw [upd_row (by decide)]) (fun j q1 _ => by rw [upd_ne (by omega)]), ?_, ?_, ?_, ?_, upd_at _ _ _ _, ⟨?_, ?_, ?_, ?_⟩, hst_cg k3 (by rw [upd_row (by decide), fA6_row l2 (by decide)]) (by rw [upd_ne (by decide), l2 86 49 (by decide)])⟩
    · rw [jj 40 (by decide) (by decide) (by decide) (by decide) (by decide) (by decide) (by decide) (by decide)]; exact c2
    · rw [jj 39 (by decide) (by decide) (by decide) (by decide) (by decide) (by decide) (by decide) (by decide)]; exact c3
    · rw [jj 46 (by decide) (by decide) (by decide) (by decide) (by decide) (by decide) (by decide) (by decide)]; exact c4
    · rw [jj 47 (by decide) (by decide) (by decide) (by decide) (by decide) (by decide) (by decide) (by decide)]; exact c5
    · rw [rr 113 (by decide) (by decide)]; exact c7
    · rw [rr 114 (by decide) (by decide)]; exact c8
    · rw [rr 115 (by decide) (by decide)]; exact c9
    · rw [rr 117 (by decide) (by decide)]; exact c10
  · refine ⟨?_, fun j hj => ?_, fun k x hk' => ?_⟩
    · rw [upd_ne (by decide), l2 86 39 (by decide), k5 86 39 (by decide) (by decide)]; exact j3.1
    · rw [upd_row (by decide), upd_row (by decide), fA6_row l2 (by decide), fA6_row l2 (by decide), k5 111 j (by decide) (by omega), k5 112 j (by decide) (by omega)]; exact j3.2.1 j hj
    · rw [upd_row (by decide), upd_row (by decide), fA6_row l2 (by decide), fA6_row l2 (by decide), k5 111 _ (by decide) (by omega), k5 112 _ (by decide) (by omega)]; exact j3.2.2 k x hk'
  · refine kB_trans (kB_join a2 j3 j5) ⟨⟨fun r j e => ?_, fun j _ => by rw [upd_row (by decide), upd_row (by decide), fA6_row l2 (by decide), fA6_row l2 (by decide), k5 111 j (by decide) (by omega), k5 112 j (by decide) (by omega)]; exact ⟨rfl, rfl⟩⟩, fun g hg => ?_, ?_, fun j hj => ?_⟩
    · have n118 : r ≠ 118 := fun z => by subst z; rw [scZ_row (by omega)] at e; exact absurd e (by decide)
      have n86 : ∀ j', (j' = 3 ∨ j' = 4 ∨ j' = 5 ∨ j' = 6 ∨ j' = 7 ∨ j' = 12 ∨ j' = 49 ∨ j' = 50) → ¬ (r = 86 ∧ j = j') := fun j' hj' z => by
        obtain ⟨rfl, rfl⟩ := z
        rcases hj' with rfl | rfl | rfl | rfl | rfl | rfl | rfl | rfl <;> simp [scZ] at e
      have e1 : am_upd W2 86 50 0 r j = W2 r j := if_neg (n86 50 (by omega))
      rw [e1, l2 r j (fun z => by
        rcases z.2 with q | q | q | q | q | q
        · exact n86 3 (by omega) ⟨z.1, q⟩
        · exact n86 4 (by omega) ⟨z.1, q⟩
        · exact n86 5 (by omega) ⟨z.1, q⟩
        · exact n86 6 (by omega) ⟨z.1, q⟩
        · exact n86 7 (by omega) ⟨z.1, q⟩
        · exact n86 12 (by omega) ⟨z.1, q⟩), k5 r j n118 (n86 49 (by omega))]
    · have rr : ∀ r, r ≠ 86 → r ≠ 118 → am_upd W2 86 50 0 r = V1 r := fun r q1 q2 => by
        rw [upd_row q1, fA6_row l2 q1]
        exact funext fun j => k5 r j q2 (by omega)
      rw [rr 113 (by decide) (by decide), rr 114 (by decide) (by decide), rr 115 (by decide) (by decide), rr 116 (by decide) (by decide), rr 117 (by decide) (by decide)]
      exact ⟨rfl, rfl, rfl, rfl, rfl⟩
    · rw [upd_row (by decide), fA6_row l2 (by decide), k5 116 f (by decide) (by omega)]
    · rw [upd_row (by decide), fA6_row l2 (by decide)]; exact k4 j hj
end ARI
