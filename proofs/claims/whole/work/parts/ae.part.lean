/-! parts: numbers and what is asked -/
section PRT
variable {N : Nat} {X : Nat → Int} {d L K i b cl f o q0 : Nat} {T kk vv : Nat → Int} {bp : Int} {V : am_U} {kd ph bg op : Int} {S O : List Int}
theorem rF_bg (hF : rF V T L i b cl f kd ph bg op o q0 S) : rF (am_upd V 115 f 0) T L i b cl f kd ph 0 op o q0 S ∧ kB V (am_upd V 115 f 0) f q0 ∧ emR V (am_upd V 115 f 0) b cl [] := by
  obtain ⟨a1, a2, a3, a4, a5, a6, ⟨a7, a8, a9, a10⟩, a11⟩ := hF
  have r : ∀ r, r ≠ 115 → am_upd V 115 f 0 r = V r := fun r hr => upd_row hr
  refine ⟨⟨rT_cg a1 (r 87 (by decide)) (fun j _ _ => by rw [r 86 (by decide)]), by rw [r 86 (by decide)]; exact a2, by rw [r 86 (by decide)]; exact a3, by rw [r 86 (by decide)]; exact a4, by rw [r 86 (by decide)]; exact a5, by rw [r 86 (by decide)]; exact a6, ⟨by rw [r 113 (by decide)]; exact a7, by rw [r 114 (by decide)]; exact a8, upd_at _ _ _ _, by rw [r 117 (by decide)]; exact a10⟩, hst_cg a11 (r 118 (by decide)) (by rw [r 86 (by decide)])⟩, ⟨fZ_upd (scZ_row (by omega) _) (fZ_refl V), fun g hg => ?_, by rw [r 116 (by decide)], fun j _ => by rw [r 118 (by decide)]⟩, emR_nil (by rw [r 86 (by decide)]; exact a3) (r 111 (by decide)) (r 112 (by decide))⟩
  rw [r 113 (by decide), r 114 (by decide), r 116 (by decide), r 117 (by decide), upd_ne (by omega)]
  exact ⟨rfl, rfl, rfl, rfl, rfl⟩
theorem rF_50 (hF : rF V T L i b cl f kd ph bg op o q0 S) (x : Int) : rF (am_upd V 86 50 x) T L i b cl f kd ph bg x o q0 S ∧ (∀ g q, kB V (am_upd V 86 50 x) g q) ∧ emR V (am_upd V 86 50 x) b cl [] := by
  obtain ⟨a1, a2, a3, a4, a5, a6, ⟨a7, a8, a9, a10⟩, a11⟩ := hF
  have r : ∀ r, r ≠ 86 → am_upd V 86 50 x r = V r := fun r hr => upd_row hr
  refine ⟨⟨rT_cg a1 (r 87 (by decide)) (fun j q1 _ => upd_ne (by omega)), by rw [upd_ne (by decide)]; exact a2, by rw [upd_ne (by decide)]; exact a3, by rw [upd_ne (by decide)]; exact a4, by rw [upd_ne (by decide)]; exact a5, upd_at _ _ _ _, ⟨by rw [r 113 (by decide)]; exact a7, by rw [r 114 (by decide)]; exact a8, by rw [r 115 (by decide)]; exact a9, by rw [r 117 (by decide)]; exact a10⟩, hst_cg a11 (r 118 (by decide)) (upd_ne (by decide))⟩, fun g q => ⟨fZ_upd rfl (fZ_refl V), fun g' _ => ?_, by rw [r 116 (by decide)], fun j _ => by rw [r 118 (by decide)]⟩, emR_nil (by rw [upd_ne (by decide)]; exact a3) (r 111 (by decide)) (r 112 (by decide))⟩
  rw [r 113 (by decide), r 114 (by decide), r 115 (by decide), r 116 (by decide), r 117 (by decide)]
  exact ⟨rfl, rfl, rfl, rfl, rfl⟩
/-- one that is a value by itself -/
def valC (kk vv : Nat → Int) (i : Nat) (c : Int) : Prop := (kk i = 3 ∧ c = vv i) ∨ (kk i = 1 ∧ c = -1 - vv i ∧ (vv i = 14 ∨ vv i = 15 ∨ vv i = 3 ∨ vv i = 16 ∨ vv i = 1 ∨ vv i = 0))
theorem s458_val {x : Int} {c : Int} (hk : tkS T L K kk vv bp) (hb2 : b < 2) (hcl : cl < 1600) (hF : rF V T L i b cl f kd ph bg op o q0 S) (h6 : 0 ≤ c → V 86 6 = c) (hs : srt c ≠ -1) : ∃ V', EvK N X (M_operand_s458 (d + 5) (f : Nat) x (srt c) V) (rI 1 V') ∧ rF V' T L (i + 1) b (cl + 1) f kd ph bg op o q0 S ∧ emR V V' b cl [c] ∧ kB V V' f q0 := by
  obtain ⟨a1, a2, a3, a4, a5, a6, ⟨a7, a8, a9, a10⟩, a11⟩ := hF
  obtain ⟨V1, k1, k2, k3⟩ := ct_add1 (N := N) (X := X) (d := d + 4) (V := V) (c := c) (v := V 86 6) a2 hb2 a3 hcl h6
  have r1 : ∀ r, r ≠ 86 → r ≠ 111 → r ≠ 112 → V1 r = V r := fun r q1 q2 q3 => funext fun j => k3 r j q2 q3 (fun z => q1 z.1)
  have j1 : ∀ j, j ≠ 39 → V1 86 j = V 86 j := fun j q => k3 86 j (by decide) (by decide) (by omega)
  obtain ⟨V2, l1, l2, l3⟩ := ct_ahead1 (N := N) (X := X) (d := d + 3) hk (rT_cg a1 (r1 87 (by decide) (by decide) (by decide)) (fun j q1 _ => j1 j (by omega)) : rT V1 T L i)
  have r2 : ∀ r, r ≠ 86 → V2 r = V1 r := fun r hr => fA6_row l2 hr
  refine ⟨V2, M_operand_r458 ⟨fun _ => ⟨fun _ => ⟨V1, k1, V2, l1, rfl⟩, fun z => absurd z (by rw [a1.2.2]; decide)⟩, fun z => absurd z hs⟩, ⟨l3, by rw [l2 86 40 (by decide), j1 40 (by decide)]; exact a2, by rw [l2 86 39 (by decide)]; exact k2.1, by rw [l2 86 46 (by decide), j1 46 (by decide)]; exact a4, by rw [l2 86 47 (by decide), j1 47 (by decide)]; exact a5, by rw [l2 86 50 (by decide), j1 50 (by decide)]; exact a6, ⟨by rw [r2 113 (by decide), r1 113 (by decide) (by decide) (by decide)]; exact a7, by rw [r2 114 (by decide), r1 114 (by decide) (by decide) (by decide)]; exact a8, by rw [r2 115 (by decide), r1 115 (by decide) (by decide) (by decide)]; exact a9, by rw [r2 117 (by decide), r1 117 (by decide) (by decide) (by decide)]; exact a10⟩, hst_cg a11 (by rw [r2 118 (by decide), r1 118 (by decide) (by decide) (by decide)]) (by rw [l2 86 49 (by decide), j1 49 (by decide)])⟩, ?_, ?_⟩
  · have e2 : emR V1 V2 b (cl + [c].length) [] := emR_nil (by rw [l2 86 39 (by decide)]; exact k2.1) (r2 111 (by decide)) (r2 112 (by decide))
    have := emR_app k2 e2 (by simp; omega)
    rw [List.append_nil] at this; exact this
  · refine kB_trans (V1 := V1) ⟨⟨fun r j e => k3 r j (fun z => by subst z; rw [scZ_row (by omega)] at e; exact absurd e (by decide)) (fun z => by subst z; rw [scZ_row (by omega)] at e; exact absurd e (by decide)) (fun z => by obtain ⟨rfl, rfl⟩ := z; simp [scZ] at e), fX_em a2 k2⟩, fun g hg => ?_, ?_, fun j hj => ?_⟩ (kB_A6 l2 f q0)
    · rw [r1 113 (by decide) (by decide) (by decide), r1 114 (by decide) (by decide) (by decide), r1 115 (by decide) (by decide) (by decide), r1 116 (by decide) (by decide) (by decide), r1 117 (by decide) (by decide) (by decide)]
      exact ⟨rfl, rfl, rfl, rfl, rfl⟩
    · rw [r1 116 (by decide) (by decide) (by decide)]
    · rw [r1 118 (by decide) (by decide) (by decide)]
/-- the way to the last of an operand -/
theorem s229_go {x : Int} (hk : tkS T L K kk vv bp) (hi : i ≤ K) (hr : rT V T L i) (hx : V 86 12 = -1) (n1 : ¬ (kk i = 4 ∧ vv i = 40)) (n2 : ¬ (kk i = 1 ∧ (vv i = 23 ∨ vv i = 24 ∨ vv i = 25))) {s : Int} (hs : (kk i = 3 ∧ s = 0) ∨ (kk i = 1 ∧ vv i = 14 ∧ s = 1) ∨ (kk i = 1 ∧ vv i = 15 ∧ s = 2) ∨ (kk i = 1 ∧ vv i = 3 ∧ s = 3) ∨ (kk i = 1 ∧ vv i = 16 ∧ s = 4) ∨ (kk i = 1 ∧ vv i = 1 ∧ s = 5) ∨ (kk i = 1 ∧ vv i = 0 ∧ s = 6) ∨ (kk i ≠ 3 ∧ ¬ (kk i = 1 ∧ (vv i = 14 ∨ vv i = 15 ∨ vv i = 3 ∨ vv i = 16 ∨ vv i = 1 ∨ vv i = 0)) ∧ s = -1)) : ∀ R, EvK N X (M_operand_s458 (d + 5) (f : Nat) x s V) R → EvK N X (M_operand_s229 (d + 5) (f : Nat) x V) R := by
  intro R hR
  have sg := ct_isSign1 (N := N) (X := X) (d := d + 4) hk hr hi hx 40 (by decide)
  rw [b2i_f n1] at sg
  have w0 : ∀ w : Nat, w < 26 → ¬ (kk i = 1 ∧ vv i = (w : Nat)) → EvK N X (M_isWord_s0 (d + 4) (ow8 w) V) (rI 0 V) := fun w h3 h4 => by
    have := ct_isWord1 (N := N) (X := X) (d := d + 4) hk hr hi hx w h3
    rw [b2i_f h4] at this; exact this
  have w1 : ∀ w : Nat, w < 26 → (kk i = 1 ∧ vv i = (w : Nat)) → EvK N X (M_isWord_s0 (d + 4) (ow8 w) V) (rI 1 V) := fun w h3 h4 => by
    have := ct_isWord1 (N := N) (X := X) (d := d + 4) hk hr hi hx w h3
    rw [b2i_t h4] at this; exact this
  have num := (rT_num hk hr hi hx).1
  refine M_operand_r229 ⟨0, V, sg, fun _ => ⟨0, V, w0 23 (by decide) (fun z => n2 ⟨z.1, Or.inl z.2⟩), fun z => absurd rfl z, fun _ => ⟨0, V, w0 24 (by decide) (fun z => n2 ⟨z.1, Or.inr (Or.inl z.2)⟩), fun z => absurd rfl z, fun _ => ⟨0, V, w0 25 (by decide) (fun z => n2 ⟨z.1, Or.inr (Or.inr z.2)⟩), fun _ => ?_, fun z => absurd rfl z⟩⟩⟩, fun z => absurd rfl z⟩
  by_cases c3 : kk i = 3
  · have e : s = 0 := by rcases hs with h | h | h | h | h | h | h | h <;> omega
    subst e
    exact ⟨fun z => absurd (num.mpr c3) z, fun _ => hR⟩
  · refine ⟨fun _ => ?_, fun z => absurd (num.mp z) c3⟩
    by_cases c14 : kk i = 1 ∧ vv i = 14
    · have e : s = 1 := by rcases hs with h | h | h | h | h | h | h | h <;> omega
      subst e
      exact ⟨1, V, w1 14 (by decide) c14, fun z => absurd z (by decide), fun _ => hR⟩
    · refine ⟨0, V, w0 14 (by decide) c14, fun _ => ?_, fun z => absurd rfl z⟩
      by_cases c15 : kk i = 1 ∧ vv i = 15
      · have e : s = 2 := by rcases hs with h | h | h | h | h | h | h | h <;> omega
        subst e
        exact ⟨1, V, w1 15 (by decide) c15, fun z => absurd z (by decide), fun _ => hR⟩
      · refine ⟨0, V, w0 15 (by decide) c15, fun _ => ?_, fun z => absurd rfl z⟩
        by_cases c03 : kk i = 1 ∧ vv i = 3
        · have e : s = 3 := by rcases hs with h | h | h | h | h | h | h | h <;> omega
          subst e
          exact ⟨1, V, w1 3 (by decide) c03, fun z => absurd z (by decide), fun _ => hR⟩
        · refine ⟨0, V, w0 3 (by decide) c03, fun _ => ?_, fun z => absurd rfl z⟩
          by_cases c16 : kk i = 1 ∧ vv i = 16
          · have e : s = 4 := by rcases hs with h | h | h | h | h | h | h | h <;> omega
            subst e
            exact ⟨1, V, w1 16 (by decide) c16, fun z => absurd z (by decide), fun _ => hR⟩
          · refine ⟨0, V, w0 16 (by decide) c16, fun _ => ?_, fun z => absurd rfl z⟩
            by_cases c01 : kk i = 1 ∧ vv i = 1
            · have e : s = 5 := by rcases hs with h | h | h | h | h | h | h | h <;> omega
              subst e
              exact ⟨1, V, w1 1 (by decide) c01, fun z => absurd z (by decide), fun _ => hR⟩
            · refine ⟨0, V, w0 1 (by decide) c01, fun _ => ?_, fun z => absurd rfl z⟩
              by_cases c00 : kk i = 1 ∧ vv i = 0
              · have e : s = 6 := by rcases hs with h | h | h | h | h | h | h | h <;> omega
                subst e
                exact ⟨1, V, w1 0 (by decide) c00, fun z => absurd z (by decide), fun _ => hR⟩
              · have e : s = -1 := by rcases hs with h | h | h | h | h | h | h | h <;> omega
                subst e
                exact ⟨0, V, w0 0 (by decide) c00, fun _ => hR, fun z => absurd rfl z⟩
end PRT
