/-! facts: all are it -/
section FAL
variable {N : Nat} {X : Nat → Int} {T : Nat → Int} {L K : Nat} {kk vv : Nat → Int} {bp : Int} {i o : Nat}
theorem fact_all (hk : tkS T L K kk vv bp) (hi : i ≤ K) (ho : o ≤ 7) (hw : kk i = 1 ∧ vv i = 22) : FactC N X T L K kk vv bp i o := by
  have hK : K ≤ 1600 := Nat.le_trans hk.2.1 hk.1
  have iK : i < K := tk_lt hk hi (by omega)
  refine ⟨some (i + 1, [-23]), 0, 0, [-23], [], (fun e => by cases e), fun i' ds e => ?_, fun d U cl hcS hcl hle => ?_, fun d V b cl f kd q0 O hb hf ho' hts hF hO hcl hq => ⟨fun i' ds e => ?_, (fun e => by cases e)⟩⟩
  · obtain ⟨rfl, rfl⟩ : i + 1 = i' ∧ [-23] = ds := by simpa using e
    exact ⟨by omega, by omega, by simp; omega, fun t ht => tyl_one (show tyc (-23) t = some (true :: t) from rfl) (by simp only [List.length_cons]; omega), rfl, (fun c' h => by cases h), by simp, trivial⟩
  · have iw := ct_Rd_isOwn (N := N) (X := X) (d := d + (10 * (8 - o) + 6)) hcS
    have s91 := ct_Rd_isSign (N := N) (X := X) (d := d + (10 * (8 - o) + 6)) hcS 91
    rw [b2i_f (fun z => by omega)] at s91
    have w21 := iw 21
    rw [b2i_f (fun z => by omega)] at w21
    have w22 := iw 22
    rw [b2i_t hw] at w22
    obtain ⟨U1, n1, n2, n3⟩ := ct_Rd_next (N := N) (X := X) (d := d + (10 * (8 - o) + 6)) (by omega) hK hcS iK
    have l1 : U1 31 18 = (cl : Nat) := by rw [n2 31 18 (by omega)]; exact hcl
    obtain ⟨U2, m1, m2, m3, m4⟩ := ct_emitWord (N := N) (X := X) (d := d + (10 * (8 - o) + 5)) l1 (by omega) n3 22 (by omega)
    refine ⟨U2, 1, Rd_readFact_r0 ⟨0, U, w21, fun _ => ⟨0, U, s91, fun _ => ⟨1, U, w22, fun z => absurd z (by decide), fun _ => ⟨U1, n1, 1, U2, m1, Or.inr rfl, rfl⟩⟩, fun z => absurd rfl z⟩, fun z => absurd rfl z⟩, fE_trans (fE_fN n2) m2, fun i' ds e => ?_, (fun e => by cases e)⟩
    obtain ⟨rfl, rfl⟩ : i + 1 = i' ∧ [-23] = ds := by simpa using e
    exact ⟨rfl, m3, emW_app (emW_fN hcl n2) m4⟩
  · obtain ⟨rfl, rfl⟩ : i + 1 = i' ∧ [-23] = ds := by simpa using e
    have hx : V 86 12 = -1 := by
      rcases Int.decEq (V 86 12) (-1) with z | z
      · have := (rT_bad hk hF.1 hi z).1
        omega
      · exact z
    obtain ⟨hF0, kb0, em0⟩ := rF_bg hF
    have hx0 : am_upd V 115 f 0 86 12 = -1 := by rw [upd_row (by decide)]; exact hx
    obtain ⟨a1, a2, a3, a4, a5, a6, ⟨a7, a8, a9, a10⟩, a11⟩ := hF0
    obtain ⟨V1, k1, k2, k3⟩ := ct_add1 (N := N) (X := X) (d := d + 4) (V := am_upd V 115 f 0) (c := -23) (v := 0) a2 hb a3 (show cl < 1600 by omega) (fun z => absurd z (by decide))
    have r1 : ∀ r, r ≠ 86 → r ≠ 111 → r ≠ 112 → V1 r = am_upd V 115 f 0 r := fun r q1 q2 q3 => funext fun j => k3 r j q2 q3 (fun z => q1 z.1)
    have j1 : ∀ j, j ≠ 39 → V1 86 j = am_upd V 115 f 0 86 j := fun j q => k3 86 j (by decide) (by decide) (by omega)
    obtain ⟨W, hW⟩ : ∃ W, W = am_upd V1 114 f 2 := ⟨_, rfl⟩
    have wr : ∀ r, r ≠ 114 → W r = V1 r := fun r hr => by rw [hW, upd_row hr]
    obtain ⟨W2, l1, l2, l3⟩ := ct_ahead1 (N := N) (X := X) (d := d + 3) hk (rT_cg a1 (by rw [wr 87 (by decide), r1 87 (by decide) (by decide) (by decide)]) (fun j q1 _ => by rw [wr 86 (by decide), j1 j (by omega)]) : rT W T L i)
    have yr : ∀ r, r ≠ 86 → W2 r = W r := fun r hr => fA6_row l2 hr
    have w86 : ∀ j, j ≠ 3 → j ≠ 4 → j ≠ 5 → j ≠ 6 → j ≠ 7 → j ≠ 12 → j ≠ 39 → W2 86 j = am_upd V 115 f 0 86 j := fun j q1 q2 q3 q4 q5 q6 q7 => by rw [l2 86 j (by omega), wr 86 (by decide), j1 j q7]
    have yq : ∀ r, r ≠ 86 → r ≠ 111 → r ≠ 112 → r ≠ 114 → W2 r = am_upd V 115 f 0 r := fun r q1 q2 q3 q4 => by rw [yr r q1, wr r q4, r1 r q1 q2 q3]
    have e39 : W2 86 39 = ((cl + [(-23 : Int)].length : Nat) : Int) := by rw [l2 86 39 (by decide), wr 86 (by decide)]; exact k2.1
    have hF2 : rF W2 T L (i + 1) b (cl + 1) f kd 2 0 0 o q0 O := ⟨l3, by rw [w86 40 (by decide) (by decide) (by decide) (by decide) (by decide) (by decide) (by decide)]; exact a2, e39, by rw [w86 46 (by decide) (by decide) (by decide) (by decide) (by decide) (by decide) (by decide)]; exact a4, by rw [w86 47 (by decide) (by decide) (by decide) (by decide) (by decide) (by decide) (by decide)]; exact a5, by rw [w86 50 (by decide) (by decide) (by decide) (by decide) (by decide) (by decide) (by decide)]; exact a6, ⟨by rw [yq 113 (by decide) (by decide) (by decide) (by decide)]; exact a7, by rw [yr 114 (by decide), hW, upd_at], by rw [yq 115 (by decide) (by decide) (by decide) (by decide)]; exact a9, by rw [yq 117 (by decide) (by decide) (by decide) (by decide)]; exact a10⟩, hst_cg a11 (yq 118 (by decide) (by decide) (by decide) (by decide)) (w86 49 (by decide) (by decide) (by decide) (by decide) (by decide) (by decide) (by decide))⟩
    obtain ⟨g1, g2, g3⟩ := rF_50 hF2 1
    have e46 : eqI (w32 (V 86 46 - 1)) ((f : Nat) : Int) := by show _ = _; rw [hF.2.2.2.1, w32_eq (by omega) (by omega)]; omega
    have w21 := ct_isWord1 (N := N) (X := X) (d := d + 4) hk hF.1 hi hx 21 (by decide)
    rw [b2i_f (fun z => by omega)] at w21
    have w22 := ct_isWord1 (N := N) (X := X) (d := d + 4) hk a1 hi hx0 22 (by decide)
    rw [b2i_t (show kk i = 1 ∧ vv i = ((22 : Nat) : Int) from hw)] at w22
    have sg := ct_isSign1 (N := N) (X := X) (d := d + 4) hk a1 hi hx0 91 (by decide)
    rw [b2i_f (fun z => by omega)] at sg
    have run1 : EvK N X (M_operand_s0 (d + 5) V) (rI 1 W2) := by
      refine M_operand_r0 ⟨V, ct_lex1 (d := d + 3) hx, fun _ => ?_, fun z => absurd z (by rw [hF.1.2.2]; omega)⟩
      rw [eqI_o e46, Int.toNat_natCast, hF.2.2.2.2.2.2.1.1]
      refine ⟨by omega, _, V, ct_isTest1, fun z => absurd hts (cb_eq.mp z), fun _ => ⟨fun z => absurd z (by rw [hF.2.2.2.2.2.2.1.2.2.1]; decide), fun _ => ?_⟩⟩
      refine M_operand_r46 ⟨fun z => absurd z (by decide), fun _ => ⟨0, V, w21, fun _ => ?_, fun z => absurd rfl z⟩⟩
      refine M_operand_r110 ⟨by omega, fun z => absurd z (by decide), fun _ => ⟨0, am_upd V 115 f 0, by rw [Int.toNat_natCast]; exact sg, fun _ => ?_, fun z => absurd rfl z⟩⟩
      exact M_operand_r137 ⟨fun z => absurd z (by decide), fun _ => ⟨1, _, w22, fun z => absurd z (by decide), fun _ => ⟨V1, k1, by omega, W2, by rw [Int.toNat_natCast, ← hW]; exact l1, rfl⟩⟩⟩
    have eW : emR (am_upd V 115 f 0) W2 b cl [-23] := by
      have e2 : emR V1 W2 b (cl + [(-23 : Int)].length) [] := emR_nil e39 (by rw [yr 111 (by decide), wr 111 (by decide)]) (by rw [yr 112 (by decide), wr 112 (by decide)])
      have := emR_app k2 e2 (by simp; omega)
      rw [List.append_nil] at this; exact this
    have kW : kB V W2 f q0 := kB_trans kb0 ⟨⟨fun r j e => by
      have n111 : r ≠ 111 := fun z => by subst z; rw [scZ_row (by omega)] at e; exact absurd e (by decide)
      have n112 : r ≠ 112 := fun z => by subst z; rw [scZ_row (by omega)] at e; exact absurd e (by decide)
      have n114 : r ≠ 114 := fun z => by subst z; rw [scZ_row (by omega)] at e; exact absurd e (by decide)
      rw [(fZ_A6 l2).1 r j e, wr r n114]
      exact k3 r j n111 n112 (fun z => by obtain ⟨rfl, rfl⟩ := z; simp [scZ] at e), fX_em a2 eW⟩, fun g hg => by
      rw [yr 114 (by decide), hW, upd_ne (by omega), r1 114 (by decide) (by decide) (by decide), yq 113 (by decide) (by decide) (by decide) (by decide), yq 115 (by decide) (by decide) (by decide) (by decide), yq 116 (by decide) (by decide) (by decide) (by decide), yq 117 (by decide) (by decide) (by decide) (by decide)]
      exact ⟨rfl, rfl, rfl, rfl, rfl⟩, by rw [yq 116 (by decide) (by decide) (by decide) (by decide)], fun j hj => by rw [yq 118 (by decide) (by decide) (by decide) (by decide)]⟩
    refine ⟨am_upd W2 86 50 1, 2, Or.inr rfl, ?_, ?_, kB_trans kW (g2 f q0), fun R hR => loop_op hF.2.2.2.2.2.1 run1 (Or.inr rfl) (fun z => absurd l3.2.2 z) (fun _ => hR)⟩
    · exact g1
    · have t1 := emR_app eW g3 (by simp; omega)
      rw [List.append_nil] at t1
      have t2 := emR_app em0 t1 (by simp; omega)
      rw [List.nil_append] at t2; exact t2
end FAL
