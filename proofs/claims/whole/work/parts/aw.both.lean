/-! a whole test on both sides -/
section TBO
variable {N : Nat} {X : Nat → Int} {T : Nat → Int} {L K : Nat} {kk vv : Nat → Int} {bp : Int} {i : Nat}
theorem test_both (hk : tkS T L K kk vv bp) (hi : i ≤ K) : ∃ (g : Option (Nat × List Int)) (fk fp : Int), (g = none → 1 ≤ fk) ∧ (∀ i' ds, g = some (i', ds) → i < i' ∧ i' ≤ K ∧ ds.length + i ≤ i' ∧ (∀ t : List Bool, t.length + 48 ≤ 60 → tyl ds t = some (true :: t))) ∧ clA N X T L K kk vv bp (fun d o U => Rd_readTest_s0 d o U) 89 i 0 g fk fp ∧ ∀ (d : Nat) (V : am_U) (b cl : Nat), b < 2 → rT V T L i → V 86 40 = (b : Nat) → V 86 39 = (cl : Nat) → cl ≤ i → (∀ i' ds, g = some (i', ds) → (∃ V', EvK N X (M_reads_s0 (d + 6) 1 V) (rV V') ∧ rT V' T L i' ∧ V' 86 40 = (b : Nat) ∧ emR V V' b cl ds ∧ fZ V V') ∨ (kk i' = 5 ∧ ∃ V', EvK N X (M_reads_s0 (d + 6) 1 V) (rV V') ∧ fZ V V' ∧ V' 86 8 = 1 ∧ V' 86 9 = fpl T L kk bp i')) ∧ (g = none → ∃ V', EvK N X (M_reads_s0 (d + 6) 1 V) (rV V') ∧ fZ V V' ∧ V' 86 8 = fk ∧ V' 86 9 = fp) := by
  have hK : K ≤ 1600 := Nat.le_trans hk.2.1 hk.1
  obtain ⟨g, fk, fp, e0, pend, x1, x2, x3, x4⟩ := (test_all (N := N) (X := X) hk 7 0 rfl i hi).2
  refine ⟨g, fk, fp, x1, fun i' ds e => ?_, x3, fun d V b cl hb hr h40 h39 hcl => ?_⟩
  · obtain ⟨w1, w2, w3, w4, -⟩ := x2 i' ds e
    exact ⟨w1, w2, w3, fun t ht => w4 t (by omega)⟩
  · obtain ⟨V1, k1, k2, k3, k4⟩ := reads_go (N := N) (X := X) (d := d) hr h40 h39
    obtain ⟨y1, y2⟩ := x4 d V1 b cl 0 1 0 [] hb (Nat.le_refl 0) (by decide) (Or.inl rfl) k1 (fun c hc => by cases hc) (by simp; omega) (by simp)
    have told : ∀ V2 : am_U, EvK N X (M_reads_s43 (d + 6) 1 0 V2) (rV V2) := fun V2 => M_reads_r43 ⟨fun _ => rfl, fun z => absurd rfl z⟩
    refine ⟨fun i' ds e => ?_, fun e => ?_⟩
    · obtain ⟨w1, w2, w3, w4, w5, w6, w7, w8'⟩ := x2 i' ds e
      have lds : ds.length = e0.length + pend.length := by rw [w5, List.length_append]
      obtain ⟨V2, ph', z0, z1, z2, z3, z4⟩ := y1 i' ds e
      rw [List.append_nil] at z1
      obtain ⟨en1, en2⟩ := reads_end (N := N) (X := X) (d := d) hk w2 hb z1 z0 w8' w6 (by omega) (by omega) (by decide)
      by_cases hx : V2 86 12 = -1
      · obtain ⟨V3, u1, u2, u3, u4, u5⟩ := en1 hx
        left
        refine ⟨V3, k4 _ (z4 _ u1), u2, u3, ?_, fZ_trans k3 (fZ_trans z3.1 u5)⟩
        have t1 := emR_app z2 u4 (by omega)
        rw [← w5] at t1
        have t2 := emR_app k2 t1 (by simp; omega)
        rw [List.nil_append] at t2; exact t2
      · right
        obtain ⟨V3, u1, u2, u3, u4⟩ := en2 hx
        exact ⟨(rT_bad hk z1.1 w2 hx).1, V3, k4 _ (z4 _ (u4 _ (told V3))), fZ_trans k3 (fZ_trans z3.1 u1), u2, u3⟩
    · obtain ⟨V3, u1, u2, u3, u4⟩ := y2 e
      exact ⟨V3, k4 _ (u4 _ (told V3)), fZ_trans k3 u1, u2, u3⟩
end TBO
