/-! the reference reads a test: its beginning -/
section RDS
variable {N : Nat} {X : Nat → Int} {T : Nat → Int} {L K : Nat} {kk vv : Nat → Int} {bp : Int} {i : Nat}
theorem reads_go {d b cl : Nat} {V : am_U} (hr : rT V T L i) (h40 : V 86 40 = (b : Nat)) (h39 : V 86 39 = (cl : Nat)) : ∃ V1, rF V1 T L i b cl 0 1 0 1 0 0 0 [] ∧ emR V V1 b cl [] ∧ fZ V V1 ∧ ∀ R, EvK N X (M_reads_s43 (d + 6) 1 1 V1) R → EvK N X (M_reads_s0 (d + 6) 1 V) R := by
  obtain ⟨Z, hZ⟩ : ∃ Z, Z = am_upd (am_upd (am_upd (am_upd V 86 46 0) 86 47 0) 86 49 0) 86 50 0 := ⟨_, rfl⟩
  have zr : ∀ r, r ≠ 86 → Z r = V r := fun r hr => by rw [hZ, upd_row hr, upd_row hr, upd_row hr, upd_row hr]
  have zj : ∀ j, j ≠ 46 → j ≠ 47 → j ≠ 49 → j ≠ 50 → Z 86 j = V 86 j := fun j q1 q2 q3 q4 => by rw [hZ, upd_ne q4, upd_ne q3, upd_ne q2, upd_ne q1]
  have z46 : Z 86 46 = 0 := by rw [hZ, upd_ne (by decide), upd_ne (by decide), upd_ne (by decide), upd_at]
  have z47 : Z 86 47 = 0 := by rw [hZ, upd_ne (by decide), upd_ne (by decide), upd_at]
  have z49 : Z 86 49 = 0 := by rw [hZ, upd_ne (by decide), upd_at]
  have z50 : Z 86 50 = 0 := by rw [hZ, upd_at]
  obtain ⟨V1, hV1⟩ : ∃ V1, V1 = am_upd (am_upd (am_upd (am_upd (am_upd Z 113 0 1) 114 0 0) 115 0 1) 117 0 0) 86 46 1 := ⟨_, rfl⟩
  have p1 : EvK N X (M_pushes_s0 (d + 5) 1 Z) (rV V1) := M_pushes_r0 (by
    rw [z46, z49, hV1]
    exact ⟨by decide, rfl⟩)
  have j2 : ∀ j, j ≠ 46 → V1 86 j = Z 86 j := fun j q => by rw [hV1, upd_ne q, upd_row (by decide), upd_row (by decide), upd_row (by decide), upd_row (by decide)]
  have r2 : ∀ r, r ≠ 86 → r ≠ 113 → r ≠ 114 → r ≠ 115 → r ≠ 117 → V1 r = V r := fun r q1 q2 q3 q4 q5 => by rw [hV1, upd_row q1, upd_row q5, upd_row q4, upd_row q3, upd_row q2, zr r q1]
  have w86 : ∀ j, j ≠ 46 → j ≠ 47 → j ≠ 49 → j ≠ 50 → V1 86 j = V 86 j := fun j q1 q2 q3 q4 => by rw [j2 j q1, zj j q1 q2 q3 q4]
  have e39 : V1 86 39 = (cl : Nat) := by rw [w86 39 (by decide) (by decide) (by decide) (by decide)]; exact h39
  refine ⟨V1, ⟨rT_cg hr (r2 87 (by decide) (by decide) (by decide) (by decide) (by decide)) (fun j q1 _ => w86 j (by omega) (by omega) (by omega) (by omega)), ?_, e39, ?_, ?_, ?_, ⟨?_, ?_, ?_, ?_⟩, ⟨?_, (fun c h => by cases h), (fun k c h => by simp at h)⟩⟩, emR_nil e39 (r2 111 (by decide) (by decide) (by decide) (by decide) (by decide)) (r2 112 (by decide) (by decide) (by decide) (by decide) (by decide)), ?_, fun R hR => ?_⟩
  · rw [w86 40 (by decide) (by decide) (by decide) (by decide)]; exact h40
  · rw [hV1, upd_at]; rfl
  · rw [j2 47 (by decide), z47]; rfl
  · rw [j2 50 (by decide), z50]
  · rw [hV1, upd_row (by decide), upd_row (by decide), upd_row (by decide), upd_row (by decide), upd_at]
  · rw [hV1, upd_row (by decide), upd_row (by decide), upd_row (by decide), upd_at]
  · rw [hV1, upd_row (by decide), upd_row (by decide), upd_at]
  · rw [hV1, upd_row (by decide), upd_at]; rfl
  · rw [j2 49 (by decide), z49]; rfl
  · rw [hV1, hZ]
    exact fZ_upd rfl (fZ_upd (scZ_row (by omega) _) (fZ_upd (scZ_row (by omega) _) (fZ_upd (scZ_row (by omega) _) (fZ_upd (scZ_row (by omega) _) (fZ_upd rfl (fZ_upd rfl (fZ_upd rfl (fZ_upd rfl (fZ_refl V)))))))))
  · exact M_reads_r0 ⟨fun _ => ⟨fun z => absurd z (by decide), fun _ => ⟨V1, by rw [← hZ]; exact p1, hR⟩⟩, fun z => absurd z (by rw [hr.2.2]; decide)⟩
end RDS
