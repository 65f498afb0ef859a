/-! the reference reads a test: its end -/
section RD2
variable {N : Nat} {X : Nat → Int} {T : Nat → Int} {L K : Nat} {kk vv : Nat → Int} {bp : Int} {i : Nat}
/-- at the end of a whole test -/
theorem reads_end {d b cl o : Nat} {V : am_U} {ph : Int} {pend : List Int} (hk : tkS T L K kk vv bp) (hi : i ≤ K) (hb2 : b < 2) (hF : rF V T L i b cl 0 1 ph 0 1 (o + nNot pend) 0 pend) (hph : phT kk vv i ph) (hn : noTw kk vv i) (hp : ∀ c, c ∈ pend → 1 ≤ rkC c) (hpl : pend.length ≤ 40) (hcl : cl + pend.length ≤ 1600) (ho : o < 50) : (V 86 12 = -1 → ∃ V', EvK N X (M_reads_s43 (d + 6) 1 1 V) (rV V') ∧ rT V' T L i ∧ V' 86 40 = (b : Nat) ∧ emR V V' b cl pend ∧ fZ V V') ∧ (V 86 12 ≠ -1 → ltB N X d V 1 (fpl T L kk bp i)) := by
  have h50 : V 86 50 ≠ 0 := by rw [hF.2.2.2.2.2.1]; decide
  refine ⟨fun hx => ?_, fun hx => bad_B hk hi hF.1 hx h50⟩
  have hF0 := hF
  obtain ⟨a1, a2, a3, a4, a5, a6, ⟨a7, a8, a9, a10⟩, a11⟩ := hF
  have nl := nNot_le pend
  obtain ⟨V1, j1, j2, j3, j4, j5⟩ := ct_joins1 (N := N) (X := X) (d := d + 3) (least := 1) (S1 := []) (f := 0) (q0 := 0) hb2 (by decide) (by simp) (fun c S' e => by cases e) pend V cl o hp (by rw [List.append_nil]; exact a11) (by omega) a2 a3 hcl a4 a10 a5 (by omega)
  have hF1 := rF_join hF0 o j2 j3 j4 j5
  have en := tst_end (N := N) (X := X) (d := d) hk hi hF0 hx (by decide) (Or.inl rfl) hph hn
  have run1 : EvK N X (M_goesOn_s0 (d + 5) V) (rI 0 V1) := en _ (M_goesOn_r422 ⟨fun z => absurd z (by decide), fun _ => ⟨fun z => absurd a1.2.2 z, fun _ => ⟨V1, j1, M_goesOn_r439 rfl⟩⟩⟩)
  exact ⟨V1, loop_on h50 run1 (fun _ => M_reads_r43 ⟨fun _ => rfl, fun z => absurd rfl z⟩) (fun z => absurd rfl z) (fun z => absurd rfl z), hF1.1, hF1.2.1, j3, (kB_join (g := 0) (q := 0) a2 j3 j5).1⟩
end RD2
