/-! what stands behind both constructors -/
def U00 : am_U := uL bsB cl27
theorem u00_row {r : Nat} (h : (cl27.all (fun e => !(Nat.beq e.1 r))) = true) (hr : r ≠ 57) (j : Nat) : U00 r j = 0 := by
  have g : ∀ l : List (Nat × Nat × Int), (l.all (fun e => !(Nat.beq e.1 r))) = true → uL bsB l r j = 0 := by
    intro l
    induction l with
    | nil => intro _; show (if r = 57 then _ else (0 : Int)) = 0; rw [if_neg hr]
    | cons e l ih =>
      intro h
      obtain ⟨a, c, x⟩ := e
      rw [List.all_cons, Bool.and_eq_true] at h
      have h1 : a ≠ r := by
        intro q
        have := h.1
        rw [q] at this
        simp at this
      show am_upd (uL bsB l) a c x r j = 0
      unfold am_upd
      rw [if_neg (fun q => h1 q.1.symm)]
      exact ih h.2
  exact g cl27 h
set_option maxRecDepth 20000 in
theorem u00_mm : am_mm U00 = U00 := by
  funext r j
  unfold am_mm
  split
  · rename_i c h
    unfold am_rf at h
    split at h
    all_goals first
      | (cases h; rfl)
      | cases h
      | skip
    all_goals first
      | (unfold am_rf1 at h; split at h)
      | (unfold am_rf3 at h; split at h)
      | (unfold am_rf16 at h; split at h)
      | (unfold am_rf21 at h; split at h)
      | (unfold am_rf26 at h; split at h)
      | (unfold am_rf27 at h; split at h)
      | (unfold am_rf31 at h; split at h)
      | (unfold am_rf45 at h; split at h)
      | (unfold am_rf48 at h; split at h)
      | (unfold am_rf52 at h; split at h)
      | (unfold am_rf56 at h; split at h)
      | (unfold am_rf78 at h; split at h)
      | (unfold am_rf82 at h; split at h)
      | (unfold am_rf86 at h; split at h)
      | skip
    all_goals cases h
    all_goals first
      | rfl
      | skip
  · rfl
theorem law_new {kz : am_Z} {R : Option am_V × am_M} (h : Ev kz (2048, 0, 18, [some (.inr (.inr (-1))), some (.inr (.inr 1)), some (.inr (.inr 86)), some (.inl 0)], [], (am_sh, am_mm U00)) R) : Ev kz am_start R := by
  have h2 : Ev kz (2048, 0, 18, [some (.inr (.inr (-1))), some (.inr (.inr 1)), some (.inr (.inr 86)), some (.inl 0)], [], (am_sh.take 139, uL bsB cl27)) R := by
    have e : am_sh.take 139 = am_sh := by decide +kernel
    rw [e]
    show Ev kz (2048, 0, 18, _, [], (am_sh, U00)) R
    rw [← u00_mm]; exact h
  exact cm17 h2
theorem inv00 : Inv U00 := by
  refine ⟨0, 0, 0, 0, 0, 0, 0, 0, 0, 0, 0, ?_, ?_, ?_, ?_, ?_, ?_, ?_, ?_, ?_, ?_⟩
  · refine ⟨⟨by decide +kernel, by decide⟩, ⟨by decide +kernel, by decide +kernel, by decide, fun s hs => absurd hs (Nat.not_lt_zero s)⟩, ⟨by decide +kernel, by decide +kernel, by decide, fun s hs => absurd hs (Nat.not_lt_zero s)⟩, ⟨by decide +kernel, by decide +kernel, by decide, fun s hs => absurd hs (Nat.not_lt_zero s)⟩, ⟨by decide +kernel, by decide +kernel, by decide, fun s hs => absurd hs (Nat.not_lt_zero s), fun s hs => absurd hs (Nat.not_lt_zero s)⟩, ⟨by decide +kernel, by decide +kernel, by decide +kernel⟩, ⟨by decide +kernel, by decide +kernel, by decide, by decide, fun s hs => absurd hs (Nat.not_lt_zero s), fun s hs => absurd hs (Nat.not_lt_zero s)⟩, Or.inl ⟨by decide +kernel, 0, by decide, by decide +kernel, by decide +kernel⟩⟩
  · refine ⟨⟨by decide +kernel, by decide +kernel, by decide⟩, ⟨by decide +kernel, by decide +kernel, by decide +kernel⟩, ⟨by decide +kernel, Or.inl (by decide +kernel)⟩, fun s hs => absurd hs (Nat.not_lt_zero s), ⟨fun s hs => absurd hs (Nat.not_lt_zero s), fun p s _ hs => absurd hs (Nat.not_lt_zero s), fun s hs => absurd hs (Nat.not_lt_zero s)⟩, ?_⟩
    intro x hx
    rw [u00_row (r := 19) (by decide +kernel) (by decide)]
    refine ⟨by unfold in32; decide, fun i hi => ?_⟩
    rw [tb_0]
    symm
    rw [decide_eq_false_iff_not]
    omega
  · refine ⟨⟨by decide +kernel, by decide +kernel⟩, fun k hk => by rw [u00_row (r := 119) (by decide +kernel) (by decide), u00_row (r := 85) (by decide +kernel) (by decide)], ⟨by decide +kernel, by decide +kernel, by decide +kernel⟩, by decide +kernel, by decide +kernel, by decide +kernel, fun k hk => ?_⟩
    have e : U00 1 16 = 0 := by decide +kernel
    rw [e] at hk
    omega
  · exact ⟨⟨by decide +kernel, by decide +kernel, by decide⟩, ⟨by decide +kernel, by decide⟩, ⟨by decide +kernel, by decide⟩, fun s hs => absurd hs (Nat.not_lt_zero s)⟩
  · intro p hp
    left
    have h : ∀ p : Fin 16, U00 20 p.val < 0 := by decide +kernel
    exact h ⟨p, hp⟩
  · exact Or.inl (by decide +kernel)
  · exact ⟨by decide +kernel, Or.inl (by decide +kernel)⟩
  · exact Or.inl (by decide +kernel)
  · refine ⟨Or.inl ⟨by decide +kernel, Or.inl (by decide +kernel)⟩, ?_, by decide +kernel, by decide +kernel⟩
    intro a _ _ i _ _ h
    rw [u00_row (r := 79) (by decide +kernel) (by decide), tb_0] at h
    cases h
  · refine ⟨⟨by decide +kernel, by decide +kernel, by decide +kernel⟩, fun j _ => ?_⟩
    rw [u00_row (r := 87) (by decide +kernel) (by decide), u00_row (r := 2) (by decide +kernel) (by decide)]
    decide
