/-- numbers after a copy between rows -/
def am_cpy (U : Nat → Nat → Int) (r t : Nat) (sp dp n : Int) (r' j : Nat) : Int := if r' = t ∧ dp ≤ (j : Int) ∧ (j : Int) < dp + n then U r ((j : Int) - dp + sp).toNat else U r' j
theorem eu_copy {kz : am_Z} {d mi pc b : Nat} {c sp dp n : Int} {n0 n1 : Nat} {L : am_L} {st : List am_V} {U : Nat → Nat → Int} {R : Option am_V × am_M} (r t : Nat) {idx : Nat} (hcd : am_cd mi pc = some (3, .invokestatic idx, 9999, b, c)) (hcat : (st.map am_cat).sum ≤ 8) (hr : 0 < r) (ht : 0 < t) (hne : r ≠ t) (hs : am_sh[r]? = some (100, n0)) (hst : am_sh[t]? = some (100, n1)) (hf : ∀ j, am_rf r j = none) (hft : ∀ j, am_rf t j = none) (h0 : 0 ≤ sp ∧ 0 ≤ dp ∧ 0 ≤ n ∧ sp + n ≤ n0 ∧ dp + n ≤ n1) (h : Ev kz (d + 1, mi, pc + 3, L, st, (am_sh, am_mm (am_cpy U r t sp dp n))) R) : Ev kz (d + 1, mi, pc, L, .inl n :: .inl dp :: .inr (.inr (t : Int)) :: .inl sp :: .inr (.inr (r : Int)) :: st, (am_sh, am_mm U)) R := by
  refine ev_seg 1 (fun k => ?_) h
  show am_step am_cd am_rk kz k _ = _
  unfold am_step
  simp only [hcd]
  have e1 : (0 : Int) < (r : Int) ∧ (0 : Int) < (t : Int) ∧ (r : Int) ≠ (t : Int) := ⟨by omega, by omega, by omega⟩
  have hs' : am_sh[(r : Int).toNat]? = some (100, n0) := hs
  have ht' : am_sh[(t : Int).toNat]? = some (100, n1) := hst
  have em : (fun (r' j : Nat) => if r' = (t : Int).toNat ∧ dp ≤ (j : Int) ∧ (j : Int) < dp + n then am_mm U (r : Int).toNat ((j : Int) - dp + sp).toNat else am_mm U r' j) = am_mm (am_cpy U r t sp dp n) := by
    funext r' j
    unfold am_mm am_cpy
    by_cases e : r' = t ∧ dp ≤ (j : Int) ∧ (j : Int) < dp + n
    · obtain ⟨rfl, e2⟩ := e
      simp [hf, hft, e2]
    · rw [if_neg (by simpa using e)]
      simp only [if_neg e]
  simp only [if_true, List.drop, hcat, am_copy, if_pos e1, hs', ht', if_pos h0]
  rw [em]
  rfl
