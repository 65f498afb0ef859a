/-! the law's own loop: its parts -/
def Lw (i : Nat) : am_L := [some (.inr (.inr (-1))), some (.inr (.inr 1)), some (.inr (.inr 86)), some (.inl (i : Int))]
theorem and63 (x : Int) : ∃ m : Nat, m < 64 ∧ am_and x 63 = (m : Int) := by
  have h1 : u32 (am_and x 63) ≤ 63 := by
    rw [u32_and]
    have : u32 63 = 63 := by decide
    rw [this]
    exact Nat.and_le_right
  have h2 := and_in x 63
  refine ⟨u32 (am_and x 63), by omega, ?_⟩
  generalize am_and x 63 = y at *
  unfold in32 at h2
  unfold u32 at *
  omega
theorem w32_pc {i k : Nat} (h : i + k < 4000) : w32 ((i : Int) + (k : Nat)) = ((i + k : Nat) : Int) := by
  unfold w32
  omega
section LAW
variable {N : Nat} {X : Nat → Int} {R : Option am_V × am_M} {i pc : Nat} {st : List am_V} {M : am_M}
theorem law_arg {k : Nat} {kk : Int} {a b : Nat} {c : Int} (hN : N ≤ 3072) (hi : i + k < N) (hk : (k : Int) = kk) (hs : ∀ (f : am_S → am_R) (M : am_M), am_stepN am_cd am_rk (am_kz N X) f 4 (2048, 0, pc, Lw i, st, M) = f (2048, 0, pc + 4, Lw i, .inl (w32 ((i : Int) + kk)) :: .inr (.inr (-1)) :: st, M)) (hcd : am_cd 0 (pc + 4) = some (1, .iaload, a, b, c)) {pt : Nat} (hp : pc + 4 + 1 = pt) (h : EvK N X (2048, 0, pt, Lw i, .inl (X (i + k)) :: st, M) R) : EvK N X (2048, 0, pc, Lw i, st, M) R := by
  subst hp hk
  refine cn_seg 4 hs ?_
  rw [w32_pc (by omega)]
  obtain ⟨sh, V⟩ := M
  refine ev_seg 1 (fun f => ?_) h
  show am_step am_cd am_rk _ f _ = _
  unfold am_step
  simp only [hcd]
  have e : am_cell (am_kz N X) (sh, V) (-1) = some (100, N, X) := rfl
  unfold am_ald
  simp only [e]
  rw [if_pos ⟨rfl, by omega, by omega⟩]
  rfl
theorem law_cmp {r : Int} {U : am_U} {pc : Nat} {o : Int} (hcd : am_cd 0 pc = some (3, .if_icmp .eq o, 1119, 0, 0)) (h : EvK N X (2048, 0, 1119, Lw i, [], (am_sh, am_mm U)) R) : EvK N X (2048, 0, pc, Lw i, [.inl r, .inl r], (am_sh, am_mm U)) R := by
  refine ev_seg 1 (fun f => ?_) h
  show am_step am_cd am_rk _ f _ = _
  unfold am_step
  simp only [hcd]
  unfold am_if2 am_cnd
  simp only [am_goB, decide_true, cond_true]
theorem law_len {st : List am_V} (hN : N ≤ 3072) (h : EvK N X (2048, 0, 21, Lw i, .inl (N : Int) :: st, M) R) : EvK N X (2048, 0, 20, Lw i, .inr (.inr (-1)) :: st, M) R := by
  refine ev_seg 1 (fun f => ?_) h
  obtain ⟨sh, V⟩ := M
  show am_go f 2048 0 21 (Lw i) (sh, V) (am_alen (am_kz N X) (sh, V) (.inr (.inr (-1)) :: st)) = _
  have e : am_cell (am_kz N X) (sh, V) (-1) = some (100, N, X) := rfl
  unfold am_alen
  simp only [e]
  rw [if_pos ⟨by decide, by omega⟩]
  rfl
end LAW
