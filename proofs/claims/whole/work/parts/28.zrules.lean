/-! words of the rules -/
abbrev am_U : Type := Nat → Nat → Int
abbrev EvK (N : Nat) (X : Nat → Int) (σ : am_S) (R : Option am_V × am_M) : Prop := Ev (am_kz N X) σ R
def rI (x : Int) (U : am_U) : Option am_V × am_M := (some (.inl x), (am_sh, am_mm U))
def rJ (x : Int) (U : am_U) : Option am_V × am_M := (some (.inr (.inl x)), (am_sh, am_mm U))
def rV (U : am_U) : Option am_V × am_M := (none, (am_sh, am_mm U))
def am_pr (j : Nat) : Int := ([2, 3, 5, 7, 11, 13, 17, 19, 23, 29, 31, 37] : List Int).getD j 0
def am_wi (j : Nat) : Int := ([2, 7, 61] : List Int).getD j 0
def am_b6 (j : Nat) : Int := am_by6.getD j 0
def am_b7 (j : Nat) : Int := am_by7.getD j 0
theorem am_lc_lt (x y : Int) : am_lcmp x y < 0 ↔ x < y := by unfold am_lcmp; (repeat' split) <;> omega
theorem am_lc_le (x y : Int) : am_lcmp x y ≤ 0 ↔ x ≤ y := by unfold am_lcmp; (repeat' split) <;> omega
theorem am_lc_gt (x y : Int) : 0 < am_lcmp x y ↔ y < x := by unfold am_lcmp; (repeat' split) <;> omega
theorem am_lc_ge (x y : Int) : 0 ≤ am_lcmp x y ↔ y ≤ x := by unfold am_lcmp; (repeat' split) <;> omega
theorem am_lc_eq (x y : Int) : am_lcmp x y = 0 ↔ x = y := by unfold am_lcmp; (repeat' split) <;> omega
theorem am_lc_ne (x y : Int) : ¬ am_lcmp x y = 0 ↔ x ≠ y := by unfold am_lcmp; (repeat' split) <;> omega
theorem am_lcn_lt (x y : Int) : ¬ am_lcmp x y < 0 ↔ y ≤ x := by unfold am_lcmp; (repeat' split) <;> omega
theorem am_lcn_le (x y : Int) : ¬ am_lcmp x y ≤ 0 ↔ y < x := by unfold am_lcmp; (repeat' split) <;> omega
theorem am_lcn_gt (x y : Int) : ¬ 0 < am_lcmp x y ↔ x ≤ y := by unfold am_lcmp; (repeat' split) <;> omega
theorem am_lcn_ge (x y : Int) : ¬ 0 ≤ am_lcmp x y ↔ x < y := by unfold am_lcmp; (repeat' split) <;> omega
theorem am_lcn_eq (x y : Int) : ¬ am_lcmp x y = 0 ↔ x ≠ y := by unfold am_lcmp; (repeat' split) <;> omega
theorem am_lcn_ne (x y : Int) : ¬ ¬ am_lcmp x y = 0 ↔ x = y := by unfold am_lcmp; (repeat' split) <;> omega
theorem am_shH0 : ∀ k : Fin 20, am_sh[58 + k.1]? = some (100, 35) := by decide
theorem am_shH {ρ : Nat} (h : 58 ≤ ρ ∧ ρ < 78) : am_sh[ρ]? = some (100, 35) := by
  have := am_shH0 ⟨ρ - 58, by omega⟩
  rwa [show 58 + (ρ - 58) = ρ from by omega] at this
theorem am_rfH {ρ : Nat} (h : 58 ≤ ρ ∧ ρ < 78) (j : Nat) : am_rf ρ j = none := by
  unfold am_rf
  split <;> first | rfl | omega
section AMH
variable {kz : am_Z} {R : Option am_V × am_M} {d mi pc a b : Nat} {c : Int} {L : am_L} {st : List am_V} {M : am_M} {V : Nat → Nat → Int} {x : Int}
theorem ev_aldHn {ρ : Nat} (hρ : 58 ≤ ρ ∧ ρ < 78) {nn : Fin 4} {len : Nat} (hcd : am_cd mi pc = some (len, .aload_n nn, a, b, c)) (hL : L[a]? = some (some (.inr (.inr ((ρ : Nat) : Int))))) (h : Ev kz (d, mi, pc + len, L, .inr (.inr ((ρ : Nat) : Int)) :: st, M) R) : Ev kz (d, mi, pc, L, st, M) R := by
  refine ev_seg 1 (fun k => ?_) h
  show am_step am_cd am_rk kz k _ = _
  have e : am_lda a L st = some (L, .inr (.inr ((ρ : Nat) : Int)) :: st) := by
    unfold am_lda
    rw [hL]
    show (if ((ρ : Nat) : Int) = 0 ∨ ((ρ : Nat) : Int) = -8 then none else _) = _
    rw [if_neg (by omega)]
  unfold am_step
  simp only [hcd]
  show am_goL k d mi (pc + len) M (am_lda a L st) = _
  rw [e]; rfl
theorem ev_aldHw {ρ : Nat} (hρ : 58 ≤ ρ ∧ ρ < 78) {nn len : Nat} (hcd : am_cd mi pc = some (len, .aload nn, a, b, c)) (hL : L[a]? = some (some (.inr (.inr ((ρ : Nat) : Int))))) (h : Ev kz (d, mi, pc + len, L, .inr (.inr ((ρ : Nat) : Int)) :: st, M) R) : Ev kz (d, mi, pc, L, st, M) R := by
  refine ev_seg 1 (fun k => ?_) h
  show am_step am_cd am_rk kz k _ = _
  have e : am_lda a L st = some (L, .inr (.inr ((ρ : Nat) : Int)) :: st) := by
    unfold am_lda
    rw [hL]
    show (if ((ρ : Nat) : Int) = 0 ∨ ((ρ : Nat) : Int) = -8 then none else _) = _
    rw [if_neg (by omega)]
  unfold am_step
  simp only [hcd]
  show am_goL k d mi (pc + len) M (am_lda a L st) = _
  rw [e]; rfl
theorem ev_alenH {ρ : Nat} (hρ : 58 ≤ ρ ∧ ρ < 78) (hcd : am_cd mi pc = some (1, .arraylength, a, b, c)) (h : Ev kz (d, mi, pc + 1, L, .inl 35 :: st, (am_sh, V)) R) : Ev kz (d, mi, pc, L, .inr (.inr ((ρ : Nat) : Int)) :: st, (am_sh, V)) R := by
  refine ev_seg 1 (fun k => ?_) h
  show am_step am_cd am_rk kz k _ = _
  unfold am_step
  simp only [hcd]
  unfold am_alen am_cell
  have hr : (0 : Int) < ((ρ : Nat) : Int) := by omega
  have hs : am_sh[((ρ : Nat) : Int).toNat]? = some (100, 35) := am_shH hρ
  simp only [if_pos hr, hs]
  rfl
theorem ev_retc (hcd : am_cd mi pc = some (1, .ireturn, a, b, c)) (hrk : am_rk mi = 4) (hx : 0 ≤ x ∧ x < 65536) : Ev kz (d, mi, pc, L, [.inl x], M) (some (.inl x), M) := by
  refine ev_end 1 (fun k => ?_)
  show am_step am_cd am_rk kz k _ = _
  unfold am_step
  simp only [hcd, hrk]
  show (if 0 ≤ x ∧ x < 65536 then _ else _) = _
  rw [if_pos hx]
theorem ev_retb (hcd : am_cd mi pc = some (1, .ireturn, a, b, c)) (hrk : am_rk mi = 5) (hx : -128 ≤ x ∧ x < 128) : Ev kz (d, mi, pc, L, [.inl x], M) (some (.inl x), M) := by
  refine ev_end 1 (fun k => ?_)
  show am_step am_cd am_rk kz k _ = _
  unfold am_step
  simp only [hcd, hrk]
  show (if -128 ≤ x ∧ x < 128 then _ else _) = _
  rw [if_pos hx]
end AMH
