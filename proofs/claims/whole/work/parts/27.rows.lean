section AMY
variable {kz : am_Z} {R : Option am_V × am_M} {d mi pc a b : Nat} {c : Int} {L : am_L} {st : List am_V} {V : Nat → Nat → Int} {M : am_M} {n : Nat} {r i x y : Int}
theorem ev_lald (hcd : am_cd mi pc = some (1, .laload, a, b, c)) (hr : 0 < r) (hs : am_sh[r.toNat]? = some (101, n)) (h0 : 0 ≤ i ∧ i < n) (h : Ev kz (d, mi, pc + 1, L, .inr (.inl (V r.toNat i.toNat)) :: st, (am_sh, V)) R) : Ev kz (d, mi, pc, L, .inl i :: .inr (.inr r) :: st, (am_sh, V)) R := by
  refine ev_seg 1 (fun k => ?_) h
  show am_step am_cd am_rk kz k _ = _
  unfold am_step
  simp only [hcd]
  unfold am_ald am_cell
  simp only [if_pos hr, hs]
  rw [if_pos ⟨rfl, h0⟩]
  rfl
theorem ev_bald (hcd : am_cd mi pc = some (1, .baload, a, b, c)) (hr : 0 < r) (hs : am_sh[r.toNat]? = some (102, n)) (h0 : 0 ≤ i ∧ i < n) (h : Ev kz (d, mi, pc + 1, L, .inl (V r.toNat i.toNat) :: st, (am_sh, V)) R) : Ev kz (d, mi, pc, L, .inl i :: .inr (.inr r) :: st, (am_sh, V)) R := by
  refine ev_seg 1 (fun k => ?_) h
  show am_step am_cd am_rk kz k _ = _
  unfold am_step
  simp only [hcd]
  unfold am_ald am_cell
  simp only [if_pos hr, hs]
  rw [if_pos ⟨rfl, h0⟩]
  rfl
theorem ev_zald (hcd : am_cd mi pc = some (1, .baload, a, b, c)) (hr : 0 < r) (hs : am_sh[r.toNat]? = some (103, n)) (h0 : 0 ≤ i ∧ i < n) (h : Ev kz (d, mi, pc + 1, L, .inl (V r.toNat i.toNat) :: st, (am_sh, V)) R) : Ev kz (d, mi, pc, L, .inl i :: .inr (.inr r) :: st, (am_sh, V)) R := by
  refine ev_seg 1 (fun k => ?_) h
  show am_step am_cd am_rk kz k _ = _
  unfold am_step
  simp only [hcd]
  unfold am_ald am_cell
  simp only [if_pos hr, hs]
  rw [if_pos ⟨rfl, h0⟩]
  rfl
theorem ev_aald (hcd : am_cd mi pc = some (1, .aaload, a, b, c)) (hr : 0 < r) (hs : am_sh[r.toNat]? = some (104, n)) (h0 : 0 ≤ i ∧ i < n) (h : Ev kz (d, mi, pc + 1, L, .inr (.inr (V r.toNat i.toNat)) :: st, (am_sh, V)) R) : Ev kz (d, mi, pc, L, .inl i :: .inr (.inr r) :: st, (am_sh, V)) R := by
  refine ev_seg 1 (fun k => ?_) h
  show am_step am_cd am_rk kz k _ = _
  unfold am_step
  simp only [hcd]
  unfold am_ald am_cell
  simp only [if_pos hr, hs]
  rw [if_pos ⟨rfl, h0⟩]
  rfl
theorem ev_iaz {f : Nat → Int} (hcd : am_cd mi pc = some (1, .iaload, a, b, c)) (hr : r < 0) (hs : kz (-r).toNat = (100, n, f)) (h0 : 0 ≤ i ∧ i < n) (h : Ev kz (d, mi, pc + 1, L, .inl (f i.toNat) :: st, M) R) : Ev kz (d, mi, pc, L, .inl i :: .inr (.inr r) :: st, M) R := by
  refine ev_seg 1 (fun k => ?_) h
  show am_step am_cd am_rk kz k _ = _
  unfold am_step
  simp only [hcd]
  unfold am_ald am_cell
  have hr0 : ¬ 0 < r := by omega
  simp only [if_neg hr0, if_pos hr, hs]
  rw [if_pos ⟨rfl, h0⟩]
  rfl
theorem ev_baz {f : Nat → Int} (hcd : am_cd mi pc = some (1, .baload, a, b, c)) (hr : r < 0) (hs : kz (-r).toNat = (102, n, f)) (h0 : 0 ≤ i ∧ i < n) (h : Ev kz (d, mi, pc + 1, L, .inl (f i.toNat) :: st, M) R) : Ev kz (d, mi, pc, L, .inl i :: .inr (.inr r) :: st, M) R := by
  refine ev_seg 1 (fun k => ?_) h
  show am_step am_cd am_rk kz k _ = _
  unfold am_step
  simp only [hcd]
  unfold am_ald am_cell
  have hr0 : ¬ 0 < r := by omega
  simp only [if_neg hr0, if_pos hr, hs]
  rw [if_pos ⟨rfl, h0⟩]
  rfl
theorem ev_last (hcd : am_cd mi pc = some (1, .lastore, a, b, c)) (hr : 0 < r) (hs : am_sh[r.toNat]? = some (101, n)) (h0 : 0 ≤ i ∧ i < n) (h : Ev kz (d, mi, pc + 1, L, st, (am_sh, am_upd V r.toNat i.toNat x)) R) : Ev kz (d, mi, pc, L, .inr (.inl (x)) :: .inl i :: .inr (.inr r) :: st, (am_sh, V)) R := by
  refine ev_seg 1 (fun k => ?_) h
  show am_step am_cd am_rk kz k _ = _
  unfold am_step
  simp only [hcd]
  unfold am_ast
  simp only [if_pos hr, hs, am_pv]
  rw [if_pos ⟨rfl, h0.1, h0.2, rfl⟩]
  rfl
theorem ev_bast (hx : -128 ≤ x ∧ x < 128) (hcd : am_cd mi pc = some (1, .bastore, a, b, c)) (hr : 0 < r) (hs : am_sh[r.toNat]? = some (102, n)) (h0 : 0 ≤ i ∧ i < n) (h : Ev kz (d, mi, pc + 1, L, st, (am_sh, am_upd V r.toNat i.toNat x)) R) : Ev kz (d, mi, pc, L, .inl (x) :: .inl i :: .inr (.inr r) :: st, (am_sh, V)) R := by
  refine ev_seg 1 (fun k => ?_) h
  show am_step am_cd am_rk kz k _ = _
  unfold am_step
  simp only [hcd]
  unfold am_ast
  simp only [if_pos hr, hs, am_pv]
  rw [if_pos ⟨rfl, h0.1, h0.2, decide_eq_true hx⟩]
  rfl
theorem ev_zast (hx : x = 0 ∨ x = 1) (hcd : am_cd mi pc = some (1, .bastore, a, b, c)) (hr : 0 < r) (hs : am_sh[r.toNat]? = some (103, n)) (h0 : 0 ≤ i ∧ i < n) (h : Ev kz (d, mi, pc + 1, L, st, (am_sh, am_upd V r.toNat i.toNat x)) R) : Ev kz (d, mi, pc, L, .inl (x) :: .inl i :: .inr (.inr r) :: st, (am_sh, V)) R := by
  refine ev_seg 1 (fun k => ?_) h
  show am_step am_cd am_rk kz k _ = _
  unfold am_step
  simp only [hcd]
  unfold am_ast
  simp only [if_pos hr, hs, am_pv]
  rw [if_pos ⟨rfl, h0.1, h0.2, decide_eq_true hx⟩]
  rfl
theorem ev_idiv (hcd : am_cd mi pc = some (1, .idiv, a, b, c)) (h0 : y ≠ 0) (h : Ev kz (d, mi, pc + 1, L, .inl (w32 (Int.tdiv x y)) :: st, M) R) : Ev kz (d, mi, pc, L, .inl (y) :: .inl (x) :: st, M) R := by
  refine ev_seg 1 (fun k => ?_) h
  show am_step am_cd am_rk kz k _ = _
  unfold am_step
  simp only [hcd, am_pure]
  unfold am_q32
  simp only [if_neg h0]
  rfl
theorem ev_irem (hcd : am_cd mi pc = some (1, .irem, a, b, c)) (h0 : y ≠ 0) (h : Ev kz (d, mi, pc + 1, L, .inl (Int.tmod x y) :: st, M) R) : Ev kz (d, mi, pc, L, .inl (y) :: .inl (x) :: st, M) R := by
  refine ev_seg 1 (fun k => ?_) h
  show am_step am_cd am_rk kz k _ = _
  unfold am_step
  simp only [hcd, am_pure]
  unfold am_q32
  simp only [if_neg h0]
  rfl
theorem ev_ldiv (hcd : am_cd mi pc = some (1, .ldiv, a, b, c)) (h0 : y ≠ 0) (h : Ev kz (d, mi, pc + 1, L, .inr (.inl (w64 (Int.tdiv x y))) :: st, M) R) : Ev kz (d, mi, pc, L, .inr (.inl (y)) :: .inr (.inl (x)) :: st, M) R := by
  refine ev_seg 1 (fun k => ?_) h
  show am_step am_cd am_rk kz k _ = _
  unfold am_step
  simp only [hcd, am_pure]
  unfold am_q64
  simp only [if_neg h0]
  rfl
theorem ev_lrem (hcd : am_cd mi pc = some (1, .lrem, a, b, c)) (h0 : y ≠ 0) (h : Ev kz (d, mi, pc + 1, L, .inr (.inl (Int.tmod x y)) :: st, M) R) : Ev kz (d, mi, pc, L, .inr (.inl (y)) :: .inr (.inl (x)) :: st, M) R := by
  refine ev_seg 1 (fun k => ?_) h
  show am_step am_cd am_rk kz k _ = _
  unfold am_step
  simp only [hcd, am_pure]
  unfold am_q64
  simp only [if_neg h0]
  rfl
theorem ev_flm {idx : Nat} (hcd : am_cd mi pc = some (3, .invokestatic idx, 9995, b, c)) (hd : 1 ≤ d) (hcat : ((.inl y :: .inl x :: st : List am_V).map am_cat).sum ≤ 12) (h0 : y ≠ 0) (h : Ev kz (d, mi, pc + 3, L, .inl (Int.fmod x y) :: st, M) R) : Ev kz (d, mi, pc, L, .inl y :: .inl x :: st, M) R := by
  refine ev_seg 1 (fun k => ?_) h
  show am_step am_cd am_rk kz k _ = _
  obtain ⟨d', rfl⟩ : ∃ d', d = d' + 1 := ⟨d - 1, by omega⟩
  unfold am_step
  simp only [hcd]
  rw [if_neg (by decide), if_pos (by decide), if_pos hcat]
  simp only [am_prim, if_neg h0]
  rfl
theorem ev_fld {idx : Nat} (hcd : am_cd mi pc = some (3, .invokestatic idx, 9996, b, c)) (hd : 1 ≤ d) (hcat : ((.inl y :: .inl x :: st : List am_V).map am_cat).sum ≤ 12) (h0 : y ≠ 0) (h : Ev kz (d, mi, pc + 3, L, .inl (w32 (Int.fdiv x y)) :: st, M) R) : Ev kz (d, mi, pc, L, .inl y :: .inl x :: st, M) R := by
  refine ev_seg 1 (fun k => ?_) h
  show am_step am_cd am_rk kz k _ = _
  obtain ⟨d', rfl⟩ : ∃ d', d = d' + 1 := ⟨d - 1, by omega⟩
  unfold am_step
  simp only [hcd]
  rw [if_neg (by decide), if_pos (by decide), if_pos hcat]
  simp only [am_prim, if_neg h0]
  rfl
theorem ev_putz {nn : Nat} (hcd : am_cd mi pc = some (3, .putfield nn, a, b, 3)) (hr : 0 < r) (hs : am_sh[r.toNat]? = some (a, n)) (hx : x = 0 ∨ x = 1) (h : Ev kz (d, mi, pc + 3, L, st, (am_sh, am_upd V r.toNat b x)) R) : Ev kz (d, mi, pc, L, .inl x :: .inr (.inr r) :: st, (am_sh, V)) R := by
  refine ev_seg 1 (fun k => ?_) h
  show am_step am_cd am_rk kz k _ = _
  unfold am_step
  simp only [hcd]
  unfold am_putf
  simp only [if_pos hr, hs, if_true]
  have e : am_pv (3 : Int).toNat (.inl x) = some x := by
    show (if x = 0 ∨ x = 1 then some x else none) = some x
    rw [if_pos hx]
  rw [e]
  rfl
theorem ev_retz (hcd : am_cd mi pc = some (1, .ireturn, a, b, c)) (hrk : am_rk mi = 2) (hx : x = 0 ∨ x = 1) : Ev kz (d, mi, pc, L, [.inl x], M) (some (.inl x), M) := by
  refine ev_end 1 (fun k => ?_)
  show am_step am_cd am_rk kz k _ = _
  unfold am_step
  simp only [hcd, hrk]
  show (if x = 0 ∨ x = 1 then _ else _) = _
  rw [if_pos hx]
end AMY
