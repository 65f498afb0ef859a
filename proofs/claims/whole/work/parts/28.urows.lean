/-! rows over the built heap: cells by number, memory am_mm U -/
section AMU2
variable {kz : am_Z} {R : Option am_V × am_M} {d mi pc a b : Nat} {c : Int} {L : am_L} {st : List am_V} {U : Nat → Nat → Int} {n : Nat} {i x : Int}
theorem eu_iald (r : Nat) (hcd : am_cd mi pc = some (1, .iaload, a, b, c)) (hr : 0 < r) (hs : am_sh[r]? = some (100, n)) (hf : ∀ j, am_rf r j = none) (h0 : 0 ≤ i ∧ i < n) (h : Ev kz (d, mi, pc + 1, L, .inl (U r i.toNat) :: st, (am_sh, am_mm U)) R) : Ev kz (d, mi, pc, L, .inl i :: .inr (.inr (r : Int)) :: st, (am_sh, am_mm U)) R := by
  refine ev_iald (n := n) hcd (by omega) hs h0 ?_
  have e : am_mm U (r : Int).toNat i.toNat = U r i.toNat := by
    show am_mm U r i.toNat = _
    unfold am_mm; rw [hf]
  rw [e]; exact h
theorem eu_lald (r : Nat) (hcd : am_cd mi pc = some (1, .laload, a, b, c)) (hr : 0 < r) (hs : am_sh[r]? = some (101, n)) (hf : ∀ j, am_rf r j = none) (h0 : 0 ≤ i ∧ i < n) (h : Ev kz (d, mi, pc + 1, L, .inr (.inl (U r i.toNat)) :: st, (am_sh, am_mm U)) R) : Ev kz (d, mi, pc, L, .inl i :: .inr (.inr (r : Int)) :: st, (am_sh, am_mm U)) R := by
  refine ev_lald (n := n) hcd (by omega) hs h0 ?_
  have e : am_mm U (r : Int).toNat i.toNat = U r i.toNat := by
    show am_mm U r i.toNat = _
    unfold am_mm; rw [hf]
  rw [e]; exact h
theorem eu_bald (r : Nat) (hcd : am_cd mi pc = some (1, .baload, a, b, c)) (hr : 0 < r) (hs : am_sh[r]? = some (102, n)) (hf : ∀ j, am_rf r j = none) (h0 : 0 ≤ i ∧ i < n) (h : Ev kz (d, mi, pc + 1, L, .inl (U r i.toNat) :: st, (am_sh, am_mm U)) R) : Ev kz (d, mi, pc, L, .inl i :: .inr (.inr (r : Int)) :: st, (am_sh, am_mm U)) R := by
  refine ev_bald (n := n) hcd (by omega) hs h0 ?_
  have e : am_mm U (r : Int).toNat i.toNat = U r i.toNat := by
    show am_mm U r i.toNat = _
    unfold am_mm; rw [hf]
  rw [e]; exact h
theorem eu_zald (r : Nat) (hcd : am_cd mi pc = some (1, .baload, a, b, c)) (hr : 0 < r) (hs : am_sh[r]? = some (103, n)) (hf : ∀ j, am_rf r j = none) (h0 : 0 ≤ i ∧ i < n) (h : Ev kz (d, mi, pc + 1, L, .inl (U r i.toNat) :: st, (am_sh, am_mm U)) R) : Ev kz (d, mi, pc, L, .inl i :: .inr (.inr (r : Int)) :: st, (am_sh, am_mm U)) R := by
  refine ev_zald (n := n) hcd (by omega) hs h0 ?_
  have e : am_mm U (r : Int).toNat i.toNat = U r i.toNat := by
    show am_mm U r i.toNat = _
    unfold am_mm; rw [hf]
  rw [e]; exact h
theorem eu_iast (r : Nat) (hcd : am_cd mi pc = some (1, .iastore, a, b, c)) (hr : 0 < r) (hs : am_sh[r]? = some (100, n)) (hf : ∀ j, am_rf r j = none) (h0 : 0 ≤ i ∧ i < n) (h : Ev kz (d, mi, pc + 1, L, st, (am_sh, am_mm (am_upd U r i.toNat x))) R) : Ev kz (d, mi, pc, L, .inl (x) :: .inl i :: .inr (.inr (r : Int)) :: st, (am_sh, am_mm U)) R := by
  refine ev_iast (n := n) hcd (by omega) hs h0 ?_
  rw [show (r : Int).toNat = r from rfl, am_mm_upd (hf _)]
  exact h
theorem eu_last (r : Nat) (hcd : am_cd mi pc = some (1, .lastore, a, b, c)) (hr : 0 < r) (hs : am_sh[r]? = some (101, n)) (hf : ∀ j, am_rf r j = none) (h0 : 0 ≤ i ∧ i < n) (h : Ev kz (d, mi, pc + 1, L, st, (am_sh, am_mm (am_upd U r i.toNat x))) R) : Ev kz (d, mi, pc, L, .inr (.inl (x)) :: .inl i :: .inr (.inr (r : Int)) :: st, (am_sh, am_mm U)) R := by
  refine ev_last (n := n) hcd (by omega) hs h0 ?_
  rw [show (r : Int).toNat = r from rfl, am_mm_upd (hf _)]
  exact h
theorem eu_bast (r : Nat) (hx : -128 ≤ x ∧ x < 128) (hcd : am_cd mi pc = some (1, .bastore, a, b, c)) (hr : 0 < r) (hs : am_sh[r]? = some (102, n)) (hf : ∀ j, am_rf r j = none) (h0 : 0 ≤ i ∧ i < n) (h : Ev kz (d, mi, pc + 1, L, st, (am_sh, am_mm (am_upd U r i.toNat x))) R) : Ev kz (d, mi, pc, L, .inl (x) :: .inl i :: .inr (.inr (r : Int)) :: st, (am_sh, am_mm U)) R := by
  refine ev_bast (n := n) hx hcd (by omega) hs h0 ?_
  rw [show (r : Int).toNat = r from rfl, am_mm_upd (hf _)]
  exact h
theorem eu_zast (r : Nat) (hx : x = 0 ∨ x = 1) (hcd : am_cd mi pc = some (1, .bastore, a, b, c)) (hr : 0 < r) (hs : am_sh[r]? = some (103, n)) (hf : ∀ j, am_rf r j = none) (h0 : 0 ≤ i ∧ i < n) (h : Ev kz (d, mi, pc + 1, L, st, (am_sh, am_mm (am_upd U r i.toNat x))) R) : Ev kz (d, mi, pc, L, .inl (x) :: .inl i :: .inr (.inr (r : Int)) :: st, (am_sh, am_mm U)) R := by
  refine ev_zast (n := n) hx hcd (by omega) hs h0 ?_
  rw [show (r : Int).toNat = r from rfl, am_mm_upd (hf _)]
  exact h
theorem eu_puti (r : Nat) {nn : Nat} (hcd : am_cd mi pc = some (3, .putfield nn, a, b, 0)) (hr : 0 < r) (hs : am_sh[r]? = some (a, n)) (hf : am_rf r b = none) (h : Ev kz (d, mi, pc + 3, L, st, (am_sh, am_mm (am_upd U r b x))) R) : Ev kz (d, mi, pc, L, .inl (x) :: .inr (.inr (r : Int)) :: st, (am_sh, am_mm U)) R := by
  refine ev_seg 1 (fun k => ?_) h
  show am_step am_cd am_rk kz k _ = _
  unfold am_step
  simp only [hcd]
  unfold am_putf
  have hr' : (0 : Int) < (r : Int) := by omega
  have hs' : am_sh[(r : Int).toNat]? = some (a, n) := hs
  simp only [if_pos hr', hs', if_true]
  have e : am_pv (0 : Int).toNat (.inl (x)) = some x := rfl
  rw [e]
  show k (d, mi, pc + 3, L, st, (am_sh, am_upd (am_mm U) r b x)) = _
  rw [am_mm_upd hf]
theorem eu_putj (r : Nat) {nn : Nat} (hcd : am_cd mi pc = some (3, .putfield nn, a, b, 1)) (hr : 0 < r) (hs : am_sh[r]? = some (a, n)) (hf : am_rf r b = none) (h : Ev kz (d, mi, pc + 3, L, st, (am_sh, am_mm (am_upd U r b x))) R) : Ev kz (d, mi, pc, L, .inr (.inl (x)) :: .inr (.inr (r : Int)) :: st, (am_sh, am_mm U)) R := by
  refine ev_seg 1 (fun k => ?_) h
  show am_step am_cd am_rk kz k _ = _
  unfold am_step
  simp only [hcd]
  unfold am_putf
  have hr' : (0 : Int) < (r : Int) := by omega
  have hs' : am_sh[(r : Int).toNat]? = some (a, n) := hs
  simp only [if_pos hr', hs', if_true]
  have e : am_pv (1 : Int).toNat (.inr (.inl (x))) = some x := rfl
  rw [e]
  show k (d, mi, pc + 3, L, st, (am_sh, am_upd (am_mm U) r b x)) = _
  rw [am_mm_upd hf]
theorem eu_putz (r : Nat) {nn : Nat} (hcd : am_cd mi pc = some (3, .putfield nn, a, b, 3)) (hr : 0 < r) (hs : am_sh[r]? = some (a, n)) (hf : am_rf r b = none) (hx : x = 0 ∨ x = 1) (h : Ev kz (d, mi, pc + 3, L, st, (am_sh, am_mm (am_upd U r b x))) R) : Ev kz (d, mi, pc, L, .inl x :: .inr (.inr (r : Int)) :: st, (am_sh, am_mm U)) R := by
  refine ev_putz (n := n) hcd (by omega) hs hx ?_
  rw [show (r : Int).toNat = r from rfl, am_mm_upd hf]
  exact h
end AMU2
/-- NumberDoor.isPerson: a first method by rows -/
theorem ct_isPerson (kz : am_Z) (d : Nat) (x : Int) (U : Nat → Nat → Int) : Ev kz (d, 114, 0, [some (.inr (.inr 1)), some (.inl x)], [], (am_sh, am_mm U)) (some (.inl (if 0 ≤ x ∧ x < U 16 0 then 1 else 0)), (am_sh, am_mm U)) := by
  refine ev_br (P := x < 0) (σ1 := (d, 114, 19, [some (.inr (.inr 1)), some (.inl x)], [], (am_sh, am_mm U))) (σ2 := (d, 114, 4, [some (.inr (.inr 1)), some (.inl x)], [], (am_sh, am_mm U))) 2 (fun k => rfl) (fun h => ?_) (fun h => ?_)
  · refine ev_end 2 (fun k => ?_)
    rw [if_neg (by omega)]
    rfl
  · refine ev_br (P := U 16 0 ≤ x) (σ1 := (d, 114, 19, [some (.inr (.inr 1)), some (.inl x)], [], (am_sh, am_mm U))) (σ2 := (d, 114, 15, [some (.inr (.inr 1)), some (.inl x)], [], (am_sh, am_mm U))) 5 (fun k => rfl) (fun h2 => ?_) (fun h2 => ?_)
    · refine ev_end 2 (fun k => ?_)
      rw [if_neg (by omega)]
      rfl
    · refine ev_end 3 (fun k => ?_)
      rw [if_pos (by omega)]
      rfl
/-- a call: its own run, then what goes on behind it -/
theorem ev_cal {kz : am_Z} {σ σc : am_S} {d mi pc : Nat} {L : am_L} {rest : List am_V} {q r : Option am_V × am_M} (h : ∀ k : am_S → am_R, am_step am_cd am_rk kz k σ = am_back k d mi pc L rest (k σc)) (h1 : Ev kz σc q) (h2 : Ev kz (d, mi, pc, L, q.1.toList ++ rest, q.2) r) : Ev kz σ r := by
  obtain ⟨n1, hn1⟩ := h1
  obtain ⟨n2, hn2⟩ := h2
  refine ⟨max n1 n2 + 1, ?_⟩
  show am_step am_cd am_rk kz (am_exec am_cd am_rk kz (max n1 n2)) σ = some r
  rw [h, am_exec_mono (Nat.le_max_left n1 n2) hn1]
  exact am_exec_mono (Nat.le_max_right n1 n2) hn2
/-- a table switch: by its value -/
theorem ev_sw {kz : am_Z} {d mi pc a b len : Nat} {c x dflt lo hi off : Int} {offs : Array Int} {L : am_L} {st : List am_V} {M : am_M} {R : Option am_V × am_M} (hcd : am_cd mi pc = some (len, .tableswitch dflt lo hi offs, a, b, c)) (h0 : am_sw dflt lo hi offs x = some off) {pt : Nat} (hp : ((pc : Int) + off).toNat = pt) (h : Ev kz (d, mi, pt, L, st, M) R) : Ev kz (d, mi, pc, L, .inl x :: st, M) R := by
  subst hp
  refine ev_seg 1 (fun k => ?_) h
  show am_step am_cd am_rk kz k _ = _
  unfold am_step
  simp only [hcd, h0]
theorem ev_lsw {kz : am_Z} {d mi pc a b len : Nat} {c x dflt : Int} {ps : Array (Int × Int)} {L : am_L} {st : List am_V} {M : am_M} {R : Option am_V × am_M} (hcd : am_cd mi pc = some (len, .lookupswitch dflt ps, a, b, c)) {pt : Nat} (hp : ((pc : Int) + Op.lookupswitch.offset ps.toList dflt x).toNat = pt) (h : Ev kz (d, mi, pt, L, st, M) R) : Ev kz (d, mi, pc, L, .inl x :: st, M) R := by
  subst hp
  refine ev_seg 1 (fun k => ?_) h
  show am_step am_cd am_rk kz k _ = _
  unfold am_step
  simp only [hcd]
