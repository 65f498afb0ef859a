/-! the constructors: memory as a list of what was written -/
def uL (b : am_U) : List (Nat × Nat × Int) → am_U
  | [] => b
  | (r, j, x) :: l => am_upd (uL b l) r j x
def bsA : am_U := fun _ _ => 0
def bsB : am_U := fun r j => if r = 57 then ((58 + j : Nat) : Int) else 0
def uBelow (l : List (Nat × Nat × Int)) (n : Nat) : Bool := l.all (fun e => Nat.blt e.1 n)
theorem uL_out {b : am_U} {l : List (Nat × Nat × Int)} {n r j : Nat} (h : uBelow l n = true) (hr : n ≤ r) : uL b l r j = b r j := by
  induction l with
  | nil => rfl
  | cons e l ih =>
    obtain ⟨a, c, x⟩ := e
    unfold uBelow at h ih
    rw [List.all_cons, Bool.and_eq_true] at h
    have h1 : a < n := by
      have := h.1
      simpa [Nat.blt_eq] using this
    show am_upd (uL b l) a c x r j = _
    unfold am_upd
    rw [if_neg (by omega)]
    exact ih h.2
theorem shT_len {N : Nat} {p : Nat × Nat} (h : am_sh[N]? = some p) : (am_sh.take N).length = N := by
  have h1 := (List.getElem?_eq_some_iff.mp h).1
  rw [List.length_take]
  omega
theorem shT_app {N : Nat} {p : Nat × Nat} (h : am_sh[N]? = some p) : am_sh.take N ++ [p] = am_sh.take (N + 1) := by
  rw [List.take_add_one, h]
  rfl
theorem shT_get {N r : Nat} {p : Nat × Nat} (h : am_sh[r]? = some p) (hr : Nat.blt r N = true) : (am_sh.take N)[r]? = some p := by
  rw [List.getElem?_take, if_pos (by simpa [Nat.blt_eq] using hr), h]
section CTR
variable {kz : am_Z} {R : Option am_V × am_M} {d mi pc a b n N : Nat} {c : Int} {L : am_L} {st : List am_V} {bs : am_U} {l : List (Nat × Nat × Int)} {q : Int}
theorem am_new0 {so : Nat} (hN : am_sh[N]? = some (so, n)) (hg : N ≠ 28) (hz : uBelow l N = true) (hb : ∀ j, bs N j = 0) : am_new (am_sh.take N, uL bs l) so n (fun _ => 0) = (am_sh.take (N + 1), uL bs l) := by
  have eg : am_gap (am_sh.take N).length = [] := by
    rw [shT_len hN]
    unfold am_gap
    rw [if_neg hg]
  show (am_sh.take N ++ ((so, n) :: am_gap (am_sh.take N).length), fun r j => if r = (am_sh.take N).length then (0 : Int) else uL bs l r j) = _
  rw [eg, shT_app hN]
  congr 1
  funext r j
  rw [shT_len hN]
  split
  · rename_i e
    rw [e, uL_out hz (Nat.le_refl N), hb]
  · rfl
theorem cn_seg {pc' : Nat} {L' : am_L} {st' : List am_V} {M : am_M} (j : Nat) (h : ∀ (k : am_S → am_R) (M : am_M), am_stepN am_cd am_rk kz k j (d, mi, pc, L, st, M) = k (d, mi, pc', L', st', M)) (h1 : Ev kz (d, mi, pc', L', st', M) R) : Ev kz (d, mi, pc, L, st, M) R := ev_seg j (fun k => h k M) h1
theorem cn_newo {x : Nat} (hcd : am_cd mi pc = some (3, .new x, a, b, c)) (hN : am_sh[N]? = some (a, b)) (hg : N ≠ 28) (hz : uBelow l N = true) (hb : ∀ j, bs N j = 0) (hq : (N : Int) = q) {pt : Nat} (hp : pc + 3 = pt) (h : Ev kz (d, mi, pt, L, .inr (.inr q) :: st, (am_sh.take (N + 1), uL bs l)) R) : Ev kz (d, mi, pc, L, st, (am_sh.take N, uL bs l)) R := by
  subst hq hp
  refine ev_seg 1 (fun k => ?_) h
  show am_step am_cd am_rk kz k _ = _
  unfold am_step
  simp only [hcd]
  rw [am_new0 hN hg hz hb]
  show k (_, _, _, _, .inr (.inr ((am_sh.take N).length : Int)) :: _, _) = _
  rw [shT_len hN]
theorem cn_newa {t} {m : Int} (hcd : am_cd mi pc = some (2, .newarray t, a, b, c)) (hN : am_sh[N]? = some (a, n)) (hg : N ≠ 28) (hm : m = (n : Int)) (hl : Nat.ble n 1000000 = true) (hz : uBelow l N = true) (hb : ∀ j, bs N j = 0) (hq : (N : Int) = q) {pt : Nat} (hp : pc + 2 = pt) (h : Ev kz (d, mi, pt, L, .inr (.inr q) :: st, (am_sh.take (N + 1), uL bs l)) R) : Ev kz (d, mi, pc, L, .inl m :: st, (am_sh.take N, uL bs l)) R := by
  subst hq hp hm
  have hl' : n ≤ 1000000 := by simpa using hl
  refine ev_seg 1 (fun k => ?_) h
  show am_step am_cd am_rk kz k _ = _
  unfold am_step
  simp only [hcd]
  unfold am_newa
  simp only
  rw [if_pos ⟨by omega, by omega⟩, Int.toNat_natCast, am_new0 hN hg hz hb]
  show k (_, _, _, _, .inr (.inr ((am_sh.take N).length : Int)) :: _, _) = _
  rw [shT_len hN]
/-- the row behind which the numbers have their gap -/
theorem am_newG (hz : uBelow l 28 = true) (hb : ∀ j, bs 28 j = 0) : am_new (am_sh.take 28, uL bs l) 101 1601 (fun _ => 0) = (am_sh.take 31, uL bs l) := by
  have hN : am_sh[28]? = some (101, 1601) := by decide +kernel
  have e : am_sh.take 28 ++ ((101, 1601) :: am_gap 28) = am_sh.take 31 := by decide +kernel
  show (am_sh.take 28 ++ ((101, 1601) :: am_gap (am_sh.take 28).length), fun r j => if r = (am_sh.take 28).length then (0 : Int) else uL bs l r j) = _
  rw [shT_len hN, e]
  congr 1
  funext r j
  split
  · rename_i e
    rw [e, uL_out hz (Nat.le_refl 28), hb]
  · rfl
theorem cn_newaG {t} {m : Int} (hcd : am_cd mi pc = some (2, .newarray t, 101, b, c)) (hm : m = 1601) (hz : uBelow l 28 = true) (hb : ∀ j, bs 28 j = 0) {pt : Nat} (hp : pc + 2 = pt) (h : Ev kz (d, mi, pt, L, .inr (.inr 28) :: st, (am_sh.take 31, uL bs l)) R) : Ev kz (d, mi, pc, L, .inl m :: st, (am_sh.take 28, uL bs l)) R := by
  subst hp hm
  have hN : am_sh[28]? = some (101, 1601) := by decide +kernel
  refine ev_seg 1 (fun k => ?_) h
  show am_step am_cd am_rk kz k _ = _
  unfold am_step
  simp only [hcd]
  unfold am_newa
  simp only
  rw [if_pos ⟨by decide, by decide⟩, show (1601 : Int).toNat = 1601 from rfl, am_newG hz hb]
  show k (_, _, _, _, .inr (.inr ((am_sh.take 28).length : Int)) :: _, _) = _
  rw [shT_len hN]
  rfl
theorem cn_put {x : Nat} {v : am_V} {y r : Int} {rn m : Nat} (hcd : am_cd mi pc = some (3, .putfield x, a, b, c)) (hr : r = (rn : Int)) (h0 : Nat.blt 0 rn = true) (hs : am_sh[rn]? = some (a, m)) (hN : Nat.blt rn N = true) (hv : am_pv c.toNat v = some y) {pt : Nat} (hp : pc + 3 = pt) (h : Ev kz (d, mi, pt, L, st, (am_sh.take N, uL bs ((rn, b, y) :: l))) R) : Ev kz (d, mi, pc, L, v :: .inr (.inr r) :: st, (am_sh.take N, uL bs l)) R := by
  subst hr hp
  have h0' : 0 < rn := by simpa [Nat.blt_eq] using h0
  refine ev_seg 1 (fun k => ?_) h
  show am_step am_cd am_rk kz k _ = _
  unfold am_step
  simp only [hcd]
  unfold am_putf
  simp only [Int.toNat_natCast]
  rw [if_pos (by omega), shT_get hs hN]
  simp only [hv]
  rw [if_pos trivial]
  rfl
theorem cn_get {x : Nat} {y r : Int} {v : am_V} {rn m : Nat} (hcd : am_cd mi pc = some (3, .getfield x, a, b, c)) (hr : r = (rn : Int)) (h0 : Nat.blt 0 rn = true) (hs : am_sh[rn]? = some (a, m)) (hN : Nat.blt rn N = true) (hy : uL bs l rn b = y) (hv : am_tv c.toNat y = v) {pt : Nat} (hp : pc + 3 = pt) (h : Ev kz (d, mi, pt, L, v :: st, (am_sh.take N, uL bs l)) R) : Ev kz (d, mi, pc, L, .inr (.inr r) :: st, (am_sh.take N, uL bs l)) R := by
  subst hr hp hv hy
  have h0' : 0 < rn := by simpa [Nat.blt_eq] using h0
  refine ev_seg 1 (fun k => ?_) h
  show am_step am_cd am_rk kz k _ = _
  unfold am_step
  simp only [hcd]
  unfold am_getf am_cell
  simp only [Int.toNat_natCast]
  rw [if_pos (by omega), shT_get hs hN]
  simp only
  rw [if_pos trivial]
  rfl
theorem cn_obj {r : Int} {w : Nat} (hd : Nat.blt 0 d = true) (hcd : am_cd mi pc = some (3, .invokespecial w, 9998, 0, 0)) (hr : (0 : Int) < r) {pt : Nat} (hp : pc + 3 = pt) {M : am_M} (h : Ev kz (d, mi, pt, L, [], M) R) : Ev kz (d, mi, pc, L, [.inr (.inr r)], M) R := by
  subst hp
  refine ev_seg 1 (fun k => ?_) h
  show am_step am_cd am_rk kz k _ = _
  unfold am_step
  simp only [hcd]
  cases d with
  | zero => cases hd
  | succ d =>
    show (if 0 < r ∧ _ then _ else _) = _
    rw [if_pos ⟨hr, by decide⟩]
/-- Arrays.fill of a row of longs: one round, and the end -/
theorem cn_fill1 {r i n x : Int} {rn nn inn : Nat} (hr : r = (rn : Int)) (h0 : Nat.blt 0 rn = true) (hs : am_sh[rn]? = some (101, nn)) (hN : Nat.blt rn N = true) (hi : i = (inn : Int)) (hn : n = (nn : Int)) (hlt : Nat.blt inn nn = true) (hw : w32 (i + 1) = ((inn + 1 : Nat) : Int)) (hld : ∀ (k : am_S → am_R) (M : am_M), am_stepN am_cd am_rk kz k 3 (d, 173, 12, [some (.inr (.inr r)), some (.inr (.inl x)), none, some (.inl i), some (.inl n)], [], M) = k (d, 173, 15, [some (.inr (.inr r)), some (.inr (.inl x)), none, some (.inl i), some (.inl n)], [.inr (.inl x), .inl i, .inr (.inr r)], M)) (h : Ev kz (d, 173, 6, [some (.inr (.inr r)), some (.inr (.inl x)), none, some (.inl ((inn + 1 : Nat) : Int)), some (.inl n)], [], (am_sh.take N, uL bs ((rn, inn, x) :: l))) R) : Ev kz (d, 173, 6, [some (.inr (.inr r)), some (.inr (.inl x)), none, some (.inl i), some (.inl n)], [], (am_sh.take N, uL bs l)) R := by
  have h0' : 0 < rn := by simpa [Nat.blt_eq] using h0
  have hlt' : inn < nn := by simpa [Nat.blt_eq] using hlt
  subst hr hi hn
  refine ev_br (P := (nn : Int) ≤ (inn : Int)) (σ1 := (d, 173, 22, [some (.inr (.inr (rn : Int))), some (.inr (.inl x)), none, some (.inl (inn : Int)), some (.inl (nn : Int))], [], (am_sh.take N, uL bs l))) (σ2 := (d, 173, 12, [some (.inr (.inr (rn : Int))), some (.inr (.inl x)), none, some (.inl (inn : Int)), some (.inl (nn : Int))], [], (am_sh.take N, uL bs l))) 3 (fun k => rfl) (fun hq => absurd hq (by omega)) (fun _ => ?_)
  refine cn_seg 3 hld ?_
  refine ev_seg (σ1 := (d, 173, 16, [some (.inr (.inr (rn : Int))), some (.inr (.inl x)), none, some (.inl (inn : Int)), some (.inl (nn : Int))], [], (am_sh.take N, uL bs ((rn, inn, x) :: l)))) 1 (fun k => ?_) ?_
  · show am_goM k d 173 16 _ (am_ast (fun so => so == 101) 1 (am_sh.take N, uL bs l) _) = _
    unfold am_ast
    simp only [Int.toNat_natCast]
    rw [if_pos (by omega), shT_get hs hN]
    simp only [am_pv]
    rw [if_pos ⟨rfl, by omega, by omega, rfl⟩]
    rfl
  refine ev_seg 2 (fun k => ?_) h
  show k (d, 173, 6, [some (.inr (.inr (rn : Int))), some (.inr (.inl x)), none, some (.inl (w32 ((inn : Int) + 1))), some (.inl (nn : Int))], [], _) = _
  rw [hw]
theorem cn_fill0 {r n x : Int} {M : am_M} : Ev kz (d, 173, 6, [some (.inr (.inr r)), some (.inr (.inl x)), none, some (.inl n), some (.inl n)], [], M) (none, M) := by
  refine ev_br (P := n ≤ n) (σ1 := (d, 173, 22, [some (.inr (.inr r)), some (.inr (.inl x)), none, some (.inl n), some (.inl n)], [], M)) (σ2 := (d, 173, 12, [some (.inr (.inr r)), some (.inr (.inl x)), none, some (.inl n), some (.inl n)], [], M)) 3 (fun k => rfl) (fun _ => ?_) (fun h => absurd (Int.le_refl n) h)
  exact ev_end 1 (fun k => rfl)
end CTR
theorem uBelow_le {l : List (Nat × Nat × Int)} {n k : Nat} (h : uBelow l n = true) (hk : n ≤ k) : uBelow l k = true := by
  unfold uBelow at h ⊢
  rw [List.all_eq_true] at h ⊢
  intro e he
  have := h e he
  simp only [Nat.blt_eq] at this ⊢
  omega
theorem uL_bs {l : List (Nat × Nat × Int)} {r j : Nat} (hr : r ≠ 57) : uL bsA l r j = uL bsB l r j := by
  induction l with
  | nil => show (0 : Int) = if r = 57 then _ else 0; rw [if_neg hr]
  | cons e l ih =>
    obtain ⟨a, c, x⟩ := e
    show am_upd (uL bsA l) a c x r j = am_upd (uL bsB l) a c x r j
    unfold am_upd
    rw [ih]
theorem cn_news {l : List (Nat × Nat × Int)} (hz : uBelow l 57 = true) (k : Nat) (hk : k ≤ 20) : am_news (am_sh.take 58, uL bsB l) 100 35 k = (am_sh.take (58 + k), uL bsB l) := by
  induction k with
  | zero => rfl
  | succ k ih =>
    show am_new (am_news _ 100 35 k) 100 35 (fun _ => 0) = _
    rw [ih (by omega)]
    have hS : ∀ k : Fin 20, am_sh[58 + k.val]? = some (100, 35) := by decide +kernel
    exact am_new0 (hS ⟨k, by omega⟩) (by omega) (uBelow_le hz (by omega)) (fun j => by
      show (if 58 + k = 57 then _ else (0 : Int)) = 0
      rw [if_neg (by omega)])
theorem cn_newm {kz : am_Z} {R : Option am_V × am_M} {d mi pc a b : Nat} {c : Int} {L : am_L} {st : List am_V} {l : List (Nat × Nat × Int)} {x y} (hcd : am_cd mi pc = some (4, .multianewarray x y, a, b, c)) (hz : uBelow l 57 = true) {pt : Nat} (hp : pc + 4 = pt) (h : Ev kz (d, mi, pt, L, .inr (.inr 57) :: st, (am_sh.take 78, uL bsB l)) R) : Ev kz (d, mi, pc, L, .inl 35 :: .inl 20 :: st, (am_sh.take 57, uL bsA l)) R := by
  subst hp
  refine ev_seg 1 (fun k => ?_) h
  show am_step am_cd am_rk kz k _ = _
  unfold am_step
  simp only [hcd]
  have hN : am_sh[57]? = some (104, 20) := by decide +kernel
  have h1 : am_new (am_sh.take 57, uL bsA l) 104 20 (fun j => ((am_sh.take 57).length + 1 + j : Nat)) = (am_sh.take 58, uL bsB l) := by
    have eg : am_gap (am_sh.take 57).length = [] := by rw [shT_len hN]; rfl
    show (am_sh.take 57 ++ ((104, 20) :: am_gap (am_sh.take 57).length), fun r j => if r = (am_sh.take 57).length then (((am_sh.take 57).length + 1 + j : Nat) : Int) else uL bsA l r j) = _
    rw [eg, shT_app hN]
    congr 1
    funext r j
    rw [shT_len hN]
    split
    · rename_i e
      rw [e, uL_out hz (Nat.le_refl 57)]
      rfl
    · rename_i e
      exact uL_bs e
  have hc : (0 : Int) ≤ 20 ∧ (20 : Int) ≤ 1000 ∧ (0 : Int) ≤ 35 ∧ (35 : Int) ≤ 1000 ∧ 31 ≤ (am_sh.take 57).length := ⟨by decide, by decide, by decide, by decide, by rw [shT_len hN]; decide⟩
  show am_goM k d mi (pc + 4) L (if (0 : Int) ≤ 20 ∧ (20 : Int) ≤ 1000 ∧ (0 : Int) ≤ 35 ∧ (35 : Int) ≤ 1000 ∧ 31 ≤ (am_sh.take 57).length then some (.inr (.inr (((am_sh.take 57).length : Nat) : Int)) :: st, am_news (am_new (am_sh.take 57, uL bsA l) 104 20 (fun j => ((am_sh.take 57).length + 1 + j : Nat))) 100 35 20) else none) = _
  rw [if_pos hc, h1, cn_news hz 20 (by decide), shT_len hN]
  rfl
