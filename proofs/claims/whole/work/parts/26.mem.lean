/-! the heap behind both constructors: its shape, its references; all else is numbers -/
def am_sh : List (Nat × Nat) := [(999, 0), (0, 19), (100, 1600), (1, 19), (100, 4), (100, 12), (100, 12), (100, 12), (100, 12), (100, 12), (100, 12), (100, 12), (100, 8), (100, 9), (100, 9), (100, 1600), (2, 7), (100, 16), (100, 16), (100, 12), (101, 16), (2, 7), (100, 16), (100, 16), (100, 12), (101, 16), (3, 12), (4, 4), (101, 1601), (77, 0), (77, 0), (1, 19), (100, 4), (100, 12), (100, 12), (100, 12), (100, 12), (100, 12), (100, 12), (100, 12), (100, 8), (100, 9), (100, 9), (100, 1600), (100, 4096), (5, 6), (100, 64), (100, 128), (6, 10), (100, 3), (100, 3), (100, 48), (7, 9), (100, 16), (100, 16), (100, 16), (8, 3), (104, 20), (100, 35), (100, 35), (100, 35), (100, 35), (100, 35), (100, 35), (100, 35), (100, 35), (100, 35), (100, 35), (100, 35), (100, 35), (100, 35), (100, 35), (100, 35), (100, 35), (100, 35), (100, 35), (100, 35), (100, 35), (9, 6), (100, 25), (100, 4), (100, 4), (10, 4), (100, 64), (100, 85), (100, 6), (11, 90), (100, 1800), (100, 2), (101, 8), (100, 2), (101, 24), (100, 24), (100, 24), (100, 2), (100, 20), (100, 20), (100, 2), (100, 32), (100, 32), (100, 2), (100, 16), (100, 16), (100, 16), (100, 2), (100, 2), (100, 2), (100, 32), (100, 32), (100, 32), (100, 2), (100, 3200), (100, 3200), (100, 20), (100, 20), (103, 20), (100, 20), (100, 20), (100, 500), (100, 6), (100, 22), (100, 22), (100, 22), (100, 352), (100, 352), (101, 500), (100, 16), (100, 16), (102, 182784), (103, 144), (100, 16), (100, 65536), (100, 16), (100, 80), (100, 4096), (100, 6), (100, 4), (100, 4), (100, 90)]
def am_rf1 (j : Nat) : Option Int := match j with
  | 0 => some 2
  | 2 => some 26
  | 5 => some 3
  | 6 => some 16
  | 7 => some 21
  | 8 => some 45
  | 9 => some 48
  | 10 => some 52
  | 11 => some 56
  | 12 => some 78
  | 13 => some 82
  | 14 => some 44
  | 15 => some 84
  | 17 => some 85
  | _ => none
def am_rf3 (j : Nat) : Option Int := match j with
  | 6 => some 4
  | 7 => some 5
  | 8 => some 6
  | 9 => some 7
  | 10 => some 8
  | 11 => some 9
  | 12 => some 10
  | 13 => some 11
  | 14 => some 12
  | 15 => some 13
  | 16 => some 14
  | 17 => some 15
  | _ => none
def am_rf16 (j : Nat) : Option Int := match j with
  | 3 => some 17
  | 4 => some 18
  | 5 => some 19
  | 6 => some 20
  | _ => none
def am_rf21 (j : Nat) : Option Int := match j with
  | 3 => some 22
  | 4 => some 23
  | 5 => some 24
  | 6 => some 25
  | _ => none
def am_rf26 (j : Nat) : Option Int := match j with
  | 0 => some 27
  | 1 => some 31
  | 2 => some 21
  | _ => none
def am_rf27 (j : Nat) : Option Int := match j with
  | 0 => some 28
  | _ => none
def am_rf31 (j : Nat) : Option Int := match j with
  | 6 => some 32
  | 7 => some 33
  | 8 => some 34
  | 9 => some 35
  | 10 => some 36
  | 11 => some 37
  | 12 => some 38
  | 13 => some 39
  | 14 => some 40
  | 15 => some 41
  | 16 => some 42
  | 17 => some 43
  | _ => none
def am_rf45 (j : Nat) : Option Int := match j with
  | 0 => some 3
  | 1 => some 16
  | 2 => some 46
  | 4 => some 47
  | _ => none
def am_rf48 (j : Nat) : Option Int := match j with
  | 0 => some 3
  | 1 => some 16
  | 2 => some 45
  | 3 => some 49
  | 4 => some 50
  | 5 => some 51
  | _ => none
def am_rf52 (j : Nat) : Option Int := match j with
  | 0 => some 16
  | 1 => some 45
  | 2 => some 44
  | 3 => some 53
  | 4 => some 54
  | 5 => some 55
  | _ => none
def am_rf56 (j : Nat) : Option Int := match j with
  | 0 => some 57
  | _ => none
def am_rf78 (j : Nat) : Option Int := match j with
  | 0 => some 79
  | 1 => some 80
  | 2 => some 81
  | _ => none
def am_rf82 (j : Nat) : Option Int := match j with
  | 0 => some 83
  | _ => none
def am_rf86 (j : Nat) : Option Int := match j with
  | 0 => some 87
  | 14 => some 88
  | 15 => some 89
  | 16 => some 90
  | 17 => some 91
  | 18 => some 92
  | 19 => some 93
  | 20 => some 94
  | 21 => some 95
  | 22 => some 96
  | 23 => some 97
  | 24 => some 98
  | 25 => some 99
  | 26 => some 100
  | 27 => some 101
  | 28 => some 102
  | 29 => some 103
  | 30 => some 104
  | 31 => some 105
  | 32 => some 106
  | 33 => some 107
  | 34 => some 108
  | 35 => some 109
  | 36 => some 110
  | 37 => some 111
  | 38 => some 112
  | 41 => some 113
  | 42 => some 114
  | 43 => some 115
  | 44 => some 116
  | 45 => some 117
  | 48 => some 118
  | 51 => some 119
  | 52 => some 120
  | 53 => some 121
  | 54 => some 122
  | 55 => some 123
  | 56 => some 124
  | 60 => some 125
  | 68 => some 126
  | 69 => some 127
  | 71 => some 128
  | 72 => some 129
  | 73 => some 130
  | 74 => some 131
  | 75 => some 132
  | 79 => some 133
  | 81 => some 134
  | 85 => some 135
  | 86 => some 136
  | 87 => some 137
  | 88 => some 138
  | _ => none
/-- what reference stands where -/
def am_rf (r j : Nat) : Option Int := match r with
  | 1 => am_rf1 j
  | 3 => am_rf3 j
  | 16 => am_rf16 j
  | 21 => am_rf21 j
  | 26 => am_rf26 j
  | 27 => am_rf27 j
  | 31 => am_rf31 j
  | 45 => am_rf45 j
  | 48 => am_rf48 j
  | 52 => am_rf52 j
  | 56 => am_rf56 j
  | 57 => some ((58 + j : Nat) : Int)
  | 78 => am_rf78 j
  | 82 => am_rf82 j
  | 86 => am_rf86 j
  | _ => none
/-- the memory: references fixed, the numbers U -/
def am_mm (U : Nat → Nat → Int) (r j : Nat) : Int := match am_rf r j with
  | some c => c
  | none => U r j
theorem am_mm_upd {U : Nat → Nat → Int} {r j : Nat} {x : Int} (h : am_rf r j = none) : am_upd (am_mm U) r j x = am_mm (am_upd U r j x) := by
  funext r' j'
  unfold am_upd am_mm
  by_cases e : r' = r ∧ j' = j
  · obtain ⟨rfl, rfl⟩ := e
    simp [h]
  · simp only [if_neg e]
section AMX
variable {kz : am_Z} {R : Option am_V × am_M} {d mi pc a b : Nat} {c : Int} {L : am_L} {st : List am_V} {V : Nat → Nat → Int} {n : Nat} {r i : Int}
theorem ev_iald (hcd : am_cd mi pc = some (1, .iaload, a, b, c)) (hr : 0 < r) (hs : am_sh[r.toNat]? = some (100, n)) (h0 : 0 ≤ i ∧ i < n) (h : Ev kz (d, mi, pc + 1, L, .inl (V r.toNat i.toNat) :: st, (am_sh, V)) R) : Ev kz (d, mi, pc, L, .inl i :: .inr (.inr r) :: st, (am_sh, V)) R := by
  refine ev_seg 1 (fun k => ?_) h
  show am_step am_cd am_rk kz k _ = _
  unfold am_step
  simp only [hcd]
  unfold am_ald am_cell
  simp only [if_pos hr, hs]
  rw [if_pos ⟨rfl, h0⟩]
  rfl
theorem ev_iast {x : Int} (hcd : am_cd mi pc = some (1, .iastore, a, b, c)) (hr : 0 < r) (hs : am_sh[r.toNat]? = some (100, n)) (h0 : 0 ≤ i ∧ i < n) (h : Ev kz (d, mi, pc + 1, L, st, (am_sh, am_upd V r.toNat i.toNat x)) R) : Ev kz (d, mi, pc, L, .inl x :: .inl i :: .inr (.inr r) :: st, (am_sh, V)) R := by
  refine ev_seg 1 (fun k => ?_) h
  show am_step am_cd am_rk kz k _ = _
  unfold am_step
  simp only [hcd]
  unfold am_ast
  simp only [if_pos hr, hs, am_pv]
  rw [if_pos ⟨rfl, h0.1, h0.2, rfl⟩]
  rfl
end AMX
