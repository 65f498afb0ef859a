/-! the constructors, written by gen_ctor.py -/
def cl1 : List (Nat × Nat × Int) := []
def cl2 : List (Nat × Nat × Int) := (1, 0, 2) :: cl1
def cl3 : List (Nat × Nat × Int) := (3, 17, 15) :: (3, 16, 14) :: (3, 15, 13) :: (3, 14, 12) :: (3, 13, 11) :: (3, 12, 10) :: (3, 11, 9) :: (3, 10, 8) :: (3, 9, 7) :: (3, 8, 6) :: (3, 7, 5) :: (3, 6, 4) :: cl2
set_option maxRecDepth 20000 in
set_option maxHeartbeats 4000000 in
theorem cm1 {kz : am_Z} : Ev kz (2046, 73, 0, [some (.inr (.inr 3))], [], (am_sh.take 4, uL bsA cl2)) (none, (am_sh.take 16, uL bsA cl3)) := by
  refine cn_seg (pc' := 1) (L' := [some (.inr (.inr 3))]) (st' := [.inr (.inr 3)]) 1 (fun _ _ => rfl) ?_
  refine cn_obj (pt := 4) rfl rfl (by decide) rfl ?_
  refine cn_seg (pc' := 6) (L' := [some (.inr (.inr 3))]) (st' := [.inl 4, .inr (.inr 3)]) 2 (fun _ _ => rfl) ?_
  refine cn_newa (q := 4) (pt := 8) rfl rfl (by decide) rfl rfl (by decide +kernel) (fun _ => rfl) rfl rfl ?_
  refine cn_put (rn := 3) (pt := 11) (y := 4) rfl rfl rfl rfl rfl rfl rfl ?_
  refine cn_seg (pc' := 14) (L' := [some (.inr (.inr 3))]) (st' := [.inl 12, .inr (.inr 3)]) 2 (fun _ _ => rfl) ?_
  refine cn_newa (q := 5) (pt := 16) rfl rfl (by decide) rfl rfl (by decide +kernel) (fun _ => rfl) rfl rfl ?_
  refine cn_put (rn := 3) (pt := 19) (y := 5) rfl rfl rfl rfl rfl rfl rfl ?_
  refine cn_seg (pc' := 22) (L' := [some (.inr (.inr 3))]) (st' := [.inl 12, .inr (.inr 3)]) 2 (fun _ _ => rfl) ?_
  refine cn_newa (q := 6) (pt := 24) rfl rfl (by decide) rfl rfl (by decide +kernel) (fun _ => rfl) rfl rfl ?_
  refine cn_put (rn := 3) (pt := 27) (y := 6) rfl rfl rfl rfl rfl rfl rfl ?_
  refine cn_seg (pc' := 30) (L' := [some (.inr (.inr 3))]) (st' := [.inl 12, .inr (.inr 3)]) 2 (fun _ _ => rfl) ?_
  refine cn_newa (q := 7) (pt := 32) rfl rfl (by decide) rfl rfl (by decide +kernel) (fun _ => rfl) rfl rfl ?_
  refine cn_put (rn := 3) (pt := 35) (y := 7) rfl rfl rfl rfl rfl rfl rfl ?_
  refine cn_seg (pc' := 38) (L' := [some (.inr (.inr 3))]) (st' := [.inl 12, .inr (.inr 3)]) 2 (fun _ _ => rfl) ?_
  refine cn_newa (q := 8) (pt := 40) rfl rfl (by decide) rfl rfl (by decide +kernel) (fun _ => rfl) rfl rfl ?_
  refine cn_put (rn := 3) (pt := 43) (y := 8) rfl rfl rfl rfl rfl rfl rfl ?_
  refine cn_seg (pc' := 46) (L' := [some (.inr (.inr 3))]) (st' := [.inl 12, .inr (.inr 3)]) 2 (fun _ _ => rfl) ?_
  refine cn_newa (q := 9) (pt := 48) rfl rfl (by decide) rfl rfl (by decide +kernel) (fun _ => rfl) rfl rfl ?_
  refine cn_put (rn := 3) (pt := 51) (y := 9) rfl rfl rfl rfl rfl rfl rfl ?_
  refine cn_seg (pc' := 54) (L' := [some (.inr (.inr 3))]) (st' := [.inl 12, .inr (.inr 3)]) 2 (fun _ _ => rfl) ?_
  refine cn_newa (q := 10) (pt := 56) rfl rfl (by decide) rfl rfl (by decide +kernel) (fun _ => rfl) rfl rfl ?_
  refine cn_put (rn := 3) (pt := 59) (y := 10) rfl rfl rfl rfl rfl rfl rfl ?_
  refine cn_seg (pc' := 62) (L' := [some (.inr (.inr 3))]) (st' := [.inl 12, .inr (.inr 3)]) 2 (fun _ _ => rfl) ?_
  refine cn_newa (q := 11) (pt := 64) rfl rfl (by decide) rfl rfl (by decide +kernel) (fun _ => rfl) rfl rfl ?_
  refine cn_put (rn := 3) (pt := 67) (y := 11) rfl rfl rfl rfl rfl rfl rfl ?_
  refine cn_seg (pc' := 70) (L' := [some (.inr (.inr 3))]) (st' := [.inl 8, .inr (.inr 3)]) 2 (fun _ _ => rfl) ?_
  refine cn_newa (q := 12) (pt := 72) rfl rfl (by decide) rfl rfl (by decide +kernel) (fun _ => rfl) rfl rfl ?_
  refine cn_put (rn := 3) (pt := 75) (y := 12) rfl rfl rfl rfl rfl rfl rfl ?_
  refine cn_seg (pc' := 78) (L' := [some (.inr (.inr 3))]) (st' := [.inl 9, .inr (.inr 3)]) 2 (fun _ _ => rfl) ?_
  refine cn_newa (q := 13) (pt := 80) rfl rfl (by decide) rfl rfl (by decide +kernel) (fun _ => rfl) rfl rfl ?_
  refine cn_put (rn := 3) (pt := 83) (y := 13) rfl rfl rfl rfl rfl rfl rfl ?_
  refine cn_seg (pc' := 86) (L' := [some (.inr (.inr 3))]) (st' := [.inl 9, .inr (.inr 3)]) 2 (fun _ _ => rfl) ?_
  refine cn_newa (q := 14) (pt := 88) rfl rfl (by decide) rfl rfl (by decide +kernel) (fun _ => rfl) rfl rfl ?_
  refine cn_put (rn := 3) (pt := 91) (y := 14) rfl rfl rfl rfl rfl rfl rfl ?_
  refine cn_seg (pc' := 95) (L' := [some (.inr (.inr 3))]) (st' := [.inl 1600, .inr (.inr 3)]) 2 (fun _ _ => rfl) ?_
  refine cn_newa (q := 15) (pt := 97) rfl rfl (by decide) rfl rfl (by decide +kernel) (fun _ => rfl) rfl rfl ?_
  refine cn_put (rn := 3) (pt := 100) (y := 15) rfl rfl rfl rfl rfl rfl rfl ?_
  exact ev_end 1 (fun k => rfl)
def cl4 : List (Nat × Nat × Int) := (1, 5, 3) :: cl3
def cl5 : List (Nat × Nat × Int) := (16, 6, 20) :: (16, 5, 19) :: (16, 4, 18) :: (16, 3, 17) :: cl4
def cl6 : List (Nat × Nat × Int) := (20, 15, (-1)) :: (20, 14, (-1)) :: (20, 13, (-1)) :: (20, 12, (-1)) :: (20, 11, (-1)) :: (20, 10, (-1)) :: (20, 9, (-1)) :: (20, 8, (-1)) :: (20, 7, (-1)) :: (20, 6, (-1)) :: (20, 5, (-1)) :: (20, 4, (-1)) :: (20, 3, (-1)) :: (20, 2, (-1)) :: (20, 1, (-1)) :: (20, 0, (-1)) :: cl5
set_option maxRecDepth 20000 in
set_option maxHeartbeats 4000000 in
theorem cm2 {kz : am_Z} : Ev kz (2045, 173, 0, [some (.inr (.inr 20)), some (.inr (.inl (-1))), none, none, none], [], (am_sh.take 21, uL bsA cl5)) (none, (am_sh.take 21, uL bsA cl6)) := by
  refine ev_seg (σ1 := (2045, 173, 6, [some (.inr (.inr 20)), some (.inr (.inl (-1))), none, some (.inl 0), some (.inl 16)], [], (am_sh.take 21, uL bsA cl5))) 5 (fun k => rfl) ?_
  refine cn_fill1 (rn := 20) (inn := 0) (nn := 16) rfl rfl rfl rfl rfl rfl rfl (by decide +kernel) (fun _ _ => rfl) ?_
  refine cn_fill1 (rn := 20) (inn := 1) (nn := 16) rfl rfl rfl rfl rfl rfl rfl (by decide +kernel) (fun _ _ => rfl) ?_
  refine cn_fill1 (rn := 20) (inn := 2) (nn := 16) rfl rfl rfl rfl rfl rfl rfl (by decide +kernel) (fun _ _ => rfl) ?_
  refine cn_fill1 (rn := 20) (inn := 3) (nn := 16) rfl rfl rfl rfl rfl rfl rfl (by decide +kernel) (fun _ _ => rfl) ?_
  refine cn_fill1 (rn := 20) (inn := 4) (nn := 16) rfl rfl rfl rfl rfl rfl rfl (by decide +kernel) (fun _ _ => rfl) ?_
  refine cn_fill1 (rn := 20) (inn := 5) (nn := 16) rfl rfl rfl rfl rfl rfl rfl (by decide +kernel) (fun _ _ => rfl) ?_
  refine cn_fill1 (rn := 20) (inn := 6) (nn := 16) rfl rfl rfl rfl rfl rfl rfl (by decide +kernel) (fun _ _ => rfl) ?_
  refine cn_fill1 (rn := 20) (inn := 7) (nn := 16) rfl rfl rfl rfl rfl rfl rfl (by decide +kernel) (fun _ _ => rfl) ?_
  refine cn_fill1 (rn := 20) (inn := 8) (nn := 16) rfl rfl rfl rfl rfl rfl rfl (by decide +kernel) (fun _ _ => rfl) ?_
  refine cn_fill1 (rn := 20) (inn := 9) (nn := 16) rfl rfl rfl rfl rfl rfl rfl (by decide +kernel) (fun _ _ => rfl) ?_
  refine cn_fill1 (rn := 20) (inn := 10) (nn := 16) rfl rfl rfl rfl rfl rfl rfl (by decide +kernel) (fun _ _ => rfl) ?_
  refine cn_fill1 (rn := 20) (inn := 11) (nn := 16) rfl rfl rfl rfl rfl rfl rfl (by decide +kernel) (fun _ _ => rfl) ?_
  refine cn_fill1 (rn := 20) (inn := 12) (nn := 16) rfl rfl rfl rfl rfl rfl rfl (by decide +kernel) (fun _ _ => rfl) ?_
  refine cn_fill1 (rn := 20) (inn := 13) (nn := 16) rfl rfl rfl rfl rfl rfl rfl (by decide +kernel) (fun _ _ => rfl) ?_
  refine cn_fill1 (rn := 20) (inn := 14) (nn := 16) rfl rfl rfl rfl rfl rfl rfl (by decide +kernel) (fun _ _ => rfl) ?_
  refine cn_fill1 (rn := 20) (inn := 15) (nn := 16) rfl rfl rfl rfl rfl rfl rfl (by decide +kernel) (fun _ _ => rfl) ?_
  exact cn_fill0
set_option maxRecDepth 20000 in
set_option maxHeartbeats 4000000 in
theorem cm3 {kz : am_Z} : Ev kz (2046, 74, 0, [some (.inr (.inr 16))], [], (am_sh.take 17, uL bsA cl4)) (none, (am_sh.take 21, uL bsA cl6)) := by
  refine cn_seg (pc' := 1) (L' := [some (.inr (.inr 16))]) (st' := [.inr (.inr 16)]) 1 (fun _ _ => rfl) ?_
  refine cn_obj (pt := 4) rfl rfl (by decide) rfl ?_
  refine cn_seg (pc' := 7) (L' := [some (.inr (.inr 16))]) (st' := [.inl 16, .inr (.inr 16)]) 2 (fun _ _ => rfl) ?_
  refine cn_newa (q := 17) (pt := 9) rfl rfl (by decide) rfl rfl (by decide +kernel) (fun _ => rfl) rfl rfl ?_
  refine cn_put (rn := 16) (pt := 12) (y := 17) rfl rfl rfl rfl rfl rfl rfl ?_
  refine cn_seg (pc' := 15) (L' := [some (.inr (.inr 16))]) (st' := [.inl 16, .inr (.inr 16)]) 2 (fun _ _ => rfl) ?_
  refine cn_newa (q := 18) (pt := 17) rfl rfl (by decide) rfl rfl (by decide +kernel) (fun _ => rfl) rfl rfl ?_
  refine cn_put (rn := 16) (pt := 20) (y := 18) rfl rfl rfl rfl rfl rfl rfl ?_
  refine cn_seg (pc' := 23) (L' := [some (.inr (.inr 16))]) (st' := [.inl 12, .inr (.inr 16)]) 2 (fun _ _ => rfl) ?_
  refine cn_newa (q := 19) (pt := 25) rfl rfl (by decide) rfl rfl (by decide +kernel) (fun _ => rfl) rfl rfl ?_
  refine cn_put (rn := 16) (pt := 28) (y := 19) rfl rfl rfl rfl rfl rfl rfl ?_
  refine cn_seg (pc' := 31) (L' := [some (.inr (.inr 16))]) (st' := [.inl 16, .inr (.inr 16)]) 2 (fun _ _ => rfl) ?_
  refine cn_newa (q := 20) (pt := 33) rfl rfl (by decide) rfl rfl (by decide +kernel) (fun _ => rfl) rfl rfl ?_
  refine cn_put (rn := 16) (pt := 36) (y := 20) rfl rfl rfl rfl rfl rfl rfl ?_
  refine cn_seg (pc' := 37) (L' := [some (.inr (.inr 16))]) (st' := [.inr (.inr 16)]) 1 (fun _ _ => rfl) ?_
  refine cn_get (rn := 16) (pt := 40) (y := 20) rfl rfl rfl rfl rfl (by decide +kernel) rfl rfl ?_
  refine cn_seg (pc' := 43) (L' := [some (.inr (.inr 16))]) (st' := [.inr (.inl (-1)), .inr (.inr 20)]) 1 (fun _ _ => rfl) ?_
  refine ev_cal (d := 2046) (mi := 74) (pc := 46) (L := [some (.inr (.inr 16))]) (rest := []) (fun k => rfl) cm2 ?_
  show Ev kz (2046, 74, 46, [some (.inr (.inr 16))], [], (am_sh.take 21, uL bsA (cl6))) _
  exact ev_end 1 (fun k => rfl)
def cl7 : List (Nat × Nat × Int) := (1, 6, 16) :: cl6
def cl8 : List (Nat × Nat × Int) := (21, 6, 25) :: (21, 5, 24) :: (21, 4, 23) :: (21, 3, 22) :: cl7
def cl9 : List (Nat × Nat × Int) := (25, 15, (-1)) :: (25, 14, (-1)) :: (25, 13, (-1)) :: (25, 12, (-1)) :: (25, 11, (-1)) :: (25, 10, (-1)) :: (25, 9, (-1)) :: (25, 8, (-1)) :: (25, 7, (-1)) :: (25, 6, (-1)) :: (25, 5, (-1)) :: (25, 4, (-1)) :: (25, 3, (-1)) :: (25, 2, (-1)) :: (25, 1, (-1)) :: (25, 0, (-1)) :: cl8
set_option maxRecDepth 20000 in
set_option maxHeartbeats 4000000 in
theorem cm4 {kz : am_Z} : Ev kz (2045, 173, 0, [some (.inr (.inr 25)), some (.inr (.inl (-1))), none, none, none], [], (am_sh.take 26, uL bsA cl8)) (none, (am_sh.take 26, uL bsA cl9)) := by
  refine ev_seg (σ1 := (2045, 173, 6, [some (.inr (.inr 25)), some (.inr (.inl (-1))), none, some (.inl 0), some (.inl 16)], [], (am_sh.take 26, uL bsA cl8))) 5 (fun k => rfl) ?_
  refine cn_fill1 (rn := 25) (inn := 0) (nn := 16) rfl rfl rfl rfl rfl rfl rfl (by decide +kernel) (fun _ _ => rfl) ?_
  refine cn_fill1 (rn := 25) (inn := 1) (nn := 16) rfl rfl rfl rfl rfl rfl rfl (by decide +kernel) (fun _ _ => rfl) ?_
  refine cn_fill1 (rn := 25) (inn := 2) (nn := 16) rfl rfl rfl rfl rfl rfl rfl (by decide +kernel) (fun _ _ => rfl) ?_
  refine cn_fill1 (rn := 25) (inn := 3) (nn := 16) rfl rfl rfl rfl rfl rfl rfl (by decide +kernel) (fun _ _ => rfl) ?_
  refine cn_fill1 (rn := 25) (inn := 4) (nn := 16) rfl rfl rfl rfl rfl rfl rfl (by decide +kernel) (fun _ _ => rfl) ?_
  refine cn_fill1 (rn := 25) (inn := 5) (nn := 16) rfl rfl rfl rfl rfl rfl rfl (by decide +kernel) (fun _ _ => rfl) ?_
  refine cn_fill1 (rn := 25) (inn := 6) (nn := 16) rfl rfl rfl rfl rfl rfl rfl (by decide +kernel) (fun _ _ => rfl) ?_
  refine cn_fill1 (rn := 25) (inn := 7) (nn := 16) rfl rfl rfl rfl rfl rfl rfl (by decide +kernel) (fun _ _ => rfl) ?_
  refine cn_fill1 (rn := 25) (inn := 8) (nn := 16) rfl rfl rfl rfl rfl rfl rfl (by decide +kernel) (fun _ _ => rfl) ?_
  refine cn_fill1 (rn := 25) (inn := 9) (nn := 16) rfl rfl rfl rfl rfl rfl rfl (by decide +kernel) (fun _ _ => rfl) ?_
  refine cn_fill1 (rn := 25) (inn := 10) (nn := 16) rfl rfl rfl rfl rfl rfl rfl (by decide +kernel) (fun _ _ => rfl) ?_
  refine cn_fill1 (rn := 25) (inn := 11) (nn := 16) rfl rfl rfl rfl rfl rfl rfl (by decide +kernel) (fun _ _ => rfl) ?_
  refine cn_fill1 (rn := 25) (inn := 12) (nn := 16) rfl rfl rfl rfl rfl rfl rfl (by decide +kernel) (fun _ _ => rfl) ?_
  refine cn_fill1 (rn := 25) (inn := 13) (nn := 16) rfl rfl rfl rfl rfl rfl rfl (by decide +kernel) (fun _ _ => rfl) ?_
  refine cn_fill1 (rn := 25) (inn := 14) (nn := 16) rfl rfl rfl rfl rfl rfl rfl (by decide +kernel) (fun _ _ => rfl) ?_
  refine cn_fill1 (rn := 25) (inn := 15) (nn := 16) rfl rfl rfl rfl rfl rfl rfl (by decide +kernel) (fun _ _ => rfl) ?_
  exact cn_fill0
set_option maxRecDepth 20000 in
set_option maxHeartbeats 4000000 in
theorem cm5 {kz : am_Z} : Ev kz (2046, 74, 0, [some (.inr (.inr 21))], [], (am_sh.take 22, uL bsA cl7)) (none, (am_sh.take 26, uL bsA cl9)) := by
  refine cn_seg (pc' := 1) (L' := [some (.inr (.inr 21))]) (st' := [.inr (.inr 21)]) 1 (fun _ _ => rfl) ?_
  refine cn_obj (pt := 4) rfl rfl (by decide) rfl ?_
  refine cn_seg (pc' := 7) (L' := [some (.inr (.inr 21))]) (st' := [.inl 16, .inr (.inr 21)]) 2 (fun _ _ => rfl) ?_
  refine cn_newa (q := 22) (pt := 9) rfl rfl (by decide) rfl rfl (by decide +kernel) (fun _ => rfl) rfl rfl ?_
  refine cn_put (rn := 21) (pt := 12) (y := 22) rfl rfl rfl rfl rfl rfl rfl ?_
  refine cn_seg (pc' := 15) (L' := [some (.inr (.inr 21))]) (st' := [.inl 16, .inr (.inr 21)]) 2 (fun _ _ => rfl) ?_
  refine cn_newa (q := 23) (pt := 17) rfl rfl (by decide) rfl rfl (by decide +kernel) (fun _ => rfl) rfl rfl ?_
  refine cn_put (rn := 21) (pt := 20) (y := 23) rfl rfl rfl rfl rfl rfl rfl ?_
  refine cn_seg (pc' := 23) (L' := [some (.inr (.inr 21))]) (st' := [.inl 12, .inr (.inr 21)]) 2 (fun _ _ => rfl) ?_
  refine cn_newa (q := 24) (pt := 25) rfl rfl (by decide) rfl rfl (by decide +kernel) (fun _ => rfl) rfl rfl ?_
  refine cn_put (rn := 21) (pt := 28) (y := 24) rfl rfl rfl rfl rfl rfl rfl ?_
  refine cn_seg (pc' := 31) (L' := [some (.inr (.inr 21))]) (st' := [.inl 16, .inr (.inr 21)]) 2 (fun _ _ => rfl) ?_
  refine cn_newa (q := 25) (pt := 33) rfl rfl (by decide) rfl rfl (by decide +kernel) (fun _ => rfl) rfl rfl ?_
  refine cn_put (rn := 21) (pt := 36) (y := 25) rfl rfl rfl rfl rfl rfl rfl ?_
  refine cn_seg (pc' := 37) (L' := [some (.inr (.inr 21))]) (st' := [.inr (.inr 21)]) 1 (fun _ _ => rfl) ?_
  refine cn_get (rn := 21) (pt := 40) (y := 25) rfl rfl rfl rfl rfl (by decide +kernel) rfl rfl ?_
  refine cn_seg (pc' := 43) (L' := [some (.inr (.inr 21))]) (st' := [.inr (.inl (-1)), .inr (.inr 25)]) 1 (fun _ _ => rfl) ?_
  refine ev_cal (d := 2046) (mi := 74) (pc := 46) (L := [some (.inr (.inr 21))]) (rest := []) (fun k => rfl) cm4 ?_
  show Ev kz (2046, 74, 46, [some (.inr (.inr 21))], [], (am_sh.take 26, uL bsA (cl9))) _
  exact ev_end 1 (fun k => rfl)
def cl10 : List (Nat × Nat × Int) := (1, 7, 21) :: cl9
def cl11 : List (Nat × Nat × Int) := (27, 0, 28) :: cl10
set_option maxRecDepth 20000 in
set_option maxHeartbeats 4000000 in
theorem cm6 {kz : am_Z} : Ev kz (2046, 75, 0, [some (.inr (.inr 27))], [], (am_sh.take 28, uL bsA cl10)) (none, (am_sh.take 31, uL bsA cl11)) := by
  refine cn_seg (pc' := 1) (L' := [some (.inr (.inr 27))]) (st' := [.inr (.inr 27)]) 1 (fun _ _ => rfl) ?_
  refine cn_obj (pt := 4) rfl rfl (by decide) rfl ?_
  refine cn_seg (pc' := 8) (L' := [some (.inr (.inr 27))]) (st' := [.inl 1601, .inr (.inr 27)]) 2 (fun _ _ => rfl) ?_
  refine cn_newaG (pt := 10) rfl rfl (by decide +kernel) (fun _ => rfl) rfl ?_
  refine cn_put (rn := 27) (pt := 13) (y := 28) rfl rfl rfl rfl rfl rfl rfl ?_
  exact ev_end 1 (fun k => rfl)
def cl12 : List (Nat × Nat × Int) := (31, 17, 43) :: (31, 16, 42) :: (31, 15, 41) :: (31, 14, 40) :: (31, 13, 39) :: (31, 12, 38) :: (31, 11, 37) :: (31, 10, 36) :: (31, 9, 35) :: (31, 8, 34) :: (31, 7, 33) :: (31, 6, 32) :: cl11
set_option maxRecDepth 20000 in
set_option maxHeartbeats 4000000 in
theorem cm7 {kz : am_Z} : Ev kz (2046, 73, 0, [some (.inr (.inr 31))], [], (am_sh.take 32, uL bsA cl11)) (none, (am_sh.take 44, uL bsA cl12)) := by
  refine cn_seg (pc' := 1) (L' := [some (.inr (.inr 31))]) (st' := [.inr (.inr 31)]) 1 (fun _ _ => rfl) ?_
  refine cn_obj (pt := 4) rfl rfl (by decide) rfl ?_
  refine cn_seg (pc' := 6) (L' := [some (.inr (.inr 31))]) (st' := [.inl 4, .inr (.inr 31)]) 2 (fun _ _ => rfl) ?_
  refine cn_newa (q := 32) (pt := 8) rfl rfl (by decide) rfl rfl (by decide +kernel) (fun _ => rfl) rfl rfl ?_
  refine cn_put (rn := 31) (pt := 11) (y := 32) rfl rfl rfl rfl rfl rfl rfl ?_
  refine cn_seg (pc' := 14) (L' := [some (.inr (.inr 31))]) (st' := [.inl 12, .inr (.inr 31)]) 2 (fun _ _ => rfl) ?_
  refine cn_newa (q := 33) (pt := 16) rfl rfl (by decide) rfl rfl (by decide +kernel) (fun _ => rfl) rfl rfl ?_
  refine cn_put (rn := 31) (pt := 19) (y := 33) rfl rfl rfl rfl rfl rfl rfl ?_
  refine cn_seg (pc' := 22) (L' := [some (.inr (.inr 31))]) (st' := [.inl 12, .inr (.inr 31)]) 2 (fun _ _ => rfl) ?_
  refine cn_newa (q := 34) (pt := 24) rfl rfl (by decide) rfl rfl (by decide +kernel) (fun _ => rfl) rfl rfl ?_
  refine cn_put (rn := 31) (pt := 27) (y := 34) rfl rfl rfl rfl rfl rfl rfl ?_
  refine cn_seg (pc' := 30) (L' := [some (.inr (.inr 31))]) (st' := [.inl 12, .inr (.inr 31)]) 2 (fun _ _ => rfl) ?_
  refine cn_newa (q := 35) (pt := 32) rfl rfl (by decide) rfl rfl (by decide +kernel) (fun _ => rfl) rfl rfl ?_
  refine cn_put (rn := 31) (pt := 35) (y := 35) rfl rfl rfl rfl rfl rfl rfl ?_
  refine cn_seg (pc' := 38) (L' := [some (.inr (.inr 31))]) (st' := [.inl 12, .inr (.inr 31)]) 2 (fun _ _ => rfl) ?_
  refine cn_newa (q := 36) (pt := 40) rfl rfl (by decide) rfl rfl (by decide +kernel) (fun _ => rfl) rfl rfl ?_
  refine cn_put (rn := 31) (pt := 43) (y := 36) rfl rfl rfl rfl rfl rfl rfl ?_
  refine cn_seg (pc' := 46) (L' := [some (.inr (.inr 31))]) (st' := [.inl 12, .inr (.inr 31)]) 2 (fun _ _ => rfl) ?_
  refine cn_newa (q := 37) (pt := 48) rfl rfl (by decide) rfl rfl (by decide +kernel) (fun _ => rfl) rfl rfl ?_
  refine cn_put (rn := 31) (pt := 51) (y := 37) rfl rfl rfl rfl rfl rfl rfl ?_
  refine cn_seg (pc' := 54) (L' := [some (.inr (.inr 31))]) (st' := [.inl 12, .inr (.inr 31)]) 2 (fun _ _ => rfl) ?_
  refine cn_newa (q := 38) (pt := 56) rfl rfl (by decide) rfl rfl (by decide +kernel) (fun _ => rfl) rfl rfl ?_
  refine cn_put (rn := 31) (pt := 59) (y := 38) rfl rfl rfl rfl rfl rfl rfl ?_
  refine cn_seg (pc' := 62) (L' := [some (.inr (.inr 31))]) (st' := [.inl 12, .inr (.inr 31)]) 2 (fun _ _ => rfl) ?_
  refine cn_newa (q := 39) (pt := 64) rfl rfl (by decide) rfl rfl (by decide +kernel) (fun _ => rfl) rfl rfl ?_
  refine cn_put (rn := 31) (pt := 67) (y := 39) rfl rfl rfl rfl rfl rfl rfl ?_
  refine cn_seg (pc' := 70) (L' := [some (.inr (.inr 31))]) (st' := [.inl 8, .inr (.inr 31)]) 2 (fun _ _ => rfl) ?_
  refine cn_newa (q := 40) (pt := 72) rfl rfl (by decide) rfl rfl (by decide +kernel) (fun _ => rfl) rfl rfl ?_
  refine cn_put (rn := 31) (pt := 75) (y := 40) rfl rfl rfl rfl rfl rfl rfl ?_
  refine cn_seg (pc' := 78) (L' := [some (.inr (.inr 31))]) (st' := [.inl 9, .inr (.inr 31)]) 2 (fun _ _ => rfl) ?_
  refine cn_newa (q := 41) (pt := 80) rfl rfl (by decide) rfl rfl (by decide +kernel) (fun _ => rfl) rfl rfl ?_
  refine cn_put (rn := 31) (pt := 83) (y := 41) rfl rfl rfl rfl rfl rfl rfl ?_
  refine cn_seg (pc' := 86) (L' := [some (.inr (.inr 31))]) (st' := [.inl 9, .inr (.inr 31)]) 2 (fun _ _ => rfl) ?_
  refine cn_newa (q := 42) (pt := 88) rfl rfl (by decide) rfl rfl (by decide +kernel) (fun _ => rfl) rfl rfl ?_
  refine cn_put (rn := 31) (pt := 91) (y := 42) rfl rfl rfl rfl rfl rfl rfl ?_
  refine cn_seg (pc' := 95) (L' := [some (.inr (.inr 31))]) (st' := [.inl 1600, .inr (.inr 31)]) 2 (fun _ _ => rfl) ?_
  refine cn_newa (q := 43) (pt := 97) rfl rfl (by decide) rfl rfl (by decide +kernel) (fun _ => rfl) rfl rfl ?_
  refine cn_put (rn := 31) (pt := 100) (y := 43) rfl rfl rfl rfl rfl rfl rfl ?_
  exact ev_end 1 (fun k => rfl)
def cl13 : List (Nat × Nat × Int) := (26, 2, 21) :: (26, 1, 31) :: (26, 0, 27) :: cl12
set_option maxRecDepth 20000 in
set_option maxHeartbeats 4000000 in
theorem cm8 {kz : am_Z} : Ev kz (2046, 76, 0, [some (.inr (.inr 26)), some (.inr (.inr 27)), some (.inr (.inr 31)), some (.inr (.inr 21))], [], (am_sh.take 44, uL bsA cl12)) (none, (am_sh.take 44, uL bsA cl13)) := by
  refine cn_seg (pc' := 1) (L' := [some (.inr (.inr 26)), some (.inr (.inr 27)), some (.inr (.inr 31)), some (.inr (.inr 21))]) (st' := [.inr (.inr 26)]) 1 (fun _ _ => rfl) ?_
  refine cn_obj (pt := 4) rfl rfl (by decide) rfl ?_
  refine cn_seg (pc' := 6) (L' := [some (.inr (.inr 26)), some (.inr (.inr 27)), some (.inr (.inr 31)), some (.inr (.inr 21))]) (st' := [.inr (.inr 27), .inr (.inr 26)]) 2 (fun _ _ => rfl) ?_
  refine cn_put (rn := 26) (pt := 9) (y := 27) rfl rfl rfl rfl rfl rfl rfl ?_
  refine cn_seg (pc' := 11) (L' := [some (.inr (.inr 26)), some (.inr (.inr 27)), some (.inr (.inr 31)), some (.inr (.inr 21))]) (st' := [.inr (.inr 31), .inr (.inr 26)]) 2 (fun _ _ => rfl) ?_
  refine cn_put (rn := 26) (pt := 14) (y := 31) rfl rfl rfl rfl rfl rfl rfl ?_
  refine cn_seg (pc' := 16) (L' := [some (.inr (.inr 26)), some (.inr (.inr 27)), some (.inr (.inr 31)), some (.inr (.inr 21))]) (st' := [.inr (.inr 21), .inr (.inr 26)]) 2 (fun _ _ => rfl) ?_
  refine cn_put (rn := 26) (pt := 19) (y := 21) rfl rfl rfl rfl rfl rfl rfl ?_
  exact ev_end 1 (fun k => rfl)
def cl14 : List (Nat × Nat × Int) := (1, 14, 44) :: (1, 2, 26) :: cl13
def cl15 : List (Nat × Nat × Int) := (45, 4, 47) :: (45, 2, 46) :: (45, 1, 16) :: (45, 0, 3) :: cl14
set_option maxRecDepth 20000 in
set_option maxHeartbeats 4000000 in
theorem cm9 {kz : am_Z} : Ev kz (2046, 77, 0, [some (.inr (.inr 45)), some (.inr (.inr 3)), some (.inr (.inr 16))], [], (am_sh.take 46, uL bsA cl14)) (none, (am_sh.take 48, uL bsA cl15)) := by
  refine cn_seg (pc' := 1) (L' := [some (.inr (.inr 45)), some (.inr (.inr 3)), some (.inr (.inr 16))]) (st' := [.inr (.inr 45)]) 1 (fun _ _ => rfl) ?_
  refine cn_obj (pt := 4) rfl rfl (by decide) rfl ?_
  refine cn_seg (pc' := 6) (L' := [some (.inr (.inr 45)), some (.inr (.inr 3)), some (.inr (.inr 16))]) (st' := [.inr (.inr 3), .inr (.inr 45)]) 2 (fun _ _ => rfl) ?_
  refine cn_put (rn := 45) (pt := 9) (y := 3) rfl rfl rfl rfl rfl rfl rfl ?_
  refine cn_seg (pc' := 11) (L' := [some (.inr (.inr 45)), some (.inr (.inr 3)), some (.inr (.inr 16))]) (st' := [.inr (.inr 16), .inr (.inr 45)]) 2 (fun _ _ => rfl) ?_
  refine cn_put (rn := 45) (pt := 14) (y := 16) rfl rfl rfl rfl rfl rfl rfl ?_
  refine cn_seg (pc' := 17) (L' := [some (.inr (.inr 45)), some (.inr (.inr 3)), some (.inr (.inr 16))]) (st' := [.inl 64, .inr (.inr 45)]) 2 (fun _ _ => rfl) ?_
  refine cn_newa (q := 46) (pt := 19) rfl rfl (by decide) rfl rfl (by decide +kernel) (fun _ => rfl) rfl rfl ?_
  refine cn_put (rn := 45) (pt := 22) (y := 46) rfl rfl rfl rfl rfl rfl rfl ?_
  refine cn_seg (pc' := 26) (L' := [some (.inr (.inr 45)), some (.inr (.inr 3)), some (.inr (.inr 16))]) (st' := [.inl 128, .inr (.inr 45)]) 2 (fun _ _ => rfl) ?_
  refine cn_newa (q := 47) (pt := 28) rfl rfl (by decide) rfl rfl (by decide +kernel) (fun _ => rfl) rfl rfl ?_
  refine cn_put (rn := 45) (pt := 31) (y := 47) rfl rfl rfl rfl rfl rfl rfl ?_
  exact ev_end 1 (fun k => rfl)
def cl16 : List (Nat × Nat × Int) := (1, 8, 45) :: cl15
def cl17 : List (Nat × Nat × Int) := (48, 5, 51) :: (48, 4, 50) :: (48, 3, 49) :: (48, 2, 45) :: (48, 1, 16) :: (48, 0, 3) :: cl16
set_option maxRecDepth 20000 in
set_option maxHeartbeats 4000000 in
theorem cm10 {kz : am_Z} : Ev kz (2046, 78, 0, [some (.inr (.inr 48)), some (.inr (.inr 3)), some (.inr (.inr 16)), some (.inr (.inr 45))], [], (am_sh.take 49, uL bsA cl16)) (none, (am_sh.take 52, uL bsA cl17)) := by
  refine cn_seg (pc' := 1) (L' := [some (.inr (.inr 48)), some (.inr (.inr 3)), some (.inr (.inr 16)), some (.inr (.inr 45))]) (st' := [.inr (.inr 48)]) 1 (fun _ _ => rfl) ?_
  refine cn_obj (pt := 4) rfl rfl (by decide) rfl ?_
  refine cn_seg (pc' := 6) (L' := [some (.inr (.inr 48)), some (.inr (.inr 3)), some (.inr (.inr 16)), some (.inr (.inr 45))]) (st' := [.inr (.inr 3), .inr (.inr 48)]) 2 (fun _ _ => rfl) ?_
  refine cn_put (rn := 48) (pt := 9) (y := 3) rfl rfl rfl rfl rfl rfl rfl ?_
  refine cn_seg (pc' := 11) (L' := [some (.inr (.inr 48)), some (.inr (.inr 3)), some (.inr (.inr 16)), some (.inr (.inr 45))]) (st' := [.inr (.inr 16), .inr (.inr 48)]) 2 (fun _ _ => rfl) ?_
  refine cn_put (rn := 48) (pt := 14) (y := 16) rfl rfl rfl rfl rfl rfl rfl ?_
  refine cn_seg (pc' := 16) (L' := [some (.inr (.inr 48)), some (.inr (.inr 3)), some (.inr (.inr 16)), some (.inr (.inr 45))]) (st' := [.inr (.inr 45), .inr (.inr 48)]) 2 (fun _ _ => rfl) ?_
  refine cn_put (rn := 48) (pt := 19) (y := 45) rfl rfl rfl rfl rfl rfl rfl ?_
  refine cn_seg (pc' := 21) (L' := [some (.inr (.inr 48)), some (.inr (.inr 3)), some (.inr (.inr 16)), some (.inr (.inr 45))]) (st' := [.inl 3, .inr (.inr 48)]) 2 (fun _ _ => rfl) ?_
  refine cn_newa (q := 49) (pt := 23) rfl rfl (by decide) rfl rfl (by decide +kernel) (fun _ => rfl) rfl rfl ?_
  refine cn_put (rn := 48) (pt := 26) (y := 49) rfl rfl rfl rfl rfl rfl rfl ?_
  refine cn_seg (pc' := 28) (L' := [some (.inr (.inr 48)), some (.inr (.inr 3)), some (.inr (.inr 16)), some (.inr (.inr 45))]) (st' := [.inl 3, .inr (.inr 48)]) 2 (fun _ _ => rfl) ?_
  refine cn_newa (q := 50) (pt := 30) rfl rfl (by decide) rfl rfl (by decide +kernel) (fun _ => rfl) rfl rfl ?_
  refine cn_put (rn := 48) (pt := 33) (y := 50) rfl rfl rfl rfl rfl rfl rfl ?_
  refine cn_seg (pc' := 36) (L' := [some (.inr (.inr 48)), some (.inr (.inr 3)), some (.inr (.inr 16)), some (.inr (.inr 45))]) (st' := [.inl 48, .inr (.inr 48)]) 2 (fun _ _ => rfl) ?_
  refine cn_newa (q := 51) (pt := 38) rfl rfl (by decide) rfl rfl (by decide +kernel) (fun _ => rfl) rfl rfl ?_
  refine cn_put (rn := 48) (pt := 41) (y := 51) rfl rfl rfl rfl rfl rfl rfl ?_
  exact ev_end 1 (fun k => rfl)
def cl18 : List (Nat × Nat × Int) := (1, 9, 48) :: cl17
def cl19 : List (Nat × Nat × Int) := (52, 5, 55) :: (52, 4, 54) :: (52, 3, 53) :: (52, 2, 44) :: (52, 1, 45) :: (52, 0, 16) :: cl18
set_option maxRecDepth 20000 in
set_option maxHeartbeats 4000000 in
theorem cm11 {kz : am_Z} : Ev kz (2046, 79, 0, [some (.inr (.inr 52)), some (.inr (.inr 16)), some (.inr (.inr 45)), some (.inr (.inr 44))], [], (am_sh.take 53, uL bsA cl18)) (none, (am_sh.take 56, uL bsA cl19)) := by
  refine cn_seg (pc' := 1) (L' := [some (.inr (.inr 52)), some (.inr (.inr 16)), some (.inr (.inr 45)), some (.inr (.inr 44))]) (st' := [.inr (.inr 52)]) 1 (fun _ _ => rfl) ?_
  refine cn_obj (pt := 4) rfl rfl (by decide) rfl ?_
  refine cn_seg (pc' := 6) (L' := [some (.inr (.inr 52)), some (.inr (.inr 16)), some (.inr (.inr 45)), some (.inr (.inr 44))]) (st' := [.inr (.inr 16), .inr (.inr 52)]) 2 (fun _ _ => rfl) ?_
  refine cn_put (rn := 52) (pt := 9) (y := 16) rfl rfl rfl rfl rfl rfl rfl ?_
  refine cn_seg (pc' := 11) (L' := [some (.inr (.inr 52)), some (.inr (.inr 16)), some (.inr (.inr 45)), some (.inr (.inr 44))]) (st' := [.inr (.inr 45), .inr (.inr 52)]) 2 (fun _ _ => rfl) ?_
  refine cn_put (rn := 52) (pt := 14) (y := 45) rfl rfl rfl rfl rfl rfl rfl ?_
  refine cn_seg (pc' := 16) (L' := [some (.inr (.inr 52)), some (.inr (.inr 16)), some (.inr (.inr 45)), some (.inr (.inr 44))]) (st' := [.inr (.inr 44), .inr (.inr 52)]) 2 (fun _ _ => rfl) ?_
  refine cn_put (rn := 52) (pt := 19) (y := 44) rfl rfl rfl rfl rfl rfl rfl ?_
  refine cn_seg (pc' := 22) (L' := [some (.inr (.inr 52)), some (.inr (.inr 16)), some (.inr (.inr 45)), some (.inr (.inr 44))]) (st' := [.inl 16, .inr (.inr 52)]) 2 (fun _ _ => rfl) ?_
  refine cn_newa (q := 53) (pt := 24) rfl rfl (by decide) rfl rfl (by decide +kernel) (fun _ => rfl) rfl rfl ?_
  refine cn_put (rn := 52) (pt := 27) (y := 53) rfl rfl rfl rfl rfl rfl rfl ?_
  refine cn_seg (pc' := 30) (L' := [some (.inr (.inr 52)), some (.inr (.inr 16)), some (.inr (.inr 45)), some (.inr (.inr 44))]) (st' := [.inl 16, .inr (.inr 52)]) 2 (fun _ _ => rfl) ?_
  refine cn_newa (q := 54) (pt := 32) rfl rfl (by decide) rfl rfl (by decide +kernel) (fun _ => rfl) rfl rfl ?_
  refine cn_put (rn := 52) (pt := 35) (y := 54) rfl rfl rfl rfl rfl rfl rfl ?_
  refine cn_seg (pc' := 38) (L' := [some (.inr (.inr 52)), some (.inr (.inr 16)), some (.inr (.inr 45)), some (.inr (.inr 44))]) (st' := [.inl 16, .inr (.inr 52)]) 2 (fun _ _ => rfl) ?_
  refine cn_newa (q := 55) (pt := 40) rfl rfl (by decide) rfl rfl (by decide +kernel) (fun _ => rfl) rfl rfl ?_
  refine cn_put (rn := 52) (pt := 43) (y := 55) rfl rfl rfl rfl rfl rfl rfl ?_
  exact ev_end 1 (fun k => rfl)
def cl20 : List (Nat × Nat × Int) := (1, 10, 52) :: cl19
def cl21 : List (Nat × Nat × Int) := (56, 0, 57) :: cl20
set_option maxRecDepth 20000 in
set_option maxHeartbeats 4000000 in
theorem cm12 {kz : am_Z} : Ev kz (2046, 80, 0, [some (.inr (.inr 56))], [], (am_sh.take 57, uL bsA cl20)) (none, (am_sh.take 78, uL bsB cl21)) := by
  refine cn_seg (pc' := 1) (L' := [some (.inr (.inr 56))]) (st' := [.inr (.inr 56)]) 1 (fun _ _ => rfl) ?_
  refine cn_obj (pt := 4) rfl rfl (by decide) rfl ?_
  refine cn_seg (pc' := 9) (L' := [some (.inr (.inr 56))]) (st' := [.inl 35, .inl 20, .inr (.inr 56)]) 3 (fun _ _ => rfl) ?_
  refine cn_newm (pt := 13) rfl (by decide +kernel) rfl ?_
  refine cn_put (rn := 56) (pt := 16) (y := 57) rfl rfl rfl rfl rfl rfl rfl ?_
  exact ev_end 1 (fun k => rfl)
def cl22 : List (Nat × Nat × Int) := (1, 11, 56) :: cl21
def cl23 : List (Nat × Nat × Int) := (78, 2, 81) :: (78, 1, 80) :: (78, 0, 79) :: cl22
set_option maxRecDepth 20000 in
set_option maxHeartbeats 4000000 in
theorem cm13 {kz : am_Z} : Ev kz (2046, 81, 0, [some (.inr (.inr 78))], [], (am_sh.take 79, uL bsB cl22)) (none, (am_sh.take 82, uL bsB cl23)) := by
  refine cn_seg (pc' := 1) (L' := [some (.inr (.inr 78))]) (st' := [.inr (.inr 78)]) 1 (fun _ _ => rfl) ?_
  refine cn_obj (pt := 4) rfl rfl (by decide) rfl ?_
  refine cn_seg (pc' := 7) (L' := [some (.inr (.inr 78))]) (st' := [.inl 25, .inr (.inr 78)]) 2 (fun _ _ => rfl) ?_
  refine cn_newa (q := 79) (pt := 9) rfl rfl (by decide) rfl rfl (by decide +kernel) (fun _ => rfl) rfl rfl ?_
  refine cn_put (rn := 78) (pt := 12) (y := 79) rfl rfl rfl rfl rfl rfl rfl ?_
  refine cn_seg (pc' := 14) (L' := [some (.inr (.inr 78))]) (st' := [.inl 4, .inr (.inr 78)]) 2 (fun _ _ => rfl) ?_
  refine cn_newa (q := 80) (pt := 16) rfl rfl (by decide) rfl rfl (by decide +kernel) (fun _ => rfl) rfl rfl ?_
  refine cn_put (rn := 78) (pt := 19) (y := 80) rfl rfl rfl rfl rfl rfl rfl ?_
  refine cn_seg (pc' := 21) (L' := [some (.inr (.inr 78))]) (st' := [.inl 4, .inr (.inr 78)]) 2 (fun _ _ => rfl) ?_
  refine cn_newa (q := 81) (pt := 23) rfl rfl (by decide) rfl rfl (by decide +kernel) (fun _ => rfl) rfl rfl ?_
  refine cn_put (rn := 78) (pt := 26) (y := 81) rfl rfl rfl rfl rfl rfl rfl ?_
  exact ev_end 1 (fun k => rfl)
def cl24 : List (Nat × Nat × Int) := (1, 12, 78) :: cl23
def cl25 : List (Nat × Nat × Int) := (82, 0, 83) :: cl24
set_option maxRecDepth 20000 in
set_option maxHeartbeats 4000000 in
theorem cm14 {kz : am_Z} : Ev kz (2046, 82, 0, [some (.inr (.inr 82))], [], (am_sh.take 83, uL bsB cl24)) (none, (am_sh.take 84, uL bsB cl25)) := by
  refine cn_seg (pc' := 1) (L' := [some (.inr (.inr 82))]) (st' := [.inr (.inr 82)]) 1 (fun _ _ => rfl) ?_
  refine cn_obj (pt := 4) rfl rfl (by decide) rfl ?_
  refine cn_seg (pc' := 7) (L' := [some (.inr (.inr 82))]) (st' := [.inl 64, .inr (.inr 82)]) 2 (fun _ _ => rfl) ?_
  refine cn_newa (q := 83) (pt := 9) rfl rfl (by decide) rfl rfl (by decide +kernel) (fun _ => rfl) rfl rfl ?_
  refine cn_put (rn := 82) (pt := 12) (y := 83) rfl rfl rfl rfl rfl rfl rfl ?_
  exact ev_end 1 (fun k => rfl)
def cl26 : List (Nat × Nat × Int) := (1, 18, 1) :: (1, 4, (-1)) :: (1, 17, 85) :: (1, 15, 84) :: (1, 13, 82) :: cl25
set_option maxRecDepth 20000 in
set_option maxHeartbeats 4000000 in
theorem cm15 {kz : am_Z} : Ev kz (2047, 1, 0, [some (.inr (.inr 1))], [], (am_sh.take 2, uL bsA cl1)) (none, (am_sh.take 86, uL bsB cl26)) := by
  refine cn_seg (pc' := 1) (L' := [some (.inr (.inr 1))]) (st' := [.inr (.inr 1)]) 1 (fun _ _ => rfl) ?_
  refine cn_obj (pt := 4) rfl rfl (by decide) rfl ?_
  refine cn_seg (pc' := 8) (L' := [some (.inr (.inr 1))]) (st' := [.inl 1600, .inr (.inr 1)]) 2 (fun _ _ => rfl) ?_
  refine cn_newa (q := 2) (pt := 10) rfl rfl (by decide) rfl rfl (by decide +kernel) (fun _ => rfl) rfl rfl ?_
  refine cn_put (rn := 1) (pt := 13) (y := 2) rfl rfl rfl rfl rfl rfl rfl ?_
  refine cn_seg (pc' := 14) (L' := [some (.inr (.inr 1))]) (st' := [.inr (.inr 1)]) 1 (fun _ _ => rfl) ?_
  refine cn_newo (q := 3) (pt := 17) rfl rfl (by decide) (by decide +kernel) (fun _ => rfl) rfl rfl ?_
  refine cn_seg (pc' := 18) (L' := [some (.inr (.inr 1))]) (st' := [.inr (.inr 3), .inr (.inr 3), .inr (.inr 1)]) 1 (fun _ _ => rfl) ?_
  refine ev_cal (d := 2047) (mi := 1) (pc := 21) (L := [some (.inr (.inr 1))]) (rest := [.inr (.inr 3), .inr (.inr 1)]) (fun k => rfl) cm1 ?_
  show Ev kz (2047, 1, 21, [some (.inr (.inr 1))], [.inr (.inr 3), .inr (.inr 1)], (am_sh.take 16, uL bsA (cl3))) _
  refine cn_put (rn := 1) (pt := 24) (y := 3) rfl rfl rfl rfl rfl rfl rfl ?_
  refine cn_seg (pc' := 25) (L' := [some (.inr (.inr 1))]) (st' := [.inr (.inr 1)]) 1 (fun _ _ => rfl) ?_
  refine cn_newo (q := 16) (pt := 28) rfl rfl (by decide) (by decide +kernel) (fun _ => rfl) rfl rfl ?_
  refine cn_seg (pc' := 29) (L' := [some (.inr (.inr 1))]) (st' := [.inr (.inr 16), .inr (.inr 16), .inr (.inr 1)]) 1 (fun _ _ => rfl) ?_
  refine ev_cal (d := 2047) (mi := 1) (pc := 32) (L := [some (.inr (.inr 1))]) (rest := [.inr (.inr 16), .inr (.inr 1)]) (fun k => rfl) cm3 ?_
  show Ev kz (2047, 1, 32, [some (.inr (.inr 1))], [.inr (.inr 16), .inr (.inr 1)], (am_sh.take 21, uL bsA (cl6))) _
  refine cn_put (rn := 1) (pt := 35) (y := 16) rfl rfl rfl rfl rfl rfl rfl ?_
  refine cn_seg (pc' := 36) (L' := [some (.inr (.inr 1))]) (st' := [.inr (.inr 1)]) 1 (fun _ _ => rfl) ?_
  refine cn_newo (q := 21) (pt := 39) rfl rfl (by decide) (by decide +kernel) (fun _ => rfl) rfl rfl ?_
  refine cn_seg (pc' := 40) (L' := [some (.inr (.inr 1))]) (st' := [.inr (.inr 21), .inr (.inr 21), .inr (.inr 1)]) 1 (fun _ _ => rfl) ?_
  refine ev_cal (d := 2047) (mi := 1) (pc := 43) (L := [some (.inr (.inr 1))]) (rest := [.inr (.inr 21), .inr (.inr 1)]) (fun k => rfl) cm5 ?_
  show Ev kz (2047, 1, 43, [some (.inr (.inr 1))], [.inr (.inr 21), .inr (.inr 1)], (am_sh.take 26, uL bsA (cl9))) _
  refine cn_put (rn := 1) (pt := 46) (y := 21) rfl rfl rfl rfl rfl rfl rfl ?_
  refine cn_seg (pc' := 47) (L' := [some (.inr (.inr 1))]) (st' := [.inr (.inr 1)]) 1 (fun _ _ => rfl) ?_
  refine cn_newo (q := 26) (pt := 50) rfl rfl (by decide) (by decide +kernel) (fun _ => rfl) rfl rfl ?_
  refine cn_seg (pc' := 51) (L' := [some (.inr (.inr 1))]) (st' := [.inr (.inr 26), .inr (.inr 26), .inr (.inr 1)]) 1 (fun _ _ => rfl) ?_
  refine cn_newo (q := 27) (pt := 54) rfl rfl (by decide) (by decide +kernel) (fun _ => rfl) rfl rfl ?_
  refine cn_seg (pc' := 55) (L' := [some (.inr (.inr 1))]) (st' := [.inr (.inr 27), .inr (.inr 27), .inr (.inr 26), .inr (.inr 26), .inr (.inr 1)]) 1 (fun _ _ => rfl) ?_
  refine ev_cal (d := 2047) (mi := 1) (pc := 58) (L := [some (.inr (.inr 1))]) (rest := [.inr (.inr 27), .inr (.inr 26), .inr (.inr 26), .inr (.inr 1)]) (fun k => rfl) cm6 ?_
  show Ev kz (2047, 1, 58, [some (.inr (.inr 1))], [.inr (.inr 27), .inr (.inr 26), .inr (.inr 26), .inr (.inr 1)], (am_sh.take 31, uL bsA (cl11))) _
  refine cn_newo (q := 31) (pt := 61) rfl rfl (by decide) (by decide +kernel) (fun _ => rfl) rfl rfl ?_
  refine cn_seg (pc' := 62) (L' := [some (.inr (.inr 1))]) (st' := [.inr (.inr 31), .inr (.inr 31), .inr (.inr 27), .inr (.inr 26), .inr (.inr 26), .inr (.inr 1)]) 1 (fun _ _ => rfl) ?_
  refine ev_cal (d := 2047) (mi := 1) (pc := 65) (L := [some (.inr (.inr 1))]) (rest := [.inr (.inr 31), .inr (.inr 27), .inr (.inr 26), .inr (.inr 26), .inr (.inr 1)]) (fun k => rfl) cm7 ?_
  show Ev kz (2047, 1, 65, [some (.inr (.inr 1))], [.inr (.inr 31), .inr (.inr 27), .inr (.inr 26), .inr (.inr 26), .inr (.inr 1)], (am_sh.take 44, uL bsA (cl12))) _
  refine cn_seg (pc' := 66) (L' := [some (.inr (.inr 1))]) (st' := [.inr (.inr 1), .inr (.inr 31), .inr (.inr 27), .inr (.inr 26), .inr (.inr 26), .inr (.inr 1)]) 1 (fun _ _ => rfl) ?_
  refine cn_get (rn := 1) (pt := 69) (y := 21) rfl rfl rfl rfl rfl (by decide +kernel) rfl rfl ?_
  refine ev_cal (d := 2047) (mi := 1) (pc := 72) (L := [some (.inr (.inr 1))]) (rest := [.inr (.inr 26), .inr (.inr 1)]) (fun k => rfl) cm8 ?_
  show Ev kz (2047, 1, 72, [some (.inr (.inr 1))], [.inr (.inr 26), .inr (.inr 1)], (am_sh.take 44, uL bsA (cl13))) _
  refine cn_put (rn := 1) (pt := 75) (y := 26) rfl rfl rfl rfl rfl rfl rfl ?_
  refine cn_seg (pc' := 79) (L' := [some (.inr (.inr 1))]) (st' := [.inl 4096, .inr (.inr 1)]) 2 (fun _ _ => rfl) ?_
  refine cn_newa (q := 44) (pt := 81) rfl rfl (by decide) rfl rfl (by decide +kernel) (fun _ => rfl) rfl rfl ?_
  refine cn_put (rn := 1) (pt := 84) (y := 44) rfl rfl rfl rfl rfl rfl rfl ?_
  refine cn_seg (pc' := 85) (L' := [some (.inr (.inr 1))]) (st' := [.inr (.inr 1)]) 1 (fun _ _ => rfl) ?_
  refine cn_newo (q := 45) (pt := 88) rfl rfl (by decide) (by decide +kernel) (fun _ => rfl) rfl rfl ?_
  refine cn_seg (pc' := 90) (L' := [some (.inr (.inr 1))]) (st' := [.inr (.inr 1), .inr (.inr 45), .inr (.inr 45), .inr (.inr 1)]) 2 (fun _ _ => rfl) ?_
  refine cn_get (rn := 1) (pt := 93) (y := 3) rfl rfl rfl rfl rfl (by decide +kernel) rfl rfl ?_
  refine cn_seg (pc' := 94) (L' := [some (.inr (.inr 1))]) (st' := [.inr (.inr 1), .inr (.inr 3), .inr (.inr 45), .inr (.inr 45), .inr (.inr 1)]) 1 (fun _ _ => rfl) ?_
  refine cn_get (rn := 1) (pt := 97) (y := 16) rfl rfl rfl rfl rfl (by decide +kernel) rfl rfl ?_
  refine ev_cal (d := 2047) (mi := 1) (pc := 100) (L := [some (.inr (.inr 1))]) (rest := [.inr (.inr 45), .inr (.inr 1)]) (fun k => rfl) cm9 ?_
  show Ev kz (2047, 1, 100, [some (.inr (.inr 1))], [.inr (.inr 45), .inr (.inr 1)], (am_sh.take 48, uL bsA (cl15))) _
  refine cn_put (rn := 1) (pt := 103) (y := 45) rfl rfl rfl rfl rfl rfl rfl ?_
  refine cn_seg (pc' := 104) (L' := [some (.inr (.inr 1))]) (st' := [.inr (.inr 1)]) 1 (fun _ _ => rfl) ?_
  refine cn_newo (q := 48) (pt := 107) rfl rfl (by decide) (by decide +kernel) (fun _ => rfl) rfl rfl ?_
  refine cn_seg (pc' := 109) (L' := [some (.inr (.inr 1))]) (st' := [.inr (.inr 1), .inr (.inr 48), .inr (.inr 48), .inr (.inr 1)]) 2 (fun _ _ => rfl) ?_
  refine cn_get (rn := 1) (pt := 112) (y := 3) rfl rfl rfl rfl rfl (by decide +kernel) rfl rfl ?_
  refine cn_seg (pc' := 113) (L' := [some (.inr (.inr 1))]) (st' := [.inr (.inr 1), .inr (.inr 3), .inr (.inr 48), .inr (.inr 48), .inr (.inr 1)]) 1 (fun _ _ => rfl) ?_
  refine cn_get (rn := 1) (pt := 116) (y := 16) rfl rfl rfl rfl rfl (by decide +kernel) rfl rfl ?_
  refine cn_seg (pc' := 117) (L' := [some (.inr (.inr 1))]) (st' := [.inr (.inr 1), .inr (.inr 16), .inr (.inr 3), .inr (.inr 48), .inr (.inr 48), .inr (.inr 1)]) 1 (fun _ _ => rfl) ?_
  refine cn_get (rn := 1) (pt := 120) (y := 45) rfl rfl rfl rfl rfl (by decide +kernel) rfl rfl ?_
  refine ev_cal (d := 2047) (mi := 1) (pc := 123) (L := [some (.inr (.inr 1))]) (rest := [.inr (.inr 48), .inr (.inr 1)]) (fun k => rfl) cm10 ?_
  show Ev kz (2047, 1, 123, [some (.inr (.inr 1))], [.inr (.inr 48), .inr (.inr 1)], (am_sh.take 52, uL bsA (cl17))) _
  refine cn_put (rn := 1) (pt := 126) (y := 48) rfl rfl rfl rfl rfl rfl rfl ?_
  refine cn_seg (pc' := 127) (L' := [some (.inr (.inr 1))]) (st' := [.inr (.inr 1)]) 1 (fun _ _ => rfl) ?_
  refine cn_newo (q := 52) (pt := 130) rfl rfl (by decide) (by decide +kernel) (fun _ => rfl) rfl rfl ?_
  refine cn_seg (pc' := 132) (L' := [some (.inr (.inr 1))]) (st' := [.inr (.inr 1), .inr (.inr 52), .inr (.inr 52), .inr (.inr 1)]) 2 (fun _ _ => rfl) ?_
  refine cn_get (rn := 1) (pt := 135) (y := 16) rfl rfl rfl rfl rfl (by decide +kernel) rfl rfl ?_
  refine cn_seg (pc' := 136) (L' := [some (.inr (.inr 1))]) (st' := [.inr (.inr 1), .inr (.inr 16), .inr (.inr 52), .inr (.inr 52), .inr (.inr 1)]) 1 (fun _ _ => rfl) ?_
  refine cn_get (rn := 1) (pt := 139) (y := 45) rfl rfl rfl rfl rfl (by decide +kernel) rfl rfl ?_
  refine cn_seg (pc' := 140) (L' := [some (.inr (.inr 1))]) (st' := [.inr (.inr 1), .inr (.inr 45), .inr (.inr 16), .inr (.inr 52), .inr (.inr 52), .inr (.inr 1)]) 1 (fun _ _ => rfl) ?_
  refine cn_get (rn := 1) (pt := 143) (y := 44) rfl rfl rfl rfl rfl (by decide +kernel) rfl rfl ?_
  refine ev_cal (d := 2047) (mi := 1) (pc := 146) (L := [some (.inr (.inr 1))]) (rest := [.inr (.inr 52), .inr (.inr 1)]) (fun k => rfl) cm11 ?_
  show Ev kz (2047, 1, 146, [some (.inr (.inr 1))], [.inr (.inr 52), .inr (.inr 1)], (am_sh.take 56, uL bsA (cl19))) _
  refine cn_put (rn := 1) (pt := 149) (y := 52) rfl rfl rfl rfl rfl rfl rfl ?_
  refine cn_seg (pc' := 150) (L' := [some (.inr (.inr 1))]) (st' := [.inr (.inr 1)]) 1 (fun _ _ => rfl) ?_
  refine cn_newo (q := 56) (pt := 153) rfl rfl (by decide) (by decide +kernel) (fun _ => rfl) rfl rfl ?_
  refine cn_seg (pc' := 154) (L' := [some (.inr (.inr 1))]) (st' := [.inr (.inr 56), .inr (.inr 56), .inr (.inr 1)]) 1 (fun _ _ => rfl) ?_
  refine ev_cal (d := 2047) (mi := 1) (pc := 157) (L := [some (.inr (.inr 1))]) (rest := [.inr (.inr 56), .inr (.inr 1)]) (fun k => rfl) cm12 ?_
  show Ev kz (2047, 1, 157, [some (.inr (.inr 1))], [.inr (.inr 56), .inr (.inr 1)], (am_sh.take 78, uL bsB (cl21))) _
  refine cn_put (rn := 1) (pt := 160) (y := 56) rfl rfl rfl rfl rfl rfl rfl ?_
  refine cn_seg (pc' := 161) (L' := [some (.inr (.inr 1))]) (st' := [.inr (.inr 1)]) 1 (fun _ _ => rfl) ?_
  refine cn_newo (q := 78) (pt := 164) rfl rfl (by decide) (by decide +kernel) (fun _ => rfl) rfl rfl ?_
  refine cn_seg (pc' := 165) (L' := [some (.inr (.inr 1))]) (st' := [.inr (.inr 78), .inr (.inr 78), .inr (.inr 1)]) 1 (fun _ _ => rfl) ?_
  refine ev_cal (d := 2047) (mi := 1) (pc := 168) (L := [some (.inr (.inr 1))]) (rest := [.inr (.inr 78), .inr (.inr 1)]) (fun k => rfl) cm13 ?_
  show Ev kz (2047, 1, 168, [some (.inr (.inr 1))], [.inr (.inr 78), .inr (.inr 1)], (am_sh.take 82, uL bsB (cl23))) _
  refine cn_put (rn := 1) (pt := 171) (y := 78) rfl rfl rfl rfl rfl rfl rfl ?_
  refine cn_seg (pc' := 172) (L' := [some (.inr (.inr 1))]) (st' := [.inr (.inr 1)]) 1 (fun _ _ => rfl) ?_
  refine cn_newo (q := 82) (pt := 175) rfl rfl (by decide) (by decide +kernel) (fun _ => rfl) rfl rfl ?_
  refine cn_seg (pc' := 176) (L' := [some (.inr (.inr 1))]) (st' := [.inr (.inr 82), .inr (.inr 82), .inr (.inr 1)]) 1 (fun _ _ => rfl) ?_
  refine ev_cal (d := 2047) (mi := 1) (pc := 179) (L := [some (.inr (.inr 1))]) (rest := [.inr (.inr 82), .inr (.inr 1)]) (fun k => rfl) cm14 ?_
  show Ev kz (2047, 1, 179, [some (.inr (.inr 1))], [.inr (.inr 82), .inr (.inr 1)], (am_sh.take 84, uL bsB (cl25))) _
  refine cn_put (rn := 1) (pt := 182) (y := 82) rfl rfl rfl rfl rfl rfl rfl ?_
  refine cn_seg (pc' := 185) (L' := [some (.inr (.inr 1))]) (st' := [.inl 85, .inr (.inr 1)]) 2 (fun _ _ => rfl) ?_
  refine cn_newa (q := 84) (pt := 187) rfl rfl (by decide) rfl rfl (by decide +kernel) (fun _ => rfl) rfl rfl ?_
  refine cn_put (rn := 1) (pt := 190) (y := 84) rfl rfl rfl rfl rfl rfl rfl ?_
  refine cn_seg (pc' := 193) (L' := [some (.inr (.inr 1))]) (st' := [.inl 6, .inr (.inr 1)]) 2 (fun _ _ => rfl) ?_
  refine cn_newa (q := 85) (pt := 195) rfl rfl (by decide) rfl rfl (by decide +kernel) (fun _ => rfl) rfl rfl ?_
  refine cn_put (rn := 1) (pt := 198) (y := 85) rfl rfl rfl rfl rfl rfl rfl ?_
  refine cn_seg (pc' := 200) (L' := [some (.inr (.inr 1))]) (st' := [.inl (-1), .inr (.inr 1)]) 2 (fun _ _ => rfl) ?_
  refine cn_put (rn := 1) (pt := 203) (y := (-1)) rfl rfl rfl rfl rfl rfl rfl ?_
  refine cn_seg (pc' := 205) (L' := [some (.inr (.inr 1))]) (st' := [.inl 1, .inr (.inr 1)]) 2 (fun _ _ => rfl) ?_
  refine cn_put (rn := 1) (pt := 208) (y := 1) rfl rfl rfl rfl rfl rfl rfl ?_
  exact ev_end 1 (fun k => rfl)
