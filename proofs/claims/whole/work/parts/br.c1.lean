/-! the constructors, written by gen_ctor.py -/
def cl27 : List (Nat × Nat × Int) := (104, 0, (-1)) :: (86, 89, 0) :: (86, 88, 138) :: (86, 87, 137) :: (86, 86, 136) :: (86, 85, 135) :: (86, 84, 0) :: (86, 83, 0) :: (86, 82, 0) :: (86, 81, 134) :: (86, 80, 0) :: (86, 79, 133) :: (86, 78, 0) :: (86, 77, 0) :: (86, 76, 0) :: (86, 75, 132) :: (86, 74, 131) :: (86, 73, 130) :: (86, 72, 129) :: (86, 71, 128) :: (86, 70, 0) :: (86, 69, 127) :: (86, 68, 126) :: (86, 67, 0) :: (86, 66, (-1)) :: (86, 65, (-1)) :: (86, 64, (-1)) :: (86, 63, 0) :: (86, 62, 0) :: (86, 61, 0) :: (86, 60, 125) :: (86, 59, 1) :: (86, 58, 0) :: (86, 57, 0) :: (86, 56, 124) :: (86, 55, 123) :: (86, 54, 122) :: (86, 53, 121) :: (86, 52, 120) :: (86, 51, 119) :: (86, 50, 0) :: (86, 49, 0) :: (86, 48, 118) :: (86, 47, 0) :: (86, 46, 0) :: (86, 45, 117) :: (86, 44, 116) :: (86, 43, 115) :: (86, 42, 114) :: (86, 41, 113) :: (86, 40, 1) :: (86, 39, 0) :: (86, 38, 112) :: (86, 37, 111) :: (86, 36, 110) :: (86, 35, 109) :: (86, 34, 108) :: (86, 33, 107) :: (86, 32, 106) :: (86, 31, 105) :: (86, 30, 104) :: (86, 29, 103) :: (86, 28, 102) :: (86, 27, 101) :: (86, 26, 100) :: (86, 25, 99) :: (86, 24, 98) :: (86, 23, 97) :: (86, 22, 96) :: (86, 21, 95) :: (86, 20, 94) :: (86, 19, 93) :: (86, 18, 92) :: (86, 17, 91) :: (86, 16, 90) :: (86, 15, 89) :: (86, 14, 88) :: (86, 13, 0) :: (86, 12, (-1)) :: (86, 11, (-1)) :: (86, 10, 0) :: (86, 9, (-1)) :: (86, 8, 0) :: (86, 7, 0) :: (86, 6, 0) :: (86, 5, 0) :: (86, 4, 0) :: (86, 3, 0) :: (86, 2, 0) :: (86, 1, 0) :: (86, 0, 87) :: cl26
set_option maxRecDepth 20000 in
set_option maxHeartbeats 4000000 in
theorem cm16 {kz : am_Z} : Ev kz (2047, 2, 0, [some (.inr (.inr 86))], [], (am_sh.take 87, uL bsB cl26)) (none, (am_sh.take 139, uL bsB cl27)) := by
  refine cn_seg (pc' := 1) (L' := [some (.inr (.inr 86))]) (st' := [.inr (.inr 86)]) 1 (fun _ _ => rfl) ?_
  refine cn_obj (pt := 4) rfl rfl (by decide) rfl ?_
  refine cn_seg (pc' := 8) (L' := [some (.inr (.inr 86))]) (st' := [.inl 1800, .inr (.inr 86)]) 2 (fun _ _ => rfl) ?_
  refine cn_newa (q := 87) (pt := 10) rfl rfl (by decide) rfl rfl (by decide +kernel) (fun _ => rfl) rfl rfl ?_
  refine cn_put (rn := 86) (pt := 13) (y := 87) rfl rfl rfl rfl rfl rfl rfl ?_
  refine cn_seg (pc' := 15) (L' := [some (.inr (.inr 86))]) (st' := [.inl 0, .inr (.inr 86)]) 2 (fun _ _ => rfl) ?_
  refine cn_put (rn := 86) (pt := 18) (y := 0) rfl rfl rfl rfl rfl rfl rfl ?_
  refine cn_seg (pc' := 20) (L' := [some (.inr (.inr 86))]) (st' := [.inl 0, .inr (.inr 86)]) 2 (fun _ _ => rfl) ?_
  refine cn_put (rn := 86) (pt := 23) (y := 0) rfl rfl rfl rfl rfl rfl rfl ?_
  refine cn_seg (pc' := 25) (L' := [some (.inr (.inr 86))]) (st' := [.inl 0, .inr (.inr 86)]) 2 (fun _ _ => rfl) ?_
  refine cn_put (rn := 86) (pt := 28) (y := 0) rfl rfl rfl rfl rfl rfl rfl ?_
  refine cn_seg (pc' := 30) (L' := [some (.inr (.inr 86))]) (st' := [.inl 0, .inr (.inr 86)]) 2 (fun _ _ => rfl) ?_
  refine cn_put (rn := 86) (pt := 33) (y := 0) rfl rfl rfl rfl rfl rfl rfl ?_
  refine cn_seg (pc' := 35) (L' := [some (.inr (.inr 86))]) (st' := [.inl 0, .inr (.inr 86)]) 2 (fun _ _ => rfl) ?_
  refine cn_put (rn := 86) (pt := 38) (y := 0) rfl rfl rfl rfl rfl rfl rfl ?_
  refine cn_seg (pc' := 40) (L' := [some (.inr (.inr 86))]) (st' := [.inl 0, .inr (.inr 86)]) 2 (fun _ _ => rfl) ?_
  refine cn_put (rn := 86) (pt := 43) (y := 0) rfl rfl rfl rfl rfl rfl rfl ?_
  refine cn_seg (pc' := 45) (L' := [some (.inr (.inr 86))]) (st' := [.inr (.inl 0), .inr (.inr 86)]) 2 (fun _ _ => rfl) ?_
  refine cn_put (rn := 86) (pt := 48) (y := 0) rfl rfl rfl rfl rfl rfl rfl ?_
  refine cn_seg (pc' := 50) (L' := [some (.inr (.inr 86))]) (st' := [.inl 0, .inr (.inr 86)]) 2 (fun _ _ => rfl) ?_
  refine cn_put (rn := 86) (pt := 53) (y := 0) rfl rfl rfl rfl rfl rfl rfl ?_
  refine cn_seg (pc' := 55) (L' := [some (.inr (.inr 86))]) (st' := [.inl (-1), .inr (.inr 86)]) 2 (fun _ _ => rfl) ?_
  refine cn_put (rn := 86) (pt := 58) (y := (-1)) rfl rfl rfl rfl rfl rfl rfl ?_
  refine cn_seg (pc' := 60) (L' := [some (.inr (.inr 86))]) (st' := [.inl 0, .inr (.inr 86)]) 2 (fun _ _ => rfl) ?_
  refine cn_put (rn := 86) (pt := 63) (y := 0) rfl rfl rfl rfl rfl rfl rfl ?_
  refine cn_seg (pc' := 65) (L' := [some (.inr (.inr 86))]) (st' := [.inl (-1), .inr (.inr 86)]) 2 (fun _ _ => rfl) ?_
  refine cn_put (rn := 86) (pt := 68) (y := (-1)) rfl rfl rfl rfl rfl rfl rfl ?_
  refine cn_seg (pc' := 70) (L' := [some (.inr (.inr 86))]) (st' := [.inl (-1), .inr (.inr 86)]) 2 (fun _ _ => rfl) ?_
  refine cn_put (rn := 86) (pt := 73) (y := (-1)) rfl rfl rfl rfl rfl rfl rfl ?_
  refine cn_seg (pc' := 75) (L' := [some (.inr (.inr 86))]) (st' := [.inl 0, .inr (.inr 86)]) 2 (fun _ _ => rfl) ?_
  refine cn_put (rn := 86) (pt := 78) (y := 0) rfl rfl rfl rfl rfl rfl rfl ?_
  refine cn_seg (pc' := 80) (L' := [some (.inr (.inr 86))]) (st' := [.inl 2, .inr (.inr 86)]) 2 (fun _ _ => rfl) ?_
  refine cn_newa (q := 88) (pt := 82) rfl rfl (by decide) rfl rfl (by decide +kernel) (fun _ => rfl) rfl rfl ?_
  refine cn_put (rn := 86) (pt := 85) (y := 88) rfl rfl rfl rfl rfl rfl rfl ?_
  refine cn_seg (pc' := 88) (L' := [some (.inr (.inr 86))]) (st' := [.inl 8, .inr (.inr 86)]) 2 (fun _ _ => rfl) ?_
  refine cn_newa (q := 89) (pt := 90) rfl rfl (by decide) rfl rfl (by decide +kernel) (fun _ => rfl) rfl rfl ?_
  refine cn_put (rn := 86) (pt := 93) (y := 89) rfl rfl rfl rfl rfl rfl rfl ?_
  refine cn_seg (pc' := 95) (L' := [some (.inr (.inr 86))]) (st' := [.inl 2, .inr (.inr 86)]) 2 (fun _ _ => rfl) ?_
  refine cn_newa (q := 90) (pt := 97) rfl rfl (by decide) rfl rfl (by decide +kernel) (fun _ => rfl) rfl rfl ?_
  refine cn_put (rn := 86) (pt := 100) (y := 90) rfl rfl rfl rfl rfl rfl rfl ?_
  refine cn_seg (pc' := 103) (L' := [some (.inr (.inr 86))]) (st' := [.inl 24, .inr (.inr 86)]) 2 (fun _ _ => rfl) ?_
  refine cn_newa (q := 91) (pt := 105) rfl rfl (by decide) rfl rfl (by decide +kernel) (fun _ => rfl) rfl rfl ?_
  refine cn_put (rn := 86) (pt := 108) (y := 91) rfl rfl rfl rfl rfl rfl rfl ?_
  refine cn_seg (pc' := 111) (L' := [some (.inr (.inr 86))]) (st' := [.inl 24, .inr (.inr 86)]) 2 (fun _ _ => rfl) ?_
  refine cn_newa (q := 92) (pt := 113) rfl rfl (by decide) rfl rfl (by decide +kernel) (fun _ => rfl) rfl rfl ?_
  refine cn_put (rn := 86) (pt := 116) (y := 92) rfl rfl rfl rfl rfl rfl rfl ?_
  refine cn_seg (pc' := 119) (L' := [some (.inr (.inr 86))]) (st' := [.inl 24, .inr (.inr 86)]) 2 (fun _ _ => rfl) ?_
  refine cn_newa (q := 93) (pt := 121) rfl rfl (by decide) rfl rfl (by decide +kernel) (fun _ => rfl) rfl rfl ?_
  refine cn_put (rn := 86) (pt := 124) (y := 93) rfl rfl rfl rfl rfl rfl rfl ?_
  refine cn_seg (pc' := 126) (L' := [some (.inr (.inr 86))]) (st' := [.inl 2, .inr (.inr 86)]) 2 (fun _ _ => rfl) ?_
  refine cn_newa (q := 94) (pt := 128) rfl rfl (by decide) rfl rfl (by decide +kernel) (fun _ => rfl) rfl rfl ?_
  refine cn_put (rn := 86) (pt := 131) (y := 94) rfl rfl rfl rfl rfl rfl rfl ?_
  refine cn_seg (pc' := 134) (L' := [some (.inr (.inr 86))]) (st' := [.inl 20, .inr (.inr 86)]) 2 (fun _ _ => rfl) ?_
  refine cn_newa (q := 95) (pt := 136) rfl rfl (by decide) rfl rfl (by decide +kernel) (fun _ => rfl) rfl rfl ?_
  refine cn_put (rn := 86) (pt := 139) (y := 95) rfl rfl rfl rfl rfl rfl rfl ?_
  refine cn_seg (pc' := 142) (L' := [some (.inr (.inr 86))]) (st' := [.inl 20, .inr (.inr 86)]) 2 (fun _ _ => rfl) ?_
  refine cn_newa (q := 96) (pt := 144) rfl rfl (by decide) rfl rfl (by decide +kernel) (fun _ => rfl) rfl rfl ?_
  refine cn_put (rn := 86) (pt := 147) (y := 96) rfl rfl rfl rfl rfl rfl rfl ?_
  refine cn_seg (pc' := 149) (L' := [some (.inr (.inr 86))]) (st' := [.inl 2, .inr (.inr 86)]) 2 (fun _ _ => rfl) ?_
  refine cn_newa (q := 97) (pt := 151) rfl rfl (by decide) rfl rfl (by decide +kernel) (fun _ => rfl) rfl rfl ?_
  refine cn_put (rn := 86) (pt := 154) (y := 97) rfl rfl rfl rfl rfl rfl rfl ?_
  refine cn_seg (pc' := 157) (L' := [some (.inr (.inr 86))]) (st' := [.inl 32, .inr (.inr 86)]) 2 (fun _ _ => rfl) ?_
  refine cn_newa (q := 98) (pt := 159) rfl rfl (by decide) rfl rfl (by decide +kernel) (fun _ => rfl) rfl rfl ?_
  refine cn_put (rn := 86) (pt := 162) (y := 98) rfl rfl rfl rfl rfl rfl rfl ?_
  refine cn_seg (pc' := 165) (L' := [some (.inr (.inr 86))]) (st' := [.inl 32, .inr (.inr 86)]) 2 (fun _ _ => rfl) ?_
  refine cn_newa (q := 99) (pt := 167) rfl rfl (by decide) rfl rfl (by decide +kernel) (fun _ => rfl) rfl rfl ?_
  refine cn_put (rn := 86) (pt := 170) (y := 99) rfl rfl rfl rfl rfl rfl rfl ?_
  refine cn_seg (pc' := 172) (L' := [some (.inr (.inr 86))]) (st' := [.inl 2, .inr (.inr 86)]) 2 (fun _ _ => rfl) ?_
  refine cn_newa (q := 100) (pt := 174) rfl rfl (by decide) rfl rfl (by decide +kernel) (fun _ => rfl) rfl rfl ?_
  refine cn_put (rn := 86) (pt := 177) (y := 100) rfl rfl rfl rfl rfl rfl rfl ?_
  refine cn_seg (pc' := 180) (L' := [some (.inr (.inr 86))]) (st' := [.inl 16, .inr (.inr 86)]) 2 (fun _ _ => rfl) ?_
  refine cn_newa (q := 101) (pt := 182) rfl rfl (by decide) rfl rfl (by decide +kernel) (fun _ => rfl) rfl rfl ?_
  refine cn_put (rn := 86) (pt := 185) (y := 101) rfl rfl rfl rfl rfl rfl rfl ?_
  refine cn_seg (pc' := 188) (L' := [some (.inr (.inr 86))]) (st' := [.inl 16, .inr (.inr 86)]) 2 (fun _ _ => rfl) ?_
  refine cn_newa (q := 102) (pt := 190) rfl rfl (by decide) rfl rfl (by decide +kernel) (fun _ => rfl) rfl rfl ?_
  refine cn_put (rn := 86) (pt := 193) (y := 102) rfl rfl rfl rfl rfl rfl rfl ?_
  refine cn_seg (pc' := 196) (L' := [some (.inr (.inr 86))]) (st' := [.inl 16, .inr (.inr 86)]) 2 (fun _ _ => rfl) ?_
  refine cn_newa (q := 103) (pt := 198) rfl rfl (by decide) rfl rfl (by decide +kernel) (fun _ => rfl) rfl rfl ?_
  refine cn_put (rn := 86) (pt := 201) (y := 103) rfl rfl rfl rfl rfl rfl rfl ?_
  refine cn_seg (pc' := 203) (L' := [some (.inr (.inr 86))]) (st' := [.inl 2, .inr (.inr 86)]) 2 (fun _ _ => rfl) ?_
  refine cn_newa (q := 104) (pt := 205) rfl rfl (by decide) rfl rfl (by decide +kernel) (fun _ => rfl) rfl rfl ?_
  refine cn_put (rn := 86) (pt := 208) (y := 104) rfl rfl rfl rfl rfl rfl rfl ?_
  refine cn_seg (pc' := 210) (L' := [some (.inr (.inr 86))]) (st' := [.inl 2, .inr (.inr 86)]) 2 (fun _ _ => rfl) ?_
  refine cn_newa (q := 105) (pt := 212) rfl rfl (by decide) rfl rfl (by decide +kernel) (fun _ => rfl) rfl rfl ?_
  refine cn_put (rn := 86) (pt := 215) (y := 105) rfl rfl rfl rfl rfl rfl rfl ?_
  refine cn_seg (pc' := 217) (L' := [some (.inr (.inr 86))]) (st' := [.inl 2, .inr (.inr 86)]) 2 (fun _ _ => rfl) ?_
  refine cn_newa (q := 106) (pt := 219) rfl rfl (by decide) rfl rfl (by decide +kernel) (fun _ => rfl) rfl rfl ?_
  refine cn_put (rn := 86) (pt := 222) (y := 106) rfl rfl rfl rfl rfl rfl rfl ?_
  refine cn_seg (pc' := 225) (L' := [some (.inr (.inr 86))]) (st' := [.inl 32, .inr (.inr 86)]) 2 (fun _ _ => rfl) ?_
  refine cn_newa (q := 107) (pt := 227) rfl rfl (by decide) rfl rfl (by decide +kernel) (fun _ => rfl) rfl rfl ?_
  refine cn_put (rn := 86) (pt := 230) (y := 107) rfl rfl rfl rfl rfl rfl rfl ?_
  refine cn_seg (pc' := 233) (L' := [some (.inr (.inr 86))]) (st' := [.inl 32, .inr (.inr 86)]) 2 (fun _ _ => rfl) ?_
  refine cn_newa (q := 108) (pt := 235) rfl rfl (by decide) rfl rfl (by decide +kernel) (fun _ => rfl) rfl rfl ?_
  refine cn_put (rn := 86) (pt := 238) (y := 108) rfl rfl rfl rfl rfl rfl rfl ?_
  refine cn_seg (pc' := 241) (L' := [some (.inr (.inr 86))]) (st' := [.inl 32, .inr (.inr 86)]) 2 (fun _ _ => rfl) ?_
  refine cn_newa (q := 109) (pt := 243) rfl rfl (by decide) rfl rfl (by decide +kernel) (fun _ => rfl) rfl rfl ?_
  refine cn_put (rn := 86) (pt := 246) (y := 109) rfl rfl rfl rfl rfl rfl rfl ?_
  refine cn_seg (pc' := 248) (L' := [some (.inr (.inr 86))]) (st' := [.inl 2, .inr (.inr 86)]) 2 (fun _ _ => rfl) ?_
  refine cn_newa (q := 110) (pt := 250) rfl rfl (by decide) rfl rfl (by decide +kernel) (fun _ => rfl) rfl rfl ?_
  refine cn_put (rn := 86) (pt := 253) (y := 110) rfl rfl rfl rfl rfl rfl rfl ?_
  refine cn_seg (pc' := 257) (L' := [some (.inr (.inr 86))]) (st' := [.inl 3200, .inr (.inr 86)]) 2 (fun _ _ => rfl) ?_
  refine cn_newa (q := 111) (pt := 259) rfl rfl (by decide) rfl rfl (by decide +kernel) (fun _ => rfl) rfl rfl ?_
  refine cn_put (rn := 86) (pt := 262) (y := 111) rfl rfl rfl rfl rfl rfl rfl ?_
  refine cn_seg (pc' := 266) (L' := [some (.inr (.inr 86))]) (st' := [.inl 3200, .inr (.inr 86)]) 2 (fun _ _ => rfl) ?_
  refine cn_newa (q := 112) (pt := 268) rfl rfl (by decide) rfl rfl (by decide +kernel) (fun _ => rfl) rfl rfl ?_
  refine cn_put (rn := 86) (pt := 271) (y := 112) rfl rfl rfl rfl rfl rfl rfl ?_
  refine cn_seg (pc' := 273) (L' := [some (.inr (.inr 86))]) (st' := [.inl 0, .inr (.inr 86)]) 2 (fun _ _ => rfl) ?_
  refine cn_put (rn := 86) (pt := 276) (y := 0) rfl rfl rfl rfl rfl rfl rfl ?_
  refine cn_seg (pc' := 278) (L' := [some (.inr (.inr 86))]) (st' := [.inl 1, .inr (.inr 86)]) 2 (fun _ _ => rfl) ?_
  refine cn_put (rn := 86) (pt := 281) (y := 1) rfl rfl rfl rfl rfl rfl rfl ?_
  refine cn_seg (pc' := 284) (L' := [some (.inr (.inr 86))]) (st' := [.inl 20, .inr (.inr 86)]) 2 (fun _ _ => rfl) ?_
  refine cn_newa (q := 113) (pt := 286) rfl rfl (by decide) rfl rfl (by decide +kernel) (fun _ => rfl) rfl rfl ?_
  refine cn_put (rn := 86) (pt := 289) (y := 113) rfl rfl rfl rfl rfl rfl rfl ?_
  refine cn_seg (pc' := 292) (L' := [some (.inr (.inr 86))]) (st' := [.inl 20, .inr (.inr 86)]) 2 (fun _ _ => rfl) ?_
  refine cn_newa (q := 114) (pt := 294) rfl rfl (by decide) rfl rfl (by decide +kernel) (fun _ => rfl) rfl rfl ?_
  refine cn_put (rn := 86) (pt := 297) (y := 114) rfl rfl rfl rfl rfl rfl rfl ?_
  refine cn_seg (pc' := 300) (L' := [some (.inr (.inr 86))]) (st' := [.inl 20, .inr (.inr 86)]) 2 (fun _ _ => rfl) ?_
  refine cn_newa (q := 115) (pt := 302) rfl rfl (by decide) rfl rfl (by decide +kernel) (fun _ => rfl) rfl rfl ?_
  refine cn_put (rn := 86) (pt := 305) (y := 115) rfl rfl rfl rfl rfl rfl rfl ?_
  refine cn_seg (pc' := 308) (L' := [some (.inr (.inr 86))]) (st' := [.inl 20, .inr (.inr 86)]) 2 (fun _ _ => rfl) ?_
  refine cn_newa (q := 116) (pt := 310) rfl rfl (by decide) rfl rfl (by decide +kernel) (fun _ => rfl) rfl rfl ?_
  refine cn_put (rn := 86) (pt := 313) (y := 116) rfl rfl rfl rfl rfl rfl rfl ?_
  refine cn_seg (pc' := 316) (L' := [some (.inr (.inr 86))]) (st' := [.inl 20, .inr (.inr 86)]) 2 (fun _ _ => rfl) ?_
  refine cn_newa (q := 117) (pt := 318) rfl rfl (by decide) rfl rfl (by decide +kernel) (fun _ => rfl) rfl rfl ?_
  refine cn_put (rn := 86) (pt := 321) (y := 117) rfl rfl rfl rfl rfl rfl rfl ?_
  refine cn_seg (pc' := 323) (L' := [some (.inr (.inr 86))]) (st' := [.inl 0, .inr (.inr 86)]) 2 (fun _ _ => rfl) ?_
  refine cn_put (rn := 86) (pt := 326) (y := 0) rfl rfl rfl rfl rfl rfl rfl ?_
  refine cn_seg (pc' := 328) (L' := [some (.inr (.inr 86))]) (st' := [.inl 0, .inr (.inr 86)]) 2 (fun _ _ => rfl) ?_
  refine cn_put (rn := 86) (pt := 331) (y := 0) rfl rfl rfl rfl rfl rfl rfl ?_
  refine cn_seg (pc' := 335) (L' := [some (.inr (.inr 86))]) (st' := [.inl 500, .inr (.inr 86)]) 2 (fun _ _ => rfl) ?_
  refine cn_newa (q := 118) (pt := 337) rfl rfl (by decide) rfl rfl (by decide +kernel) (fun _ => rfl) rfl rfl ?_
  refine cn_put (rn := 86) (pt := 340) (y := 118) rfl rfl rfl rfl rfl rfl rfl ?_
  refine cn_seg (pc' := 342) (L' := [some (.inr (.inr 86))]) (st' := [.inl 0, .inr (.inr 86)]) 2 (fun _ _ => rfl) ?_
  refine cn_put (rn := 86) (pt := 345) (y := 0) rfl rfl rfl rfl rfl rfl rfl ?_
  refine cn_seg (pc' := 347) (L' := [some (.inr (.inr 86))]) (st' := [.inl 0, .inr (.inr 86)]) 2 (fun _ _ => rfl) ?_
  refine cn_put (rn := 86) (pt := 350) (y := 0) rfl rfl rfl rfl rfl rfl rfl ?_
  refine cn_seg (pc' := 353) (L' := [some (.inr (.inr 86))]) (st' := [.inl 6, .inr (.inr 86)]) 2 (fun _ _ => rfl) ?_
  refine cn_newa (q := 119) (pt := 355) rfl rfl (by decide) rfl rfl (by decide +kernel) (fun _ => rfl) rfl rfl ?_
  refine cn_put (rn := 86) (pt := 358) (y := 119) rfl rfl rfl rfl rfl rfl rfl ?_
  refine cn_seg (pc' := 361) (L' := [some (.inr (.inr 86))]) (st' := [.inl 22, .inr (.inr 86)]) 2 (fun _ _ => rfl) ?_
  refine cn_newa (q := 120) (pt := 363) rfl rfl (by decide) rfl rfl (by decide +kernel) (fun _ => rfl) rfl rfl ?_
  refine cn_put (rn := 86) (pt := 366) (y := 120) rfl rfl rfl rfl rfl rfl rfl ?_
  refine cn_seg (pc' := 369) (L' := [some (.inr (.inr 86))]) (st' := [.inl 22, .inr (.inr 86)]) 2 (fun _ _ => rfl) ?_
  refine cn_newa (q := 121) (pt := 371) rfl rfl (by decide) rfl rfl (by decide +kernel) (fun _ => rfl) rfl rfl ?_
  refine cn_put (rn := 86) (pt := 374) (y := 121) rfl rfl rfl rfl rfl rfl rfl ?_
  refine cn_seg (pc' := 377) (L' := [some (.inr (.inr 86))]) (st' := [.inl 22, .inr (.inr 86)]) 2 (fun _ _ => rfl) ?_
  refine cn_newa (q := 122) (pt := 379) rfl rfl (by decide) rfl rfl (by decide +kernel) (fun _ => rfl) rfl rfl ?_
  refine cn_put (rn := 86) (pt := 382) (y := 122) rfl rfl rfl rfl rfl rfl rfl ?_
  refine cn_seg (pc' := 386) (L' := [some (.inr (.inr 86))]) (st' := [.inl 352, .inr (.inr 86)]) 2 (fun _ _ => rfl) ?_
  refine cn_newa (q := 123) (pt := 388) rfl rfl (by decide) rfl rfl (by decide +kernel) (fun _ => rfl) rfl rfl ?_
  refine cn_put (rn := 86) (pt := 391) (y := 123) rfl rfl rfl rfl rfl rfl rfl ?_
  refine cn_seg (pc' := 395) (L' := [some (.inr (.inr 86))]) (st' := [.inl 352, .inr (.inr 86)]) 2 (fun _ _ => rfl) ?_
  refine cn_newa (q := 124) (pt := 397) rfl rfl (by decide) rfl rfl (by decide +kernel) (fun _ => rfl) rfl rfl ?_
  refine cn_put (rn := 86) (pt := 400) (y := 124) rfl rfl rfl rfl rfl rfl rfl ?_
  refine cn_seg (pc' := 402) (L' := [some (.inr (.inr 86))]) (st' := [.inl 0, .inr (.inr 86)]) 2 (fun _ _ => rfl) ?_
  refine cn_put (rn := 86) (pt := 405) (y := 0) rfl rfl rfl rfl rfl rfl rfl ?_
  refine cn_seg (pc' := 407) (L' := [some (.inr (.inr 86))]) (st' := [.inl 0, .inr (.inr 86)]) 2 (fun _ _ => rfl) ?_
  refine cn_put (rn := 86) (pt := 410) (y := 0) rfl rfl rfl rfl rfl rfl rfl ?_
  refine cn_seg (pc' := 412) (L' := [some (.inr (.inr 86))]) (st' := [.inr (.inl 1), .inr (.inr 86)]) 2 (fun _ _ => rfl) ?_
  refine cn_put (rn := 86) (pt := 415) (y := 1) rfl rfl rfl rfl rfl rfl rfl ?_
  refine cn_seg (pc' := 419) (L' := [some (.inr (.inr 86))]) (st' := [.inl 500, .inr (.inr 86)]) 2 (fun _ _ => rfl) ?_
  refine cn_newa (q := 125) (pt := 421) rfl rfl (by decide) rfl rfl (by decide +kernel) (fun _ => rfl) rfl rfl ?_
  refine cn_put (rn := 86) (pt := 424) (y := 125) rfl rfl rfl rfl rfl rfl rfl ?_
  refine cn_seg (pc' := 426) (L' := [some (.inr (.inr 86))]) (st' := [.inl 0, .inr (.inr 86)]) 2 (fun _ _ => rfl) ?_
  refine cn_put (rn := 86) (pt := 429) (y := 0) rfl rfl rfl rfl rfl rfl rfl ?_
  refine cn_seg (pc' := 431) (L' := [some (.inr (.inr 86))]) (st' := [.inl 0, .inr (.inr 86)]) 2 (fun _ _ => rfl) ?_
  refine cn_put (rn := 86) (pt := 434) (y := 0) rfl rfl rfl rfl rfl rfl rfl ?_
  refine cn_seg (pc' := 436) (L' := [some (.inr (.inr 86))]) (st' := [.inr (.inl 0), .inr (.inr 86)]) 2 (fun _ _ => rfl) ?_
  refine cn_put (rn := 86) (pt := 439) (y := 0) rfl rfl rfl rfl rfl rfl rfl ?_
  refine cn_seg (pc' := 441) (L' := [some (.inr (.inr 86))]) (st' := [.inl (-1), .inr (.inr 86)]) 2 (fun _ _ => rfl) ?_
  refine cn_put (rn := 86) (pt := 444) (y := (-1)) rfl rfl rfl rfl rfl rfl rfl ?_
  refine cn_seg (pc' := 446) (L' := [some (.inr (.inr 86))]) (st' := [.inl (-1), .inr (.inr 86)]) 2 (fun _ _ => rfl) ?_
  refine cn_put (rn := 86) (pt := 449) (y := (-1)) rfl rfl rfl rfl rfl rfl rfl ?_
  refine cn_seg (pc' := 451) (L' := [some (.inr (.inr 86))]) (st' := [.inl (-1), .inr (.inr 86)]) 2 (fun _ _ => rfl) ?_
  refine cn_put (rn := 86) (pt := 454) (y := (-1)) rfl rfl rfl rfl rfl rfl rfl ?_
  refine cn_seg (pc' := 456) (L' := [some (.inr (.inr 86))]) (st' := [.inl 0, .inr (.inr 86)]) 2 (fun _ _ => rfl) ?_
  refine cn_put (rn := 86) (pt := 459) (y := 0) rfl rfl rfl rfl rfl rfl rfl ?_
  refine cn_seg (pc' := 462) (L' := [some (.inr (.inr 86))]) (st' := [.inl 16, .inr (.inr 86)]) 2 (fun _ _ => rfl) ?_
  refine cn_newa (q := 126) (pt := 464) rfl rfl (by decide) rfl rfl (by decide +kernel) (fun _ => rfl) rfl rfl ?_
  refine cn_put (rn := 86) (pt := 467) (y := 126) rfl rfl rfl rfl rfl rfl rfl ?_
  refine cn_seg (pc' := 470) (L' := [some (.inr (.inr 86))]) (st' := [.inl 16, .inr (.inr 86)]) 2 (fun _ _ => rfl) ?_
  refine cn_newa (q := 127) (pt := 472) rfl rfl (by decide) rfl rfl (by decide +kernel) (fun _ => rfl) rfl rfl ?_
  refine cn_put (rn := 86) (pt := 475) (y := 127) rfl rfl rfl rfl rfl rfl rfl ?_
  refine cn_seg (pc' := 477) (L' := [some (.inr (.inr 86))]) (st' := [.inl 0, .inr (.inr 86)]) 2 (fun _ _ => rfl) ?_
  refine cn_put (rn := 86) (pt := 480) (y := 0) rfl rfl rfl rfl rfl rfl rfl ?_
  refine cn_seg (pc' := 483) (L' := [some (.inr (.inr 86))]) (st' := [.inl 182784, .inr (.inr 86)]) 2 (fun _ _ => rfl) ?_
  refine cn_newa (q := 128) (pt := 485) rfl rfl (by decide) rfl rfl (by decide +kernel) (fun _ => rfl) rfl rfl ?_
  refine cn_put (rn := 86) (pt := 488) (y := 128) rfl rfl rfl rfl rfl rfl rfl ?_
  refine cn_seg (pc' := 492) (L' := [some (.inr (.inr 86))]) (st' := [.inl 144, .inr (.inr 86)]) 2 (fun _ _ => rfl) ?_
  refine cn_newa (q := 129) (pt := 494) rfl rfl (by decide) rfl rfl (by decide +kernel) (fun _ => rfl) rfl rfl ?_
  refine cn_put (rn := 86) (pt := 497) (y := 129) rfl rfl rfl rfl rfl rfl rfl ?_
  refine cn_seg (pc' := 500) (L' := [some (.inr (.inr 86))]) (st' := [.inl 16, .inr (.inr 86)]) 2 (fun _ _ => rfl) ?_
  refine cn_newa (q := 130) (pt := 502) rfl rfl (by decide) rfl rfl (by decide +kernel) (fun _ => rfl) rfl rfl ?_
  refine cn_put (rn := 86) (pt := 505) (y := 130) rfl rfl rfl rfl rfl rfl rfl ?_
  refine cn_seg (pc' := 508) (L' := [some (.inr (.inr 86))]) (st' := [.inl 65536, .inr (.inr 86)]) 2 (fun _ _ => rfl) ?_
  refine cn_newa (q := 131) (pt := 510) rfl rfl (by decide) rfl rfl (by decide +kernel) (fun _ => rfl) rfl rfl ?_
  refine cn_put (rn := 86) (pt := 513) (y := 131) rfl rfl rfl rfl rfl rfl rfl ?_
  refine cn_seg (pc' := 516) (L' := [some (.inr (.inr 86))]) (st' := [.inl 16, .inr (.inr 86)]) 2 (fun _ _ => rfl) ?_
  refine cn_newa (q := 132) (pt := 518) rfl rfl (by decide) rfl rfl (by decide +kernel) (fun _ => rfl) rfl rfl ?_
  refine cn_put (rn := 86) (pt := 521) (y := 132) rfl rfl rfl rfl rfl rfl rfl ?_
  refine cn_seg (pc' := 523) (L' := [some (.inr (.inr 86))]) (st' := [.inr (.inl 0), .inr (.inr 86)]) 2 (fun _ _ => rfl) ?_
  refine cn_put (rn := 86) (pt := 526) (y := 0) rfl rfl rfl rfl rfl rfl rfl ?_
  refine cn_seg (pc' := 528) (L' := [some (.inr (.inr 86))]) (st' := [.inl 0, .inr (.inr 86)]) 2 (fun _ _ => rfl) ?_
  refine cn_put (rn := 86) (pt := 531) (y := 0) rfl rfl rfl rfl rfl rfl rfl ?_
  refine cn_seg (pc' := 533) (L' := [some (.inr (.inr 86))]) (st' := [.inl 0, .inr (.inr 86)]) 2 (fun _ _ => rfl) ?_
  refine cn_put (rn := 86) (pt := 536) (y := 0) rfl rfl rfl rfl rfl rfl rfl ?_
  refine cn_seg (pc' := 539) (L' := [some (.inr (.inr 86))]) (st' := [.inl 80, .inr (.inr 86)]) 2 (fun _ _ => rfl) ?_
  refine cn_newa (q := 133) (pt := 541) rfl rfl (by decide) rfl rfl (by decide +kernel) (fun _ => rfl) rfl rfl ?_
  refine cn_put (rn := 86) (pt := 544) (y := 133) rfl rfl rfl rfl rfl rfl rfl ?_
  refine cn_seg (pc' := 546) (L' := [some (.inr (.inr 86))]) (st' := [.inl 0, .inr (.inr 86)]) 2 (fun _ _ => rfl) ?_
  refine cn_put (rn := 86) (pt := 549) (y := 0) rfl rfl rfl rfl rfl rfl rfl ?_
  refine cn_seg (pc' := 553) (L' := [some (.inr (.inr 86))]) (st' := [.inl 4096, .inr (.inr 86)]) 2 (fun _ _ => rfl) ?_
  refine cn_newa (q := 134) (pt := 555) rfl rfl (by decide) rfl rfl (by decide +kernel) (fun _ => rfl) rfl rfl ?_
  refine cn_put (rn := 86) (pt := 558) (y := 134) rfl rfl rfl rfl rfl rfl rfl ?_
  refine cn_seg (pc' := 560) (L' := [some (.inr (.inr 86))]) (st' := [.inl 0, .inr (.inr 86)]) 2 (fun _ _ => rfl) ?_
  refine cn_put (rn := 86) (pt := 563) (y := 0) rfl rfl rfl rfl rfl rfl rfl ?_
  refine cn_seg (pc' := 565) (L' := [some (.inr (.inr 86))]) (st' := [.inl 0, .inr (.inr 86)]) 2 (fun _ _ => rfl) ?_
  refine cn_put (rn := 86) (pt := 568) (y := 0) rfl rfl rfl rfl rfl rfl rfl ?_
  refine cn_seg (pc' := 570) (L' := [some (.inr (.inr 86))]) (st' := [.inl 0, .inr (.inr 86)]) 2 (fun _ _ => rfl) ?_
  refine cn_put (rn := 86) (pt := 573) (y := 0) rfl rfl rfl rfl rfl rfl rfl ?_
  refine cn_seg (pc' := 576) (L' := [some (.inr (.inr 86))]) (st' := [.inl 6, .inr (.inr 86)]) 2 (fun _ _ => rfl) ?_
  refine cn_newa (q := 135) (pt := 578) rfl rfl (by decide) rfl rfl (by decide +kernel) (fun _ => rfl) rfl rfl ?_
  refine cn_put (rn := 86) (pt := 581) (y := 135) rfl rfl rfl rfl rfl rfl rfl ?_
  refine cn_seg (pc' := 583) (L' := [some (.inr (.inr 86))]) (st' := [.inl 4, .inr (.inr 86)]) 2 (fun _ _ => rfl) ?_
  refine cn_newa (q := 136) (pt := 585) rfl rfl (by decide) rfl rfl (by decide +kernel) (fun _ => rfl) rfl rfl ?_
  refine cn_put (rn := 86) (pt := 588) (y := 136) rfl rfl rfl rfl rfl rfl rfl ?_
  refine cn_seg (pc' := 590) (L' := [some (.inr (.inr 86))]) (st' := [.inl 4, .inr (.inr 86)]) 2 (fun _ _ => rfl) ?_
  refine cn_newa (q := 137) (pt := 592) rfl rfl (by decide) rfl rfl (by decide +kernel) (fun _ => rfl) rfl rfl ?_
  refine cn_put (rn := 86) (pt := 595) (y := 137) rfl rfl rfl rfl rfl rfl rfl ?_
  refine cn_seg (pc' := 598) (L' := [some (.inr (.inr 86))]) (st' := [.inl 90, .inr (.inr 86)]) 2 (fun _ _ => rfl) ?_
  refine cn_newa (q := 138) (pt := 600) rfl rfl (by decide) rfl rfl (by decide +kernel) (fun _ => rfl) rfl rfl ?_
  refine cn_put (rn := 86) (pt := 603) (y := 138) rfl rfl rfl rfl rfl rfl rfl ?_
  refine cn_seg (pc' := 605) (L' := [some (.inr (.inr 86))]) (st' := [.inl 0, .inr (.inr 86)]) 2 (fun _ _ => rfl) ?_
  refine cn_put (rn := 86) (pt := 608) (y := 0) rfl rfl rfl rfl rfl rfl rfl ?_
  refine cn_seg (pc' := 609) (L' := [some (.inr (.inr 86))]) (st' := [.inr (.inr 86)]) 1 (fun _ _ => rfl) ?_
  refine cn_get (rn := 86) (pt := 612) (y := 104) rfl rfl rfl rfl rfl (by decide +kernel) rfl rfl ?_
  refine cn_seg (pc' := 614) (L' := [some (.inr (.inr 86))]) (st' := [.inl (-1), .inl 0, .inr (.inr 104)]) 2 (fun _ _ => rfl) ?_
  refine ev_seg (σ1 := (2047, 2, 615, [some (.inr (.inr 86))], [], (am_sh.take 139, uL bsB ((104, 0, (-1)) :: (86, 89, 0) :: (86, 88, 138) :: (86, 87, 137) :: (86, 86, 136) :: (86, 85, 135) :: (86, 84, 0) :: (86, 83, 0) :: (86, 82, 0) :: (86, 81, 134) :: (86, 80, 0) :: (86, 79, 133) :: (86, 78, 0) :: (86, 77, 0) :: (86, 76, 0) :: (86, 75, 132) :: (86, 74, 131) :: (86, 73, 130) :: (86, 72, 129) :: (86, 71, 128) :: (86, 70, 0) :: (86, 69, 127) :: (86, 68, 126) :: (86, 67, 0) :: (86, 66, (-1)) :: (86, 65, (-1)) :: (86, 64, (-1)) :: (86, 63, 0) :: (86, 62, 0) :: (86, 61, 0) :: (86, 60, 125) :: (86, 59, 1) :: (86, 58, 0) :: (86, 57, 0) :: (86, 56, 124) :: (86, 55, 123) :: (86, 54, 122) :: (86, 53, 121) :: (86, 52, 120) :: (86, 51, 119) :: (86, 50, 0) :: (86, 49, 0) :: (86, 48, 118) :: (86, 47, 0) :: (86, 46, 0) :: (86, 45, 117) :: (86, 44, 116) :: (86, 43, 115) :: (86, 42, 114) :: (86, 41, 113) :: (86, 40, 1) :: (86, 39, 0) :: (86, 38, 112) :: (86, 37, 111) :: (86, 36, 110) :: (86, 35, 109) :: (86, 34, 108) :: (86, 33, 107) :: (86, 32, 106) :: (86, 31, 105) :: (86, 30, 104) :: (86, 29, 103) :: (86, 28, 102) :: (86, 27, 101) :: (86, 26, 100) :: (86, 25, 99) :: (86, 24, 98) :: (86, 23, 97) :: (86, 22, 96) :: (86, 21, 95) :: (86, 20, 94) :: (86, 19, 93) :: (86, 18, 92) :: (86, 17, 91) :: (86, 16, 90) :: (86, 15, 89) :: (86, 14, 88) :: (86, 13, 0) :: (86, 12, (-1)) :: (86, 11, (-1)) :: (86, 10, 0) :: (86, 9, (-1)) :: (86, 8, 0) :: (86, 7, 0) :: (86, 6, 0) :: (86, 5, 0) :: (86, 4, 0) :: (86, 3, 0) :: (86, 2, 0) :: (86, 1, 0) :: (86, 0, 87) :: cl26)))) 1 (fun k => rfl) ?_
  exact ev_end 1 (fun k => rfl)
set_option maxRecDepth 20000 in
set_option maxHeartbeats 4000000 in
theorem cm17 {kz : am_Z} {R : Option am_V × am_M} (h : Ev kz (2048, 0, 18, [some (.inr (.inr (-1))), some (.inr (.inr 1)), some (.inr (.inr 86)), some (.inl 0)], [], (am_sh.take 139, uL bsB cl27)) R) : Ev kz (2048, 0, 0, [some (.inr (.inr (-1))), none, none, none], [], (am_sh.take 1, uL bsA cl1)) R := by
  refine cn_newo (q := 1) (pt := 3) rfl rfl (by decide) (by decide +kernel) (fun _ => rfl) rfl rfl ?_
  refine cn_seg (pc' := 4) (L' := [some (.inr (.inr (-1))), none, none, none]) (st' := [.inr (.inr 1), .inr (.inr 1)]) 1 (fun _ _ => rfl) ?_
  refine ev_cal (d := 2048) (mi := 0) (pc := 7) (L := [some (.inr (.inr (-1))), none, none, none]) (rest := [.inr (.inr 1)]) (fun k => rfl) cm15 ?_
  show Ev kz (2048, 0, 7, [some (.inr (.inr (-1))), none, none, none], [.inr (.inr 1)], (am_sh.take 86, uL bsB (cl26))) _
  refine cn_seg (pc' := 8) (L' := [some (.inr (.inr (-1))), some (.inr (.inr 1)), none, none]) (st' := []) 1 (fun _ _ => rfl) ?_
  refine cn_newo (q := 86) (pt := 11) rfl rfl (by decide) (by decide +kernel) (fun _ => rfl) rfl rfl ?_
  refine cn_seg (pc' := 12) (L' := [some (.inr (.inr (-1))), some (.inr (.inr 1)), none, none]) (st' := [.inr (.inr 86), .inr (.inr 86)]) 1 (fun _ _ => rfl) ?_
  refine ev_cal (d := 2048) (mi := 0) (pc := 15) (L := [some (.inr (.inr (-1))), some (.inr (.inr 1)), none, none]) (rest := [.inr (.inr 86)]) (fun k => rfl) cm16 ?_
  show Ev kz (2048, 0, 15, [some (.inr (.inr (-1))), some (.inr (.inr 1)), none, none], [.inr (.inr 86)], (am_sh.take 139, uL bsB (cl27))) _
  refine cn_seg (pc' := 18) (L' := [some (.inr (.inr (-1))), some (.inr (.inr 1)), some (.inr (.inr 86)), some (.inl 0)]) (st' := []) 3 (fun _ _ => rfl) ?_
  exact h
