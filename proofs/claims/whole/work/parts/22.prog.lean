theorem am_sub {ws : List Cond} (ps : List Nat) (h : ws = ps.filterMap (fun i => lw_tbl[i]?)) (hg : ws.all goodWord = true) : ∀ w ∈ ws, w ∈ am_tb := by
  intro w hw
  refine am_tb_of ?_ (List.all_eq_true.mp hg w hw)
  rw [h] at hw
  obtain ⟨i, -, hi⟩ := List.mem_filterMap.mp hw
  exact List.mem_of_getElem? hi
set_option maxRecDepth 20000 in
theorem am_U0 : ∀ w ∈ u_ws "NumberDoor" am_T0 19, w ∈ am_tb := am_sub [591, 593, 595, 597, 599, 601, 603, 605, 607, 609, 611, 613, 615, 617, 619, 621, 623, 625, 627] (by decide +kernel) (by decide +kernel)
theorem am_V0 : ∀ k, k < 19 → parseFieldDescriptor (am_T0 k).2.2.1 = some (am_ty 0 k) ∧ am_tag (am_ty 0 k) = some (am_tg 0 k) := by decide +kernel
theorem am_N0 : ∀ a, a < 19 → ∀ b, b < 19 → a ≠ b → (am_T0 a).2.1 ≠ (am_T0 b).2.1 := by decide +kernel
set_option maxRecDepth 20000 in
theorem am_U1 : ∀ w ∈ u_ws "NumberDoor$Town" am_T1 19, w ∈ am_tb := am_sub [253, 255, 257, 259, 261, 263, 265, 267, 269, 271, 273, 275, 277, 279, 281, 283, 285, 287, 289] (by decide +kernel) (by decide +kernel)
theorem am_V1 : ∀ k, k < 19 → parseFieldDescriptor (am_T1 k).2.2.1 = some (am_ty 1 k) ∧ am_tag (am_ty 1 k) = some (am_tg 1 k) := by decide +kernel
theorem am_N1 : ∀ a, a < 19 → ∀ b, b < 19 → a ≠ b → (am_T1 a).2.1 ≠ (am_T1 b).2.1 := by decide +kernel
set_option maxRecDepth 20000 in
theorem am_U2 : ∀ w ∈ u_ws "NumberDoor$Folk" am_T2 7, w ∈ am_tb := am_sub [326, 328, 330, 332, 334, 336, 338] (by decide +kernel) (by decide +kernel)
theorem am_V2 : ∀ k, k < 7 → parseFieldDescriptor (am_T2 k).2.2.1 = some (am_ty 2 k) ∧ am_tag (am_ty 2 k) = some (am_tg 2 k) := by decide +kernel
theorem am_N2 : ∀ a, a < 7 → ∀ b, b < 7 → a ≠ b → (am_T2 a).2.1 ≠ (am_T2 b).2.1 := by decide +kernel
set_option maxRecDepth 20000 in
theorem am_U3 : ∀ w ∈ u_ws "NumberDoor$Reader" am_T3 12, w ∈ am_tb := am_sub [385, 387, 389, 391, 393, 395, 397, 399, 401, 403, 405, 407] (by decide +kernel) (by decide +kernel)
theorem am_V3 : ∀ k, k < 12 → parseFieldDescriptor (am_T3 k).2.2.1 = some (am_ty 3 k) ∧ am_tag (am_ty 3 k) = some (am_tg 3 k) := by decide +kernel
theorem am_N3 : ∀ a, a < 12 → ∀ b, b < 12 → a ≠ b → (am_T3 a).2.1 ≠ (am_T3 b).2.1 := by decide +kernel
set_option maxRecDepth 20000 in
theorem am_U4 : ∀ w ∈ u_ws "NumberDoor$Tokens" am_T4 4, w ∈ am_tb := am_sub [356, 358, 360, 362] (by decide +kernel) (by decide +kernel)
theorem am_V4 : ∀ k, k < 4 → parseFieldDescriptor (am_T4 k).2.2.1 = some (am_ty 4 k) ∧ am_tag (am_ty 4 k) = some (am_tg 4 k) := by decide +kernel
theorem am_N4 : ∀ a, a < 4 → ∀ b, b < 4 → a ≠ b → (am_T4 a).2.1 ≠ (am_T4 b).2.1 := by decide +kernel
set_option maxRecDepth 20000 in
theorem am_U5 : ∀ w ∈ u_ws "NumberDoor$Judge" am_T5 6, w ∈ am_tb := am_sub [422, 424, 426, 428, 430, 432] (by decide +kernel) (by decide +kernel)
theorem am_V5 : ∀ k, k < 6 → parseFieldDescriptor (am_T5 k).2.2.1 = some (am_ty 5 k) ∧ am_tag (am_ty 5 k) = some (am_tg 5 k) := by decide +kernel
theorem am_N5 : ∀ a, a < 6 → ∀ b, b < 6 → a ≠ b → (am_T5 a).2.1 ≠ (am_T5 b).2.1 := by decide +kernel
set_option maxRecDepth 20000 in
theorem am_U6 : ∀ w ∈ u_ws "NumberDoor$Placing" am_T6 10, w ∈ am_tb := am_sub [451, 453, 455, 457, 459, 461, 463, 465, 467, 469] (by decide +kernel) (by decide +kernel)
theorem am_V6 : ∀ k, k < 10 → parseFieldDescriptor (am_T6 k).2.2.1 = some (am_ty 6 k) ∧ am_tag (am_ty 6 k) = some (am_tg 6 k) := by decide +kernel
theorem am_N6 : ∀ a, a < 10 → ∀ b, b < 10 → a ≠ b → (am_T6 a).2.1 ≠ (am_T6 b).2.1 := by decide +kernel
set_option maxRecDepth 20000 in
theorem am_U7 : ∀ w ∈ u_ws "NumberDoor$Couples" am_T7 9, w ∈ am_tb := am_sub [487, 489, 491, 493, 495, 497, 499, 501, 503] (by decide +kernel) (by decide +kernel)
theorem am_V7 : ∀ k, k < 9 → parseFieldDescriptor (am_T7 k).2.2.1 = some (am_ty 7 k) ∧ am_tag (am_ty 7 k) = some (am_tg 7 k) := by decide +kernel
theorem am_N7 : ∀ a, a < 9 → ∀ b, b < 9 → a ≠ b → (am_T7 a).2.1 ≠ (am_T7 b).2.1 := by decide +kernel
set_option maxRecDepth 20000 in
theorem am_U8 : ∀ w ∈ u_ws "NumberDoor$History" am_T8 3, w ∈ am_tb := am_sub [518, 520, 522] (by decide +kernel) (by decide +kernel)
theorem am_V8 : ∀ k, k < 3 → parseFieldDescriptor (am_T8 k).2.2.1 = some (am_ty 8 k) ∧ am_tag (am_ty 8 k) = some (am_tg 8 k) := by decide +kernel
theorem am_N8 : ∀ a, a < 3 → ∀ b, b < 3 → a ≠ b → (am_T8 a).2.1 ≠ (am_T8 b).2.1 := by decide +kernel
set_option maxRecDepth 20000 in
theorem am_U9 : ∀ w ∈ u_ws "NumberDoor$Riddle" am_T9 6, w ∈ am_tb := am_sub [538, 540, 542, 544, 546, 548] (by decide +kernel) (by decide +kernel)
theorem am_V9 : ∀ k, k < 6 → parseFieldDescriptor (am_T9 k).2.2.1 = some (am_ty 9 k) ∧ am_tag (am_ty 9 k) = some (am_tg 9 k) := by decide +kernel
theorem am_N9 : ∀ a, a < 6 → ∀ b, b < 6 → a ≠ b → (am_T9 a).2.1 ≠ (am_T9 b).2.1 := by decide +kernel
set_option maxRecDepth 20000 in
theorem am_U10 : ∀ w ∈ u_ws "NumberDoor$Digits" am_T10 4, w ∈ am_tb := am_sub [563, 565, 567, 569] (by decide +kernel) (by decide +kernel)
theorem am_V10 : ∀ k, k < 4 → parseFieldDescriptor (am_T10 k).2.2.1 = some (am_ty 10 k) ∧ am_tag (am_ty 10 k) = some (am_tg 10 k) := by decide +kernel
theorem am_N10 : ∀ a, a < 4 → ∀ b, b < 4 → a ≠ b → (am_T10 a).2.1 ≠ (am_T10 b).2.1 := by decide +kernel
set_option maxRecDepth 20000 in
theorem am_U11 : ∀ w ∈ u_ws "NumberDoorModel" am_T11 90, w ∈ am_tb := am_sub [1652, 1654, 1656, 1658, 1660, 1662, 1664, 1666, 1668, 1670, 1672, 1674, 1676, 1678, 1680, 1682, 1684, 1686, 1688, 1690, 1692, 1694, 1696, 1698, 1700, 1702, 1704, 1706, 1708, 1710, 1712, 1714, 1716, 1718, 1720, 1722, 1724, 1726, 1728, 1730, 1732, 1734, 1736, 1738, 1740, 1742, 1744, 1746, 1748, 1750, 1752, 1754, 1756, 1758, 1760, 1762, 1764, 1766, 1768, 1770, 1772, 1774, 1776, 1778, 1780, 1782, 1784, 1786, 1788, 1790, 1792, 1794, 1796, 1798, 1800, 1802, 1804, 1806, 1808, 1810, 1812, 1814, 1816, 1818, 1820, 1822, 1824, 1826, 1828, 1830] (by decide +kernel) (by decide +kernel)
theorem am_V11 : ∀ k, k < 90 → parseFieldDescriptor (am_T11 k).2.2.1 = some (am_ty 11 k) ∧ am_tag (am_ty 11 k) = some (am_tg 11 k) := by decide +kernel
theorem am_N11 : ∀ a, a < 90 → ∀ b, b < 90 → a ≠ b → (am_T11 a).2.1 ≠ (am_T11 b).2.1 := by decide +kernel
theorem am_Cl_ok : am_Cl am_cl am_tg am_tb := by
  intro ci C T N h
  match ci, h with
  | 0, h => cases h; exact ⟨by decide, am_U0, ⟨am_ty 0, am_V0⟩, am_N0⟩
  | 1, h => cases h; exact ⟨by decide, am_U1, ⟨am_ty 1, am_V1⟩, am_N1⟩
  | 2, h => cases h; exact ⟨by decide, am_U2, ⟨am_ty 2, am_V2⟩, am_N2⟩
  | 3, h => cases h; exact ⟨by decide, am_U3, ⟨am_ty 3, am_V3⟩, am_N3⟩
  | 4, h => cases h; exact ⟨by decide, am_U4, ⟨am_ty 4, am_V4⟩, am_N4⟩
  | 5, h => cases h; exact ⟨by decide, am_U5, ⟨am_ty 5, am_V5⟩, am_N5⟩
  | 6, h => cases h; exact ⟨by decide, am_U6, ⟨am_ty 6, am_V6⟩, am_N6⟩
  | 7, h => cases h; exact ⟨by decide, am_U7, ⟨am_ty 7, am_V7⟩, am_N7⟩
  | 8, h => cases h; exact ⟨by decide, am_U8, ⟨am_ty 8, am_V8⟩, am_N8⟩
  | 9, h => cases h; exact ⟨by decide, am_U9, ⟨am_ty 9, am_V9⟩, am_N9⟩
  | 10, h => cases h; exact ⟨by decide, am_U10, ⟨am_ty 10, am_V10⟩, am_N10⟩
  | 11, h => cases h; exact ⟨by decide, am_U11, ⟨am_ty 11, am_V11⟩, am_N11⟩
  | k + 12, h => exact absurd h (by simp [am_cl])
def am_by6 : List Int := [59, 45, 60, 62, 61, 43, 42, 47, 37, 40, 41, 91, 93, 44]
def am_by7 : List Int := [115, 116, 114, 101, 101, 116, 104, 111, 117, 115, 101, 32, 111, 102, 32, 32, 32, 32, 114, 111, 111, 109, 115, 32, 108, 97, 110, 101, 32, 32, 110, 117, 109, 98, 101, 114, 105, 110, 32, 32, 32, 32, 108, 97, 119, 32, 32, 32, 101, 97, 99, 104, 32, 32, 98, 101, 115, 105, 100, 101, 119, 105, 116, 104, 105, 110, 119, 101, 100, 32, 32, 32, 111, 119, 101, 115, 32, 32, 102, 105, 114, 101, 32, 32, 109, 101, 32, 32, 32, 32, 111, 116, 104, 101, 114, 32, 109, 97, 110, 121, 32, 32, 115, 113, 117, 97, 114, 101, 112, 114, 105, 109, 101, 32, 111, 114, 32, 32, 32, 32, 97, 110, 100, 32, 32, 32, 110, 111, 116, 32, 32, 32, 97, 108, 108, 32, 32, 32, 109, 105, 110, 32, 32, 32, 109, 97, 120, 32, 32, 32, 103, 99, 100, 32, 32, 32]
/-- the constants: 1 the script, 2 and 3 the texts, 4 and 5 the rows of primes, 6 and 7 the texts' bytes -/
def am_kz (L : Nat) (xs : Nat → Int) : am_Z := fun z => match z with
  | 1 => (100, L, xs)
  | 2 => (50, 2, fun b => if b = 0 then -6 else 0)
  | 3 => (50, 2, fun b => if b = 0 then -7 else 0)
  | 4 => (100, 12, fun j => ([2, 3, 5, 7, 11, 13, 17, 19, 23, 29, 31, 37] : List Int).getD j 0)
  | 5 => (100, 3, fun j => ([2, 7, 61] : List Int).getD j 0)
  | 6 => (102, 14, fun j => am_by6.getD j 0)
  | 7 => (102, 156, fun j => am_by7.getD j 0)
  | _ => (77, 0, fun _ => 0)
theorem am_prog (L : Nat) (xs : Nat → Int) : am_Prog am_cl am_tg (am_kz L xs) am_zc am_zf am_zn am_zst am_zstr am_tb am_mt am_cd am_rk := by
  refine ⟨am_Cl_ok, am_tb_good, fun mi pc ai h => ?_, fun z so n f h h1 h2 => ?_, by decide, rfl⟩
  · rcases am_all mi with hm | hm
    · exact ⟨hm.1 pc ai h, hm.2⟩
    · unfold am_cd at h
      rw [hm] at h
      cases h
  · unfold am_kz at h
    split at h <;> cases h
    · omega
    · exact ⟨rfl, rfl⟩
    · exact ⟨rfl, rfl⟩
    · omega
    · omega
    · omega
    · omega
    · exact absurd rfl h2
