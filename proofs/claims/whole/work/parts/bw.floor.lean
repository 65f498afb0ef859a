/-! Math.floorMod and Math.floorDiv of ints -/
theorem xr_neg {x y : Int} (hx : in32 x) (hy : in32 y) : (Int32.ofInt x ^^^ Int32.ofInt y) < 0 ↔ (x < 0 ∧ 0 ≤ y ∨ 0 ≤ x ∧ y < 0) := by
  rw [Int32.lt_iff_toInt_lt, show (0 : Int32).toInt = 0 from rfl]
  have e1 : (Int32.ofInt x ^^^ Int32.ofInt y).toInt = ((Int32.ofInt x).toBitVec ^^^ (Int32.ofInt y).toBitVec).toInt := by
    rw [← Int32.toBitVec_xor]; rfl
  have h1 := BitVec.msb_eq_toInt (x := (Int32.ofInt x).toBitVec ^^^ (Int32.ofInt y).toBitVec)
  have h2 := BitVec.msb_eq_toInt (x := (Int32.ofInt x).toBitVec)
  have h3 := BitVec.msb_eq_toInt (x := (Int32.ofInt y).toBitVec)
  have ex : (Int32.ofInt x).toBitVec.toInt = x := i32_to hx
  have ey : (Int32.ofInt y).toBitVec.toInt = y := i32_to hy
  rw [ex] at h2
  rw [ey] at h3
  rw [BitVec.msb_xor, h2, h3] at h1
  rw [e1]
  generalize ((Int32.ofInt x).toBitVec ^^^ (Int32.ofInt y).toBitVec).toInt = z at h1 ⊢
  by_cases a1 : x < 0 <;> by_cases a2 : y < 0 <;> by_cases a3 : z < 0 <;> simp [a1, a2, a3] at h1 ⊢ <;> omega
theorem em_neg {x y : Int} (hx : x < 0) (hy : 0 < y) : (x % y = if (-x) % y = 0 then 0 else y - (-x) % y) ∧ (x / y = if (-x) % y = 0 then -((-x) / y) else -((-x) / y) - 1) := by
  have h1 := Int.mul_ediv_add_emod (-x) y
  have h2 := Int.emod_nonneg (-x) (show y ≠ 0 by omega)
  have h3 := Int.emod_lt_of_pos (-x) hy
  generalize (-x) / y = q at h1 ⊢
  generalize (-x) % y = r at h1 h2 h3 ⊢
  by_cases h : r = 0
  · rw [if_pos h, if_pos h]
    have e : x = 0 + y * (-q) := by rw [Int.mul_neg]; omega
    rw [e, Int.add_mul_emod_self_left, Int.add_mul_ediv_left _ _ (show y ≠ 0 by omega)]
    simp
  · rw [if_neg h, if_neg h]
    have e : x = (y - r) + y * (-q - 1) := by rw [Int.mul_sub, Int.mul_neg, Int.mul_one]; omega
    rw [e, Int.add_mul_emod_self_left, Int.add_mul_ediv_left _ _ (show y ≠ 0 by omega)]
    rw [Int.emod_eq_of_lt (by omega) (by omega), Int.ediv_eq_zero_of_lt (by omega) (by omega)]
    exact ⟨rfl, by omega⟩
theorem fm_pos {x y : Int} (hy : 0 < y) : Int.fmod x y = (if x < 0 ∧ Int.tmod x y ≠ 0 then Int.tmod x y + y else Int.tmod x y) ∧ Int.fdiv x y = (if x < 0 ∧ Int.tmod x y ≠ 0 then Int.tdiv x y - 1 else Int.tdiv x y) := by
  rw [Int.fmod_eq_emod_of_nonneg x (by omega), Int.fdiv_eq_ediv_of_nonneg x (by omega)]
  by_cases h : x < 0
  · obtain ⟨e1, e2⟩ := em_neg h hy
    have t1 : Int.tmod x y = -((-x) % y) := by
      rw [← Int.tmod_eq_emod_of_nonneg (show 0 ≤ -x by omega), Int.neg_tmod, Int.neg_neg]
    have t2 : Int.tdiv x y = -((-x) / y) := by
      rw [← Int.tdiv_eq_ediv_of_nonneg (show 0 ≤ -x by omega), Int.neg_tdiv, Int.neg_neg]
    rw [e1, e2, t1, t2]
    by_cases z : (-x) % y = 0
    · rw [if_pos z, if_pos z, z]
      simp
    · have z2 : x < 0 ∧ -((-x) % y) ≠ 0 := ⟨h, by omega⟩
      rw [if_neg z, if_neg z, if_pos z2, if_pos z2]
      exact ⟨by omega, rfl⟩
  · rw [if_neg (fun z => h z.1), if_neg (fun z => h z.1), Int.tmod_eq_emod_of_nonneg (by omega), Int.tdiv_eq_ediv_of_nonneg (by omega)]
    exact ⟨rfl, rfl⟩
theorem fm_all {x y : Int} (hy : y ≠ 0) : Int.fmod x y = (if (x < 0 ∧ 0 ≤ y ∨ 0 ≤ x ∧ y < 0) ∧ Int.tmod x y ≠ 0 then Int.tmod x y + y else Int.tmod x y) ∧ Int.fdiv x y = (if (x < 0 ∧ 0 ≤ y ∨ 0 ≤ x ∧ y < 0) ∧ Int.tmod x y ≠ 0 then Int.tdiv x y - 1 else Int.tdiv x y) := by
  rcases Int.lt_or_gt_of_ne hy with h | h
  · obtain ⟨e1, e2⟩ := fm_pos (x := -x) (y := -y) (by omega)
    have n1 : Int.fmod x y = -(Int.fmod (-x) (-y)) := by rw [Int.neg_fmod_neg, Int.neg_neg]
    have n2 : Int.fdiv x y = Int.fdiv (-x) (-y) := (Int.neg_fdiv_neg x y).symm
    have t1 : Int.tmod (-x) (-y) = -(Int.tmod x y) := by rw [Int.tmod_neg, Int.neg_tmod]
    have t2 : Int.tdiv (-x) (-y) = Int.tdiv x y := Int.neg_tdiv_neg x y
    rw [n1, n2, e1, e2, t1, t2]
    by_cases z : Int.tmod x y = 0
    · rw [z]; simp
    · by_cases w : 0 < x
      · have a1 : -x < 0 ∧ -(Int.tmod x y) ≠ 0 := ⟨by omega, by omega⟩
        have a2 : (x < 0 ∧ 0 ≤ y ∨ 0 ≤ x ∧ y < 0) ∧ Int.tmod x y ≠ 0 := ⟨Or.inr ⟨by omega, h⟩, z⟩
        rw [if_pos a1, if_pos a1, if_pos a2, if_pos a2]
        exact ⟨by omega, rfl⟩
      · have w0 : x ≠ 0 := fun e => z (by rw [e, Int.zero_tmod])
        have a1 : ¬ (-x < 0 ∧ -(Int.tmod x y) ≠ 0) := fun q => by omega
        have a2 : ¬ ((x < 0 ∧ 0 ≤ y ∨ 0 ≤ x ∧ y < 0) ∧ Int.tmod x y ≠ 0) := fun q => by omega
        rw [if_neg a1, if_neg a1, if_neg a2, if_neg a2]
        exact ⟨by omega, rfl⟩
  · obtain ⟨e1, e2⟩ := fm_pos (x := x) h
    rw [e1, e2]
    by_cases z : x < 0 ∧ Int.tmod x y ≠ 0
    · have a2 : (x < 0 ∧ 0 ≤ y ∨ 0 ≤ x ∧ y < 0) ∧ Int.tmod x y ≠ 0 := ⟨Or.inl ⟨z.1, by omega⟩, z.2⟩
      rw [if_pos z, if_pos z, if_pos a2, if_pos a2]
      exact ⟨rfl, rfl⟩
    · have a2 : ¬ ((x < 0 ∧ 0 ≤ y ∨ 0 ≤ x ∧ y < 0) ∧ Int.tmod x y ≠ 0) := fun q => z ⟨by omega, q.2⟩
      rw [if_neg z, if_neg z, if_neg a2, if_neg a2]
      exact ⟨rfl, rfl⟩
/-- what the two bodies answer -/
def vFm (a b : Int32) : Int32 := if (a ^^^ b) < 0 then (if a % b = 0 then a % b else a % b + b) else a % b
def vFd (a b : Int32) : Int32 := if (a ^^^ b) < 0 then (if a / b * b = a then a / b else a / b - 1) else a / b
theorem vFm_eq {x y : Int} (hx : in32 x) (hy : in32 y) (h : y ≠ 0) : vFm (Int32.ofInt x) (Int32.ofInt y) = Int32.ofInt (Int.fmod x y) := by
  have z0 : in32 0 := by unfold in32; omega
  have hr := i32_rem_in hx hy
  have hf := am_fmod_in hx hy h
  rw [(fm_all h).1] at hf ⊢
  unfold vFm
  rw [← i32_rem hx hy]
  by_cases c1 : (x < 0 ∧ 0 ≤ y ∨ 0 ≤ x ∧ y < 0)
  · rw [if_pos ((xr_neg hx hy).mpr c1)]
    by_cases c2 : Int.tmod x y = 0
    · rw [c2, if_pos i32_0, if_neg (fun q => q.2 rfl)]
    · have hc : (x < 0 ∧ 0 ≤ y ∨ 0 ≤ x ∧ y < 0) ∧ Int.tmod x y ≠ 0 := ⟨c1, c2⟩
      rw [if_neg (i32_ne0 hr c2)]
      rw [if_pos hc] at hf ⊢
      rw [← i32_add, w32_id hf]
  · rw [if_neg (fun q => c1 ((xr_neg hx hy).mp q)), if_neg (fun q => c1 q.1)]
theorem vFd_eq {x y : Int} (hx : in32 x) (hy : in32 y) (h : y ≠ 0) : vFd (Int32.ofInt x) (Int32.ofInt y) = Int32.ofInt (w32 (Int.fdiv x y)) := by
  have hr := i32_rem_in hx hy
  rw [(fm_all h).2]
  unfold vFd
  rw [← i32_div hx hy]
  by_cases c1 : (x < 0 ∧ 0 ≤ y ∨ 0 ≤ x ∧ y < 0)
  · rw [if_pos ((xr_neg hx hy).mpr c1)]
    have hm : Int.tdiv x y * y = x - Int.tmod x y := by
      have := Int.mul_tdiv_add_tmod x y
      rw [Int.mul_comm] at this
      omega
    have hin : in32 (x - Int.tmod x y) := by
      have h1 := Int.mul_tdiv_add_tmod x y
      have e : Int.tmod x y = x - y * Int.tdiv x y := by omega
      have hs : (0 ≤ x → 0 ≤ Int.tmod x y ∧ Int.tmod x y ≤ x) ∧ (x < 0 → Int.tmod x y ≤ 0 ∧ x ≤ Int.tmod x y) := by
        constructor
        · intro q
          rw [Int.tmod_eq_emod_of_nonneg q]
          exact ⟨Int.emod_nonneg x h, by
            have b1 := Int.emod_nonneg x h
            have hd : 0 ≤ y * (x / y) := by
              rcases Int.lt_or_gt_of_ne h with n | n
              · have := Int.ediv_nonpos_of_nonneg_of_nonpos q (show y ≤ 0 by omega)
                exact Int.mul_nonneg_of_nonpos_of_nonpos (by omega) this
              · exact Int.mul_nonneg (by omega) (Int.ediv_nonneg q (by omega))
            have := Int.mul_ediv_add_emod x y
            omega⟩
        · intro q
          have t1 : Int.tmod x y = -((-x) % y) := by
            rw [← Int.tmod_eq_emod_of_nonneg (show 0 ≤ -x by omega), Int.neg_tmod, Int.neg_neg]
          rw [t1]
          have b1 := Int.emod_nonneg (-x) h
          have hd : 0 ≤ y * ((-x) / y) := by
            rcases Int.lt_or_gt_of_ne h with n | n
            · have := Int.ediv_nonpos_of_nonneg_of_nonpos (show 0 ≤ -x by omega) (show y ≤ 0 by omega)
              exact Int.mul_nonneg_of_nonpos_of_nonpos (by omega) this
            · exact Int.mul_nonneg (by omega) (Int.ediv_nonneg (by omega) (by omega))
          have := Int.mul_ediv_add_emod (-x) y
          exact ⟨by omega, by omega⟩
      unfold in32 at *
      rcases (by omega : x < 0 ∨ 0 ≤ x) with q | q
      · have := hs.2 q; omega
      · have := hs.1 q; omega
    have hq : Int32.ofInt (w32 (Int.tdiv x y)) * Int32.ofInt y = Int32.ofInt (x - Int.tmod x y) := by
      rw [i32_w, ← i32_mul, hm, i32_w]
    rw [hq]
    by_cases c2 : Int.tmod x y = 0
    · rw [if_pos (by rw [c2, Int.sub_zero]), if_neg (fun q => q.2 c2)]
    · have hc : (x < 0 ∧ 0 ≤ y ∨ 0 ≤ x ∧ y < 0) ∧ Int.tmod x y ≠ 0 := ⟨c1, c2⟩
      have hn : ¬ Int32.ofInt (x - Int.tmod x y) = Int32.ofInt x := fun q => c2 (by have := (i32_eq hin hx).mp q; omega)
      rw [if_neg hn, if_pos hc, i32_w (Int.tdiv x y), i32_sub]
      rfl
  · rw [if_neg (fun q => c1 ((xr_neg hx hy).mp q)), if_neg (fun q => c1 q.1)]
/-! the two bodies, walked -/
theorem fl_rM0 : (NativeRow.find? Jvm.natives am_flm.cls am_flm.name am_flm.desc).isNone = true := by decide +kernel
theorem fl_rD0 : (NativeRow.find? Jvm.natives am_fld.cls am_fld.name am_fld.desc).isNone = true := by decide +kernel
theorem fl_rM (p : Program) : NativeRow.find? p.tables.natives am_flm.cls am_flm.name am_flm.desc = none := by
  cases p <;> exact Option.isNone_iff_eq_none.mp fl_rM0
theorem fl_rD (p : Program) : NativeRow.find? p.tables.natives am_fld.cls am_fld.name am_fld.desc = none := by
  cases p <;> exact Option.isNone_iff_eq_none.mp fl_rD0
def fl_sp (y0 : MethodName) (code0 : ByteArray) (a b r : Int32) : Spec := { pre := .and (.code y0 code0 3 (some .int)) (.and (.count 2) (.and (.and (.isInt (.arg 0)) (.isInt (.arg 1))) (.and (.eq (.arg 0) (.int a)) (.eq (.arg 1) (.int b))))), post := .and .returned (.eq .result (.int r)), changes := some [] }
theorem flm_0 : decode prog_17_method_50_code 0 = .ok (.iload_n 0, 1) := by decide +kernel
theorem flm_1 : decode prog_17_method_50_code 1 = .ok (.iload_n 1, 1) := by decide +kernel
theorem flm_2 : decode prog_17_method_50_code 2 = .ok (.irem, 1) := by decide +kernel
theorem flm_3 : decode prog_17_method_50_code 3 = .ok (.istore_n 2, 1) := by decide +kernel
theorem flm_4 : decode prog_17_method_50_code 4 = .ok (.iload_n 0, 1) := by decide +kernel
theorem flm_5 : decode prog_17_method_50_code 5 = .ok (.iload_n 1, 1) := by decide +kernel
theorem flm_6 : decode prog_17_method_50_code 6 = .ok (.ixor, 1) := by decide +kernel
theorem flm_7 : decode prog_17_method_50_code 7 = .ok (.ifCond .ge 11, 3) := by decide +kernel
theorem flm_10 : decode prog_17_method_50_code 10 = .ok (.iload_n 2, 1) := by decide +kernel
theorem flm_11 : decode prog_17_method_50_code 11 = .ok (.ifCond .eq 7, 3) := by decide +kernel
theorem flm_14 : decode prog_17_method_50_code 14 = .ok (.iload_n 2, 1) := by decide +kernel
theorem flm_15 : decode prog_17_method_50_code 15 = .ok (.iload_n 1, 1) := by decide +kernel
theorem flm_16 : decode prog_17_method_50_code 16 = .ok (.iadd, 1) := by decide +kernel
theorem flm_17 : decode prog_17_method_50_code 17 = .ok (.ireturn, 1) := by decide +kernel
theorem flm_18 : decode prog_17_method_50_code 18 = .ok (.iload_n 2, 1) := by decide +kernel
theorem flm_19 : decode prog_17_method_50_code 19 = .ok (.ireturn, 1) := by decide +kernel
theorem fld_0 : decode prog_17_method_47_code 0 = .ok (.iload_n 0, 1) := by decide +kernel
theorem fld_1 : decode prog_17_method_47_code 1 = .ok (.iload_n 1, 1) := by decide +kernel
theorem fld_2 : decode prog_17_method_47_code 2 = .ok (.idiv, 1) := by decide +kernel
theorem fld_3 : decode prog_17_method_47_code 3 = .ok (.istore_n 2, 1) := by decide +kernel
theorem fld_4 : decode prog_17_method_47_code 4 = .ok (.iload_n 0, 1) := by decide +kernel
theorem fld_5 : decode prog_17_method_47_code 5 = .ok (.iload_n 1, 1) := by decide +kernel
theorem fld_6 : decode prog_17_method_47_code 6 = .ok (.ixor, 1) := by decide +kernel
theorem fld_7 : decode prog_17_method_47_code 7 = .ok (.ifCond .ge 14, 3) := by decide +kernel
theorem fld_10 : decode prog_17_method_47_code 10 = .ok (.iload_n 2, 1) := by decide +kernel
theorem fld_11 : decode prog_17_method_47_code 11 = .ok (.iload_n 1, 1) := by decide +kernel
theorem fld_12 : decode prog_17_method_47_code 12 = .ok (.imul, 1) := by decide +kernel
theorem fld_13 : decode prog_17_method_47_code 13 = .ok (.iload_n 0, 1) := by decide +kernel
theorem fld_14 : decode prog_17_method_47_code 14 = .ok (.if_icmp .eq 7, 3) := by decide +kernel
theorem fld_17 : decode prog_17_method_47_code 17 = .ok (.iload_n 2, 1) := by decide +kernel
theorem fld_18 : decode prog_17_method_47_code 18 = .ok (.iconst 1, 1) := by decide +kernel
theorem fld_19 : decode prog_17_method_47_code 19 = .ok (.isub, 1) := by decide +kernel
theorem fld_20 : decode prog_17_method_47_code 20 = .ok (.ireturn, 1) := by decide +kernel
theorem fld_21 : decode prog_17_method_47_code 21 = .ok (.iload_n 2, 1) := by decide +kernel
theorem fld_22 : decode prog_17_method_47_code 22 = .ok (.ireturn, 1) := by decide +kernel
theorem fl_mM (l : Launch) (a b : Int32) (hb0 : ¬ b = 0) : MeetsLoose l am_flm (fl_sp am_flm prog_17_method_50_code a b (vFm a b)) := by
  refine MeetsLoose.of_body_ov (code := prog_17_method_50_code) (maxLocals := 3) (ret := some .int) fl_rM ?_ ?_
  · intro args s h
    simp only [fl_sp, Cond.before_and, Bool.and_eq_true] at h
    exact h.1
  · intro p e s m args below meth c s₁ B
    have hpre := B.pre
    simp only [fl_sp, Cond.before_and, Bool.and_eq_true] at hpre
    obtain ⟨a', b', rfl⟩ := Cond.two_ints hpre.2.1 hpre.2.2.1.1 hpre.2.2.1.2
    have ea : a' = a := by simpa [Cond.before, Cond.holds, Cond.value, Term.eval] using hpre.2.2.2.1
    have eb : b' = b := by simpa [Cond.before, Cond.holds, Cond.value, Term.eval] using hpre.2.2.2.2
    subst ea
    subst eb
    have hloc : argsToLocals #[.int a', .int b'] 3 = #[.val (.int a'), .val (.int b'), .unset] := rfl
    have fin : ∀ r : Int32, r = vFm a' b' → (∀ fs, Steps p.tables e below (s₁.setTop (entryFrame m #[.int a', .int b'] 3)) (s₁.setFrames fs) ∨ handOver s₁ (some (.int r)) below ≠ some fs) →
        ∃ s₂ o, Steps p.tables e below (s₁.setTop (entryFrame m #[.int a', .int b'] 3)) s₂ ∧ s₂.status = .running ∧ Ended s₂ below o ∧
          (fl_sp am_flm prog_17_method_50_code a' b' (vFm a' b')).ensures #[.int a', .int b'] s o s₂ := by
      intro r hr hwalk
      obtain ⟨fs, hfs⟩ := handOver_isSome (s := s₁) (some (.int r)) B.hears₁
      refine ⟨s₁.setFrames fs, .returned (some (.int r)), (hwalk fs).resolve_right (fun h => h hfs), B.here.running, B.ended hfs (by intro h; cases h), ?_, State.sameBut_nil.mpr ?_⟩
      · simp [fl_sp, Cond.after, Cond.holds, Cond.value, Term.eval, hr]
      · rw [State.frames_setFrames _ B.cur₁, B.back]
    by_cases h1 : (a' ^^^ b') < 0
    · have h1n : ¬ (0 ≤ a' ^^^ b') := Int32.not_le.mpr h1
      by_cases h2 : a' % b' = 0
      · refine fin (a' % b') (by unfold vFm; rw [if_pos h1, if_pos h2]) (fun fs => ?_)
        by_cases hfs : handOver s₁ (some (.int (a' % b'))) below = some fs
        · left
          rw [h2] at hfs
          unfold entryFrame; rw [hloc]
          refine Steps.instrAtOv (c := _) (by simpa using B.here) ?_
          simp [jvm, wpRun, exec, B.here.top, B.exec, B.bytes, flm_0]
          refine Steps.instrAtOv (c := _) (by simpa using B.here) ?_
          simp [jvm, wpRun, exec, B.here.top, B.exec, B.bytes, flm_1]
          refine Steps.instrAtOv (c := _) (by simpa using B.here) ?_
          simp [jvm, wpRun, exec, B.here.top, B.exec, B.bytes, flm_2, hb0, irem_eq_mod]
          refine Steps.instrAtOv (c := _) (by simpa using B.here) ?_
          simp [jvm, wpRun, exec, B.here.top, B.exec, B.bytes, flm_3]
          refine ⟨#[.val (.int a'), .val (.int b'), .val (.int (a' % b'))], rfl, ?_⟩
          refine Steps.instrAtOv (c := _) (by simpa using B.here) ?_
          simp [jvm, wpRun, exec, B.here.top, B.exec, B.bytes, flm_4]
          refine Steps.instrAtOv (c := _) (by simpa using B.here) ?_
          simp [jvm, wpRun, exec, B.here.top, B.exec, B.bytes, flm_5]
          refine Steps.instrAtOv (c := _) (by simpa using B.here) ?_
          simp [jvm, wpRun, exec, B.here.top, B.exec, B.bytes, flm_6]
          refine Steps.instrAtOv (c := _) (by simpa using B.here) ?_
          simp [jvm, wpRun, exec, B.here.top, B.exec, B.bytes, flm_7, ifCond.holds, h1n, h2]
          refine Steps.instrAtOv (c := _) (by simpa using B.here) ?_
          simp [jvm, wpRun, exec, B.here.top, B.exec, B.bytes, flm_10]
          refine Steps.instrAtOv (c := _) (by simpa using B.here) ?_
          simp [jvm, wpRun, exec, B.here.top, B.exec, B.bytes, flm_11, ifCond.holds, h1n, h2]
          refine Steps.instrAtOv (c := _) (by simpa using B.here) ?_
          simp [jvm, wpRun, exec, B.here.top, B.exec, B.bytes, flm_18]
          refine Steps.instrAtOv (c := _) (by simpa using B.here) ?_
          simp [jvm, wpRun, exec, B.here.top, B.exec, B.bytes, flm_19, B.method₁, B.returns, narrow]
          intro acts
          rw [ret_to B.frames₁ B.method₁ B.notSynchronized rfl rfl hfs]
          exact Steps.refl _
        · exact Or.inr hfs
      · refine fin (a' % b' + b') (by unfold vFm; rw [if_pos h1, if_neg h2]) (fun fs => ?_)
        by_cases hfs : handOver s₁ (some (.int (a' % b' + b'))) below = some fs
        · left
          unfold entryFrame; rw [hloc]
          refine Steps.instrAtOv (c := _) (by simpa using B.here) ?_
          simp [jvm, wpRun, exec, B.here.top, B.exec, B.bytes, flm_0]
          refine Steps.instrAtOv (c := _) (by simpa using B.here) ?_
          simp [jvm, wpRun, exec, B.here.top, B.exec, B.bytes, flm_1]
          refine Steps.instrAtOv (c := _) (by simpa using B.here) ?_
          simp [jvm, wpRun, exec, B.here.top, B.exec, B.bytes, flm_2, hb0, irem_eq_mod]
          refine Steps.instrAtOv (c := _) (by simpa using B.here) ?_
          simp [jvm, wpRun, exec, B.here.top, B.exec, B.bytes, flm_3]
          refine ⟨#[.val (.int a'), .val (.int b'), .val (.int (a' % b'))], rfl, ?_⟩
          refine Steps.instrAtOv (c := _) (by simpa using B.here) ?_
          simp [jvm, wpRun, exec, B.here.top, B.exec, B.bytes, flm_4]
          refine Steps.instrAtOv (c := _) (by simpa using B.here) ?_
          simp [jvm, wpRun, exec, B.here.top, B.exec, B.bytes, flm_5]
          refine Steps.instrAtOv (c := _) (by simpa using B.here) ?_
          simp [jvm, wpRun, exec, B.here.top, B.exec, B.bytes, flm_6]
          refine Steps.instrAtOv (c := _) (by simpa using B.here) ?_
          simp [jvm, wpRun, exec, B.here.top, B.exec, B.bytes, flm_7, ifCond.holds, h1n, h2]
          refine Steps.instrAtOv (c := _) (by simpa using B.here) ?_
          simp [jvm, wpRun, exec, B.here.top, B.exec, B.bytes, flm_10]
          refine Steps.instrAtOv (c := _) (by simpa using B.here) ?_
          simp [jvm, wpRun, exec, B.here.top, B.exec, B.bytes, flm_11, ifCond.holds, h1n, h2]
          refine Steps.instrAtOv (c := _) (by simpa using B.here) ?_
          simp [jvm, wpRun, exec, B.here.top, B.exec, B.bytes, flm_14]
          refine Steps.instrAtOv (c := _) (by simpa using B.here) ?_
          simp [jvm, wpRun, exec, B.here.top, B.exec, B.bytes, flm_15]
          refine Steps.instrAtOv (c := _) (by simpa using B.here) ?_
          simp [jvm, wpRun, exec, B.here.top, B.exec, B.bytes, flm_16]
          refine Steps.instrAtOv (c := _) (by simpa using B.here) ?_
          simp [jvm, wpRun, exec, B.here.top, B.exec, B.bytes, flm_17, B.method₁, B.returns, narrow]
          intro acts
          rw [ret_to B.frames₁ B.method₁ B.notSynchronized rfl rfl hfs]
          exact Steps.refl _
        · exact Or.inr hfs
    · have h1n : 0 ≤ a' ^^^ b' := Int32.not_lt.mp h1
      refine fin (a' % b') (by unfold vFm; rw [if_neg h1]) (fun fs => ?_)
      by_cases hfs : handOver s₁ (some (.int (a' % b'))) below = some fs
      · left
        unfold entryFrame; rw [hloc]
        refine Steps.instrAtOv (c := _) (by simpa using B.here) ?_
        simp [jvm, wpRun, exec, B.here.top, B.exec, B.bytes, flm_0]
        refine Steps.instrAtOv (c := _) (by simpa using B.here) ?_
        simp [jvm, wpRun, exec, B.here.top, B.exec, B.bytes, flm_1]
        refine Steps.instrAtOv (c := _) (by simpa using B.here) ?_
        simp [jvm, wpRun, exec, B.here.top, B.exec, B.bytes, flm_2, hb0, irem_eq_mod]
        refine Steps.instrAtOv (c := _) (by simpa using B.here) ?_
        simp [jvm, wpRun, exec, B.here.top, B.exec, B.bytes, flm_3]
        refine ⟨#[.val (.int a'), .val (.int b'), .val (.int (a' % b'))], rfl, ?_⟩
        refine Steps.instrAtOv (c := _) (by simpa using B.here) ?_
        simp [jvm, wpRun, exec, B.here.top, B.exec, B.bytes, flm_4]
        refine Steps.instrAtOv (c := _) (by simpa using B.here) ?_
        simp [jvm, wpRun, exec, B.here.top, B.exec, B.bytes, flm_5]
        refine Steps.instrAtOv (c := _) (by simpa using B.here) ?_
        simp [jvm, wpRun, exec, B.here.top, B.exec, B.bytes, flm_6]
        refine Steps.instrAtOv (c := _) (by simpa using B.here) ?_
        simp [jvm, wpRun, exec, B.here.top, B.exec, B.bytes, flm_7, ifCond.holds, h1n]
        refine Steps.instrAtOv (c := _) (by simpa using B.here) ?_
        simp [jvm, wpRun, exec, B.here.top, B.exec, B.bytes, flm_18]
        refine Steps.instrAtOv (c := _) (by simpa using B.here) ?_
        simp [jvm, wpRun, exec, B.here.top, B.exec, B.bytes, flm_19, B.method₁, B.returns, narrow]
        intro acts
        rw [ret_to B.frames₁ B.method₁ B.notSynchronized rfl rfl hfs]
        exact Steps.refl _
      · exact Or.inr hfs
theorem fl_mD (l : Launch) (a b : Int32) (hb0 : ¬ b = 0) : MeetsLoose l am_fld (fl_sp am_fld prog_17_method_47_code a b (vFd a b)) := by
  refine MeetsLoose.of_body_ov (code := prog_17_method_47_code) (maxLocals := 3) (ret := some .int) fl_rD ?_ ?_
  · intro args s h
    simp only [fl_sp, Cond.before_and, Bool.and_eq_true] at h
    exact h.1
  · intro p e s m args below meth c s₁ B
    have hpre := B.pre
    simp only [fl_sp, Cond.before_and, Bool.and_eq_true] at hpre
    obtain ⟨a', b', rfl⟩ := Cond.two_ints hpre.2.1 hpre.2.2.1.1 hpre.2.2.1.2
    have ea : a' = a := by simpa [Cond.before, Cond.holds, Cond.value, Term.eval] using hpre.2.2.2.1
    have eb : b' = b := by simpa [Cond.before, Cond.holds, Cond.value, Term.eval] using hpre.2.2.2.2
    subst ea
    subst eb
    have hloc : argsToLocals #[.int a', .int b'] 3 = #[.val (.int a'), .val (.int b'), .unset] := rfl
    have fin : ∀ r : Int32, r = vFd a' b' → (∀ fs, Steps p.tables e below (s₁.setTop (entryFrame m #[.int a', .int b'] 3)) (s₁.setFrames fs) ∨ handOver s₁ (some (.int r)) below ≠ some fs) →
        ∃ s₂ o, Steps p.tables e below (s₁.setTop (entryFrame m #[.int a', .int b'] 3)) s₂ ∧ s₂.status = .running ∧ Ended s₂ below o ∧
          (fl_sp am_fld prog_17_method_47_code a' b' (vFd a' b')).ensures #[.int a', .int b'] s o s₂ := by
      intro r hr hwalk
      obtain ⟨fs, hfs⟩ := handOver_isSome (s := s₁) (some (.int r)) B.hears₁
      refine ⟨s₁.setFrames fs, .returned (some (.int r)), (hwalk fs).resolve_right (fun h => h hfs), B.here.running, B.ended hfs (by intro h; cases h), ?_, State.sameBut_nil.mpr ?_⟩
      · simp [fl_sp, Cond.after, Cond.holds, Cond.value, Term.eval, hr]
      · rw [State.frames_setFrames _ B.cur₁, B.back]
    by_cases h1 : (a' ^^^ b') < 0
    · have h1n : ¬ (0 ≤ a' ^^^ b') := Int32.not_le.mpr h1
      by_cases h2 : a' / b' * b' = a'
      · refine fin (a' / b') (by unfold vFd; rw [if_pos h1, if_pos h2]) (fun fs => ?_)
        by_cases hfs : handOver s₁ (some (.int (a' / b'))) below = some fs
        · left
          unfold entryFrame; rw [hloc]
          refine Steps.instrAtOv (c := _) (by simpa using B.here) ?_
          simp [jvm, wpRun, exec, B.here.top, B.exec, B.bytes, fld_0]
          refine Steps.instrAtOv (c := _) (by simpa using B.here) ?_
          simp [jvm, wpRun, exec, B.here.top, B.exec, B.bytes, fld_1]
          refine Steps.instrAtOv (c := _) (by simpa using B.here) ?_
          simp [jvm, wpRun, exec, B.here.top, B.exec, B.bytes, fld_2, hb0, irem_eq_mod]
          refine Steps.instrAtOv (c := _) (by simpa using B.here) ?_
          simp [jvm, wpRun, exec, B.here.top, B.exec, B.bytes, fld_3]
          refine ⟨#[.val (.int a'), .val (.int b'), .val (.int (a' / b'))], rfl, ?_⟩
          refine Steps.instrAtOv (c := _) (by simpa using B.here) ?_
          simp [jvm, wpRun, exec, B.here.top, B.exec, B.bytes, fld_4]
          refine Steps.instrAtOv (c := _) (by simpa using B.here) ?_
          simp [jvm, wpRun, exec, B.here.top, B.exec, B.bytes, fld_5]
          refine Steps.instrAtOv (c := _) (by simpa using B.here) ?_
          simp [jvm, wpRun, exec, B.here.top, B.exec, B.bytes, fld_6]
          refine Steps.instrAtOv (c := _) (by simpa using B.here) ?_
          simp [jvm, wpRun, exec, B.here.top, B.exec, B.bytes, fld_7, ifCond.holds, h1n, h2]
          refine Steps.instrAtOv (c := _) (by simpa using B.here) ?_
          simp [jvm, wpRun, exec, B.here.top, B.exec, B.bytes, fld_10]
          refine Steps.instrAtOv (c := _) (by simpa using B.here) ?_
          simp [jvm, wpRun, exec, B.here.top, B.exec, B.bytes, fld_11]
          refine Steps.instrAtOv (c := _) (by simpa using B.here) ?_
          simp [jvm, wpRun, exec, B.here.top, B.exec, B.bytes, fld_12]
          refine Steps.instrAtOv (c := _) (by simpa using B.here) ?_
          simp [jvm, wpRun, exec, B.here.top, B.exec, B.bytes, fld_13]
          refine Steps.instrAtOv (c := _) (by simpa using B.here) ?_
          simp [jvm, wpRun, exec, B.here.top, B.exec, B.bytes, fld_14, if_icmp.holds, h1n, h2]
          refine Steps.instrAtOv (c := _) (by simpa using B.here) ?_
          simp [jvm, wpRun, exec, B.here.top, B.exec, B.bytes, fld_21]
          refine Steps.instrAtOv (c := _) (by simpa using B.here) ?_
          simp [jvm, wpRun, exec, B.here.top, B.exec, B.bytes, fld_22, B.method₁, B.returns, narrow]
          intro acts
          rw [ret_to B.frames₁ B.method₁ B.notSynchronized rfl rfl hfs]
          exact Steps.refl _
        · exact Or.inr hfs
      · refine fin (a' / b' - 1) (by unfold vFd; rw [if_pos h1, if_neg h2]) (fun fs => ?_)
        by_cases hfs : handOver s₁ (some (.int (a' / b' - 1))) below = some fs
        · left
          unfold entryFrame; rw [hloc]
          refine Steps.instrAtOv (c := _) (by simpa using B.here) ?_
          simp [jvm, wpRun, exec, B.here.top, B.exec, B.bytes, fld_0]
          refine Steps.instrAtOv (c := _) (by simpa using B.here) ?_
          simp [jvm, wpRun, exec, B.here.top, B.exec, B.bytes, fld_1]
          refine Steps.instrAtOv (c := _) (by simpa using B.here) ?_
          simp [jvm, wpRun, exec, B.here.top, B.exec, B.bytes, fld_2, hb0, irem_eq_mod]
          refine Steps.instrAtOv (c := _) (by simpa using B.here) ?_
          simp [jvm, wpRun, exec, B.here.top, B.exec, B.bytes, fld_3]
          refine ⟨#[.val (.int a'), .val (.int b'), .val (.int (a' / b'))], rfl, ?_⟩
          refine Steps.instrAtOv (c := _) (by simpa using B.here) ?_
          simp [jvm, wpRun, exec, B.here.top, B.exec, B.bytes, fld_4]
          refine Steps.instrAtOv (c := _) (by simpa using B.here) ?_
          simp [jvm, wpRun, exec, B.here.top, B.exec, B.bytes, fld_5]
          refine Steps.instrAtOv (c := _) (by simpa using B.here) ?_
          simp [jvm, wpRun, exec, B.here.top, B.exec, B.bytes, fld_6]
          refine Steps.instrAtOv (c := _) (by simpa using B.here) ?_
          simp [jvm, wpRun, exec, B.here.top, B.exec, B.bytes, fld_7, ifCond.holds, h1n, h2]
          refine Steps.instrAtOv (c := _) (by simpa using B.here) ?_
          simp [jvm, wpRun, exec, B.here.top, B.exec, B.bytes, fld_10]
          refine Steps.instrAtOv (c := _) (by simpa using B.here) ?_
          simp [jvm, wpRun, exec, B.here.top, B.exec, B.bytes, fld_11]
          refine Steps.instrAtOv (c := _) (by simpa using B.here) ?_
          simp [jvm, wpRun, exec, B.here.top, B.exec, B.bytes, fld_12]
          refine Steps.instrAtOv (c := _) (by simpa using B.here) ?_
          simp [jvm, wpRun, exec, B.here.top, B.exec, B.bytes, fld_13]
          refine Steps.instrAtOv (c := _) (by simpa using B.here) ?_
          simp [jvm, wpRun, exec, B.here.top, B.exec, B.bytes, fld_14, if_icmp.holds, h1n, h2]
          refine Steps.instrAtOv (c := _) (by simpa using B.here) ?_
          simp [jvm, wpRun, exec, B.here.top, B.exec, B.bytes, fld_17]
          refine Steps.instrAtOv (c := _) (by simpa using B.here) ?_
          simp [jvm, wpRun, exec, B.here.top, B.exec, B.bytes, fld_18]
          refine Steps.instrAtOv (c := _) (by simpa using B.here) ?_
          simp [jvm, wpRun, exec, B.here.top, B.exec, B.bytes, fld_19]
          refine Steps.instrAtOv (c := _) (by simpa using B.here) ?_
          simp [jvm, wpRun, exec, B.here.top, B.exec, B.bytes, fld_20, B.method₁, B.returns, narrow]
          intro acts
          rw [ret_to B.frames₁ B.method₁ B.notSynchronized rfl rfl hfs]
          exact Steps.refl _
        · exact Or.inr hfs
    · have h1n : 0 ≤ a' ^^^ b' := Int32.not_lt.mp h1
      refine fin (a' / b') (by unfold vFd; rw [if_neg h1]) (fun fs => ?_)
      by_cases hfs : handOver s₁ (some (.int (a' / b'))) below = some fs
      · left
        unfold entryFrame; rw [hloc]
        refine Steps.instrAtOv (c := _) (by simpa using B.here) ?_
        simp [jvm, wpRun, exec, B.here.top, B.exec, B.bytes, fld_0]
        refine Steps.instrAtOv (c := _) (by simpa using B.here) ?_
        simp [jvm, wpRun, exec, B.here.top, B.exec, B.bytes, fld_1]
        refine Steps.instrAtOv (c := _) (by simpa using B.here) ?_
        simp [jvm, wpRun, exec, B.here.top, B.exec, B.bytes, fld_2, hb0, irem_eq_mod]
        refine Steps.instrAtOv (c := _) (by simpa using B.here) ?_
        simp [jvm, wpRun, exec, B.here.top, B.exec, B.bytes, fld_3]
        refine ⟨#[.val (.int a'), .val (.int b'), .val (.int (a' / b'))], rfl, ?_⟩
        refine Steps.instrAtOv (c := _) (by simpa using B.here) ?_
        simp [jvm, wpRun, exec, B.here.top, B.exec, B.bytes, fld_4]
        refine Steps.instrAtOv (c := _) (by simpa using B.here) ?_
        simp [jvm, wpRun, exec, B.here.top, B.exec, B.bytes, fld_5]
        refine Steps.instrAtOv (c := _) (by simpa using B.here) ?_
        simp [jvm, wpRun, exec, B.here.top, B.exec, B.bytes, fld_6]
        refine Steps.instrAtOv (c := _) (by simpa using B.here) ?_
        simp [jvm, wpRun, exec, B.here.top, B.exec, B.bytes, fld_7, ifCond.holds, h1n]
        refine Steps.instrAtOv (c := _) (by simpa using B.here) ?_
        simp [jvm, wpRun, exec, B.here.top, B.exec, B.bytes, fld_21]
        refine Steps.instrAtOv (c := _) (by simpa using B.here) ?_
        simp [jvm, wpRun, exec, B.here.top, B.exec, B.bytes, fld_22, B.method₁, B.returns, narrow]
        intro acts
        rw [ret_to B.frames₁ B.method₁ B.notSynchronized rfl rfl hfs]
        exact Steps.refl _
      · exact Or.inr hfs
/-- the call, as a row -/
theorem fl_row {l : Launch} {y0 : MethodName} {code0 : ByteArray} {f : Int → Int → Int} (hc1 : y0.cls = "java/lang/Math") (hc2 : y0.desc = "(II)I") (hM : ∀ x y : Int, in32 x → in32 y → y ≠ 0 → MeetsLoose l y0 (fl_sp y0 code0 (Int32.ofInt x) (Int32.ofInt y) (Int32.ofInt (f x y)))) : am_FlRow l y0 code0 f := by
  intro p e R s m args below meth c0 H locs cells slots Q cc pc ls own idx x y rest hx hb hml hown hlink hstat hini hcode hfr hlo hcl hsl hd hi1 hi2 hy kk
  intro T hT X
  obtain ⟨v, vm', X', ⟨first, t, hpost⟩, hstep⟩ := X.staticByContractV hx hown hlink hstat (by rw [hc1]; exact hini) hcode (by rw [hc1]; decide) (hM x y hi1 hi2 hy) rfl rfl rfl rfl
    (fun args' first o s₂ h => by
      cases o with
      | returned r => exact ⟨r, rfl⟩
      | threw y9 =>
        have hz : (fl_sp y0 code0 (Int32.ofInt x) (Int32.ofInt y) (Int32.ofInt (f x y))).post.value args' first (some (.threw y9)) s₂ [] = some true := by simpa [Cond.after, Cond.holds] using h
        exact absurd hz va_nvRet)
    (g := F0 m pc ls (.int (Int32.ofInt y) :: .int (Int32.ofInt x) :: rest)) rfl (by rw [hml]) (argsL := [.int (Int32.ofInt x), .int (Int32.ofInt y)]) (rest := rest)
    (fun sig hs => by
      have h : parseMethodDescriptor "(II)I" = some { parameters := [.int, .int], returnType := some .int } := by decide +kernel
      rw [hc2, h] at hs
      rw [← Option.some.inj hs]; rfl)
    rfl (by rw [hb]; exact hd)
    (fun vm' hW => by
      simp only [fl_sp, Cond.before_and, Bool.and_eq_true]
      refine ⟨?_, rfl, ⟨rfl, rfl⟩, ?_, ?_⟩
      · have q := hcode
        rw [← Cond.code_setVm hW.alike] at q
        simp only [Cond.before, Cond.holds, Cond.value, State.methodNamed?, State.vm_setVm] at q ⊢
        exact q
      · simp [Cond.before, Cond.holds, Cond.value, Term.eval]
      · simp [Cond.before, Cond.holds, Cond.value, Term.eval])
    (by show 0 + 1 ≤ R.frames; omega) (by show 2 * 0 + (rest.map fun v => v.category).sum + (3 + 11) + 0 ≤ R.locals; omega) (by show cells + 0 ≤ R.cells; omega) (by show slots + 0 ≤ R.slots; omega)
  obtain rfl : v = some (.int (Int32.ofInt (f x y))) := by
    rcases v with _ | w
    · simp [fl_sp, Cond.after, Cond.holds, Cond.value, Term.eval] at hpost
    · cases w <;> simp [fl_sp, Cond.after, Cond.holds, Cond.value, Term.eval] at hpost
      rw [hpost]
  obtain ⟨t2, a1, b1⟩ := kk (T.setVm vm') hT X'
  exact ⟨t2, hstep t2 a1, b1⟩
theorem am_hflm (l : Launch) : am_FlRow l am_flm prog_17_method_50_code Int.fmod := fl_row rfl rfl (fun x y hx hy h => by
  rw [← vFm_eq hx hy h]; exact fl_mM l _ _ (i32_ne0 hy h))
theorem am_hfld (l : Launch) : am_FlRow l am_fld prog_17_method_47_code (fun x y => w32 (Int.fdiv x y)) := fl_row (f := fun x y => w32 (Int.fdiv x y)) rfl rfl (fun x y hx hy h => by
  show MeetsLoose l am_fld (fl_sp am_fld prog_17_method_47_code (Int32.ofInt x) (Int32.ofInt y) (Int32.ofInt (w32 (Int.fdiv x y))))
  rw [← vFd_eq hx hy h]; exact fl_mD l _ _ (i32_ne0 hy h))
