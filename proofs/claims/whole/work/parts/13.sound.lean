/-! the small machine is sound -/
section AMW
variable {l : Launch} {base : Nat} {ad : Int → Nat} {cA : Nat → ClassId} {cl : List vw_C} {tg : Nat → Nat → Nat} {D : va_G} {kz : am_Z} {zc : Nat → String} {zf : Nat → Nat → String × String × String × Nat} {zn : Nat → Nat} {stl : List (String × String × String × am_V)} {strl : List (String × Nat × String × Int)} {tb : List Cond} {mt : Nat → MethodName × ByteArray × Nat × Option FieldType} {cd : Nat → Nat → Option am_I} {rk : Nat → Nat}
theorem am_cell_inv {M : am_M} {x : Int} {so n : Nat} {f : Nat → Int} (h : am_cell kz M x = some (so, n, f)) : (0 < x ∧ M.1[x.toNat]? = some (so, n) ∧ f = M.2 x.toNat) ∨ (∃ z : Nat, 0 < z ∧ x = -(z : Int) ∧ kz z = (so, n, f)) := by
  unfold am_cell at h
  split at h
  next h0 =>
    split at h
    next so' n' hM => cases h; exact Or.inl ⟨h0, hM, rfl⟩
    next => cases h
  next h0 =>
    split at h
    next h1 => exact Or.inr ⟨(-x).toNat, by omega, by omega, Option.some.inj h⟩
    next => cases h
theorem am_call_inv {k : am_S → am_R} {d mi pc a : Nat} {c : Int} {L : am_L} {As rest : List am_V} {M M' : am_M} {r : Option am_V} (h : am_call k d mi pc a c L As rest M = some (r, M')) : ∃ d' r1 M1, d = d' + 1 ∧ (rest.map am_cat).sum ≤ 8 ∧ (As.map am_cat).sum ≤ c.toNat ∧ k (d', a, 0, am_entry As c.toNat, [], M) = some (r1, M1) ∧ k (d' + 1, mi, pc, L, r1.toList ++ rest, M1) = some (r, M') := by
  unfold am_call at h
  split at h
  · cases h
  · rename_i d'
    split at h
    · rename_i hq
      cases hk : k (d', a, 0, am_entry As c.toNat, [], M) with
      | none => rw [hk] at h; cases h
      | some q =>
        obtain ⟨r1, M1⟩ := q
        rw [hk] at h
        exact ⟨d', r1, M1, rfl, hq.1, hq.2, hk, h⟩
    · cases h
theorem am_good_no {d mi pc : Nat} {L : am_L} {st : List am_V} {M M' : am_M} {r : Option am_V} (hgr : M.1 <+: M'.1) (hno : ∀ H, am_Wd base ad cA cl tg D M H → False) : am_Good l base ad cA cl tg D kz zc zf stl strl tb mt (d, mi, pc, L, st, M) r M' := by
  refine ⟨hgr, ?_⟩
  intro p e s m args below meth c0 H locs ls R cells slots k0 j0 mc ms hcx hL hst hWd
  exact absurd hWd (hno H)
theorem am_good_zno {d mi pc : Nat} {L : am_L} {st : List am_V} {M M' : am_M} {r : Option am_V} {z so n : Nat} {f : Nat → Int} (hgr : M.1 <+: M'.1) (hz0 : 0 < z) (hkz : kz z = (so, n, f)) (hso : so = 104) : am_Good l base ad cA cl tg D kz zc zf stl strl tb mt (d, mi, pc, L, st, M) r M' := by
  refine ⟨hgr, ?_⟩
  intro p e s m args below meth c0 H locs ls R cells slots k0 j0 mc ms hcx hL hst hWd
  obtain ⟨hx, hb, hml, hown, hts, hr, hlocks, hname, hK⟩ := hcx
  have := ((hK.2.1 z so n f hz0 hkz (by omega)).2 (by omega)).1
  omega
set_option maxHeartbeats 8000000 in
theorem am_step_ok (hP : am_Prog cl tg kz zc zf zn stl strl tb mt cd rk) (had : am_Ad base ad) (hmna : am_MnaRow l base ad cA cl tg D tb) (hflm : am_FlRow l am_flm prog_17_method_50_code Int.fmod) (hfld : am_FlRow l am_fld prog_17_method_47_code (fun x y => w32 (Int.fdiv x y))) {k : am_S → am_R} (hk : ∀ σ r M', k σ = some (r, M') → am_Good l base ad cA cl tg D kz zc zf stl strl tb mt σ r M') :
    ∀ σ r M', am_step cd rk kz k σ = some (r, M') → am_Good l base ad cA cl tg D kz zc zf stl strl tb mt σ r M' := by
  obtain ⟨hC, hgood, hprog, hz, hclen, hkz8⟩ := hP
  have h8 : ∀ z so n f, kz z = (so, n, f) → so ≠ 77 → z ≠ 8 := fun z so n f h1 h2 h3 => by
    subst h3; rw [h1] at hkz8; exact h2 hkz8
  rintro ⟨d, mi, pc, L, st, M⟩ r M' h
  unfold am_step at h
  simp only at h
  cases hcd : cd mi pc with
  | none => rw [hcd] at h; cases h
  | some ai =>
  obtain ⟨len, ins, a, b, c⟩ := ai
  rw [hcd] at h
  obtain ⟨ho, hrk⟩ := hprog mi pc _ hcd
  have hd : decode (mt mi).2.1 pc = .ok (ins, len) := ho.1
  have ho0 := ho
  replace ho := ho.2
  simp only at h ho
  split at h
  · -- goto
    simp only at ho
    obtain ⟨hlen, ht⟩ := ho; subst hlen
    exact am_good_goto hd ht (hk _ _ _ h)
  · simp only at ho
    obtain ⟨hlen, ht⟩ := ho; subst hlen
    unfold am_goB at h
    split at h
    · rename_i q st' e
      refine am_good_if1 hd ht e (hk _ _ _ ?_)
      cases q <;> exact h
    · cases h
  · simp only at ho
    obtain ⟨hlen, ht⟩ := ho; subst hlen
    unfold am_goB at h
    split at h
    · rename_i q st' e
      refine am_good_if2 hd ht e (hk _ _ _ ?_)
      cases q <;> exact h
    · cases h
  · -- getfield
    simp only at ho
    obtain ⟨hlen, ho⟩ := ho; subst hlen
    unfold am_go at h
    split at h
    · rename_i st' e
      unfold am_getf at e
      split at e
      · rename_i x st0
        split at e
        · rename_i so n f hce
          split at e
          · rename_i hso
            subst hso
            cases e
            rcases am_cell_inv hce with ⟨h0, hM, rfl⟩ | ⟨z, hz0, rfl, hkz⟩
            · rcases ho with ⟨C, T, N, hc, hbN, htg, hl⟩ | ⟨hcn, ha, h77, -⟩
              · rw [htg] at h
                exact am_good_getf hC had hd hc hbN hl h0 hM (hk _ _ _ h)
              · refine am_good_no (hk _ _ _ h).1 (fun H hW => ?_)
                obtain ⟨⟨C, T, q⟩, -⟩ := (hW.2.2.2 _ _ _ hM (by omega)).1 ha h77
                rw [hcn] at q; cases q
            · rcases ho with ⟨C, T, N, hc, -⟩ | ⟨hcn, ha, h77, hbz, htg, hl⟩
              · have h9 := hC _ _ _ _ hc
                have h8 := (List.getElem?_eq_some_iff.mp hc).1
                have := (hz z _ _ _ hkz (by have := h9.1; omega) (by have := h9.1; omega)).1
                rw [hc] at this; cases this
              · rw [htg] at h
                exact am_good_getz hd ⟨hz0, h8 _ _ _ _ hkz h77⟩ hkz ha h77 (by rw [(hz z _ _ _ hkz ha h77).2]; exact hbz) hl (hk _ _ _ h)
          · cases e
        · cases e
      · cases e
    · cases h
  · -- putfield
    simp only at ho
    obtain ⟨hlen, C, T, N, hc, hbN, htg, hl, hf⟩ := ho; subst hlen
    unfold am_goM at h
    split at h
    · rename_i st' M2 e
      unfold am_putf at e
      split at e
      · rename_i v x st0
        split at e
        · rename_i h0
          split at e
          · rename_i so n hM
            split at e
            · rename_i hso
              subst hso
              split at e
              · rename_i y hy
                cases e
                rw [htg] at hy
                exact am_good_putf hC had hd hc hbN hl hf h0 hM hy (hk _ _ _ h)
              · cases e
            · cases e
          · cases e
        · cases e
      · cases e
    · cases h
  · -- iaload
    simp only at ho
    subst ho
    unfold am_go at h
    split at h
    · rename_i st' e
      unfold am_ald at e
      split at e
      · rename_i i x st0
        split at e
        · rename_i so n f hce
          split at e
          · rename_i hq
            obtain ⟨hs, h0, h1⟩ := hq
            cases e
            have hs : so = 100 := by simpa using hs
            rcases am_cell_inv hce with ⟨hx0, hM, rfl⟩ | ⟨z, hz0, rfl, hkz⟩
            · refine am_good_ald (so := so) (n := n) had ?_ hd hx0 hM h0 h1 (hk _ _ _ h)
              simp [hs]
            · refine am_good_aldz (so := so) (n := n) (f := f) ?_ hd ⟨hz0, h8 _ _ _ _ hkz (by omega)⟩ hkz h0 h1 (hk _ _ _ h)
              simp [hs]
          · cases e
        · cases e
      · cases e
    · cases h
  · -- laload
    simp only at ho
    subst ho
    unfold am_go at h
    split at h
    · rename_i st' e
      unfold am_ald at e
      split at e
      · rename_i i x st0
        split at e
        · rename_i so n f hce
          split at e
          · rename_i hq
            obtain ⟨hs, h0, h1⟩ := hq
            cases e
            have hs : so = 101 := by simpa using hs
            rcases am_cell_inv hce with ⟨hx0, hM, rfl⟩ | ⟨z, hz0, rfl, hkz⟩
            · refine am_good_ald (so := so) (n := n) had ?_ hd hx0 hM h0 h1 (hk _ _ _ h)
              simp [hs]
            · refine am_good_aldz (so := so) (n := n) (f := f) ?_ hd ⟨hz0, h8 _ _ _ _ hkz (by omega)⟩ hkz h0 h1 (hk _ _ _ h)
              simp [hs]
          · cases e
        · cases e
      · cases e
    · cases h
  · -- baload
    simp only at ho
    subst ho
    unfold am_go at h
    split at h
    · rename_i st' e
      unfold am_ald at e
      split at e
      · rename_i i x st0
        split at e
        · rename_i so n f hce
          split at e
          · rename_i hq
            obtain ⟨hs, h0, h1⟩ := hq
            cases e
            have hs : so = 102 ∨ so = 103 := by simpa using hs
            rcases am_cell_inv hce with ⟨hx0, hM, rfl⟩ | ⟨z, hz0, rfl, hkz⟩
            · refine am_good_ald (so := so) (n := n) had ?_ hd hx0 hM h0 h1 (hk _ _ _ h)
              simp [hs]
            · refine am_good_aldz (so := so) (n := n) (f := f) ?_ hd ⟨hz0, h8 _ _ _ _ hkz (by omega)⟩ hkz h0 h1 (hk _ _ _ h)
              simp [hs]
          · cases e
        · cases e
      · cases e
    · cases h
  · -- aaload
    simp only at ho
    subst ho
    unfold am_go at h
    split at h
    · rename_i st' e
      unfold am_ald at e
      split at e
      · rename_i i x st0
        split at e
        · rename_i so n f hce
          split at e
          · rename_i hq
            obtain ⟨hs, h0, h1⟩ := hq
            cases e
            have hs : so = 104 := by simpa using hs
            rcases am_cell_inv hce with ⟨hx0, hM, rfl⟩ | ⟨z, hz0, rfl, hkz⟩
            · refine am_good_ald (so := so) (n := n) had ?_ hd hx0 hM h0 h1 (hk _ _ _ h)
              simp [hs]
            · refine am_good_zno (hk _ _ _ h).1 hz0 hkz (by omega)
          · cases e
        · cases e
      · cases e
    · cases h
  · -- arraylength
    simp only at ho
    subst ho
    unfold am_go at h
    split at h
    · rename_i st' e
      unfold am_alen at e
      split at e
      · rename_i x st0
        split at e
        · rename_i so n f hce
          split at e
          · rename_i hq
            cases e
            rcases am_cell_inv hce with ⟨hx0, hM, rfl⟩ | ⟨z, hz0, rfl, hkz⟩
            · exact am_good_alen had hq.1 hq.2 hd hx0 hM (hk _ _ _ h)
            · exact am_good_alenz hq.1 hq.2 hd ⟨hz0, h8 _ _ _ _ hkz (by omega)⟩ hkz (hk _ _ _ h)
          · cases e
        · cases e
      · cases e
    · cases h
  · -- iastore
    simp only at ho
    subst ho
    unfold am_goM at h
    split at h
    · rename_i st' M2 e
      unfold am_ast at e
      split at e
      · rename_i v i x st0
        split at e
        · rename_i hx0
          split at e
          · rename_i so n hM
            split at e
            · rename_i y hy
              split at e
              · rename_i hq
                obtain ⟨hs, h0, h1, hf⟩ := hq
                cases e
                have hs : so = 100 := by simpa using hs
                refine am_good_ast (so := so) (n := n) had ?_ hd hx0 hM h0 h1 hy hf (hk _ _ _ h)
                simp [hs]
              · cases e
            · cases e
          · cases e
        · cases e
      · cases e
    · cases h
  · -- lastore
    simp only at ho
    subst ho
    unfold am_goM at h
    split at h
    · rename_i st' M2 e
      unfold am_ast at e
      split at e
      · rename_i v i x st0
        split at e
        · rename_i hx0
          split at e
          · rename_i so n hM
            split at e
            · rename_i y hy
              split at e
              · rename_i hq
                obtain ⟨hs, h0, h1, hf⟩ := hq
                cases e
                have hs : so = 101 := by simpa using hs
                refine am_good_ast (so := so) (n := n) had ?_ hd hx0 hM h0 h1 hy hf (hk _ _ _ h)
                simp [hs]
              · cases e
            · cases e
          · cases e
        · cases e
      · cases e
    · cases h
  · -- bastore
    simp only at ho
    subst ho
    unfold am_goM at h
    split at h
    · rename_i st' M2 e
      unfold am_ast at e
      split at e
      · rename_i v i x st0
        split at e
        · rename_i hx0
          split at e
          · rename_i so n hM
            split at e
            · rename_i y hy
              split at e
              · rename_i hq
                obtain ⟨hs, h0, h1, hf⟩ := hq
                cases e
                have hs : so = 102 ∨ so = 103 := by simpa using hs
                refine am_good_ast (so := so) (n := n) had ?_ hd hx0 hM h0 h1 hy hf (hk _ _ _ h)
                simp [hs]
              · cases e
            · cases e
          · cases e
        · cases e
      · cases e
    · cases h
  · -- getstatic
    simp only at ho
    obtain ⟨hlen, C, n, dd, hm, hv, hl⟩ := ho; subst hlen
    exact am_good_gets hd hm hv hl (hk _ _ _ h)
  · -- new
    simp only at ho
    obtain ⟨hlen, C, T, hc, h1, h2, h3⟩ := ho; subst hlen
    exact am_good_new hC had hd hc h1 h2 h3 (hk _ _ _ h)
  · -- newarray
    simp only at ho
    obtain ⟨hlen, hso, h1⟩ := ho; subst hlen
    unfold am_goM at h
    split at h
    · rename_i st' M2 e
      unfold am_newa at e
      split at e
      · split at e
        · rename_i hq
          cases e
          exact am_good_newa had hd hso h1 hq.1 hq.2 (hk _ _ _ h)
        · cases e
      · cases e
    · cases h
  · -- multianewarray
    simp only at ho
    obtain ⟨hlen, hdim, h1, h3⟩ := ho; subst hlen; subst hdim
    unfold am_goM at h
    split at h
    · rename_i st' M2 e
      unfold am_newm at e
      split at e
      · split at e
        · rename_i hq
          cases e
          exact am_good_newm hmna had hd h1 h3 hq.1 hq.2.1 hq.2.2.1 hq.2.2.2.1 hq.2.2.2.2 (hk _ _ _ h)
        · cases e
      · cases e
    · cases h
  · -- invokestatic
    simp only at ho
    obtain ⟨hlen, ho⟩ := ho; subst hlen
    split at h
    · rename_i ha
      rw [if_pos ha] at ho
      obtain ⟨w1, w2, w3, w4⟩ := ho
      unfold am_goM at h
      split at h
      · rename_i st' M2 e
        split at e
        · cases e
        · rename_i d'
          split at e
          · rename_i hcat
            unfold am_copy at e
            split at e
            · split at e
              · rename_i hq
                split at e
                · rename_i n0 n1 hM0 hM1
                  split at e
                  · rename_i hq2
                    cases e
                    exact am_good_copy had hd w1 w2 w3 w4 hq.1 hq.2.1 hq.2.2 hM0 hM1 hq2.1 hq2.2.1 hq2.2.2.1 hq2.2.2.2.1 hq2.2.2.2.2 (by omega) hcat (hk _ _ _ h)
                  · cases e
                · cases e
              · cases e
            · cases e
          · cases e
      · cases h
    · rename_i ha
      rw [if_neg ha] at ho
      split at h
      · rename_i ha2
        rw [if_pos ha2] at ho
        unfold am_go at h
        split at h
        · rename_i st' e
          split at e
          · cases e
          · split at e
            · rename_i hcat
              exact am_good_prim hflm hfld hd ho e (by omega) hcat (hk _ _ _ h)
            · cases e
        · cases h
      rename_i ha2
      rw [if_neg ha2] at ho
      obtain ⟨hc, w1, w2⟩ := ho
      split at h
      · rename_i hbl
        obtain ⟨d', r1, M1, rfl, hcat, hAc, h1, h2⟩ := am_call_inv h
        exact am_good_callS hgood hd hc w1 w2 hbl hcat hAc (hk _ _ _ h1) (hk _ _ _ h2)
      · cases h
  · -- invokevirtual
    simp only at ho
    obtain ⟨hlen, hc, w1, w2, w3, hrc⟩ := ho; subst hlen
    split at h
    · rename_i x rest hsd
      split at h
      · rename_i so n f hce
        split at h
        · rename_i hso
          subst hso
          obtain ⟨d', r1, M1, rfl, hcat, hAc, h1, h2⟩ := am_call_inv h
          have hg1 := hk _ _ _ h1
          have hg2 := hk _ _ _ h2
          rcases am_cell_inv hce with ⟨h0, hM, rfl⟩ | ⟨z, hz0, rfl, hkz⟩
          · rcases hrc with ⟨T, N, hcl⟩ | ⟨hcn, ha, h77, -⟩
            · exact am_good_callV hgood hC had hd hc w1 w2 w3 (by omega) (Or.inl ⟨h0, T, N, n, hcl, hM⟩) hsd hcat hAc hg1 hg2
            · refine am_good_no (hg1.1.trans hg2.1) (fun H hW => ?_)
              obtain ⟨⟨C, T, q⟩, -⟩ := (hW.2.2.2 _ _ _ hM (by omega)).1 ha h77
              rw [hcn] at q; cases q
          · rcases hrc with ⟨T, N, hcl⟩ | ⟨hcn, ha, h77, hzc⟩
            · have h9 := hC _ _ _ _ hcl
              have h8 := (List.getElem?_eq_some_iff.mp hcl).1
              have := (hz z _ _ _ hkz (by have := h9.1; omega) (by have := h9.1; omega)).1
              rw [hcl] at this; cases this
            · exact am_good_callV hgood hC had hd hc w1 w2 w3 (by have := h8 _ _ _ _ hkz h77; omega) (Or.inr ⟨z, n, f, hz0, rfl, hkz, ha, h77, hzc⟩) hsd hcat hAc hg1 hg2
        · cases h
      · cases h
    · cases h
  · -- invokespecial
    simp only at ho
    obtain ⟨hlen, ho⟩ := ho; subst hlen
    split at h
    · rename_i x rest hsd
      split at h
      · rename_i ha
        rw [if_pos ha] at ho
        obtain ⟨hb0, w1, w2, w3⟩ := ho
        rw [hb0] at hsd
        have hsd : st = .inr (.inr x) :: rest := hsd
        subst hsd
        split at h
        · cases h
        · split at h
          · rename_i hq
            exact am_good_obj hd w1 w2 w3 hq.1 (by omega) hq.2 (hk _ _ _ h)
          · cases h
      · rename_i ha
        rw [if_neg ha] at ho
        obtain ⟨hc, hnm, hret, w1, w2⟩ := ho
        split at h
        · rename_i h0
          obtain ⟨d', r1, M1, rfl, hcat, hAc, h1, h2⟩ := am_call_inv h
          exact am_good_callI hgood hd hc hnm hret w1 w2 h0 hsd hcat hAc (hk _ _ _ h1) (hk _ _ _ h2)
        · cases h
    · cases h
  · -- tableswitch
    simp only at ho
    split at h
    · split at h
      · rename_i off e
        exact am_good_sw hd ho e (hk _ _ _ h)
      · cases h
    · cases h
  · -- lookupswitch
    simp only at ho
    split at h
    · exact am_good_lsw hd ho.1 ho.2 (hk _ _ _ h)
    · cases h
  · simp only at ho
    subst ho
    exact am_good_ret hd hrk h
  · simp only at ho
    subst ho
    exact am_good_ret hd hrk h
  · simp only at ho
    subst ho
    exact am_good_ret hd hrk h
  · -- the rest
    unfold am_goL at h
    split at h
    · rename_i L' st' e
      by_cases hs : ∃ i, ins = .ldc i ∧ a ≠ 0
      · obtain ⟨i, rfl, ha⟩ := hs
        have ho2 := ho0.2
        simp only at ho2
        rw [if_neg ha] at ho2
        obtain ⟨hlen, hc0, tx, hm⟩ := ho2; subst hlen
        unfold am_pure at e
        simp only [if_neg ha] at e
        cases e
        exact am_good_ldcs hd hc0 hm (hk _ _ _ h)
      · obtain ⟨hd2, hp⟩ := am_okI_pure ho0 e hs
        exact am_good_pure hd2 hp e (hk _ _ _ h)
    · cases h
/-- what the small machine does, the large one does -/
theorem am_sound (hP : am_Prog cl tg kz zc zf zn stl strl tb mt cd rk) (had : am_Ad base ad) (hmna : am_MnaRow l base ad cA cl tg D tb) (hflm : am_FlRow l am_flm prog_17_method_50_code Int.fmod) (hfld : am_FlRow l am_fld prog_17_method_47_code (fun x y => w32 (Int.fdiv x y))) : ∀ n σ r M', am_exec cd rk kz n σ = some (r, M') → am_Good l base ad cA cl tg D kz zc zf stl strl tb mt σ r M' := by
  intro n
  induction n with
  | zero => intro σ r M' h; cases h
  | succ n ih => exact am_step_ok hP had hmna hflm hfld ih
end AMW
