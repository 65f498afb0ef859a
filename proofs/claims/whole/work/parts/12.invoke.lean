/-! calls and returns of the small machine: sound; the whole -/
section AMT
variable {l : Launch} {base : Nat} {ad : Int → Nat} {cA : Nat → ClassId} {cl : List vw_C} {tg : Nat → Nat → Nat} {D : va_G} {kz : am_Z} {zc : Nat → String} {zf : Nat → Nat → String × String × String × Nat} {zn : Nat → Nat} {stl : List (String × String × String × am_V)} {strl : List (String × Nat × String × Int)} {tb : List Cond} {mt : Nat → MethodName × ByteArray × Nat × Option FieldType} {cd : Nat → Nat → Option am_I} {rk : Nat → Nat}
variable {d mi pc : Nat} {L L' : am_L} {st st' : List am_V} {M M' M1 : am_M} {r r1 : Option am_V} {len a b : Nat} {c : Int}
theorem am_goodIn (hgood : ∀ w ∈ tb, goodWord w = true) {a nargs : Nat} {c : Int} (hc : am_okC tb mt a nargs c) : GoodIn tb (Cond.code (mt a).1 (mt a).2.1 (mt a).2.2.1 (mt a).2.2.2 :: tb) := by
  intro w hw
  rcases List.mem_cons.mp hw with rfl | hw
  · exact ⟨hc.2.2.2.2.2.1, good_of_word (hgood _ hc.2.2.2.2.2.1)⟩
  · exact ⟨hw, good_of_word (hgood w hw)⟩
theorem am_Pc_blind {As : List am_V} : FrameBlind (am_Pc base ad cA cl tg D kz zc zf stl strl As M) := by
  intro a U g mk q
  obtain ⟨q0, q1, q2⟩ := q
  exact ⟨q0, q1, q2.blind g mk a⟩
theorem am_Pc_pre {As : List am_V} {s : State} {H : Heap} {locs : List Loc} (hK : am_K base ad cA D cl kz zc zf stl strl s s.heap) (hWd : am_Wd base ad cA cl tg D M H) (hS : va_S (am_A base) s.heap H locs) : ∀ U : State, U.heap = H → s.WarmedH U.vm → am_Pc base ad cA cl tg D kz zc zf stl strl As M (As.map (am_up ad)).toArray U := by
  intro U hU hW
  exact ⟨rfl, by rw [hU]; exact hWd, by rw [hU]; exact hK.next hS.2.1 hW⟩
theorem am_toL (r : Option am_V) (rest : List am_V) : (r.map (am_up ad)).toList ++ rest.map (am_up ad) = (r.toList ++ rest).map (am_up ad) := by
  cases r <;> rfl
theorem am_cats (st : List am_V) : ((st.map (am_up ad)).map fun v => v.category) = st.map am_cat := by
  rw [List.map_map]; apply List.map_congr_left; intro v _; exact am_up_cat ad v
theorem am_oks {rest : List am_V} (h1 : ∀ v, r = some v → am_okv v) (h2 : ∀ v ∈ rest, am_okv v) : ∀ v ∈ r.toList ++ rest, am_okv v := by
  intro v hv
  rcases List.mem_append.mp hv with h | h
  · cases r with
    | none => cases h
    | some w => simp at h; subst h; exact h1 _ rfl
  · exact h2 v h
theorem am_good_callS (hgood : ∀ w ∈ tb, goodWord w = true) {idx : Nat} {d' : Nat} (hd : decode (mt mi).2.1 pc = .ok (.invokestatic idx, 3)) (hc : am_okC tb mt a b c) (hw1 : Cond.static (mt a).1 ∈ tb) (hw2 : Cond.methodLink (mt mi).1.cls idx (mt a).1 ∈ tb ∨ ∃ host, ((mt mi).1.cls, idx, (mt a).1, host) ∈ am_nst) (hbl : b ≤ st.length) (hcat : ((st.drop b).map am_cat).sum ≤ 8) (hAc : (((st.take b).reverse).map am_cat).sum ≤ c.toNat)
    (hG1 : am_Good l base ad cA cl tg D kz zc zf stl strl tb mt (d', a, 0, am_entry (st.take b).reverse c.toNat, [], M) r1 M1) (hG2 : am_Good l base ad cA cl tg D kz zc zf stl strl tb mt (d' + 1, mi, pc + 3, L, r1.toList ++ st.drop b, M1) r M') : am_Good l base ad cA cl tg D kz zc zf stl strl tb mt (d' + 1, mi, pc, L, st, M) r M' := by
  refine ⟨hG1.1.trans hG2.1, ?_⟩
  intro p e s m args below meth c0 H locs ls R cells slots k0 j0 mc ms hcx hL hst hWd hS hfr hlo hk0 hj0 hmc hms hRc hRs
  have hcx0 := hcx
  obtain ⟨hx, hb, hml, hown, hts, hr, hlocks, hname, hK⟩ := hcx
  obtain ⟨u1, u2⟩ := am_sum_le hG1.1
  obtain ⟨u3, u4⟩ := am_sum_le hG2.1
  have hAs : ∀ v ∈ (st.take b).reverse, am_okv v := fun v hv => hst v (List.mem_of_mem_take (List.mem_reverse.mp hv))
  have hrest : ∀ v ∈ st.drop b, am_okv v := fun v hv => hst v (List.mem_of_mem_drop hv)
  have hM := am_Met (d := d') (mc := am_ix M1.1.length - am_ix M.1.length) (ms := am_sum M1 - am_sum M) hc hAs hAc hG1 (by omega) (by omega)
  have hst0 : st.map (am_up ad) = (((st.take b).reverse).map (am_up ad)).reverse ++ (st.drop b).map (am_up ad) := by
    rw [← List.map_reverse, List.reverse_reverse, ← List.map_append, List.take_append_drop]
  have hlen : (((st.take b).reverse).map (am_up ad)).length = b := by simp; omega
  have hd4 := hc.2.2.2.1
  have hR : d' + 1 ≤ R.frames ∧ 8 + ((mt a).2.2.1 + 11) + 41 * d' ≤ R.locals := ⟨hfr, by have := hc.2.1; omega⟩
  have run : va_Run p l e R s m args below meth c0 H locs cells slots (am_ix M1.1.length - am_ix M.1.length) (am_sum M1 - am_sum M) (F0 m pc ls (st.map (am_up ad))) ((st.drop b).map (am_up ad)) (am_Qc base ad cA cl tg D r1 M1 (((st.take b).reverse).map (am_up ad)).toArray) (am_A base) := by
    rcases hw2 with hw2 | ⟨host, hw2⟩
    · exact va_runS ⟨hx, hb, hml, hown, hts⟩ hM ⟨callB_of b hts (am_goodIn hgood hc) rfl rfl rfl (hts _ hc.2.2.2.2.2.2) (hts _ hw2) ⟨hd4.1, hd4.2, hc.2.2.1⟩ hR, hts _ hw1⟩ ⟨am_Pc_blind, am_Pc_pre hK hWd hS⟩ rfl hlen hL.1 hst0 (lv_room (by rw [am_cats]; exact hcat)) hd ⟨by omega, by omega⟩
    · exact va_runSN ⟨hx, hb, hml, hown, hts⟩ hM ⟨va_cnB b hts (am_goodIn hgood hc) rfl rfl rfl (hK.2.2.2.2.1 _ hw2) (hts _ hc.2.2.2.2.2.2) ⟨hd4.1, hd4.2, hc.2.2.1⟩ hR, hts _ hw1, trivial⟩ ⟨am_Pc_blind, am_Pc_pre hK hWd hS⟩ rfl hlen hL.1 hst0 (lv_room (by rw [am_cats]; exact hcat)) hd ⟨by omega, by omega⟩
  refine am_after run hS (fun H1 locs1 hW1 hS1 hok => ?_)
  rw [am_toL]
  exact hG2.2 p e s m args below meth c0 H1 locs1 ls R _ _ k0 j0 mc ms hcx0 hL (am_oks hok hrest) hW1 hS1 hfr hlo (by omega) (by omega) hmc hms hRc hRs
theorem am_good_callI (hgood : ∀ w ∈ tb, goodWord w = true) {idx n : Nat} {d' : Nat} {x : Int} {rest : List am_V} (hd : decode (mt mi).2.1 pc = .ok (.invokespecial idx, 3)) (hc : am_okC tb mt a n c) (hnm : (mt a).1.name = "<init>") (hret : (mt a).2.2.2 = none) (hw1 : Cond.instanceMethod (mt a).1 ∈ tb) (hw2 : Cond.methodLink (mt mi).1.cls idx (mt a).1 ∈ tb) (hx0 : 0 < x) (hsd : st.drop n = .inr (.inr x) :: rest) (hcat : (rest.map am_cat).sum ≤ 8) (hAc : ((.inr (.inr x) :: (st.take n).reverse : List am_V).map am_cat).sum ≤ c.toNat)
    (hG1 : am_Good l base ad cA cl tg D kz zc zf stl strl tb mt (d', a, 0, am_entry (.inr (.inr x) :: (st.take n).reverse) c.toNat, [], M) r1 M1) (hG2 : am_Good l base ad cA cl tg D kz zc zf stl strl tb mt (d' + 1, mi, pc + 3, L, r1.toList ++ rest, M1) r M') : am_Good l base ad cA cl tg D kz zc zf stl strl tb mt (d' + 1, mi, pc, L, st, M) r M' := by
  refine ⟨hG1.1.trans hG2.1, ?_⟩
  intro p e s m args below meth c0 H locs ls R cells slots k0 j0 mc ms hcx hL hst hWd hS hfr hlo hk0 hj0 hmc hms hRc hRs
  have hcx0 := hcx
  obtain ⟨hx, hb, hml, hown, hts, hr, hlocks, hname, hK⟩ := hcx
  obtain ⟨u1, u2⟩ := am_sum_le hG1.1
  obtain ⟨u3, u4⟩ := am_sum_le hG2.1
  have hnl : n < st.length := by
    have : (st.drop n).length = rest.length + 1 := by rw [hsd]; rfl
    rw [List.length_drop] at this; omega
  have hAs : ∀ v ∈ (.inr (.inr x) :: (st.take n).reverse : List am_V), am_okv v := fun v hv => by
    rcases List.mem_cons.mp hv with rfl | hv
    · trivial
    · exact hst v (List.mem_of_mem_take (List.mem_reverse.mp hv))
  have hrest : ∀ v ∈ rest, am_okv v := fun v hv => hst v (List.mem_of_mem_drop (i := n) (by rw [hsd]; exact List.mem_cons_of_mem _ hv))
  have hM := am_Met (d := d') (mc := am_ix M1.1.length - am_ix M.1.length) (ms := am_sum M1 - am_sum M) hc hAs hAc hG1 (by omega) (by omega)
  rw [hret] at hM
  have hst0 : st.map (am_up ad) = (((st.take n).reverse).map (am_up ad)).reverse ++ .ref (ad x) :: rest.map (am_up ad) := by
    have : st = st.take n ++ st.drop n := (List.take_append_drop n st).symm
    rw [← List.map_reverse, List.reverse_reverse]
    conv => lhs; rw [this, hsd]
    rw [List.map_append, List.map_cons, am_up_ref (by omega)]
  have hlen : (((st.take n).reverse).map (am_up ad)).length = n := by simp; omega
  have hd4 := hc.2.2.2.1
  have hR : d' + 1 ≤ R.frames ∧ 8 + ((mt a).2.2.1 + 11) + 41 * d' ≤ R.locals := ⟨hfr, by have := hc.2.1; omega⟩
  have hGI := am_goodIn hgood hc
  rw [hret] at hGI
  have eA : ((.inr (.inr x) :: (st.take n).reverse : List am_V).map (am_up ad)) = .ref (ad x) :: ((st.take n).reverse).map (am_up ad) := by rw [List.map_cons, am_up_ref (by omega)]
  have hpre := am_Pc_pre (tg := tg) (As := (.inr (.inr x) :: (st.take n).reverse : List am_V)) hK hWd hS
  rw [eA] at hpre
  have run := va_runI (b := ad x) (As := ((st.take n).reverse).map (am_up ad)) (rest := rest.map (am_up ad)) (g := F0 m pc ls (st.map (am_up ad))) (locs := locs) (cells := cells) (slots := slots) (e := e) (below := below) (meth := meth) (R := R) (n := n) ⟨hx, hb, hml, hown, hts⟩ hM ⟨callB_of n hts hGI rfl rfl rfl (hts _ hc.2.2.2.2.2.2) (hts _ hw2) ⟨hd4.1, hd4.2, hc.2.2.1⟩ hR, hnm, hts _ hw1⟩ ⟨am_Pc_blind, hpre⟩ rfl hlen hL.1 hst0 (lv_room (by rw [am_cats]; exact hcat)) hd ⟨by omega, by omega⟩
  refine am_after run hS (fun H1 locs1 hW1 hS1 hok => ?_)
  rw [am_toL]
  exact hG2.2 p e s m args below meth c0 H1 locs1 ls R _ _ k0 j0 mc ms hcx0 hL (am_oks hok hrest) hW1 hS1 hfr hlo (by omega) (by omega) hmc hms hRc hRs
theorem am_good_callV (hgood : ∀ w ∈ tb, goodWord w = true) (hC : am_Cl cl tg tb) (had : am_Ad base ad) {idx n so : Nat} {d' : Nat} {x : Int} {rest : List am_V} (hd : decode (mt mi).2.1 pc = .ok (.invokevirtual idx, 3)) (hc : am_okC tb mt a n c) (hw1 : Cond.instanceMethod (mt a).1 ∈ tb) (hw3 : Cond.selects (mt a).1.cls (mt a).1 (mt a).1 ∈ tb) (hw2 : Cond.methodLink (mt mi).1.cls idx (mt a).1 ∈ tb)
    (hx0 : x ≠ 0 ∧ x ≠ -8) (hrc : (0 < x ∧ (∃ (T : u_T) (N n1 : Nat), cl[so]? = some ((mt a).1.cls, T, N) ∧ M.1[x.toNat]? = some (so, n1))) ∨ (∃ (z n1 : Nat) (f : Nat → Int), 0 < z ∧ x = -(z : Int) ∧ kz z = (so, n1, f) ∧ so < 100 ∧ so ≠ 77 ∧ zc so = (mt a).1.cls)) (hsd : st.drop n = .inr (.inr x) :: rest) (hcat : (rest.map am_cat).sum ≤ 8) (hAc : ((.inr (.inr x) :: (st.take n).reverse : List am_V).map am_cat).sum ≤ c.toNat)
    (hG1 : am_Good l base ad cA cl tg D kz zc zf stl strl tb mt (d', a, 0, am_entry (.inr (.inr x) :: (st.take n).reverse) c.toNat, [], M) r1 M1) (hG2 : am_Good l base ad cA cl tg D kz zc zf stl strl tb mt (d' + 1, mi, pc + 3, L, r1.toList ++ rest, M1) r M') : am_Good l base ad cA cl tg D kz zc zf stl strl tb mt (d' + 1, mi, pc, L, st, M) r M' := by
  refine ⟨hG1.1.trans hG2.1, ?_⟩
  intro p e s m args below meth c0 H locs ls R cells slots k0 j0 mc ms hcx hL hst hWd hS hfr hlo hk0 hj0 hmc hms hRc hRs
  have hcx0 := hcx
  obtain ⟨hx, hb, hml, hown, hts, hr, hlocks, hname, hK⟩ := hcx
  obtain ⟨u1, u2⟩ := am_sum_le hG1.1
  obtain ⟨u3, u4⟩ := am_sum_le hG2.1
  have hnl : n < st.length := by
    have : (st.drop n).length = rest.length + 1 := by rw [hsd]; rfl
    rw [List.length_drop] at this; omega
  have hAs : ∀ v ∈ (.inr (.inr x) :: (st.take n).reverse : List am_V), am_okv v := fun v hv => by
    rcases List.mem_cons.mp hv with rfl | hv
    · trivial
    · exact hst v (List.mem_of_mem_take (List.mem_reverse.mp hv))
  have hrest : ∀ v ∈ rest, am_okv v := fun v hv => hst v (List.mem_of_mem_drop (i := n) (by rw [hsd]; exact List.mem_cons_of_mem _ hv))
  have hM := am_Met (d := d') (mc := am_ix M1.1.length - am_ix M.1.length) (ms := am_sum M1 - am_sum M) hc hAs hAc hG1 (by omega) (by omega)
  have hst0 : st.map (am_up ad) = (((st.take n).reverse).map (am_up ad)).reverse ++ .ref (ad x) :: rest.map (am_up ad) := by
    have : st = st.take n ++ st.drop n := (List.take_append_drop n st).symm
    rw [← List.map_reverse, List.reverse_reverse]
    conv => lhs; rw [this, hsd]
    rw [List.map_append, List.map_cons, am_up_ref hx0]
  have hlen : (((st.take n).reverse).map (am_up ad)).length = n := by simp; omega
  have hd4 := hc.2.2.2.1
  have hR : d' + 1 ≤ R.frames ∧ 8 + ((mt a).2.2.1 + 11) + 41 * d' ≤ R.locals := ⟨hfr, by have := hc.2.1; omega⟩
  have eA : ((.inr (.inr x) :: (st.take n).reverse : List am_V).map (am_up ad)) = .ref (ad x) :: ((st.take n).reverse).map (am_up ad) := by rw [List.map_cons, am_up_ref hx0]
  have hpre := am_Pc_pre (tg := tg) (As := (.inr (.inr x) :: (st.take n).reverse : List am_V)) hK hWd hS
  rw [eA] at hpre
  have hrecv : ∃ cellB : Cell, H[ad x]? = some cellB ∧ cellB.vm.isStatics = false ∧ s.vm.findClass (mt a).1.cls = some cellB.cls := by
    rcases hrc with ⟨hp0, T, N, n1, hcl, hMx⟩ | ⟨z, n1, f, hz, rfl, hkz, hs1, hs2, hzc⟩
    · have hci := (hC so _ _ _ hcl).1
      have hg := am_ws_get (cA := cA) (tg := tg) had ((hWd.2.2.2 _ _ _ hMx (by omega)).2.2 (by omega)) hWd.2.1 hMx
      rw [show ((x.toNat : Nat) : Int) = x by omega] at hg
      unfold am_ent at hg
      rw [if_pos (show so < 100 by omega)] at hg
      exact va_recv hK.1 hWd.2.2.1 hcl hg
    · obtain ⟨cell, g1, g2, g3, g4⟩ := ((hK.2.1 z so n1 f hz hkz hs2).1 hs1).1.kept hS.2.1
      exact ⟨cell, g1, g2, by rw [← hzc]; exact g3⟩
  have run := va_runV (b := ad x) (C := (mt a).1.cls) (As := ((st.take n).reverse).map (am_up ad)) (rest := rest.map (am_up ad)) (g := F0 m pc ls (st.map (am_up ad))) (locs := locs) (cells := cells) (slots := slots) (e := e) (below := below) (meth := meth) (R := R) (n := n) ⟨hx, hb, hml, hown, hts⟩ hM ⟨callB_of n hts (am_goodIn hgood hc) rfl rfl rfl (hts _ hc.2.2.2.2.2.2) (hts _ hw2) ⟨hd4.1, hd4.2, hc.2.2.1⟩ hR, hts _ hw1, hts _ hw3⟩ ⟨am_Pc_blind, hrecv, hpre⟩ rfl hlen hL.1 hst0 (lv_room (by rw [am_cats]; exact hcat)) hd ⟨by omega, by omega⟩
  refine am_after run hS (fun H1 locs1 hW1 hS1 hok => ?_)
  rw [am_toL]
  exact hG2.2 p e s m args below meth c0 H1 locs1 ls R _ _ k0 j0 mc ms hcx0 hL (am_oks hok hrest) hW1 hS1 hfr hlo (by omega) (by omega) hmc hms hRc hRs
theorem am_good_ret {ins : Instr} (hd : decode (mt mi).2.1 pc = .ok (ins, 1)) (hrk : am_okRk (rk mi) (mt mi).2.2.2) (h : am_ret (rk mi) ins st M = some (r, M')) : am_Good l base ad cA cl tg D kz zc zf stl strl tb mt (d, mi, pc, L, st, M) r M' := by
  have key : M' = M ∧ ((ins = .return_ ∧ rk mi = 0 ∧ st = [] ∧ r = none) ∨ (∃ x, ins = .ireturn ∧ st = [.inl x] ∧ r = some (.inl x) ∧ (rk mi = 1 ∨ (rk mi = 2 ∧ (x = 0 ∨ x = 1)) ∨ (rk mi = 4 ∧ 0 ≤ x ∧ x < 65536) ∨ (rk mi = 5 ∧ -128 ≤ x ∧ x < 128))) ∨ (∃ x, ins = .lreturn ∧ rk mi = 3 ∧ st = [.inr (.inl x)] ∧ r = some (.inr (.inl x)))) := by
    unfold am_ret at h
    split at h
    · cases h; exact ⟨rfl, Or.inl ⟨rfl, by assumption, rfl, rfl⟩⟩
    · cases h; exact ⟨rfl, Or.inr (Or.inl ⟨_, rfl, rfl, rfl, Or.inl (by assumption)⟩)⟩
    · split at h
      · rename_i q; cases h; exact ⟨rfl, Or.inr (Or.inl ⟨_, rfl, rfl, rfl, Or.inr (Or.inl ⟨by assumption, q⟩)⟩)⟩
      · cases h
    · split at h
      · rename_i q; cases h; exact ⟨rfl, Or.inr (Or.inl ⟨_, rfl, rfl, rfl, Or.inr (Or.inr (Or.inl ⟨by assumption, q⟩))⟩)⟩
      · cases h
    · split at h
      · rename_i q; cases h; exact ⟨rfl, Or.inr (Or.inl ⟨_, rfl, rfl, rfl, Or.inr (Or.inr (Or.inr ⟨by assumption, q⟩))⟩)⟩
      · cases h
    · cases h; exact ⟨rfl, Or.inr (Or.inr ⟨_, rfl, by assumption, rfl, rfl⟩)⟩
    · cases h
  obtain ⟨rfl, key⟩ := key
  refine ⟨List.prefix_refl _, ?_⟩
  intro p e s m args below meth c0 H locs ls R cells slots k0 j0 mc ms hcx hL hst hWd hS hfr hlo hk0 hj0 hmc hms hRc hRs
  obtain ⟨hx, hb, hml, hown, hts, hr, hlocks, hname, hK⟩ := hcx
  obtain rfl : mc = cells := by omega
  obtain rfl : ms = slots := by omega
  rcases key with ⟨rfl, h0, rfl, rfl⟩ | ⟨x, rfl, rfl, rfl, hrr⟩ | ⟨x, rfl, h3, rfl, rfl⟩
  · rw [h0] at hrk
    have hrk : (mt mi).2.2.2 = none := hrk
    rw [hrk] at hr
    exact W.vret hx hb hr (fun t ht hW => ⟨rfl, by rw [ht]; exact hWd, hS.F ht, fun _ h => by cases h⟩) hS.2.2 hd hlocks
  · have hox : in32 x := hst _ List.mem_cons_self
    have fin : ∀ t : State, t.heap = H → s.WarmedH t.vm → am_Qc base ad cA cl tg D (some (.inl x)) M' args s (.returned (some (.int (Int32.ofInt x)))) t := fun t ht hW => ⟨rfl, by rw [ht]; exact hWd, hS.F ht, fun _ h => by cases h; exact hox⟩
    rcases hrr with h1 | ⟨h2, hq⟩ | ⟨h4, hq⟩ | ⟨h5, hq⟩
    · rw [h1] at hrk
      have hrk : (mt mi).2.2.2 = some .int := hrk
      rw [hrk] at hr
      exact W.iret hx hb hr fin hS.2.2 hd hlocks
    · rw [h2] at hrk
      have hrk : (mt mi).2.2.2 = some .boolean := hrk
      rw [hrk] at hr
      refine W.zret hx hb hr ?_ fin hS.2.2 hd hlocks
      rcases hq with rfl | rfl
      · rfl
      · rfl
    · rw [h4] at hrk
      have hrk : (mt mi).2.2.2 = some .char := hrk
      rw [hrk] at hr
      refine W.zret hx hb hr ?_ fin hS.2.2 hd hlocks
      have e9 : Int32.ofInt x = nI x.toNat := by
        show Int32.ofInt x = Int32.ofInt ((x.toNat : Nat) : Int)
        rw [show ((x.toNat : Nat) : Int) = x by omega]
      rw [e9]
      exact (pk_charN (by omega)).1
    · rw [h5] at hrk
      have hrk : (mt mi).2.2.2 = some .byte := hrk
      rw [hrk] at hr
      refine W.zret hx hb hr ?_ fin hS.2.2 hd hlocks
      rw [narrow_byte]
      congr 1
      apply Int32.toInt_inj.mp
      rw [Int8.toInt_toInt32, Int32.toInt_toInt8, i32_to hox, Int.bmod_def]
      omega
  · have hox : in64 x := hst _ List.mem_cons_self
    rw [h3] at hrk
    have hrk : (mt mi).2.2.2 = some .long := hrk
    rw [hrk] at hr
    exact W.lret hx hb hr (fun t ht hW => ⟨rfl, by rw [ht]; exact hWd, hS.F ht, fun _ h => by cases h; exact hox⟩) hS.2.2 hd hlocks
end AMT
section AMU
variable {l : Launch} {base : Nat} {ad : Int → Nat} {cA : Nat → ClassId} {cl : List vw_C} {tg : Nat → Nat → Nat} {D : va_G} {kz : am_Z} {zc : Nat → String} {zf : Nat → Nat → String × String × String × Nat} {zn : Nat → Nat} {stl : List (String × String × String × am_V)} {strl : List (String × Nat × String × Int)} {tb : List Cond} {mt : Nat → MethodName × ByteArray × Nat × Option FieldType} {cd : Nat → Nat → Option am_I} {rk : Nat → Nat}
/-- what a program's tables owe -/
def am_Prog (cl : List vw_C) (tg : Nat → Nat → Nat) (kz : am_Z) (zc : Nat → String) (zf : Nat → Nat → String × String × String × Nat) (zn : Nat → Nat) (stl : List (String × String × String × am_V)) (strl : List (String × Nat × String × Int)) (tb : List Cond) (mt : Nat → MethodName × ByteArray × Nat × Option FieldType) (cd : Nat → Nat → Option am_I) (rk : Nat → Nat) : Prop :=
  am_Cl cl tg tb ∧ (∀ w ∈ tb, goodWord w = true) ∧ (∀ mi pc ai, cd mi pc = some ai → am_okI cl tg zc zf zn stl strl tb mt mi pc ai ∧ am_okRk (rk mi) (mt mi).2.2.2) ∧ (∀ z so n f, kz z = (so, n, f) → so < 100 → so ≠ 77 → cl[so]? = none ∧ n = zn so) ∧ cl.length ≤ 77 ∧ (kz 8).1 = 77
theorem am_okI_pure {mi pc len a b : Nat} {c : Int} {ins : Instr} {L L' : am_L} {st st' : List am_V} (ho : am_okI cl tg zc zf zn stl strl tb mt mi pc (len, ins, a, b, c)) (h : am_pure ins a c L st = some (L', st')) (hs : ¬ (∃ i, ins = .ldc i ∧ a ≠ 0)) : decode (mt mi).2.1 pc = .ok (ins, len) ∧ am_okP tb (mt mi).1.cls len ins a c := by
  refine ⟨ho.1, ?_⟩
  unfold am_pure at h
  split at h
  case h_4 =>
    have h2 := ho.2
    simp only at h2
    split at h2
    · exact h2
    · rename_i q; exact absurd ⟨_, rfl, q⟩ hs
  case h_51 => cases h
  all_goals exact ho.2
end AMU
