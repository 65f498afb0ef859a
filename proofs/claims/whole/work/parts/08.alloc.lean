/-! making cells, and copying rows: sound -/
section AMN
variable {base : Nat} {ad : Int → Nat} {cA : Nat → ClassId} {cl : List vw_C} {tg : Nat → Nat → Nat} {D : va_G} {M : am_M} {tb : List Cond} {H : Heap}
theorem am_gap_len (n : Nat) : (am_gap n).length = if n = 28 then 2 else 0 := by
  unfold am_gap
  split <;> rfl
theorem am_gap_get {n i : Nat} {q : Nat × Nat} (h : (am_gap n)[i]? = some q) : n = 28 ∧ i < 2 ∧ q = (77, 0) := by
  unfold am_gap at h
  split at h
  · rename_i e
    match i, h with
    | 0, h => exact ⟨e, by omega, by simpa using h.symm⟩
    | 1, h => exact ⟨e, by omega, by simpa using h.symm⟩
    | i + 2, h => simp at h
  · simp at h
/-- one more: the place of the number, the number behind -/
theorem am_new_ix {so n : Nat} {f : Nat → Int} (h1 : am_rl M.1.length) : am_ix (am_new M so n f).1.length = am_ix M.1.length + 1 ∧ am_rl (am_new M so n f).1.length ∧ M.1.length < (am_new M so n f).1.length := by
  have e : (am_new M so n f).1.length = M.1.length + 1 + (if M.1.length = 28 then 2 else 0) := by
    unfold am_new
    simp only [List.length_append, List.length_cons, am_gap_len]
    omega
  rw [e]
  unfold am_rl at h1 ⊢
  unfold am_ix
  split <;> omega
theorem am_new_old {so n r : Nat} {f : Nat → Int} (h : r < M.1.length) : (am_new M so n f).1[r]? = M.1[r]? := by
  unfold am_new
  exact List.getElem?_append_left h
theorem am_new_top {so n : Nat} {f : Nat → Int} : (am_new M so n f).1[M.1.length]? = some (so, n) := by
  unfold am_new
  rw [List.getElem?_append_right (Nat.le_refl _), Nat.sub_self]
  rfl
theorem am_new_hi {so n r : Nat} {f : Nat → Int} {q : Nat × Nat} (h : M.1.length < r) (hq : (am_new M so n f).1[r]? = some q) : M.1.length = 28 ∧ q = (77, 0) := by
  unfold am_new at hq
  have hq : (M.1 ++ ((so, n) :: am_gap M.1.length))[r]? = some q := hq
  rw [List.getElem?_append_right (by omega), show r - M.1.length = (r - M.1.length - 1) + 1 by omega, List.getElem?_cons_succ] at hq
  obtain ⟨a, -, b⟩ := am_gap_get hq
  exact ⟨a, b⟩
theorem am_ws_new {so n : Nat} {f : Nat → Int} (h1 : am_rl M.1.length) : am_ws base ad cA tg (am_new M so n f) = am_ws base ad cA tg M ++ [(base + am_ix M.1.length, am_ent ad cA tg (so, n) f)] := by
  unfold am_ws
  rw [(am_new_ix h1).1]
  rw [List.range_succ, List.map_append]
  congr 1
  · apply List.map_congr_left
    intro i hi
    have hi := List.mem_range.mp hi
    have hy : am_iy i < M.1.length := by
      unfold am_rl at h1
      unfold am_ix at hi
      unfold am_iy
      omega
    have e1 : (am_new M so n f).1.getD (am_iy i) (0, 0) = M.1.getD (am_iy i) (0, 0) := by
      rw [List.getD_eq_getElem?_getD, List.getD_eq_getElem?_getD, am_new_old hy]
    have e2 : (am_new M so n f).2 (am_iy i) = M.2 (am_iy i) := by
      unfold am_new
      funext j
      show (if am_iy i = M.1.length then f j else M.2 (am_iy i) j) = _
      rw [if_neg (by omega)]
    rw [e1, e2]
  · simp only [List.map_cons, List.map_nil, am_iy_ix h1]
    have e2 : (am_new M so n f).1.getD M.1.length (0, 0) = (so, n) := by
      rw [List.getD_eq_getElem?_getD, am_new_top]; rfl
    have e3 : (am_new M so n f).2 M.1.length = f := by
      unfold am_new
      funext j
      show (if M.1.length = M.1.length then f j else M.2 M.1.length j) = _
      rw [if_pos rfl]
    rw [e2, e3]
theorem am_okM_new {so n : Nat} {f : Nat → Int} (h1 : am_rl M.1.length) (h : am_okM cl tg M) (hn : (so < 100 → (∃ (C : String) (T : u_T), cl[so]? = some (C, T, n)) ∧ ∀ j, j < n → am_okt (tg so j) (f j)) ∧ (100 ≤ so → so < 105 ∧ n < 2147483648 ∧ ∀ j, j < n → am_oka so (f j))) : am_okM cl tg (am_new M so n f) := by
  intro r so' n' hM hr
  have e2 : (am_new M so n f).2 r = if r = M.1.length then f else M.2 r := by
    unfold am_new
    funext j
    show (if r = M.1.length then f j else M.2 r j) = _
    split <;> rfl
  rw [e2]
  by_cases e : r = M.1.length
  · subst e
    rw [am_new_top] at hM
    cases hM
    rw [if_pos rfl]
    exact ⟨fun q _ => hn.1 q, hn.2, fun _ => h1⟩
  · rw [if_neg e]
    rcases Nat.lt_or_ge r M.1.length with hlt | hge
    · rw [am_new_old hlt] at hM
      exact h r so' n' hM hr
    · obtain ⟨-, q⟩ := am_new_hi (show M.1.length < r by omega) hM
      cases q
      exact ⟨fun _ q => absurd rfl q, fun q => absurd q (by decide), fun q => absurd rfl q⟩
theorem am_Wd_new {so n : Nat} {f : Nat → Int} (hW : am_Wd base ad cA cl tg D M H) {H1 : Heap} (z : H1.size = H.size + 1) (o : ∀ q : Nat, q < H.size → H1[q]? = H[q]?) (he : va_at D cl (H.size, am_ent ad cA tg (so, n) f) H1)
    (hn : (so < 100 → (∃ (C : String) (T : u_T), cl[so]? = some (C, T, n)) ∧ ∀ j, j < n → am_okt (tg so j) (f j)) ∧ (100 ≤ so → so < 105 ∧ n < 2147483648 ∧ ∀ j, j < n → am_oka so (f j))) : am_Wd base ad cA cl tg D (am_new M so n f) H1 := by
  obtain ⟨hz, hone, hP, hO⟩ := hW
  obtain ⟨g1, g2, -⟩ := am_new_ix (so := so) (n := n) (f := f) hone
  refine ⟨?_, g2, ?_, am_okM_new hone hO hn⟩
  · rw [g1, z, hz]; omega
  · rw [am_ws_new hone]
    refine (hP.kept (fun k x hx => o x.1 ((hP k x hx).lt))).app (fun k x hx => ?_)
    have h0 : k < 1 := (List.getElem?_eq_some_iff.mp hx).1
    rw [show k = 0 by omega] at hx
    cases hx
    rw [← hz]
    exact he
theorem am_Ad.top (had : am_Ad base ad) (hW : am_Wd base ad cA cl tg D M H) : ad (M.1.length : Int) = H.size := by
  rw [had.at hW.2.1.1]
  exact hW.1.symm
end AMN
section AMO
variable {p : Program} {l : Launch} {e : Env} {R : Room} {s : State} {m : MethodId} {args : Array Value} {below : List Frame} {meth : Method} {c0 : Code} {H : Heap} {locs : List Loc} {cells slots : Nat} {Q : State → Prop}
variable {cc : ByteArray} {pc : Nat} {ls : Array Slot} {base : Nat} {ad : Int → Nat} {cA : Nat → ClassId} {cl : List vw_C} {tg : Nat → Nat → Nat} {D : va_G} {M : am_M} {tb : List Cond}
theorem am_okt_0 (t : Nat) : am_okt t 0 := by
  unfold am_okt
  split
  · unfold in64; omega
  · trivial
  · exact Or.inl rfl
  · unfold in32; omega
theorem am_dflt {ty : FieldType} {t : Nat} (h : am_tag ty = some t) : defaultValue ty = am_up ad (am_tv t 0) := by
  cases ty <;> cases h <;> rfl
theorem am_new_ok (hx : p.tables.exec = Jvm.exec) (hb : c0.code = cc) (hts : ∀ w ∈ tb, w.before args s = true) (hC : am_Cl cl tg tb) (had : am_Ad base ad) {own : String} (hown : s.vm.findClass own = some m.cls) (hK : va_K D cl (am_tys cA) s) (hW : am_Wd base ad cA cl tg D M H) (hS : va_S (am_A base) s.heap H locs)
    {idx a N : Nat} {C : String} {T : u_T} (hc : cl[a]? = some (C, T, N)) (h1 : Cond.classLink own idx C ∈ tb) (h2 : Cond.instantiable C N ∈ tb) (h3 : Cond.initialized C ∈ tb) (hcells : cells + 1 ≤ R.cells) (hslots : slots + N ≤ R.slots) (hd : decode cc pc = .ok (.new idx, 3)) {st : List am_V}
    (kk : ∀ H1 : Heap, am_Wd base ad cA cl tg D (am_new M a N (fun _ => 0)) H1 → va_S (am_A base) s.heap H1 locs → W p l e R s m args below meth c0 H1 locs (cells + 1) (slots + N) Q (F0 m (pc + 3) ls (am_up ad (.inr (.inr (M.1.length : Int))) :: st.map (am_up ad)))) : W p l e R s m args below meth c0 H locs cells slots Q (F0 m pc ls (st.map (am_up ad))) := by
  obtain ⟨hci, hin, ⟨ty, hty⟩, hnm⟩ := hC a C T N hc
  have hKn := hK.1 a _ hc
  have hone := hW.2.1.1
  refine W.newcK hx hb hown (hts _ h1) (hts _ h2) (hts _ h3) rfl hd hcells hslots hKn.2.1 rfl fun H1 kC hkC e1 z1 o1 => ?_
  have et : am_up ad (.inr (.inr (M.1.length : Int))) = .ref H.size := by rw [am_up_ref (by omega), had.top hW]
  rw [et] at kk
  refine kk H1 (am_Wd_new hW z1 o1 ?_ ⟨fun _ => ⟨⟨C, T, hc⟩, fun j _ => am_okt_0 _⟩, fun q => absurd q (by omega)⟩) ⟨Nat.le_trans hS.1 (by omega), fun x h1 h2 => (o1 x (Nat.lt_of_lt_of_le h1 hS.1)).trans (hS.2.1 x h1 h2), hS.2.2⟩
  unfold am_ent
  rw [if_pos (show a < 100 by omega)]
  refine ⟨_, hc, (u_born ty hts hin hKn hkC e1 (fun k hk => (hty k hk).1)).to (fun k hk => ?_)⟩
  show defaultValue (ty k) = vp_V _ k
  have hk : k < N := hk
  unfold vp_V
  rw [List.getD_eq_getElem?_getD, List.getElem?_map, List.getElem?_range hk, am_dflt (ad := ad) (hty k hk).2]
  rfl
theorem am_oka_0 {so : Nat} (h : so ≠ 104) : am_oka so 0 := by
  unfold am_oka
  split
  · unfold in64; omega
  · omega
  · exact Or.inl rfl
  · exact absurd rfl h
  · unfold in32; omega
set_option maxHeartbeats 1000000 in
theorem am_newa_ok (hx : p.tables.exec = Jvm.exec) (hb : c0.code = cc) (hts : ∀ w ∈ tb, w.before args s = true) (had : am_Ad base ad) (hK : va_K D cl (am_tys cA) s) (hW : am_Wd base ad cA cl tg D M H) (hS : va_S (am_A base) s.heap H locs) {atype : ArrayType} {so : Nat} (hso : (atype = .int ∧ so = 100) ∨ (atype = .long ∧ so = 101) ∨ (atype = .byte ∧ so = 102) ∨ (atype = .boolean ∧ so = 103)) (h1 : Cond.arrayClass (newarray.typeOf atype) ∈ tb) {n : Int} (h0 : 0 ≤ n) (hn : n ≤ 1000000) (hcells : cells + 1 ≤ R.cells) (hslots : slots + n.toNat ≤ R.slots) (hd : decode cc pc = .ok (.newarray atype, 2)) {st : List am_V}
    (kk : ∀ H1 : Heap, am_Wd base ad cA cl tg D (am_new M so n.toNat (fun _ => 0)) H1 → va_S (am_A base) s.heap H1 locs → W p l e R s m args below meth c0 H1 locs (cells + 1) (slots + n.toNat) Q (F0 m (pc + 2) ls (am_up ad (.inr (.inr (M.1.length : Int))) :: st.map (am_up ad)))) : W p l e R s m args below meth c0 H locs cells slots Q (F0 m pc ls (.int (Int32.ofInt n) :: st.map (am_up ad))) := by
  have hi : in32 n := by unfold in32; omega
  have z0 : in32 0 := by unfold in32; omega
  have hone := hW.2.1.1
  have et : am_up ad (.inr (.inr (M.1.length : Int))) = .ref H.size := by rw [am_up_ref (by omega), had.top hW]
  rw [et] at kk
  have hbt : n.toNat * componentBytes (newarray.typeOf atype) ≤ 536870912 := by
    have : componentBytes (newarray.typeOf atype) ≤ 8 := by cases atype <;> decide
    have h2 : n.toNat * componentBytes (newarray.typeOf atype) ≤ 1000000 * 8 := Nat.mul_le_mul (by omega) this
    omega
  refine va_newaK hx hb (hts _ h1) rfl hd rfl (fun q => by have := (i32_lt hi z0).mp q; omega) (i32_clamp hi) hbt hcells hslots rfl fun H1 cB e1 z1 o1 hAr hNm => ?_
  have hcA : cB = cA so := by
    rcases hso with ⟨rfl, rfl⟩ | ⟨rfl, rfl⟩ | ⟨rfl, rfl⟩ | ⟨rfl, rfl⟩
    · exact Option.some.inj (hNm.symm.trans (hK.2 0 (cA 100, .int) rfl).2)
    · exact Option.some.inj (hNm.symm.trans (hK.2 1 (cA 101, .long) rfl).2)
    · exact Option.some.inj (hNm.symm.trans (hK.2 2 (cA 102, .byte) rfl).2)
    · exact Option.some.inj (hNm.symm.trans (hK.2 3 (cA 103, .boolean) rfl).2)
  subst hcA
  have h100 : 100 ≤ so ∧ so < 104 := by omega
  refine kk H1 (am_Wd_new hW z1 o1 ?_ ⟨fun q => absurd q (by omega), fun _ => ⟨by omega, by omega, fun j _ => am_oka_0 (by omega)⟩⟩) ⟨Nat.le_trans hS.1 (by omega), fun x h1 h2 => (o1 x (Nat.lt_of_lt_of_le h1 hS.1)).trans (hS.2.1 x h1 h2), hS.2.2⟩
  unfold am_ent
  rw [if_neg (by show ¬ so < 100; omega)]
  show H1[H.size]? = some (vp_cell (cA so) (n.toNat, am_arr ad so (fun _ => 0)))
  rw [e1]
  rcases hso with ⟨rfl, rfl⟩ | ⟨rfl, rfl⟩ | ⟨rfl, rfl⟩ | ⟨rfl, rfl⟩ <;> rfl
theorem am_copy_ok (hx : p.tables.exec = Jvm.exec) (hb : c0.code = cc) (hts : ∀ w ∈ tb, w.before args s = true) (had : am_Ad base ad) {own : String} (hown : s.vm.findClass own = some m.cls) (hml : c0.maxLocals = ls.size) (hK : va_K D cl (am_tys cA) s) (hW : am_Wd base ad cA cl tg D M H) (hS : va_S (am_A base) s.heap H locs)
    {idx : Nat} (hw1 : Cond.methodLink own idx arraycopyName ∈ tb) (hw2 : Cond.native arraycopyName ∈ tb) (hw3 : Cond.static arraycopyName ∈ tb) (hw4 : Cond.initialized "java/lang/System" ∈ tb) {n dp sp r d : Int} {n0 n1 : Nat} (hr : 0 < r) (hd0 : 0 < d) (hne : r ≠ d) (hM0 : M.1[r.toNat]? = some (100, n0)) (hM1 : M.1[d.toNat]? = some (100, n1)) (h1 : 0 ≤ sp) (h2 : 0 ≤ dp) (h3 : 0 ≤ n) (h4 : sp + n ≤ n0) (h5 : dp + n ≤ n1) {st : List am_V}
    (hframes : 1 ≤ R.frames) (hlocals : (st.map am_cat).sum + (nativeFrameWords "java/lang/System" "arraycopy" 5 + 11) ≤ R.locals) (hd : decode cc pc = .ok (.invokestatic idx, 3))
    (kk : ∀ (H1 : Heap) (locs1 : List Loc), am_Wd base ad cA cl tg D (M.1, fun r' j => if r' = d.toNat ∧ dp ≤ (j : Int) ∧ (j : Int) < dp + n then M.2 r.toNat ((j : Int) - dp + sp).toNat else M.2 r' j) H1 → va_S (am_A base) s.heap H1 locs1 → W p l e R s m args below meth c0 H1 locs1 cells slots Q (F0 m (pc + 3) ls (st.map (am_up ad)))) : W p l e R s m args below meth c0 H locs cells slots Q (F0 m pc ls (.int (Int32.ofInt n) :: .int (Int32.ofInt dp) :: .ref (ad d) :: .int (Int32.ofInt sp) :: .ref (ad r) :: st.map (am_up ad))) := by
  obtain ⟨hz, hone, hP, hO⟩ := hW
  have hg0 := am_ws_arr (cA := cA) (tg := tg) had hone hO hr (Nat.le_refl 100) hM0
  have hg1 := am_ws_arr (cA := cA) (tg := tg) had hone hO hd0 (Nat.le_refl 100) hM1
  obtain ⟨-, hn0, hk0⟩ := (hO _ _ _ hM0 (by omega)).2.1 (Nat.le_refl 100)
  obtain ⟨-, hn1, hk1⟩ := (hO _ _ _ hM1 (by omega)).2.1 (Nat.le_refl 100)
  have isp : in32 sp := by unfold in32; omega
  have idp : in32 dp := by unfold in32; omega
  have inn : in32 n := by unfold in32; omega
  have z0 : in32 0 := by unfold in32; omega
  have nneg : ∀ z : Int, in32 z → 0 ≤ z → ¬ Int32.ofInt z < 0 := fun z i q w => by have := (i32_lt i z0).mp w; omega
  have hc0 : H[ad r]? = some (vp_cell (cA 100) (n0, .inl (fun j => Int32.ofInt (M.2 r.toNat j)))) := hP _ _ hg0
  have hc1 : H[ad d]? = some (vp_cell (cA 100) (n1, .inl (fun j => Int32.ofInt (M.2 d.toNat j)))) := hP _ _ hg1
  intro T hT X
  obtain ⟨-, k0, hkk0, cm0, hkc0⟩ := (hK.2 0 (cA 100, .int) rfl).1 n0 (fun j => .int (Int32.ofInt (M.2 r.toNat j)))
  obtain ⟨-, k1, hkk1, cm1, hkc1⟩ := (hK.2 0 (cA 100, .int) rfl).1 n1 (fun j => .int (Int32.ofInt (M.2 d.toNat j)))
  obtain ⟨vm', X', step⟩ := X.arraycopy hx hown (hts _ hw1) (hts _ hw2) (hts _ hw3) (hts _ hw4) (src := ad r) (dst := ad d) (cs := vp_cell (cA 100) (n0, .inl (fun j => Int32.ofInt (M.2 r.toNat j)))) (cd := vp_cell (cA 100) (n1, .inl (fun j => Int32.ofInt (M.2 d.toNat j)))) (srcPos := Int32.ofInt sp) (destPos := Int32.ofInt dp) (n := Int32.ofInt n) (by rw [hT]; exact hc0) (by rw [hT]; exact hc1)
    (fun _ h => by cases h) (fun _ h => by cases h) (fun h => by cases h) (fun h => by cases h) hkk0 hkk1 hkc0 hkc1 (show (refKind .int != refKind .int || !refKind .int && FieldType.int != FieldType.int) = false by decide) (nneg _ isp h1) (nneg _ idp h2) (nneg _ inn h3)
    (by rw [i32_to isp, i32_to inn]; show ¬ _ > ((arrV (cA 100) n0 (fun j => .int (Int32.ofInt (M.2 r.toNat j)))).slots.size : Int); rw [arrV_size]; omega)
    (by rw [i32_to idp, i32_to inn]; show ¬ _ > ((arrV (cA 100) n1 (fun j => .int (Int32.ofInt (M.2 d.toNat j)))).slots.size : Int); rw [arrV_size]; omega)
    (fun vm₁ _ i hi => by
      rw [i32_clamp inn] at hi
      have e2 : (vp_cell (cA 100) (n0, .inl (fun j => Int32.ofInt (M.2 r.toNat j)))).slots.getD ((Int32.ofInt sp).toNatClampNeg + i) .null = .int (Int32.ofInt (M.2 r.toNat (sp.toNat + i))) := by
        show (arrV (cA 100) n0 (fun j => .int (Int32.ofInt (M.2 r.toNat j)))).slots.getD _ _ = _
        rw [i32_clamp isp, Array.getD_eq_getD_getElem?, arrV_read _ _ (show sp.toNat + i < n0 by omega)]
        rfl
      refine ⟨?_, ?_⟩
      · rw [e2]
        rfl
      · rw [e2]
        exact trivial)
    (g := F0 m pc ls (.int (Int32.ofInt n) :: .int (Int32.ofInt dp) :: .ref (ad d) :: .int (Int32.ofInt sp) :: .ref (ad r) :: st.map (am_up ad))) rfl (by rw [hml]) (rest := st.map (am_up ad)) rfl (by rw [hb]; exact hd) hframes (by
      have ec : ((st.map (am_up ad)).map fun v => v.category) = st.map am_cat := by
        rw [List.map_map]; apply List.map_congr_left; intro v _; exact am_up_cat ad v
      show 2 * 0 + ((st.map (am_up ad)).map fun v => v.category).sum + _ ≤ _; rw [ec]; omega)
  have e1 : copied (vp_cell (cA 100) (n0, .inl (fun j => Int32.ofInt (M.2 r.toNat j)))) (vp_cell (cA 100) (n1, .inl (fun j => Int32.ofInt (M.2 d.toNat j)))) (Int32.ofInt sp) (Int32.ofInt dp) (Int32.ofInt n) = vp_cell (cA 100) (n1, .inl (va_cpy (fun j => Int32.ofInt (M.2 r.toNat j)) (fun j => Int32.ofInt (M.2 d.toNat j)) sp.toNat dp.toNat n.toNat)) := by
    have := va_copied (fun z => .int z) (cA 100) (cA 100) (n0 := n0) (n1 := n1) (sp := sp.toNat) (dp := dp.toNat) (n := n.toNat) (fun j => Int32.ofInt (M.2 r.toNat j)) (fun j => Int32.ofInt (M.2 d.toNat j)) (by omega)
    unfold copied
    rw [i32_clamp isp, i32_clamp idp, i32_clamp inn]
    exact this
  rw [e1] at X' step
  have hl : ad d < H.size := (Array.getElem?_eq_some_iff.mp hc1).1
  generalize hV : (fun (r' j : Nat) => if r' = d.toNat ∧ dp ≤ (j : Int) ∧ (j : Int) < dp + n then M.2 r.toNat ((j : Int) - dp + sp).toNat else M.2 r' j) = V at kk
  have hVn : ∀ r', r' ≠ d.toNat → V r' = M.2 r' := fun r' h => by
    rw [← hV]; funext j; simp only []; rw [if_neg (fun q => h q.1)]
  have hVd : va_cpy (fun j => Int32.ofInt (M.2 r.toNat j)) (fun j => Int32.ofInt (M.2 d.toNat j)) sp.toNat dp.toNat n.toNat = fun j => Int32.ofInt (V d.toNat j) := by
    funext j
    rw [← hV]
    unfold va_cpy
    by_cases hj : dp.toNat ≤ j ∧ j < dp.toNat + n.toNat
    · rw [if_pos hj]
      simp only []
      rw [if_pos ⟨trivial, by omega, by omega⟩]
      rw [show ((j : Int) - dp + sp).toNat = sp.toNat + (j - dp.toNat) by omega]
    · rw [if_neg hj]
      simp only []
      rw [if_neg (by omega)]
  rw [hVd] at X' step
  have hu := am_ws_set (cA := cA) (tg := tg) had ((hO _ _ _ hM1 (by omega)).2.2 (by decide)) hone hM1 hVn
  rw [show ((d.toNat : Nat) : Int) = d by omega] at hu
  unfold am_ent at hu
  rw [if_neg (show ¬ (100 : Nat) < 100 by decide)] at hu
  have hheap : ((T.setVm vm').setCell (ad d) (vp_cell (cA 100) (n1, .inl (fun j => Int32.ofInt (V d.toNat j))))).heap = H.setIfInBounds (ad d) (vp_cell (cA 100) (n1, .inl (fun j => Int32.ofInt (V d.toNat j)))) := by rw [← hT]; rfl
  have oq : ∀ q : Nat, q ≠ ad d → (H.setIfInBounds (ad d) (vp_cell (cA 100) (n1, .inl (fun j => Int32.ofInt (V d.toNat j)))))[q]? = H[q]? := fun q hq => by simp [Array.getElem?_setIfInBounds, Ne.symm hq]
  have hAd : am_A base (ad d) := by show base ≤ ad d; rw [had.at' hd0]; omega
  have hokV : am_okM cl tg (M.1, V) := by
    intro r' so' n' hM' hr'
    have h0 := hO r' so' n' hM' hr'
    by_cases er : r' = d.toNat
    · subst er
      cases hM1.symm.trans hM'
      refine ⟨fun q => absurd q (by decide), fun q => ⟨(h0.2.1 q).1, (h0.2.1 q).2.1, fun j hj => ?_⟩, h0.2.2⟩
      show am_oka 100 (V d.toNat j)
      rw [← hV]
      simp only []
      split
      · rename_i hq
        exact hk0 _ (by omega)
      · exact hk1 j hj
    · refine ⟨fun q q7 => ⟨(h0.1 q q7).1, fun j hj => ?_⟩, fun q => ⟨(h0.2.1 q).1, (h0.2.1 q).2.1, fun j hj => ?_⟩, h0.2.2⟩
      · show am_okt _ (V r' j)
        rw [hVn r' er]; exact (h0.1 q q7).2 j hj
      · show am_oka _ (V r' j)
        rw [hVn r' er]; exact (h0.2.1 q).2.2 j hj
  obtain ⟨t, a1, b1⟩ := kk _ _ ⟨by rw [← hz]; simp, hone, by
      rw [hu]
      exact hP.set (A := am_A base) am_ws_D hg1 (show (H.setIfInBounds (ad d) _)[ad d]? = some _ by simp [Array.getElem?_setIfInBounds, hl]; rfl) oq, hokV⟩ ⟨by simp; exact hS.1, fun q g1 g2 => by
      rw [oq q (fun e => g2 (by rw [e]; exact hAd))]
      exact hS.2.1 q g1 g2, fun q hq => by
      rcases List.mem_append.mp hq with h | h
      · exact hS.2.2 q h
      · obtain ⟨z, -, hz⟩ := List.mem_map.mp h
        rw [← hz]
        exact hAd⟩ _ hheap X'
  exact ⟨t, step t a1, b1⟩
end AMO
