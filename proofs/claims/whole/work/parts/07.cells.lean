/-! reading and writing cells: sound -/
theorem am_upd_ne {V : Nat → Nat → Int} {r j : Nat} {x : Int} : ∀ r', r' ≠ r → am_upd V r j x r' = V r' := by
  intro r' h
  funext j'
  unfold am_upd
  rw [if_neg (fun q => h q.1)]
theorem am_upd_at {V : Nat → Nat → Int} {r j : Nat} {x : Int} : am_upd V r j x r = fun j' => if j' = j then x else V r j' := by
  funext j'
  unfold am_upd
  by_cases h : j' = j
  · rw [if_pos ⟨rfl, h⟩, if_pos h]
  · rw [if_neg (fun q => h q.2), if_neg h]
theorem am_pv_up {ad : Int → Nat} {t : Nat} {v : am_V} {x : Int} (h : am_pv t v = some x) : v = am_tv t x ∧ (am_okv v → am_okt t x) := by
  unfold am_pv at h
  split at h
  · cases h; exact ⟨rfl, fun q => q⟩
  · cases h; exact ⟨rfl, fun q => q⟩
  · cases h; exact ⟨rfl, fun _ => trivial⟩
  · split at h
    · rename_i q; cases h; exact ⟨rfl, fun _ => q⟩
    · cases h
  · cases h
theorem am_store_ok {ad : Int → Nat} {ty : FieldType} {t : Nat} {x : Int} (ht : am_tag ty = some t) (hx : am_okt t x) : narrow ty (am_up ad (am_tv t x)) = am_up ad (am_tv t x) ∧ fits ty (am_up ad (am_tv t x)) = true := by
  cases ty with
  | int => cases ht; exact ⟨rfl, rfl⟩
  | long => cases ht; exact ⟨rfl, rfl⟩
  | boolean =>
    cases ht
    rcases hx with rfl | rfl
    · exact ⟨rfl, rfl⟩
    · exact ⟨rfl, rfl⟩
  | object n =>
    cases ht
    have e : am_tv 2 x = .inr (.inr x) := rfl
    rw [e]
    rcases am_up_nr ad x with h | ⟨a, h⟩ <;> rw [h] <;> exact ⟨rfl, rfl⟩
  | array n =>
    cases ht
    have e : am_tv 2 x = .inr (.inr x) := rfl
    rw [e]
    rcases am_up_nr ad x with h | ⟨a, h⟩ <;> rw [h] <;> exact ⟨rfl, rfl⟩
  | _ => cases ht
theorem am_okt_v {t : Nat} {x : Int} (h : am_okt t x) : am_okv (am_tv t x) := by
  unfold am_okt at h
  split at h
  · exact h
  · trivial
  · rcases h with rfl | rfl
    · show in32 0; unfold in32; omega
    · show in32 1; unfold in32; omega
  · rename_i h1 h2 h3
    unfold am_tv
    split
    · rename_i q; exact absurd rfl h1
    · rename_i q; exact absurd rfl h2
    · exact h
theorem am_set_list {n k : Nat} {α : Type} (f : Nat → α) (v : α) (hk : k < n) : ((List.range n).map f).set k v = (List.range n).map (fun j => if j = k then v else f j) := by
  apply List.ext_getElem?
  intro i
  by_cases e : i = k
  · subst e
    rw [List.getElem?_set_self (by simp; exact hk)]
    rw [List.getElem?_map, List.getElem?_range hk]
    simp
  · rw [List.getElem?_set_ne (by omega), List.getElem?_map, List.getElem?_map]
    by_cases hi : i < n
    · rw [List.getElem?_range hi]; simp [e]
    · rw [List.getElem?_eq_none (by simp; omega)]; rfl
section AMC
variable {p : Program} {l : Launch} {e : Env} {R : Room} {s : State} {m : MethodId} {args : Array Value} {below : List Frame} {meth : Method} {c0 : Code} {H : Heap} {locs : List Loc} {cells slots : Nat} {Q : State → Prop}
variable {cc : ByteArray} {pc : Nat} {ls : Array Slot} {base : Nat} {ad : Int → Nat} {cA : Nat → ClassId} {cl : List vw_C} {tg : Nat → Nat → Nat} {D : va_G} {M : am_M} {tb : List Cond}
theorem am_getf_ok (hx : p.tables.exec = Jvm.exec) (hb : c0.code = cc) (hts : ∀ w ∈ tb, w.before args s = true) (hC : am_Cl cl tg tb) (had : am_Ad base ad) {own : String} (hown : s.vm.findClass own = some m.cls) (hK : va_K D cl (am_tys cA) s) (hW : am_Wd base ad cA cl tg D M H)
    {idx a b n : Nat} {C : String} {T : u_T} {N : Nat} (hc : cl[a]? = some (C, T, N)) (hbN : b < N) (hl : Cond.fieldLink own idx (T b).1 (T b).2.1 (T b).2.2.1 ∈ tb) (hd : decode cc pc = .ok (.getfield idx, 3)) {r : Int} (hr : 0 < r) (hM : M.1[r.toNat]? = some (a, n)) {st : List am_V}
    (kk : am_okv (am_tv (tg a b) (M.2 r.toNat b)) → W p l e R s m args below meth c0 H locs cells slots Q (F0 m (pc + 3) ls (am_up ad (am_tv (tg a b) (M.2 r.toNat b)) :: st.map (am_up ad)))) : W p l e R s m args below meth c0 H locs cells slots Q (F0 m pc ls (.ref (ad r) :: st.map (am_up ad))) := by
  obtain ⟨-, hL, hP, hO⟩ := hW
  obtain ⟨hci, hin, -, -⟩ := hC a C T N hc
  have hr' : 0 < r.toNat := by omega
  obtain ⟨⟨C', T', hc'⟩, hok⟩ := (hO _ _ _ hM hr').1 (by omega) (by omega)
  cases hc.symm.trans hc'
  have hg := am_ws_get (cA := cA) (tg := tg) had ((hO _ _ _ hM hr').2.2 (by omega)) hL hM
  rw [show ((r.toNat : Nat) : Int) = r by omega] at hg
  unfold am_ent at hg
  rw [if_pos (show a < 100 by omega)] at hg
  refine va_get hx hb hts hin hown hK hP (am_ix r.toNat) hg hc b hbN (hts _ hl) (fun _ h9 => h9) (v := am_up ad (am_tv (tg a b) (M.2 r.toNat b))) ?_ hd (kk (am_okt_v (hok b hbN)))
  rw [List.getElem?_map, List.getElem?_range hbN]; rfl
theorem am_okM_upd {r so n j : Nat} {x : Int} (h : am_okM cl tg M) (hM : M.1[r]? = some (so, n)) (hx : (so < 100 → so ≠ 77 → am_okt (tg so j) x) ∧ (100 ≤ so → am_oka so x)) : am_okM cl tg (M.1, am_upd M.2 r j x) := by
  intro r' so' n' hM' hr'
  have h0 := h r' so' n' hM' hr'
  by_cases e : r' = r
  · subst e
    cases hM.symm.trans hM'
    refine ⟨fun q q7 => ⟨(h0.1 q q7).1, fun k hk => ?_⟩, fun q => ⟨(h0.2.1 q).1, (h0.2.1 q).2.1, fun k hk => ?_⟩, h0.2.2⟩
    · show am_okt _ (am_upd M.2 r' j x r' k)
      rw [am_upd_at]
      by_cases ek : k = j
      · subst ek; simp only [if_pos]; exact hx.1 q q7
      · simp only [if_neg ek]; exact (h0.1 q q7).2 k hk
    · show am_oka _ (am_upd M.2 r' j x r' k)
      rw [am_upd_at]
      by_cases ek : k = j
      · subst ek; simp only [if_pos]; exact hx.2 q
      · simp only [if_neg ek]; exact (h0.2.1 q).2.2 k hk
  · refine ⟨fun q q7 => ⟨(h0.1 q q7).1, fun k hk => ?_⟩, fun q => ⟨(h0.2.1 q).1, (h0.2.1 q).2.1, fun k hk => ?_⟩, h0.2.2⟩
    · show am_okt _ (am_upd M.2 r j x r' k)
      rw [am_upd_ne _ e]; exact (h0.1 q q7).2 k hk
    · show am_oka _ (am_upd M.2 r j x r' k)
      rw [am_upd_ne _ e]; exact (h0.2.1 q).2.2 k hk
theorem am_putf_ok (hx : p.tables.exec = Jvm.exec) (hb : c0.code = cc) (hts : ∀ w ∈ tb, w.before args s = true) (hC : am_Cl cl tg tb) (had : am_Ad base ad) {own : String} (hown : s.vm.findClass own = some m.cls) (hK : va_K D cl (am_tys cA) s) (hW : am_Wd base ad cA cl tg D M H) (hS : va_S (am_A base) s.heap H locs)
    {idx a b n : Nat} {C : String} {T : u_T} {N : Nat} (hc : cl[a]? = some (C, T, N)) (hbN : b < N) (hl : Cond.fieldLink own idx (T b).1 (T b).2.1 (T b).2.2.1 ∈ tb) (hf : (T b).2.2.2 = false ∨ ((T b).2.2.2 = true ∧ meth.name = "<init>" ∧ (T b).1 = own)) (hd : decode cc pc = .ok (.putfield idx, 3)) {r x : Int} (hr : 0 < r) (hM : M.1[r.toNat]? = some (a, n)) (hxo : am_okt (tg a b) x) {st : List am_V}
    (kk : ∀ (H1 : Heap) (locs1 : List Loc), am_Wd base ad cA cl tg D (M.1, am_upd M.2 r.toNat b x) H1 → va_S (am_A base) s.heap H1 locs1 → W p l e R s m args below meth c0 H1 locs1 cells slots Q (F0 m (pc + 3) ls (st.map (am_up ad)))) : W p l e R s m args below meth c0 H locs cells slots Q (F0 m pc ls (am_up ad (am_tv (tg a b) x) :: .ref (ad r) :: st.map (am_up ad))) := by
  obtain ⟨hz, hone, hP, hO⟩ := hW
  obtain ⟨hci, hin, ⟨ty, hty⟩, hnm⟩ := hC a C T N hc
  have hr' : 0 < r.toNat := by omega
  obtain ⟨⟨C', T', hc'⟩, hok⟩ := (hO _ _ _ hM hr').1 (by omega) (by omega)
  have hrl := (hO _ _ _ hM hr').2.2 (by omega)
  obtain rfl : n = N := by have := hc.symm.trans hc'; simp at this; exact this.2.2.symm
  have hg := am_ws_get (cA := cA) (tg := tg) had hrl hone hM
  have hu := am_ws_set (cA := cA) (tg := tg) had hrl hone hM (am_upd_ne (V := M.2) (j := b) (x := x))
  rw [show ((r.toNat : Nat) : Int) = r by omega] at hg hu
  unfold am_ent at hg hu
  rw [if_pos (show a < 100 by omega)] at hg hu
  have hst := am_store_ok (ad := ad) (hty b hbN).2 hxo
  have ee : (List.range n).map (fun j => am_up ad (am_tv (tg a j) (am_upd M.2 r.toNat b x r.toNat j))) = ((List.range n).map (fun j => am_up ad (am_tv (tg a j) (M.2 r.toNat j)))).set b (am_up ad (am_tv (tg a b) x)) := by
    rw [am_set_list _ _ hbN]
    apply List.map_congr_left
    intro j _
    rw [am_upd_at]
    by_cases ej : j = b
    · subst ej; simp
    · simp [ej]
  simp only [ee] at hu
  have fin : ∀ (H1 : Heap) (locs1 : List Loc), va_P D cl ((am_ws base ad cA tg M).set (am_ix r.toNat) (ad r, .inr (a, ((List.range n).map (fun j => am_up ad (am_tv (tg a j) (M.2 r.toNat j)))).set b (am_up ad (am_tv (tg a b) x))))) H1 → va_S (am_A base) s.heap H1 locs1 → H1.size = H.size → W p l e R s m args below meth c0 H1 locs1 cells slots Q (F0 m (pc + 3) ls (st.map (am_up ad))) := by
    intro H1 locs1 q1 q2 q3
    refine kk H1 locs1 ⟨?_, hone, ?_, am_okM_upd hO hM ⟨fun _ _ => hxo, fun q => absurd hci (by omega)⟩⟩ q2
    · rw [q3]; exact hz
    · rw [hu]; exact q1
  have hap := va_apart (own := own) hts hin ty (fun k hk => (hty k hk).1) hnm hK hc
  obtain ⟨r9, h1, cell, q1, q2, q3, q4⟩ := hP (am_ix r.toNat) _ hg
  have hr9 : r9 = (C, T, n) := Option.some.inj (h1.symm.trans hc)
  subst hr9
  obtain ⟨hSl, hfc, kC, hkC, hkind⟩ := hK.1 a _ hc
  obtain ⟨cf, kf, fi, f, hi, hsl⟩ := hSl b hbN
  have hlay := hts _ (hin _ (u_in_lay hbN))
  unfold u_lay at hlay
  have hstt := (u_facts hfc hkC (u_lays hts hin hbN) hi).1
  have hD := am_ws_D (base := base) (ad := ad) (cA := cA) (tg := tg) (M := M)
  have hlen : b < ((List.range n).map (fun j => am_up ad (am_tv (tg a j) (M.2 r.toNat j)))).length := by simp; exact hbN
  rcases hf with hf | ⟨hf, hini, hdecl⟩
  · rw [if_neg (by rw [hf]; decide)] at hlay
    have h6 := u_store hfc hkC hkind hlay hi (hty b hbN).1 hst.1 hst.2
    refine W.putK hx hb (f := f) ⟨hown, hts _ hl, ⟨_, _, _, hi⟩, hstt⟩ (by rw [q2]; exact h6) q1 q3 (by rw [hsl]; exact k2_hasslot (q4 b hbN)) rfl rfl hd fun H' e1 e2 e3 => ?_
    rw [hsl] at e1 ⊢
    exact fin H' _ (hP.set hD hg ⟨_, hc, t_OB.to (V := updV (vp_V _) b (am_up ad (am_tv (tg a b) x))) ⟨_, e1, q2, q3, t_set q4 hap hbN _⟩ (fun j _ => vp_updV_set hlen _ j)⟩ e3) (hS.put e2 e3 (hD.2 (am_ix r.toNat) _ hg)) e2
  · rw [if_pos hf] at hlay
    have hcf : m.cls = cf := by
      obtain ⟨_, _, c', _, _, _, -, -, hf', -, -, -, hown2, -⟩ := Cond.laysFinal_spec hlay
      have e1 : c' = cf := by have := hi.symm.trans hf'; simp at this; exact this.1.symm
      rw [hdecl] at hown2
      rw [← e1]; exact Option.some.inj (hown.symm.trans hown2)
    have h6 := u_fits hfc hkC hkind (Or.inr hlay) hi (hty b hbN).1 hst.1 hst.2
    refine W.putFinK hx hb hown (hts _ hl) hi hstt hcf hini (by rw [q2]; exact h6) q1 q3 (by rw [hsl]; exact k2_hasslot (q4 b hbN)) rfl rfl hd fun H' e1 e2 e3 => ?_
    rw [hsl] at e1 ⊢
    exact fin H' _ (hP.set hD hg ⟨_, hc, t_OB.to (V := updV (vp_V _) b (am_up ad (am_tv (tg a b) x))) ⟨_, e1, q2, q3, t_set q4 hap hbN _⟩ (fun j _ => vp_updV_set hlen _ j)⟩ e3) (hS.put e2 e3 (hD.2 (am_ix r.toNat) _ hg)) e2
theorem i32_clamp {i : Int} (h : in32 i) : (Int32.ofInt i).toNatClampNeg = i.toNat := by
  show (Int32.ofInt i).toInt.toNat = i.toNat
  rw [i32_to h]
theorem am_in {i : Int} {n : Nat} (h : in32 i) (h0 : 0 ≤ i) (h1 : i < n) : vp_in (Int32.ofInt i) n := by
  rw [vp_in_iff, i32_to h]; exact ⟨h0, h1⟩
theorem am_ws_arr (had : am_Ad base ad) (hL : am_rl M.1.length) (hO : am_okM cl tg M) {r : Int} {so n : Nat} (hr : 0 < r) (hso : 100 ≤ so) (hM : M.1[r.toNat]? = some (so, n)) : (am_ws base ad cA tg M)[am_ix r.toNat]? = some (ad r, .inl (cA so, n, am_arr ad so (M.2 r.toNat))) := by
  have hg := am_ws_get (cA := cA) (tg := tg) had (r := r.toNat) ((hO _ _ _ hM (by omega)).2.2 (by omega)) hL hM
  rw [show ((r.toNat : Nat) : Int) = r by omega] at hg
  unfold am_ent at hg
  rw [if_neg (by show ¬ so < 100; omega)] at hg
  exact hg
theorem am_oka_v {so : Nat} {x : Int} (h : am_oka so x) : (so ≠ 101 → so ≠ 104 → in32 x) ∧ (so = 101 → in64 x) ∧ (so = 104 → 0 < x) := by
  unfold am_oka at h
  refine ⟨fun h1 h2 => ?_, fun h1 => ?_, fun h1 => ?_⟩
  · split at h
    · exact absurd rfl h1
    · unfold in32; omega
    · unfold in32; omega
    · exact absurd rfl h2
    · exact h
  · subst h1; exact h
  · subst h1; exact h
set_option maxHeartbeats 1000000 in
theorem am_ald_ok (hx : p.tables.exec = Jvm.exec) (hb : c0.code = cc) (had : am_Ad base ad) (hK : va_K D cl (am_tys cA) s) (hW : am_Wd base ad cA cl tg D M H) {ins : Instr} {t : Nat} {so n : Nat}
    (hi : (ins = .iaload ∧ so = 100 ∧ t = 0) ∨ (ins = .laload ∧ so = 101 ∧ t = 1) ∨ (ins = .baload ∧ so = 102 ∧ t = 0) ∨ (ins = .baload ∧ so = 103 ∧ t = 0) ∨ (ins = .aaload ∧ so = 104 ∧ t = 2)) (hd : decode cc pc = .ok (ins, 1)) {r i : Int} (hr : 0 < r) (hM : M.1[r.toNat]? = some (so, n)) (hi32 : in32 i) (h0 : 0 ≤ i) (h1 : i < n) {st : List am_V}
    (kk : am_okv (am_tv t (M.2 r.toNat i.toNat)) → W p l e R s m args below meth c0 H locs cells slots Q (F0 m (pc + 1) ls (am_up ad (am_tv t (M.2 r.toNat i.toNat)) :: st.map (am_up ad)))) : W p l e R s m args below meth c0 H locs cells slots Q (F0 m pc ls (.int (Int32.ofInt i) :: .ref (ad r) :: st.map (am_up ad))) := by
  obtain ⟨hz, hone, hP, hO⟩ := hW
  have hso : 100 ≤ so := by omega
  have hg := am_ws_arr (cA := cA) (tg := tg) had hone hO hr hso hM
  obtain ⟨hlt5, hn, hok⟩ := (hO _ _ _ hM (by omega)).2.1 hso
  have hok := hok i.toNat (by omega)
  have hin := am_in hi32 h0 h1
  obtain ⟨o1, o2, o3⟩ := am_oka_v hok
  rcases hi with ⟨rfl, rfl, rfl⟩ | ⟨rfl, rfl, rfl⟩ | ⟨rfl, rfl, rfl⟩ | ⟨rfl, rfl, rfl⟩ | ⟨rfl, rfl, rfl⟩
  · have kk := kk (o1 (by omega) (by omega))
    refine va_iald hx hb hK hP _ 0 hg rfl hin hd ?_
    rw [i32_clamp hi32]; exact kk
  · have kk := kk (o2 rfl)
    refine va_lald hx hb hK hP _ 1 hg rfl hin hd ?_
    rw [i32_clamp hi32]; exact kk
  · have kk := kk (o1 (by omega) (by omega))
    refine va_bald hx hb hK hP _ 2 hg rfl hin hd ?_
    rw [i32_clamp hi32]; exact kk
  · have kk := kk (o1 (by omega) (by omega))
    refine va_zald hx hb hK hP _ 3 hg rfl hin hd ?_
    rw [i32_clamp hi32]; exact kk
  · have kk := kk trivial
    have ho := o3 rfl
    have e1 : am_up ad (am_tv 2 (M.2 r.toNat i.toNat)) = .ref (ad (M.2 r.toNat i.toNat)) := am_up_ref (by omega)
    rw [e1] at kk
    refine W.aald (v := .ref (ad (M.2 r.toNat i.toNat))) (ty := .array .int) hx hb (hP _ _ hg) ((hK.2 4 (cA 104, .array .int) rfl).1 n _) rfl (fun q => by cases q) (by show ¬ (Int32.ofInt i < 0 ∨ (arrV _ _ _).slots.size ≤ _); rw [arrV_size]; exact hin) ?_ rfl rfl hd kk
    have hlt : i.toNat < n := by omega
    show (arrV (cA 104) n (fun j => va_rf (if M.2 r.toNat j = 0 then none else some (ad (M.2 r.toNat j))))).slots[_]? = _
    rw [i32_clamp hi32, arrV_read _ _ hlt]
    have e2 : ¬ M.2 r.toNat i.toNat = 0 := by omega
    simp [va_rf, e2]
theorem am_Wd_arr (had : am_Ad base ad) (hW : am_Wd base ad cA cl tg D M H) {r : Int} {so n j : Nat} (hr : 0 < r) (hM : M.1[r.toNat]? = some (so, n)) (hso : 100 ≤ so) {x : Int} (hxo : am_oka so x) {H1 : Heap} (he : H1[ad r]? = some (vp_cell (cA so) (n, am_arr ad so (am_upd M.2 r.toNat j x r.toNat)))) (z : H1.size = H.size) (oq : ∀ q : Nat, q ≠ ad r → H1[q]? = H[q]?) : am_Wd base ad cA cl tg D (M.1, am_upd M.2 r.toNat j x) H1 := by
  obtain ⟨hz, hone, hP, hO⟩ := hW
  have hr' : 0 < r.toNat := by omega
  have hg := am_ws_arr (cA := cA) (tg := tg) had hone hO hr hso hM
  have hu := am_ws_set (cA := cA) (tg := tg) had ((hO _ _ _ hM hr').2.2 (by omega)) hone hM (am_upd_ne (V := M.2) (j := j) (x := x))
  rw [show ((r.toNat : Nat) : Int) = r by omega] at hu
  unfold am_ent at hu
  rw [if_neg (by show ¬ so < 100; omega)] at hu
  refine ⟨by rw [z]; exact hz, hone, ?_, am_okM_upd hO hM ⟨fun q _ => absurd hso (by omega), fun _ => hxo⟩⟩
  rw [hu]
  exact hP.set (A := am_A base) am_ws_D hg he oq
set_option maxHeartbeats 1000000 in
theorem am_ast_ok (hx : p.tables.exec = Jvm.exec) (hb : c0.code = cc) (had : am_Ad base ad) (hK : va_K D cl (am_tys cA) s) (hW : am_Wd base ad cA cl tg D M H) (hS : va_S (am_A base) s.heap H locs) {ins : Instr} {t : Nat} {so n : Nat}
    (hi : (ins = .iastore ∧ so = 100 ∧ t = 0) ∨ (ins = .lastore ∧ so = 101 ∧ t = 1) ∨ (ins = .bastore ∧ so = 102 ∧ t = 0) ∨ (ins = .bastore ∧ so = 103 ∧ t = 0)) (hd : decode cc pc = .ok (ins, 1)) {r i x : Int} (hr : 0 < r) (hM : M.1[r.toNat]? = some (so, n)) (hi32 : in32 i) (h0 : 0 ≤ i) (h1 : i < n) (hxo : am_oka so x) {st : List am_V}
    (kk : ∀ (H1 : Heap) (locs1 : List Loc), am_Wd base ad cA cl tg D (M.1, am_upd M.2 r.toNat i.toNat x) H1 → va_S (am_A base) s.heap H1 locs1 → W p l e R s m args below meth c0 H1 locs1 cells slots Q (F0 m (pc + 1) ls (st.map (am_up ad)))) : W p l e R s m args below meth c0 H locs cells slots Q (F0 m pc ls (am_up ad (am_tv t x) :: .int (Int32.ofInt i) :: .ref (ad r) :: st.map (am_up ad))) := by
  have hso : 100 ≤ so := by omega
  have hP := hW.2.2.1
  have hg := am_ws_arr (cA := cA) (tg := tg) had hW.2.1 hW.2.2.2 hr hso hM
  have hin := am_in hi32 h0 h1
  have hA : am_A base (ad r) := by show base ≤ ad r; rw [had.at' hr]; omega
  rcases hi with ⟨rfl, rfl, rfl⟩ | ⟨rfl, rfl, rfl⟩ | ⟨rfl, rfl, rfl⟩ | ⟨rfl, rfl, rfl⟩
  · refine W.iast (x := Int32.ofInt x) hx hb (hP _ _ hg) ((hK.2 0 (cA 100, .int) rfl).1 n _) (fun q => by cases q) (by show ¬ (Int32.ofInt i < 0 ∨ (arrV _ _ _).slots.size ≤ _); rw [arrV_size]; exact hin) rfl rfl hd fun H1 e1 z oq => ?_
    refine kk H1 _ (am_Wd_arr had hW hr hM hso hxo ?_ z oq) (hS.put z oq hA)
    rw [e1]
    show some ((arrV (cA 100) n (fun j => .int (Int32.ofInt (M.2 r.toNat j)))).setSlot _ _) = some (arrV (cA 100) n (fun j => .int (Int32.ofInt (am_upd M.2 r.toNat i.toNat x r.toNat j))))
    rw [arrV_store, i32_clamp hi32]
    congr 2
    funext q
    rw [am_upd_at]
    by_cases hq : q = i.toNat
    · subst hq; simp [updV]
    · simp [updV, hq]
  · refine W.last (x := Int64.ofInt x) hx hb (hP _ _ hg) ((hK.2 1 (cA 101, .long) rfl).1 n _) (fun q => by cases q) (by show ¬ (Int32.ofInt i < 0 ∨ (arrV _ _ _).slots.size ≤ _); rw [arrV_size]; exact hin) rfl rfl hd fun H1 e1 z oq => ?_
    refine kk H1 _ (am_Wd_arr had hW hr hM hso hxo ?_ z oq) (hS.put z oq hA)
    rw [e1]
    show some ((arrV (cA 101) n (fun j => .long (Int64.ofInt (M.2 r.toNat j)))).setSlot _ _) = some (arrV (cA 101) n (fun j => .long (Int64.ofInt (am_upd M.2 r.toNat i.toNat x r.toNat j))))
    rw [arrV_store, i32_clamp hi32]
    congr 2
    funext q
    rw [am_upd_at]
    by_cases hq : q = i.toNat
    · subst hq; simp [updV]
    · simp [updV, hq]
  · refine W.bast (x := Int32.ofInt x) hx hb (hP _ _ hg) ((hK.2 2 (cA 102, .byte) rfl).1 n _) (fun q => by cases q) (by show ¬ (Int32.ofInt i < 0 ∨ (arrV _ _ _).slots.size ≤ _); rw [arrV_size]; exact hin) rfl rfl hd fun H1 e1 z oq => ?_
    refine kk H1 _ (am_Wd_arr had hW hr hM hso hxo ?_ z oq) (hS.put z oq hA)
    rw [e1]
    have en : narrow .byte (.int (Int32.ofInt x)) = .int (Int32.ofInt x) := by
      rw [narrow_byte]
      congr 1
      apply Int32.toInt_inj.mp
      have hb9 : -128 ≤ x ∧ x < 128 := hxo
      have h32 : in32 x := by unfold in32; omega
      rw [Int8.toInt_toInt32, Int32.toInt_toInt8, i32_to h32, Int.bmod_def]
      omega
    rw [en]
    show some ((arrV (cA 102) n (fun j => .int (Int32.ofInt (M.2 r.toNat j)))).setSlot _ _) = some (arrV (cA 102) n (fun j => .int (Int32.ofInt (am_upd M.2 r.toNat i.toNat x r.toNat j))))
    rw [arrV_store, i32_clamp hi32]
    congr 2
    funext q
    rw [am_upd_at]
    by_cases hq : q = i.toNat
    · subst hq; simp [updV]
    · simp [updV, hq]
  · refine W.zast (x := Int32.ofInt x) hx hb (hP _ _ hg) ((hK.2 3 (cA 103, .boolean) rfl).1 n _) (fun q => by cases q) (by show ¬ (Int32.ofInt i < 0 ∨ (arrV _ _ _).slots.size ≤ _); rw [arrV_size]; exact hin) rfl rfl hd fun H1 e1 z oq => ?_
    refine kk H1 _ (am_Wd_arr had hW hr hM hso hxo ?_ z oq) (hS.put z oq hA)
    rw [e1]
    have en : narrow .boolean (.int (Int32.ofInt x)) = .int (Int32.ofInt x) := by
      rcases hxo with rfl | rfl
      · rfl
      · rfl
    rw [en]
    show some ((arrV (cA 103) n (fun j => .int (Int32.ofInt (M.2 r.toNat j)))).setSlot _ _) = some (arrV (cA 103) n (fun j => .int (Int32.ofInt (am_upd M.2 r.toNat i.toNat x r.toNat j))))
    rw [arrV_store, i32_clamp hi32]
    congr 2
    funext q
    rw [am_upd_at]
    by_cases hq : q = i.toNat
    · subst hq; simp [updV]
    · simp [updV, hq]
theorem am_alen_ok (hx : p.tables.exec = Jvm.exec) (hb : c0.code = cc) (had : am_Ad base ad) (hK : va_K D cl (am_tys cA) s) (hW : am_Wd base ad cA cl tg D M H) {so n : Nat} (hso : 100 ≤ so) (hd : decode cc pc = .ok (.arraylength, 1)) {r : Int} (hr : 0 < r) (hM : M.1[r.toNat]? = some (so, n)) {st : List am_V}
    (kk : W p l e R s m args below meth c0 H locs cells slots Q (F0 m (pc + 1) ls (.int (Int32.ofInt (n : Int)) :: st.map (am_up ad)))) : W p l e R s m args below meth c0 H locs cells slots Q (F0 m pc ls (.ref (ad r) :: st.map (am_up ad))) := by
  obtain ⟨hz, hone, hP, hO⟩ := hW
  have hg := am_ws_arr (cA := cA) (tg := tg) had hone hO hr hso hM
  have hlt := ((hO _ _ _ hM (by omega)).2.1 hso).1
  have ev : Int32.ofNat n = Int32.ofInt (n : Int) := rfl
  have ht : ∃ (t0 : Nat) (ty : FieldType), (am_tys cA)[t0]? = some (cA so, ty) := by
    rcases (show so = 100 ∨ so = 101 ∨ so = 102 ∨ so = 103 ∨ so = 104 by omega) with rfl | rfl | rfl | rfl | rfl
    · exact ⟨0, _, rfl⟩
    · exact ⟨1, _, rfl⟩
    · exact ⟨2, _, rfl⟩
    · exact ⟨3, _, rfl⟩
    · exact ⟨4, _, rfl⟩
  obtain ⟨t0, ty, ht⟩ := ht
  exact va_alen hx hb hK hP _ t0 hg ht ev hd kk
end AMC
