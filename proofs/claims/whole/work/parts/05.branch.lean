/-! branches and switches: sound -/
section AMB
variable {p : Program} {l : Launch} {e : Env} {R : Room} {s : State} {m : MethodId} {args : Array Value} {below : List Frame} {meth : Method} {c0 : Code} {H : Heap} {locs : List Loc} {cells slots : Nat} {Q : State → Prop}
variable {cc : ByteArray} {pc : Nat} {ls : Array Slot} {ad : Int → Nat} {nL : Nat}
theorem am_if1_ok (hx : p.tables.exec = Jvm.exec) (hb : c0.code = cc) {cnd : ClassFile.Cond} {off : Int} {tgt : Nat} (hd : decode cc pc = .ok (.ifCond cnd off, 3)) (ht : (pc : Int) + off = (tgt : Int)) {st st' : List am_V} (hst : ∀ v ∈ st, am_okv v) {b : Bool} (h : am_if1 cnd st = some (b, st'))
    (kk : (∀ v ∈ st', am_okv v) → W p l e R s m args below meth c0 H locs cells slots Q (F0 m (bif b then tgt else pc + 3) ls (st'.map (am_up ad)))) : W p l e R s m args below meth c0 H locs cells slots Q (F0 m pc ls (st.map (am_up ad))) := by
  unfold am_if1 at h
  split at h
  next x t =>
    cases h
    obtain ⟨q1, q2⟩ := am_okv_cons.mp hst
    have q1 : in32 x := q1
    have z : in32 0 := by unfold in32; omega
    have kk := kk q2
    cases cnd
    · refine lv_if_eq hx hb hd ht (fun q => ?_) (fun q => ?_)
      · have q := (i32_eq q1 z).mp q
        simpa [am_cnd, q] using kk
      · have q : ¬ x = 0 := fun w => q ((i32_eq q1 z).mpr w)
        simpa [am_cnd, q] using kk
    · refine lv_if_ne hx hb hd ht (fun q => ?_) (fun q => ?_)
      · have q : ¬ x = 0 := fun w => q ((i32_eq q1 z).mpr w)
        simpa [am_cnd, q] using kk
      · have q : x = 0 := (i32_eq q1 z).mp q
        simpa [am_cnd, q] using kk
    · refine lv_if_lt hx hb hd ht (fun q => ?_) (fun q => ?_)
      · have q := (i32_lt q1 z).mp q
        simpa [am_cnd, q] using kk
      · have q : ¬ x < 0 := fun w => q ((i32_lt q1 z).mpr w)
        simpa [am_cnd, q] using kk
    · refine lv_if_ge hx hb hd ht (fun q => ?_) (fun q => ?_)
      · have q := (i32_le z q1).mp q
        simpa [am_cnd, q] using kk
      · have q : ¬ 0 ≤ x := fun w => q ((i32_le z q1).mpr w)
        simpa [am_cnd, q] using kk
    · refine lv_if_gt hx hb hd ht (fun q => ?_) (fun q => ?_)
      · have q := (i32_lt z q1).mp q
        simpa [am_cnd, q] using kk
      · have q : ¬ 0 < x := fun w => q ((i32_lt z q1).mpr w)
        simpa [am_cnd, q] using kk
    · refine lv_if_le hx hb hd ht (fun q => ?_) (fun q => ?_)
      · have q := (i32_le q1 z).mp q
        simpa [am_cnd, q] using kk
      · have q : ¬ x ≤ 0 := fun w => q ((i32_le q1 z).mpr w)
        simpa [am_cnd, q] using kk
  next => cases h
theorem am_if2_ok (hx : p.tables.exec = Jvm.exec) (hb : c0.code = cc) {cnd : ClassFile.Cond} {off : Int} {tgt : Nat} (hd : decode cc pc = .ok (.if_icmp cnd off, 3)) (ht : (pc : Int) + off = (tgt : Int)) {st st' : List am_V} (hst : ∀ v ∈ st, am_okv v) {b : Bool} (h : am_if2 cnd st = some (b, st'))
    (kk : (∀ v ∈ st', am_okv v) → W p l e R s m args below meth c0 H locs cells slots Q (F0 m (bif b then tgt else pc + 3) ls (st'.map (am_up ad)))) : W p l e R s m args below meth c0 H locs cells slots Q (F0 m pc ls (st.map (am_up ad))) := by
  unfold am_if2 at h
  split at h
  next y x t =>
    cases h
    obtain ⟨z, q2⟩ := am_okv_cons.mp hst
    obtain ⟨q1, q2⟩ := am_okv_cons.mp q2
    have q1 : in32 x := q1
    have z : in32 y := z
    have kk := kk q2
    cases cnd
    · refine lv_icmp_eq hx hb hd ht (fun q => ?_) (fun q => ?_)
      · have q := (i32_eq q1 z).mp q
        simpa [am_cnd, q] using kk
      · have q : ¬ x = y := fun w => q ((i32_eq q1 z).mpr w)
        simpa [am_cnd, q] using kk
    · refine lv_icmp_ne hx hb hd ht (fun q => ?_) (fun q => ?_)
      · have q : ¬ x = y := fun w => q ((i32_eq q1 z).mpr w)
        simpa [am_cnd, q] using kk
      · have q : x = y := (i32_eq q1 z).mp q
        simpa [am_cnd, q] using kk
    · refine lv_icmp_lt hx hb hd ht (fun q => ?_) (fun q => ?_)
      · have q := (i32_lt q1 z).mp q
        simpa [am_cnd, q] using kk
      · have q : ¬ x < y := fun w => q ((i32_lt q1 z).mpr w)
        simpa [am_cnd, q] using kk
    · refine lv_icmp_ge hx hb hd ht (fun q => ?_) (fun q => ?_)
      · have q := (i32_le z q1).mp q
        simpa [am_cnd, q] using kk
      · have q : ¬ y ≤ x := fun w => q ((i32_le z q1).mpr w)
        simpa [am_cnd, q] using kk
    · refine lv_icmp_gt hx hb hd ht (fun q => ?_) (fun q => ?_)
      · have q := (i32_lt z q1).mp q
        simpa [am_cnd, q] using kk
      · have q : ¬ y < x := fun w => q ((i32_lt z q1).mpr w)
        simpa [am_cnd, q] using kk
    · refine lv_icmp_le hx hb hd ht (fun q => ?_) (fun q => ?_)
      · have q := (i32_le q1 z).mp q
        simpa [am_cnd, q] using kk
      · have q : ¬ x ≤ y := fun w => q ((i32_le q1 z).mpr w)
        simpa [am_cnd, q] using kk
  next => cases h
theorem am_sw_ok (hx : p.tables.exec = Jvm.exec) (hb : c0.code = cc) {dflt lo hi : Int} {offs : Array Int} {len : Nat} (hd : decode cc pc = .ok (.tableswitch dflt lo hi offs, len)) (hn : 0 ≤ (pc : Int) + dflt ∧ ∀ o ∈ offs.toList, 0 ≤ (pc : Int) + o) {st : List am_V} {x off : Int} (hst : ∀ v ∈ .inl x :: st, am_okv v) (h : am_sw dflt lo hi offs x = some off)
    (kk : (∀ v ∈ st, am_okv v) → W p l e R s m args below meth c0 H locs cells slots Q (F0 m ((pc : Int) + off).toNat ls (st.map (am_up ad)))) : W p l e R s m args below meth c0 H locs cells slots Q (F0 m pc ls ((.inl x :: st).map (am_up ad))) := by
  obtain ⟨q1, q2⟩ := am_okv_cons.mp hst
  have q1 : in32 x := q1
  have kk := kk q2
  unfold am_sw at h
  split at h
  next hc =>
    cases h
    exact lv_tableOut hx hb hd (by rw [i32_to q1]; exact hc) (by omega) kk
  next hc =>
    have hm : off ∈ offs.toList := Array.mem_toList_iff.mpr (Array.mem_of_getElem? h)
    have := hn.2 off hm
    exact lv_tableIn hx hb hd (by rw [i32_to q1]; omega) (by rw [i32_to q1]; omega) (by rw [i32_to q1]; exact h) (by omega) kk
theorem am_lsw_mem {ps : List (Int × Int)} {d x : Int} : Op.lookupswitch.offset ps d x = d ∨ ∃ q ∈ ps, Op.lookupswitch.offset ps d x = q.2 := by
  induction ps with
  | nil => exact Or.inl rfl
  | cons q t ih =>
    obtain ⟨a, o⟩ := q
    rw [Op.lookupswitch.offset_cons]
    split
    · exact Or.inr ⟨_, List.mem_cons_self, rfl⟩
    · rcases ih with h | ⟨q, h1, h2⟩
      · exact Or.inl h
      · exact Or.inr ⟨q, List.mem_cons_of_mem _ h1, h2⟩
theorem am_lsw_ok (hx : p.tables.exec = Jvm.exec) (hb : c0.code = cc) {dflt : Int} {ps : Array (Int × Int)} {len : Nat} (hd : decode cc pc = .ok (.lookupswitch dflt ps, len)) (hp : (ps.toList.zip (ps.toList.drop 1)).all (fun (a, next) => a.1 < next.1) = true) (hn : 0 ≤ (pc : Int) + dflt ∧ ∀ o ∈ ps.toList, 0 ≤ (pc : Int) + o.2) {st : List am_V} {x : Int} (hst : ∀ v ∈ .inl x :: st, am_okv v)
    (kk : (∀ v ∈ st, am_okv v) → W p l e R s m args below meth c0 H locs cells slots Q (F0 m ((pc : Int) + Op.lookupswitch.offset ps.toList dflt x).toNat ls (st.map (am_up ad)))) : W p l e R s m args below meth c0 H locs cells slots Q (F0 m pc ls ((.inl x :: st).map (am_up ad))) := by
  obtain ⟨q1, q2⟩ := am_okv_cons.mp hst
  have q1 : in32 x := q1
  have kk := kk q2
  refine lv_lookup hx hb hd hp (by rw [i32_to q1]) ?_ kk
  rcases am_lsw_mem (ps := ps.toList) (d := dflt) (x := x) with h | ⟨q, h1, h2⟩
  · rw [h]; omega
  · rw [h2]; have := hn.2 q h1; omega
end AMB
