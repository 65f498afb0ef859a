/-! instructions on locals and stack: sound -/
def am_okP (tb : List Cond) (own : String) (len : Nat) (ins : Instr) (a : Nat) (c : Int) : Prop := match ins with
  | .iconst n => len = 1 ∧ n = c ∧ in32 c
  | .bipush n => len = 2 ∧ (Int8.ofInt n).toInt32 = Int32.ofInt c ∧ in32 c
  | .sipush n => len = 3 ∧ (Int16.ofInt n).toInt32 = Int32.ofInt c ∧ in32 c
  | .ldc i => len = 2 ∧ a = 0 ∧ in32 c ∧ Cond.constant own i (Int32.ofInt c) ∈ tb
  | .ldc_w i => len = 3 ∧ in32 c ∧ Cond.constant own i (Int32.ofInt c) ∈ tb
  | .lconst n => len = 1 ∧ ((n : Nat) : Int) = c ∧ in64 c
  | .ldc2_w i => len = 3 ∧ in64 c ∧ Cond.constantLong own i (Int64.ofInt c) ∈ tb
  | .iload_n k => len = 1 ∧ (k : Nat) = a
  | .lload_n k => len = 1 ∧ (k : Nat) = a
  | .aload_n k => len = 1 ∧ (k : Nat) = a
  | .istore_n k => len = 1 ∧ (k : Nat) = a
  | .lstore_n k => len = 1 ∧ (k : Nat) = a
  | .astore_n k => len = 1 ∧ (k : Nat) = a
  | .iload i => len = 2 ∧ i = a
  | .lload i => len = 2 ∧ i = a
  | .aload i => len = 2 ∧ i = a
  | .istore i => len = 2 ∧ i = a
  | .lstore i => len = 2 ∧ i = a
  | .astore i => len = 2 ∧ i = a
  | .iinc i n => len = 3 ∧ i = a ∧ n = c
  | _ => len = 1
section AMP
variable {p : Program} {l : Launch} {e : Env} {R : Room} {s : State} {m : MethodId} {args : Array Value} {below : List Frame} {meth : Method} {c0 : Code} {H : Heap} {locs : List Loc} {cells slots : Nat} {Q : State → Prop}
variable {cc : ByteArray} {pc : Nat} {ls : Array Slot} {ad : Int → Nat} {nL : Nat}
theorem i32_rem' {x y : Int} (hx : in32 x) (hy : in32 y) : Int32.ofInt (Int.tmod x y) = Int32.ofInt x - Int32.ofInt x / Int32.ofInt y * Int32.ofInt y := by
  rw [← i32_div hx hy, i32_w, ← Int32.ofInt_mul, ← Int32.ofInt_sub]
  congr 1
  have := Int.tmod_add_mul_tdiv x y
  rw [Int.mul_comm] at this
  omega
theorem i64_rem' {x y : Int} (hx : in64 x) (hy : in64 y) : Int64.ofInt (Int.tmod x y) = Int64.ofInt x - Int64.ofInt x / Int64.ofInt y * Int64.ofInt y := by
  rw [← i64_div hx hy, i64_w, ← Int64.ofInt_mul, ← Int64.ofInt_sub]
  congr 1
  have := Int.tmod_add_mul_tdiv x y
  rw [Int.mul_comm] at this
  omega
theorem am_lcmp_of {x y : Int} (hx : in64 x) (hy : in64 y) : lg_cmp (Int64.ofInt x) (Int64.ofInt y) = Int32.ofInt (am_lcmp x y) := by
  unfold lg_cmp am_lcmp
  by_cases h1 : x < y
  · have h2 : ¬ Int64.ofInt x > Int64.ofInt y := fun h => by have := (i64_lt hy hx).mp h; omega
    have h3 : ¬ Int64.ofInt x = Int64.ofInt y := fun h => by have := (i64_eq hx hy).mp h; omega
    rw [if_neg h2, if_neg h3, if_pos h1]; rfl
  · by_cases h4 : x = y
    · subst h4
      have h2 : ¬ Int64.ofInt x > Int64.ofInt x := fun h => by have := (i64_lt hy hx).mp h; omega
      rw [if_neg h2, if_pos rfl, if_neg h1, if_pos rfl]; rfl
    · have h2 : Int64.ofInt x > Int64.ofInt y := (i64_lt hy hx).mpr (by omega)
      rw [if_pos h2, if_neg h1, if_neg h4]; rfl
theorem am_lcmp_in (x y : Int) : in32 (am_lcmp x y) := by
  unfold am_lcmp in32; split
  · omega
  · split <;> omega
theorem am_okv_cons {v : am_V} {st : List am_V} : (∀ u ∈ v :: st, am_okv u) ↔ am_okv v ∧ ∀ u ∈ st, am_okv u := by simp
set_option maxHeartbeats 4000000 in
theorem am_pure_ok (hx : p.tables.exec = Jvm.exec) (hb : c0.code = cc) {tb : List Cond} (hts : ∀ w ∈ tb, w.before args s = true) {own : String} (hown : s.vm.findClass own = some m.cls) {len : Nat} {ins : Instr} {a : Nat} {c : Int} (hd : decode cc pc = .ok (ins, len)) (ho : am_okP tb own len ins a c)
    {L L' : am_L} {st st' : List am_V} (hL : am_LV ad ls nL L) (hst : ∀ v ∈ st, am_okv v) (h : am_pure ins a c L st = some (L', st'))
    (kk : ∀ ls' : Array Slot, am_LV ad ls' nL L' → (∀ v ∈ st', am_okv v) → W p l e R s m args below meth c0 H locs cells slots Q (F0 m (pc + len) ls' (st'.map (am_up ad)))) :
    W p l e R s m args below meth c0 H locs cells slots Q (F0 m pc ls (st.map (am_up ad))) := by
  unfold am_pure at h
  split at h <;> simp only [am_okP] at ho
  · -- iconst
    cases h; obtain ⟨rfl, rfl, h1⟩ := ho
    exact lv_iconst hx hb hd rfl (kk ls hL (am_okv_cons.mpr ⟨h1, hst⟩))
  · cases h; obtain ⟨rfl, h2, h1⟩ := ho
    exact lv_bipush hx hb hd h2 (kk ls hL (am_okv_cons.mpr ⟨h1, hst⟩))
  · cases h; obtain ⟨rfl, h2, h1⟩ := ho
    exact lv_sipush hx hb hd h2 (kk ls hL (am_okv_cons.mpr ⟨h1, hst⟩))
  · cases h; obtain ⟨rfl, rfl, h1, h2⟩ := ho
    exact lv_ldc hx hb hown (hts _ h2) hd (kk ls hL (am_okv_cons.mpr ⟨h1, hst⟩))
  · cases h; obtain ⟨rfl, h1, h2⟩ := ho
    exact lv_ldcw hx hb hown (hts _ h2) hd (kk ls hL (am_okv_cons.mpr ⟨h1, hst⟩))
  · cases h; obtain ⟨rfl, rfl, h1⟩ := ho
    exact lv_lconst hx hb hd rfl (kk ls hL (am_okv_cons.mpr ⟨h1, hst⟩))
  · cases h; obtain ⟨rfl, h1, h2⟩ := ho
    exact lv_ldc2 hx hb hown (hts _ h2) hd (kk ls hL (am_okv_cons.mpr ⟨h1, hst⟩))
  · obtain ⟨x, h1, rfl, rfl⟩ := am_ldi_inv h; obtain ⟨rfl, rfl⟩ := ho
    have h2 := hL.2.2.2 _ _ h1
    exact lv_iload_n hx hb hd rfl h2.1 (kk ls hL (am_okv_cons.mpr ⟨h2.2, hst⟩))
  · obtain ⟨x, h1, rfl, rfl⟩ := am_ldi_inv h; obtain ⟨rfl, rfl⟩ := ho
    have h2 := hL.2.2.2 _ _ h1
    exact lv_iload hx hb hd h2.1 (kk ls hL (am_okv_cons.mpr ⟨h2.2, hst⟩))
  · obtain ⟨x, h1, rfl, rfl⟩ := am_ldl_inv h; obtain ⟨rfl, rfl⟩ := ho
    have h2 := hL.2.2.2 _ _ h1
    exact lv_lload_n hx hb hd rfl h2.1 (kk ls hL (am_okv_cons.mpr ⟨h2.2, hst⟩))
  · obtain ⟨x, h1, rfl, rfl⟩ := am_ldl_inv h; obtain ⟨rfl, rfl⟩ := ho
    have h2 := hL.2.2.2 _ _ h1
    exact lv_lload hx hb hd h2.1 (kk ls hL (am_okv_cons.mpr ⟨h2.2, hst⟩))
  · obtain ⟨x, h0, h1, rfl, rfl⟩ := am_lda_inv h; obtain ⟨rfl, rfl⟩ := ho
    have h2 := hL.2.2.2 _ _ h1
    rw [am_up_ref h0] at h2
    refine lv_aload_n hx hb hd rfl h2.1 ?_
    have h3 := kk ls hL (am_okv_cons.mpr ⟨h2.2, hst⟩)
    rw [List.map_cons, am_up_ref h0] at h3
    exact h3
  · obtain ⟨x, h0, h1, rfl, rfl⟩ := am_lda_inv h; obtain ⟨rfl, rfl⟩ := ho
    have h2 := hL.2.2.2 _ _ h1
    rw [am_up_ref h0] at h2
    refine lv_aload hx hb hd h2.1 ?_
    have h3 := kk ls hL (am_okv_cons.mpr ⟨h2.2, hst⟩)
    rw [List.map_cons, am_up_ref h0] at h3
    exact h3
  · obtain ⟨x, h1, rfl, rfl⟩ := am_sti_inv h; obtain ⟨rfl, rfl⟩ := ho
    obtain ⟨q1, q2⟩ := am_okv_cons.mp hst
    have hn := hL.2.2.1 ▸ h1
    exact lv_istore_n hx hb hd rfl hL.has hn rfl (fun ls' hl' => kk ls' (am_LV_st1 (v := .inl x) hL hn q1 hl') q2)
  · obtain ⟨x, h1, rfl, rfl⟩ := am_sti_inv h; obtain ⟨rfl, rfl⟩ := ho
    obtain ⟨q1, q2⟩ := am_okv_cons.mp hst
    have hn := hL.2.2.1 ▸ h1
    exact lv_istore hx hb hd hL.has hn rfl (fun ls' hl' => kk ls' (am_LV_st1 (v := .inl x) hL hn q1 hl') q2)
  · obtain ⟨x, h1, rfl, rfl⟩ := am_stl_inv h; obtain ⟨rfl, rfl⟩ := ho
    obtain ⟨q1, q2⟩ := am_okv_cons.mp hst
    have hn := hL.2.2.1 ▸ h1
    exact lv_lstore_n hx hb hd rfl hL.has hn rfl (fun ls' hl' => kk ls' (am_LV_st2 (v := .inr (.inl x)) hL hn q1 hl') q2)
  · obtain ⟨x, h1, rfl, rfl⟩ := am_stl_inv h; obtain ⟨rfl, rfl⟩ := ho
    obtain ⟨q1, q2⟩ := am_okv_cons.mp hst
    have hn := hL.2.2.1 ▸ h1
    exact lv_lstore hx hb hd hL.has hn rfl (fun ls' hl' => kk ls' (am_LV_st2 (v := .inr (.inl x)) hL hn q1 hl') q2)
  · obtain ⟨x, h0, h1, rfl, rfl⟩ := am_sta_inv h; obtain ⟨rfl, rfl⟩ := ho
    obtain ⟨q1, q2⟩ := am_okv_cons.mp hst
    have hn := hL.2.2.1 ▸ h1
    rw [List.map_cons, am_up_ref h0]
    refine lv_astore_n hx hb hd rfl hL.has hn rfl (fun ls' hl' => kk ls' (am_LV_st1 (v := .inr (.inr x)) hL hn q1 ?_) q2)
    rw [am_up_ref h0]; exact hl'
  · obtain ⟨x, h0, h1, rfl, rfl⟩ := am_sta_inv h; obtain ⟨rfl, rfl⟩ := ho
    obtain ⟨q1, q2⟩ := am_okv_cons.mp hst
    have hn := hL.2.2.1 ▸ h1
    rw [List.map_cons, am_up_ref h0]
    refine lv_astore hx hb hd hL.has hn rfl (fun ls' hl' => kk ls' (am_LV_st1 (v := .inr (.inr x)) hL hn q1 ?_) q2)
    rw [am_up_ref h0]; exact hl'
  · obtain ⟨x, h1, rfl, rfl⟩ := am_inc_inv h; obtain ⟨rfl, rfl, rfl⟩ := ho
    have h2 := hL.2.2.2 _ _ h1
    have hn : _ < nL := hL.2.2.1 ▸ (List.getElem?_eq_some_iff.mp h1).1
    obtain ⟨k, hk⟩ := List.getElem?_of_mem (am_as_mem (ad := ad) (L := L) (q := (_, am_up ad (.inl x))) |>.mpr ⟨_, h1, rfl⟩)
    exact lv_iinc hx hb hd hL.has hk (i32_add _ _).symm hn rfl (fun ls' hl' => kk ls' (am_LV_st1 (v := .inl _) hL hn (w32_in _) hl') hst)
  · obtain ⟨v, t, h1, rfl, rfl, rfl⟩ := am_dup_inv h; subst ho
    obtain ⟨q1, q2⟩ := am_okv_cons.mp hst
    exact lv_dup hx hb hd (by rw [am_up_cat]; exact h1) (kk ls hL (am_okv_cons.mpr ⟨q1, hst⟩))
  · subst ho
    obtain ⟨rfl, ⟨v, t, h1, rfl, rfl⟩ | ⟨v, u, t, h1, h2, rfl, rfl⟩⟩ := am_dup2_inv h
    · obtain ⟨q1, q2⟩ := am_okv_cons.mp hst
      exact lv_dup2_2 hx hb hd (by rw [am_up_cat]; exact h1) (kk ls hL (am_okv_cons.mpr ⟨q1, hst⟩))
    · obtain ⟨q1, q2⟩ := am_okv_cons.mp hst
      obtain ⟨q3, q4⟩ := am_okv_cons.mp q2
      exact lv_dup2_11 hx hb hd (by rw [am_up_cat]; exact h1) (by rw [am_up_cat]; exact h2) (kk ls hL (am_okv_cons.mpr ⟨q1, am_okv_cons.mpr ⟨q3, hst⟩⟩))
  · obtain ⟨v, h1, rfl, rfl⟩ := am_pop_inv h; subst ho
    exact lv_pop hx hb hd (by rw [am_up_cat]; exact h1) (kk ls hL (am_okv_cons.mp hst).2)
  -- int arithmetic
  · obtain ⟨x, y, t, rfl, rfl, rfl⟩ := am_b32_inv h; subst ho
    obtain ⟨q1, q2⟩ := am_okv_cons.mp hst; obtain ⟨q3, q4⟩ := am_okv_cons.mp q2
    have h3 := kk ls hL (am_okv_cons.mpr ⟨w32_in _, q4⟩)
    refine lv_iadd hx hb hd ?_
    rw [← i32_add]; exact h3
  · obtain ⟨x, y, t, rfl, rfl, rfl⟩ := am_b32_inv h; subst ho
    obtain ⟨q1, q2⟩ := am_okv_cons.mp hst; obtain ⟨q3, q4⟩ := am_okv_cons.mp q2
    have h3 := kk ls hL (am_okv_cons.mpr ⟨w32_in _, q4⟩)
    refine lv_isub hx hb hd ?_
    rw [← i32_sub]; exact h3
  · obtain ⟨x, y, t, rfl, rfl, rfl⟩ := am_b32_inv h; subst ho
    obtain ⟨q1, q2⟩ := am_okv_cons.mp hst; obtain ⟨q3, q4⟩ := am_okv_cons.mp q2
    have h3 := kk ls hL (am_okv_cons.mpr ⟨w32_in _, q4⟩)
    refine lv_imul hx hb hd ?_
    rw [← i32_mul]; exact h3
  · obtain ⟨x, y, t, h0, rfl, rfl, rfl⟩ := am_q32_inv h; subst ho
    obtain ⟨q1, q2⟩ := am_okv_cons.mp hst; obtain ⟨q3, q4⟩ := am_okv_cons.mp q2
    have h3 := kk ls hL (am_okv_cons.mpr ⟨w32_in _, q4⟩)
    refine lv_idiv hx hb hd (i32_ne0 q1 h0) ?_
    rw [← i32_div q3 q1]; exact h3
  · obtain ⟨x, y, t, h0, rfl, rfl, rfl⟩ := am_q32_inv h; subst ho
    obtain ⟨q1, q2⟩ := am_okv_cons.mp hst; obtain ⟨q3, q4⟩ := am_okv_cons.mp q2
    have h3 := kk ls hL (am_okv_cons.mpr ⟨i32_rem_in q3 q1, q4⟩)
    refine lv_irem hx hb hd (i32_ne0 q1 h0) ?_
    rw [← i32_rem' q3 q1]; exact h3
  · obtain ⟨x, t, rfl, rfl, rfl⟩ := am_u32_inv h; subst ho
    obtain ⟨q1, q2⟩ := am_okv_cons.mp hst
    have h3 := kk ls hL (am_okv_cons.mpr ⟨w32_in _, q2⟩)
    refine lv_ineg hx hb hd ?_
    rw [← i32_neg]; exact h3
  · obtain ⟨x, y, t, rfl, rfl, rfl⟩ := am_b32_inv h; subst ho
    obtain ⟨q1, q2⟩ := am_okv_cons.mp hst; obtain ⟨q3, q4⟩ := am_okv_cons.mp q2
    have h3 := kk ls hL (am_okv_cons.mpr ⟨i32_in _, q4⟩)
    refine lv_iand hx hb hd ?_
    rw [List.map_cons, am_up, am_and, i32_of] at h3; exact h3
  · obtain ⟨x, y, t, rfl, rfl, rfl⟩ := am_b32_inv h; subst ho
    obtain ⟨q1, q2⟩ := am_okv_cons.mp hst; obtain ⟨q3, q4⟩ := am_okv_cons.mp q2
    have h3 := kk ls hL (am_okv_cons.mpr ⟨i32_in _, q4⟩)
    refine lv_ior hx hb hd ?_
    rw [List.map_cons, am_up, am_or, i32_of] at h3; exact h3
  · obtain ⟨x, y, t, rfl, rfl, rfl⟩ := am_b32_inv h; subst ho
    obtain ⟨q1, q2⟩ := am_okv_cons.mp hst; obtain ⟨q3, q4⟩ := am_okv_cons.mp q2
    have h3 := kk ls hL (am_okv_cons.mpr ⟨i32_in _, q4⟩)
    refine lv_ixor hx hb hd ?_
    rw [List.map_cons, am_up, am_xor, i32_of] at h3; exact h3
  · obtain ⟨x, y, t, rfl, rfl, rfl⟩ := am_b32_inv h; subst ho
    obtain ⟨q1, q2⟩ := am_okv_cons.mp hst; obtain ⟨q3, q4⟩ := am_okv_cons.mp q2
    have h3 := kk ls hL (am_okv_cons.mpr ⟨i32_in _, q4⟩)
    refine lv_ishl hx hb hd ?_
    rw [List.map_cons, am_up, am_shl, i32_of] at h3; exact h3
  · obtain ⟨x, y, t, rfl, rfl, rfl⟩ := am_b32_inv h; subst ho
    obtain ⟨q1, q2⟩ := am_okv_cons.mp hst; obtain ⟨q3, q4⟩ := am_okv_cons.mp q2
    have h3 := kk ls hL (am_okv_cons.mpr ⟨i32_in _, q4⟩)
    refine lv_ishr hx hb hd ?_
    rw [List.map_cons, am_up, am_shr, i32_of] at h3; exact h3
  · obtain ⟨x, y, t, rfl, rfl, rfl⟩ := am_b32_inv h; subst ho
    obtain ⟨q1, q2⟩ := am_okv_cons.mp hst; obtain ⟨q3, q4⟩ := am_okv_cons.mp q2
    have h3 := kk ls hL (am_okv_cons.mpr ⟨i32_in _, q4⟩)
    refine lv_iushr hx hb hd rfl ?_
    rw [List.map_cons, am_up, am_ushr, i32_of] at h3; exact h3
  -- long arithmetic
  · obtain ⟨x, y, t, rfl, rfl, rfl⟩ := am_b64_inv h; subst ho
    obtain ⟨q1, q2⟩ := am_okv_cons.mp hst; obtain ⟨q3, q4⟩ := am_okv_cons.mp q2
    have h3 := kk ls hL (am_okv_cons.mpr ⟨w64_in _, q4⟩)
    refine lv_ladd hx hb hd ?_
    rw [← i64_add]; exact h3
  · obtain ⟨x, y, t, rfl, rfl, rfl⟩ := am_b64_inv h; subst ho
    obtain ⟨q1, q2⟩ := am_okv_cons.mp hst; obtain ⟨q3, q4⟩ := am_okv_cons.mp q2
    have h3 := kk ls hL (am_okv_cons.mpr ⟨w64_in _, q4⟩)
    refine lv_lsub hx hb hd ?_
    rw [← i64_sub]; exact h3
  · obtain ⟨x, y, t, rfl, rfl, rfl⟩ := am_b64_inv h; subst ho
    obtain ⟨q1, q2⟩ := am_okv_cons.mp hst; obtain ⟨q3, q4⟩ := am_okv_cons.mp q2
    have h3 := kk ls hL (am_okv_cons.mpr ⟨w64_in _, q4⟩)
    refine lv_lmul hx hb hd ?_
    rw [← i64_mul]; exact h3
  · obtain ⟨x, y, t, h0, rfl, rfl, rfl⟩ := am_q64_inv h; subst ho
    obtain ⟨q1, q2⟩ := am_okv_cons.mp hst; obtain ⟨q3, q4⟩ := am_okv_cons.mp q2
    have h3 := kk ls hL (am_okv_cons.mpr ⟨w64_in _, q4⟩)
    refine lv_ldiv hx hb hd (i64_ne0 q1 h0) ?_
    rw [← i64_div q3 q1]; exact h3
  · obtain ⟨x, y, t, h0, rfl, rfl, rfl⟩ := am_q64_inv h; subst ho
    obtain ⟨q1, q2⟩ := am_okv_cons.mp hst; obtain ⟨q3, q4⟩ := am_okv_cons.mp q2
    have h3 := kk ls hL (am_okv_cons.mpr ⟨i64_rem_in q3 q1, q4⟩)
    refine lv_lrem hx hb hd (i64_ne0 q1 h0) ?_
    rw [← i64_rem' q3 q1]; exact h3
  · obtain ⟨x, t, rfl, rfl, rfl⟩ := am_u64_inv h; subst ho
    obtain ⟨q1, q2⟩ := am_okv_cons.mp hst
    have h3 := kk ls hL (am_okv_cons.mpr ⟨w64_in _, q2⟩)
    refine lv_lneg hx hb hd ?_
    rw [← i64_neg]; exact h3
  · obtain ⟨x, y, t, rfl, rfl, rfl⟩ := am_b64_inv h; subst ho
    obtain ⟨q1, q2⟩ := am_okv_cons.mp hst; obtain ⟨q3, q4⟩ := am_okv_cons.mp q2
    have h3 := kk ls hL (am_okv_cons.mpr ⟨i64_in _, q4⟩)
    refine lv_land hx hb hd ?_
    rw [List.map_cons, am_up, am_land, i64_of] at h3; exact h3
  · obtain ⟨x, y, t, rfl, rfl, rfl⟩ := am_b64_inv h; subst ho
    obtain ⟨q1, q2⟩ := am_okv_cons.mp hst; obtain ⟨q3, q4⟩ := am_okv_cons.mp q2
    have h3 := kk ls hL (am_okv_cons.mpr ⟨i64_in _, q4⟩)
    refine lv_lor hx hb hd ?_
    rw [List.map_cons, am_up, am_lor, i64_of] at h3; exact h3
  · obtain ⟨x, y, t, rfl, rfl, rfl⟩ := am_s64_inv h; subst ho
    obtain ⟨q1, q2⟩ := am_okv_cons.mp hst; obtain ⟨q3, q4⟩ := am_okv_cons.mp q2
    have h3 := kk ls hL (am_okv_cons.mpr ⟨i64_in _, q4⟩)
    refine lv_lshl hx hb hd rfl ?_
    rw [List.map_cons, am_up, am_lshl, i64_of] at h3; exact h3
  · obtain ⟨x, y, t, rfl, rfl, rfl⟩ := am_s64_inv h; subst ho
    obtain ⟨q1, q2⟩ := am_okv_cons.mp hst; obtain ⟨q3, q4⟩ := am_okv_cons.mp q2
    have h3 := kk ls hL (am_okv_cons.mpr ⟨i64_in _, q4⟩)
    refine lv_lshr hx hb hd rfl ?_
    rw [List.map_cons, am_up, am_lshr, i64_of] at h3; exact h3
  · obtain ⟨x, y, t, rfl, rfl, rfl⟩ := am_c64_inv h; subst ho
    obtain ⟨q1, q2⟩ := am_okv_cons.mp hst; obtain ⟨q3, q4⟩ := am_okv_cons.mp q2
    have h3 := kk ls hL (am_okv_cons.mpr ⟨am_lcmp_in _ _, q4⟩)
    refine W.lcmp hx hb hd ?_
    rw [am_lcmp_of q3 q1]; exact h3
  · obtain ⟨x, t, rfl, rfl, rfl⟩ := am_ul_inv h; subst ho
    obtain ⟨q1, q2⟩ := am_okv_cons.mp hst
    exact lv_i2l hx hb hd (i32_i2l q1) (kk ls hL (am_okv_cons.mpr ⟨by have q1 : in32 x := q1; unfold in32 at q1; show in64 x; unfold in64; omega, q2⟩))
  · obtain ⟨x, t, rfl, rfl, rfl⟩ := am_li_inv h; subst ho
    obtain ⟨q1, q2⟩ := am_okv_cons.mp hst
    exact lv_l2i hx hb hd (i64_l2i q1) (kk ls hL (am_okv_cons.mpr ⟨w32_in _, q2⟩))
  · obtain ⟨x, t, rfl, rfl, rfl⟩ := am_u32_inv h; subst ho
    obtain ⟨q1, q2⟩ := am_okv_cons.mp hst
    exact lv_i2b hx hb hd (i32_of _).symm (kk ls hL (am_okv_cons.mpr ⟨i32_in _, q2⟩))
  · obtain ⟨x, t, rfl, rfl, rfl⟩ := am_u32_inv h; subst ho
    obtain ⟨q1, q2⟩ := am_okv_cons.mp hst
    exact lv_i2c hx hb hd (i32_of _).symm (kk ls hL (am_okv_cons.mpr ⟨i32_in _, q2⟩))
  · cases h
end AMP
