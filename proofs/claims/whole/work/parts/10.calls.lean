/-! contracts of the small machine's methods, and calls -/
def am_sum (M : am_M) : Nat := (M.1.map Prod.snd).sum
def am_Qc (base : Nat) (ad : Int → Nat) (cA : Nat → ClassId) (cl : List vw_C) (tg : Nat → Nat → Nat) (D : va_G) (r : Option am_V) (M' : am_M) : Array Value → State → Outcome → State → Prop := fun _ st oc t =>
  oc = .returned (r.map (am_up ad)) ∧ am_Wd base ad cA cl tg D M' t.heap ∧ va_F (am_A base) st t ∧ ∀ v, r = some v → am_okv v
def am_Pc (base : Nat) (ad : Int → Nat) (cA : Nat → ClassId) (cl : List vw_C) (tg : Nat → Nat → Nat) (D : va_G) (kz : am_Z) (zc : Nat → String) (zf : Nat → Nat → String × String × String × Nat) (stl : List (String × String × String × am_V)) (strl : List (String × Nat × String × Int)) (As : List am_V) (M : am_M) : Array Value → State → Prop :=
  va_Pc (As.map (am_up ad)) (fun U => am_Wd base ad cA cl tg D M U.heap ∧ am_K base ad cA D cl kz zc zf stl strl U U.heap)
def am_sl (As : List am_V) : am_L := As.flatMap (fun v => if am_cat v = 2 then [some v, none] else [some v])
theorem am_sl_len (ad : Int → Nat) (As : List am_V) : (lg_sl (As.map (am_up ad))).length = (As.map am_cat).sum ∧ (am_sl As).length = (As.map am_cat).sum := by
  induction As with
  | nil => exact ⟨rfl, rfl⟩
  | cons a t ih =>
    have e1 : lg_sl ((a :: t).map (am_up ad)) = (if (am_up ad a).category = 2 then [.val (am_up ad a), .second] else [.val (am_up ad a)]) ++ lg_sl (t.map (am_up ad)) := rfl
    have e2 : am_sl (a :: t) = (if am_cat a = 2 then [some a, none] else [some a]) ++ am_sl t := rfl
    rw [e1, e2, am_up_cat]
    have : (List.map am_cat (a :: t)).sum = am_cat a + (List.map am_cat t).sum := by simp
    rw [this, List.length_append, List.length_append, ih.1, ih.2]
    by_cases h : am_cat a = 2
    · rw [if_pos h, if_pos h, h]; exact ⟨rfl, rfl⟩
    · rw [if_neg h, if_neg h, am_cat_1 h]; exact ⟨rfl, rfl⟩
theorem am_sl_at (ad : Int → Nat) : ∀ (As : List am_V) (i0 i : Nat) (v : am_V), (am_sl As)[i]? = some (some v) → (i0 + i, am_up ad v) ∈ lv_args i0 (As.map (am_up ad)) ∧ v ∈ As := by
  intro As
  induction As with
  | nil => intro i0 i v h; simp [am_sl] at h
  | cons a t ih =>
    intro i0 i v h
    have e2 : am_sl (a :: t) = (if am_cat a = 2 then [some a, none] else [some a]) ++ am_sl t := rfl
    have e3 : lv_args i0 ((a :: t).map (am_up ad)) = (i0, am_up ad a) :: lv_args (if (am_up ad a).category = 2 then i0 + 2 else i0 + 1) (t.map (am_up ad)) := rfl
    rw [e2] at h
    rw [e3, am_up_cat]
    by_cases hc : am_cat a = 2
    · rw [if_pos hc] at h ⊢
      match i, h with
      | 0, h => simp at h; subst h; exact ⟨List.mem_cons_self, List.mem_cons_self⟩
      | 1, h => simp at h
      | j + 2, h =>
        rw [List.getElem?_append_right (by simp)] at h
        obtain ⟨h1, h2⟩ := ih (i0 + 2) j v (by simpa using h)
        exact ⟨List.mem_cons_of_mem _ (by rw [show i0 + (j + 2) = i0 + 2 + j by omega]; exact h1), List.mem_cons_of_mem _ h2⟩
    · rw [if_neg hc] at h ⊢
      match i, h with
      | 0, h => simp at h; subst h; exact ⟨List.mem_cons_self, List.mem_cons_self⟩
      | j + 1, h =>
        rw [List.getElem?_append_right (by simp)] at h
        obtain ⟨h1, h2⟩ := ih (i0 + 1) j v (by simpa using h)
        exact ⟨List.mem_cons_of_mem _ (by rw [show i0 + (j + 1) = i0 + 1 + j by omega]; exact h1), List.mem_cons_of_mem _ h2⟩
theorem am_entry_LV {ad : Int → Nat} {As : List am_V} {n : Nat} (hn : (As.map am_cat).sum ≤ n) (ho : ∀ v ∈ As, am_okv v) : am_LV ad ((lg_sl (As.map (am_up ad)) ++ List.replicate (n - (lg_sl (As.map (am_up ad))).length) Slot.unset).toArray) n (am_entry As n) := by
  obtain ⟨e1, e2⟩ := am_sl_len ad As
  have hl := lv_entry (As.map (am_up ad)) (n := n) (by rw [e1]; exact hn)
  have e3 : am_entry As n = am_sl As ++ List.replicate (n - (am_sl As).length) none := rfl
  refine ⟨hl.1, hl.2.1, by rw [e3]; simp; omega, fun i v h => ?_⟩
  rw [e3] at h
  by_cases hi : i < (am_sl As).length
  · rw [List.getElem?_append_left hi] at h
    obtain ⟨h1, h2⟩ := am_sl_at ad As 0 i v h
    rw [Nat.zero_add] at h1
    exact ⟨hl.2.2 _ h1, ho v h2⟩
  · rw [List.getElem?_append_right (by omega), List.getElem?_replicate] at h
    split at h <;> cases h
section AMK
variable (l : Launch) (base : Nat) (ad : Int → Nat) (cA : Nat → ClassId) (cl : List vw_C) (tg : Nat → Nat → Nat) (D : va_G) (kz : am_Z) (zc : Nat → String) (zf : Nat → Nat → String × String × String × Nat) (stl : List (String × String × String × am_V)) (strl : List (String × Nat × String × Int)) (tb : List Cond) (mt : Nat → MethodName × ByteArray × Nat × Option FieldType)
/-- what is fixed while a frame of method mi runs -/
def am_Cx (p : Program) (s : State) (m : MethodId) (args : Array Value) (meth : Method) (c0 : Code) (mi : Nat) : Prop :=
  p.tables.exec = Jvm.exec ∧ c0.code = (mt mi).2.1 ∧ c0.maxLocals = (mt mi).2.2.1 ∧ s.vm.findClass (mt mi).1.cls = some m.cls ∧ (∀ w ∈ tb, w.before args s = true) ∧ meth.sig.returnType = (mt mi).2.2.2 ∧ meth.locks = false ∧ meth.name = (mt mi).1.name ∧ am_K base ad cA D cl kz zc zf stl strl s s.heap
/-- from a state of the small machine the large one comes to the same end -/
def am_Good (σ : am_S) (r : Option am_V) (M' : am_M) : Prop := match σ with
  | (d, mi, pc, L, st, M) => (M.1 <+: M'.1) ∧ ∀ (p : Program) (e : Env) (s : State) (m : MethodId) (args : Array Value) (below : List Frame) (meth : Method) (c0 : Code) (H : Heap) (locs : List Loc) (ls : Array Slot) (R : Room) (cells slots k0 j0 mc ms : Nat),
      am_Cx base ad cA cl D kz zc zf stl strl tb mt p s m args meth c0 mi → am_LV ad ls (mt mi).2.2.1 L → (∀ v ∈ st, am_okv v) → am_Wd base ad cA cl tg D M H → va_S (am_A base) s.heap H locs →
      d ≤ R.frames → 41 * d ≤ R.locals → cells + k0 = am_ix M.1.length → slots + j0 = am_sum M → mc + k0 = am_ix M'.1.length → ms + j0 = am_sum M' → mc ≤ R.cells → ms ≤ R.slots →
      W p l e R s m args below meth c0 H locs cells slots (MQ below (am_Qc base ad cA cl tg D r M') args s mc ms (am_A base)) (F0 m pc ls (st.map (am_up ad)))
end AMK
section AML
variable {l : Launch} {base : Nat} {ad : Int → Nat} {cA : Nat → ClassId} {cl : List vw_C} {tg : Nat → Nat → Nat} {D : va_G} {kz : am_Z} {zc : Nat → String} {zf : Nat → Nat → String × String × String × Nat} {stl : List (String × String × String × am_V)} {strl : List (String × Nat × String × Int)} {tb : List Cond} {mt : Nat → MethodName × ByteArray × Nat × Option FieldType}
theorem am_sum_le {M M' : am_M} (h : M.1 <+: M'.1) : am_ix M.1.length ≤ am_ix M'.1.length ∧ am_sum M ≤ am_sum M' := by
  obtain ⟨t, ht⟩ := h
  refine ⟨am_ix_le ?_, ?_⟩
  · rw [← ht]; simp
  · unfold am_sum
    rw [← ht]
    simp
theorem am_Met {d a nargs : Nat} {c : Int} {As : List am_V} {M M1 : am_M} {r : Option am_V} (hc : am_okC tb mt a nargs c) (hAs : ∀ v ∈ As, am_okv v) (hn : (As.map am_cat).sum ≤ c.toNat)
    (hG : am_Good l base ad cA cl tg D kz zc zf stl strl tb mt (d, a, 0, am_entry As c.toNat, [], M) r M1) {mc ms : Nat} (hmc : mc + am_ix M.1.length = am_ix M1.1.length) (hms : ms + am_sum M = am_sum M1) :
    Met l (mt a).1 (Cond.code (mt a).1 (mt a).2.1 (mt a).2.2.1 (mt a).2.2.2 :: tb) ({ frames := d, cells := mc, slots := ms, locals := 41 * d }) (am_Pc base ad cA cl tg D kz zc zf stl strl As M) (am_Qc base ad cA cl tg D r M1) mc ms (am_A base) := by
  obtain ⟨h1, h2, h3, h4, h5, h6, h7⟩ := hc
  have ec : c.toNat = (mt a).2.2.1 := by omega
  rw [ec] at hn hG
  refine Met.ofW (cc := (mt a).2.1) (maxL := (mt a).2.2.1) (ret := (mt a).2.2.2) h5 rfl ?_
  intro p e s m args below meth c0 s₁ B hml hv
  obtain ⟨rfl, hWd, hK⟩ := hv
  have hts := atoms_spec (ws := Cond.code (mt a).1 (mt a).2.1 (mt a).2.2.1 (mt a).2.2.2 :: tb) B.pre
  rw [lg_entry_eq]
  exact hG.2 p e s m _ below meth c0 s.heap [] _ _ 0 0 (am_ix M.1.length) (am_sum M) mc ms ⟨B.exec, B.bytes, hml, findClass_of_methodNamed B.named, fun w hw => hts w (List.mem_cons_of_mem _ hw), B.returns, B.notSynchronized, (name_of_methodNamed B.named B.method).1, hK⟩ (am_entry_LV hn hAs) (fun _ h => absurd h List.not_mem_nil) hWd va_S.rf (Nat.le_refl _) (Nat.le_refl _) (by omega) (by omega) hmc hms (Nat.le_refl _) (Nat.le_refl _)
end AML
section AMQ
variable {p : Program} {l : Launch} {e : Env} {R : Room} {s : State} {m : MethodId} {args : Array Value} {below : List Frame} {meth : Method} {c0 : Code} {H : Heap} {locs : List Loc} {cells slots : Nat} {Q : State → Prop}
variable {pc : Nat} {ls : Array Slot} {base : Nat} {ad : Int → Nat} {cA : Nat → ClassId} {cl : List vw_C} {tg : Nat → Nat → Nat} {D : va_G}
theorem am_after {M1 : am_M} {r : Option am_V} {mc ms : Nat} {st0 rest : List Value} {a : Array Value} (hr : va_Run p l e R s m args below meth c0 H locs cells slots mc ms (F0 m pc ls st0) rest (am_Qc base ad cA cl tg D r M1 a) (am_A base)) (hS : va_S (am_A base) s.heap H locs)
    (kk : ∀ (H1 : Heap) (locs1 : List Loc), am_Wd base ad cA cl tg D M1 H1 → va_S (am_A base) s.heap H1 locs1 → (∀ v, r = some v → am_okv v) → W p l e R s m args below meth c0 H1 locs1 (cells + mc) (slots + ms) Q (F0 m (pc + 3) ls ((r.map (am_up ad)).toList ++ rest))) : W p l e R s m args below meth c0 H locs cells slots Q (F0 m pc ls st0) := by
  intro T hT X
  obtain ⟨v, st₀, t, T', L, h0, X', hL, e1, e2, ⟨hv, hWd, ⟨hz, hk⟩, hok⟩, st⟩ := hr T hT X
  cases hv
  rw [h0] at hz hk
  rw [← e1] at hWd hz hk
  obtain ⟨t2, a1, b1⟩ := kk T'.heap (locs ++ L) hWd
    ⟨Nat.le_trans hS.1 hz, fun q h1 h2 => by rw [hk q (Nat.lt_of_lt_of_le h1 hS.1) h2]; exact hS.2.1 q h1 h2, fun q hq => by
      rcases List.mem_append.mp hq with h | h
      · exact hS.2.2 q h
      · exact hL q h⟩ hok T' rfl X'
  exact ⟨t2, st t2 a1, b1⟩
end AMQ
