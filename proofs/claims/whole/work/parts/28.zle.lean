/-! locals that nobody reads: what runs with them unset runs with them set -/
def am_le : am_L → am_L → Prop
  | [], [] => True
  | none :: L, _ :: L' => am_le L L'
  | some v :: L, w :: L' => w = some v ∧ am_le L L'
  | _, _ => False
theorem am_le_len : ∀ {L L' : am_L}, am_le L L' → L.length = L'.length
  | [], [], _ => rfl
  | [], _ :: _, h => h.elim
  | none :: _, [], h => h.elim
  | some _ :: _, [], h => h.elim
  | none :: L, _ :: L', h => by simp only [List.length_cons]; rw [am_le_len (L := L) (L' := L') h]
  | some _ :: L, _ :: L', h => by simp only [List.length_cons]; rw [am_le_len (L := L) (L' := L') h.2]
theorem am_le_get : ∀ {L L' : am_L}, am_le L L' → ∀ {i : Nat} {v : am_V}, L[i]? = some (some v) → L'[i]? = some (some v)
  | [], [], _, i, v, h => h
  | [], _ :: _, h, _, _, _ => h.elim
  | none :: _, [], h, _, _, _ => h.elim
  | some _ :: _, [], h, _, _, _ => h.elim
  | none :: L, w :: L', h, 0, v, e => by simp at e
  | none :: L, w :: L', h, i + 1, v, e => by
    simp only [List.getElem?_cons_succ] at e ⊢
    exact am_le_get (L := L) (L' := L') h e
  | some u :: L, w :: L', h, 0, v, e => by
    simp only [List.getElem?_cons_zero] at e ⊢
    rw [h.1]; exact e
  | some u :: L, w :: L', h, i + 1, v, e => by
    simp only [List.getElem?_cons_succ] at e ⊢
    exact am_le_get (L := L) (L' := L') h.2 e
theorem am_le_set : ∀ {L L' : am_L}, am_le L L' → ∀ (i : Nat) (x : Option am_V), am_le (L.set i x) (L'.set i x)
  | [], [], _, _, _ => trivial
  | [], _ :: _, h, _, _ => h.elim
  | none :: _, [], h, _, _ => h.elim
  | some _ :: _, [], h, _, _ => h.elim
  | none :: L, w :: L', h, 0, none => h
  | none :: L, w :: L', h, 0, some v => ⟨rfl, h⟩
  | none :: L, w :: L', h, i + 1, x => am_le_set (L := L) (L' := L') h i x
  | some u :: L, w :: L', h, 0, none => h.2
  | some u :: L, w :: L', h, 0, some v => ⟨rfl, h.2⟩
  | some u :: L, w :: L', h, i + 1, x => ⟨h.1, am_le_set (L := L) (L' := L') h.2 i x⟩
theorem am_le_setr : ∀ {L L' : am_L}, am_le L L' → ∀ (i : Nat) (x : Option am_V), (∀ v, L[i]? ≠ some (some v)) → am_le L (L'.set i x)
  | [], [], _, _, _, _ => trivial
  | [], _ :: _, h, _, _, _ => h.elim
  | none :: _, [], h, _, _, _ => h.elim
  | some _ :: _, [], h, _, _, _ => h.elim
  | none :: L, w :: L', h, 0, x, _ => h
  | none :: L, w :: L', h, i + 1, x, e => am_le_setr (L := L) (L' := L') h i x (fun v q => e v (by simpa using q))
  | some u :: L, w :: L', h, 0, x, e => absurd rfl (e u)
  | some u :: L, w :: L', h, i + 1, x, e => ⟨h.1, am_le_setr (L := L) (L' := L') h.2 i x (fun v q => e v (by simpa using q))⟩
theorem am_cut_s (L : am_L) (j : Nat) : am_cut L (j + 1) = (match L[j]? with | some (some (.inr (.inl _))) => L.set j none | _ => L) := rfl
theorem am_le_cut {L L' : am_L} (h : am_le L L') : ∀ i, am_le (am_cut L i) (am_cut L' i)
  | 0 => h
  | j + 1 => by
    rw [am_cut_s, am_cut_s]
    cases e : L[j]? with
    | none =>
      have : L'[j]? = none := by
        rw [List.getElem?_eq_none_iff] at e ⊢
        rw [← am_le_len h]; exact e
      rw [this]; exact h
    | some o =>
      cases o with
      | some v =>
        rw [am_le_get h e]
        rcases v with v | v | v
        · exact h
        · exact am_le_set h _ _
        · exact h
      | none =>
        show am_le L _
        split
        · exact am_le_setr h _ _ (fun v q => by rw [e] at q; cases q)
        · exact h
theorem am_le_st1 {L L' : am_L} (h : am_le L L') (i : Nat) (v : am_V) : am_le (am_st1 L i v) (am_st1 L' i v) := am_le_set (am_le_cut h i) _ _
theorem am_le_st2 {L L' : am_L} (h : am_le L L') (i : Nat) (v : am_V) : am_le (am_st2 L i v) (am_st2 L' i v) := am_le_set (am_le_set (am_le_cut h i) _ _) _ _
section AML
variable {L L' : am_L} {st : List am_V} {q : am_L × List am_V} {f : Int → Int → Int} {g : Int → Int}
def am_same (F : am_L → List am_V → Option (am_L × List am_V)) : Prop := ∀ L st q, F L st = some q → ∀ L', am_le L L' → ∃ L1, F L' st = some (L1, q.2) ∧ am_le q.1 L1
theorem am_same_of {F : am_L → List am_V → Option (am_L × List am_V)} (h : ∀ L st q, F L st = some q → q.1 = L ∧ ∀ L', F L' st = some (L', q.2)) : am_same F := fun L st q e L' hl => by
  obtain ⟨h1, h2⟩ := h L st q e
  exact ⟨L', h2 L', by rw [h1]; exact hl⟩
theorem sm_b32 : am_same (am_b32 f) := am_same_of (fun L st q e => by unfold am_b32 at e ⊢; split at e <;> cases e <;> simp)
theorem sm_q32 : am_same (am_q32 f) := am_same_of (fun L st q e => by
  unfold am_q32 at e ⊢
  split at e
  · split at e
    · cases e
    · rename_i h0; cases e; simp [h0]
  · cases e)
theorem sm_b64 : am_same (am_b64 f) := am_same_of (fun L st q e => by unfold am_b64 at e ⊢; split at e <;> cases e <;> simp)
theorem sm_q64 : am_same (am_q64 f) := am_same_of (fun L st q e => by
  unfold am_q64 at e ⊢
  split at e
  · split at e
    · cases e
    · rename_i h0; cases e; simp [h0]
  · cases e)
theorem sm_s64 : am_same (am_s64 f) := am_same_of (fun L st q e => by unfold am_s64 at e ⊢; split at e <;> cases e <;> simp)
theorem sm_c64 : am_same (am_c64 f) := am_same_of (fun L st q e => by unfold am_c64 at e ⊢; split at e <;> cases e <;> simp)
theorem sm_u32 : am_same (am_u32 g) := am_same_of (fun L st q e => by unfold am_u32 at e ⊢; split at e <;> cases e <;> simp)
theorem sm_ul : am_same am_ul := am_same_of (fun L st q e => by unfold am_ul at e ⊢; split at e <;> cases e <;> simp)
theorem sm_li : am_same am_li := am_same_of (fun L st q e => by unfold am_li at e ⊢; split at e <;> cases e <;> simp)
theorem sm_u64 : am_same (am_u64 g) := am_same_of (fun L st q e => by unfold am_u64 at e ⊢; split at e <;> cases e <;> simp)
theorem sm_dup : am_same am_dup := am_same_of (fun L st q e => by
  unfold am_dup at e ⊢
  split at e
  · split at e
    · rename_i h0; cases e; simp [h0]
    · cases e
  · cases e)
theorem sm_pop : am_same am_pop := am_same_of (fun L st q e => by
  unfold am_pop at e ⊢
  split at e
  · split at e
    · rename_i h0; cases e; simp [h0]
    · cases e
  · cases e)
theorem sm_dup2 : am_same am_dup2 := am_same_of (fun L st q e => by
  unfold am_dup2 at e ⊢
  split at e
  · split at e
    · rename_i h0; cases e; simp [h0]
    · rename_i h0
      split at e
      · split at e
        · rename_i h1; cases e; simp [h0, h1]
        · cases e
      · cases e
  · cases e)
theorem sm_c {v : am_V} : am_same (fun L st => some (L, v :: st)) := am_same_of (fun L st q e => by cases e; simp)
theorem sm_ldi (a : Nat) : am_same (am_ldi a) := fun L st q e L' hl => by
  unfold am_ldi at e ⊢
  split at e
  · rename_i x hx; cases e; rw [am_le_get hl hx]; exact ⟨L', rfl, hl⟩
  · cases e
theorem sm_ldl (a : Nat) : am_same (am_ldl a) := fun L st q e L' hl => by
  unfold am_ldl at e ⊢
  split at e
  · rename_i x hx; cases e; rw [am_le_get hl hx]; exact ⟨L', rfl, hl⟩
  · cases e
theorem sm_lda (a : Nat) : am_same (am_lda a) := fun L st q e L' hl => by
  unfold am_lda at e ⊢
  split at e
  · rename_i x hx
    rw [am_le_get hl hx]
    simp only
    split at e
    · cases e
    · rename_i h0; cases e; rw [if_neg h0]; exact ⟨L', rfl, hl⟩
  · cases e
theorem sm_sti (a : Nat) : am_same (am_sti a) := fun L st q e L' hl => by
  unfold am_sti at e ⊢
  split at e
  · split at e
    · rename_i h0; cases e; rw [am_le_len hl] at h0; simp only [if_pos h0]; exact ⟨_, rfl, am_le_st1 hl _ _⟩
    · cases e
  · cases e
theorem sm_sta (a : Nat) : am_same (am_sta a) := fun L st q e L' hl => by
  unfold am_sta at e ⊢
  split at e
  · split at e
    · rename_i h0; cases e; rw [am_le_len hl] at h0; simp only [if_pos h0]; exact ⟨_, rfl, am_le_st1 hl _ _⟩
    · cases e
  · cases e
theorem sm_stl (a : Nat) : am_same (am_stl a) := fun L st q e L' hl => by
  unfold am_stl at e ⊢
  split at e
  · split at e
    · rename_i h0; cases e; rw [am_le_len hl] at h0; simp only [if_pos h0]; exact ⟨_, rfl, am_le_st2 hl _ _⟩
    · cases e
  · cases e
theorem sm_inc (a : Nat) (c : Int) : am_same (am_inc a c) := fun L st q e L' hl => by
  unfold am_inc at e ⊢
  split at e
  · rename_i x hx; cases e; rw [am_le_get hl hx]; exact ⟨_, rfl, am_le_st1 hl _ _⟩
  · cases e
theorem sm_pure (ins : Instr) (a : Nat) (c : Int) : am_same (am_pure ins a c) := by
  cases ins <;> first
    | exact sm_c | exact sm_ldi a | exact sm_ldl a | exact sm_lda a | exact sm_sti a | exact sm_stl a | exact sm_sta a | exact sm_inc a c
    | exact sm_dup | exact sm_dup2 | exact sm_pop | exact sm_b32 | exact sm_q32 | exact sm_b64 | exact sm_q64 | exact sm_s64 | exact sm_c64 | exact sm_u32 | exact sm_ul | exact sm_li | exact sm_u64
    | exact (fun L st q e => by cases e)
end AML
set_option maxHeartbeats 4000000 in
/-- one step -/
theorem am_step_le {cd : Nat → Nat → Option am_I} {rk : Nat → Nat} {kz : am_Z} {k : am_S → am_R} (hk : ∀ d mi pc L L' st M r, am_le L L' → k (d, mi, pc, L, st, M) = some r → k (d, mi, pc, L', st, M) = some r) : ∀ d mi pc L L' st M r, am_le L L' → am_step cd rk kz k (d, mi, pc, L, st, M) = some r → am_step cd rk kz k (d, mi, pc, L', st, M) = some r := by
  intro d mi pc L L' st M r hl hs
  have go : ∀ {d mi pc : Nat} {M : am_M} {o : Option (List am_V)}, am_go k d mi pc L M o = some r → am_go k d mi pc L' M o = some r := fun {d mi pc M o} h => by
    cases o with
    | none => cases h
    | some st => exact hk _ _ _ _ _ _ _ _ hl h
  have goM : ∀ {d mi pc : Nat} {o : Option (List am_V × am_M)}, am_goM k d mi pc L o = some r → am_goM k d mi pc L' o = some r := fun {d mi pc o} h => by
    cases o with
    | none => cases h
    | some q => exact hk _ _ _ _ _ _ _ _ hl h
  have goB : ∀ {d mi pc pt : Nat} {M : am_M} {o : Option (Bool × List am_V)}, am_goB k d mi pc pt L M o = some r → am_goB k d mi pc pt L' M o = some r := fun {d mi pc pt M o} h => by
    cases o with
    | none => cases h
    | some q =>
      obtain ⟨b, st⟩ := q
      cases b
      · exact hk _ _ _ _ _ _ _ _ hl h
      · exact hk _ _ _ _ _ _ _ _ hl h
  have call : ∀ {d mi pc a : Nat} {c : Int} {As rest : List am_V} {M : am_M}, am_call k d mi pc a c L As rest M = some r → am_call k d mi pc a c L' As rest M = some r := fun {d mi pc a c As rest M} h => by
    obtain ⟨r, M'⟩ := r
    obtain ⟨d', r1, M1, rfl, hcat, hAc, h1, h2⟩ := am_call_inv h
    unfold am_call
    simp only
    rw [if_pos ⟨hcat, hAc⟩, h1]
    exact hk _ _ _ _ _ _ _ _ hl h2
  unfold am_step at hs ⊢
  simp only at hs ⊢
  cases hcd : cd mi pc with
  | none => rw [hcd] at hs; cases hs
  | some ai =>
    obtain ⟨len, ins, a, b, c⟩ := ai
    rw [hcd] at hs
    simp only at hs ⊢
    have pu : am_goL k d mi (pc + len) M (am_pure ins a c L st) = some r → am_goL k d mi (pc + len) M (am_pure ins a c L' st) = some r := by
      intro h
      cases e : am_pure ins a c L st with
      | none => rw [e] at h; cases h
      | some q =>
        rw [e] at h
        obtain ⟨L1, e1, e2⟩ := sm_pure ins a c L st q e L' hl
        rw [e1]
        exact hk _ _ _ _ _ _ _ _ e2 h
    cases ins
    case goto => exact hk _ _ _ _ _ _ _ _ hl hs
    case ifCond => exact goB hs
    case if_icmp => exact goB hs
    case getfield => exact go hs
    case putfield => exact goM hs
    case iaload => exact go hs
    case laload => exact go hs
    case baload => exact go hs
    case aaload => exact go hs
    case arraylength => exact go hs
    case iastore => exact goM hs
    case lastore => exact goM hs
    case bastore => exact goM hs
    case getstatic => exact hk _ _ _ _ _ _ _ _ hl hs
    case new => exact hk _ _ _ _ _ _ _ _ hl hs
    case newarray => exact goM hs
    case multianewarray => exact goM hs
    case invokestatic =>
      simp only at hs ⊢
      split at hs
      · rename_i ha; rw [if_pos ha]; exact goM hs
      · rename_i ha
        rw [if_neg ha]
        split at hs
        · rename_i hb; rw [if_pos hb]; exact go hs
        · rename_i hb
          rw [if_neg hb]
          split at hs
          · rename_i hc; rw [if_pos hc]; exact call hs
          · cases hs
    case invokevirtual =>
      simp only at hs ⊢
      split at hs
      · rename_i x rest hsd
        split at hs
        · rename_i so n f hce
          split at hs
          · rename_i hso; rw [if_pos hso]; exact call hs
          · cases hs
        · cases hs
      · cases hs
    case invokespecial =>
      simp only at hs ⊢
      split at hs
      · rename_i x rest hsd
        split at hs
        · rename_i ha
          rw [if_pos ha]
          split at hs
          · cases hs
          · split at hs
            · rename_i hq; rw [if_pos hq]; exact hk _ _ _ _ _ _ _ _ hl hs
            · cases hs
        · rename_i ha
          rw [if_neg ha]
          split at hs
          · rename_i hq; rw [if_pos hq]; exact call hs
          · cases hs
      · cases hs
    case tableswitch =>
      simp only at hs ⊢
      split at hs
      · split at hs
        · exact hk _ _ _ _ _ _ _ _ hl hs
        · cases hs
      · cases hs
    case lookupswitch =>
      simp only at hs ⊢
      split at hs
      · exact hk _ _ _ _ _ _ _ _ hl hs
      · cases hs
    case ireturn => exact hs
    case lreturn => exact hs
    case return_ => exact hs
    all_goals exact pu hs
theorem am_exec_le {cd : Nat → Nat → Option am_I} {rk : Nat → Nat} {kz : am_Z} : ∀ n d mi pc L L' st M r, am_le L L' → am_exec cd rk kz n (d, mi, pc, L, st, M) = some r → am_exec cd rk kz n (d, mi, pc, L', st, M) = some r := by
  intro n
  induction n with
  | zero => intro d mi pc L L' st M r _ h; cases h
  | succ n ih => exact am_step_le ih
theorem ev_le {kz : am_Z} {d mi pc : Nat} {L L' : am_L} {st : List am_V} {M : am_M} {R : Option am_V × am_M} (hl : am_le L L') (h : Ev kz (d, mi, pc, L, st, M) R) : Ev kz (d, mi, pc, L', st, M) R := by
  obtain ⟨n, hn⟩ := h
  exact ⟨n, am_exec_le _ _ _ _ _ _ _ _ _ hl hn⟩
