/-! the small machine's values and locals beside the large one's -/
def am_up (ad : Int → Nat) : am_V → Value
  | .inl x => .int (Int32.ofInt x)
  | .inr (.inl x) => .long (Int64.ofInt x)
  | .inr (.inr r) => if r = 0 then .null else if r = -8 then (match ad (-8) with | 0 => .null | k + 1 => .ref k) else .ref (ad r)
def am_okv : am_V → Prop
  | .inl x => in32 x
  | .inr (.inl x) => in64 x
  | .inr (.inr _) => True
theorem am_up_ref {ad : Int → Nat} {r : Int} (h : r ≠ 0 ∧ r ≠ -8) : am_up ad (.inr (.inr r)) = .ref (ad r) := by simp [am_up, h.1, h.2]
/-- a reference's value is null or a cell -/
theorem am_up_nr (ad : Int → Nat) (r : Int) : am_up ad (.inr (.inr r)) = .null ∨ ∃ a, am_up ad (.inr (.inr r)) = .ref a := by
  by_cases h : r = 0
  · exact Or.inl (by simp [am_up, h])
  · by_cases h8 : r = -8
    · subst h8
      have e : am_up ad (.inr (.inr (-8))) = (match ad (-8) with | 0 => .null | k + 1 => .ref k) := rfl
      rw [e]
      cases ad (-8) with
      | zero => exact Or.inl rfl
      | succ k => exact Or.inr ⟨k, rfl⟩
    · exact Or.inr ⟨_, am_up_ref ⟨h, h8⟩⟩
theorem am_up_cat (ad : Int → Nat) (v : am_V) : (am_up ad v).category = am_cat v := by
  rcases v with x | x | r
  · rfl
  · rfl
  · rcases am_up_nr ad r with h | ⟨a, h⟩ <;> rw [h] <;> rfl
def am_LV (ad : Int → Nat) (ls : Array Slot) (nL : Nat) (L : am_L) : Prop := ls.size = nL ∧ lv_wf ls ∧ L.length = nL ∧ ∀ (i : Nat) (v : am_V), L[i]? = some (some v) → ls[i]? = some (.val (am_up ad v)) ∧ am_okv v
def am_as (ad : Int → Nat) (L : am_L) : List (Nat × Value) := (List.range L.length).filterMap (fun j => match L[j]? with
  | some (some v) => some (j, am_up ad v)
  | _ => none)
theorem am_as_mem {ad : Int → Nat} {L : am_L} {q : Nat × Value} : q ∈ am_as ad L ↔ ∃ v, L[q.1]? = some (some v) ∧ q.2 = am_up ad v := by
  unfold am_as
  rw [List.mem_filterMap]
  constructor
  · rintro ⟨j, hj, h⟩
    split at h
    · rename_i v e
      cases h
      exact ⟨v, e, rfl⟩
    · cases h
  · rintro ⟨v, h1, h2⟩
    refine ⟨q.1, List.mem_range.mpr (List.getElem?_eq_some_iff.mp h1).1, ?_⟩
    rw [h1]
    simp only
    rw [← h2]
theorem am_LV.has {ad : Int → Nat} {ls : Array Slot} {nL : Nat} {L : am_L} (h : am_LV ad ls nL L) : lv_has ls nL (am_as ad L) := by
  refine ⟨h.1, h.2.1, fun q hq => ?_⟩
  obtain ⟨v, h1, h2⟩ := am_as_mem.mp hq
  rw [h2]
  exact (h.2.2.2 _ _ h1).1
theorem am_cut_len (L : am_L) (i : Nat) : (am_cut L i).length = L.length := by
  cases i with
  | zero => rfl
  | succ j =>
    have e0 : am_cut L (j + 1) = (match L[j]? with
      | some (some (.inr (.inl _))) => L.set j none
      | _ => L) := rfl
    rw [e0]
    split
    · exact List.length_set
    · rfl
theorem am_cut_at {L : am_L} {i j : Nat} {w : am_V} (h : (am_cut L i)[j]? = some (some w)) : L[j]? = some (some w) ∧ ¬ (j + 1 = i ∧ am_cat w = 2) := by
  cases i with
  | zero => exact ⟨h, by omega⟩
  | succ k =>
    have e0 : am_cut L (k + 1) = (match L[k]? with
      | some (some (.inr (.inl _))) => L.set k none
      | _ => L) := rfl
    rw [e0] at h
    split at h
    · rename_i x e
      by_cases hj : j = k
      · subst hj
        rw [List.getElem?_set_self (List.getElem?_eq_some_iff.mp e).1] at h
        cases h
      · rw [List.getElem?_set_ne (by omega)] at h
        exact ⟨h, by omega⟩
    · rename_i e
      refine ⟨h, ?_⟩
      rintro ⟨h1, h2⟩
      have h1 : j = k := by omega
      subst h1
      rcases w with x | x | r
      · cases h2
      · exact e x h
      · cases h2
theorem am_LV_st1 {ad : Int → Nat} {ls ls' : Array Slot} {nL i : Nat} {L : am_L} {v : am_V} (h : am_LV ad ls nL L) (hi : i < nL) (hv : am_okv v)
    (h' : lv_has ls' nL ((i, am_up ad v) :: (am_as ad L).filter (fun q => !(q.1 == i) && !(q.1 + 1 == i && q.2.category == 2)))) : am_LV ad ls' nL (am_st1 L i v) := by
  refine ⟨h'.1, h'.2.1, by simp [am_st1, am_cut_len, h.2.2.1], fun j w hj => ?_⟩
  unfold am_st1 at hj
  by_cases e : j = i
  · subst e
    rw [List.getElem?_set_self (by rw [am_cut_len, h.2.2.1]; exact hi)] at hj
    cases hj
    exact ⟨h'.2.2 (j, am_up ad v) List.mem_cons_self, hv⟩
  · rw [List.getElem?_set_ne (by omega)] at hj
    obtain ⟨h1, h2⟩ := am_cut_at hj
    refine ⟨h'.2.2 (j, am_up ad w) (List.mem_cons_of_mem _ (List.mem_filter.mpr ⟨am_as_mem.mpr ⟨w, h1, rfl⟩, ?_⟩)), (h.2.2.2 _ _ h1).2⟩
    simp only [am_up_cat]
    simp [e]
    omega
theorem am_LV_st2 {ad : Int → Nat} {ls ls' : Array Slot} {nL i : Nat} {L : am_L} {v : am_V} (h : am_LV ad ls nL L) (hi : i + 1 < nL) (hv : am_okv v)
    (h' : lv_has ls' nL ((i, am_up ad v) :: (am_as ad L).filter (fun q => !(q.1 == i) && (!(q.1 == i + 1) && !(q.1 + 1 == i && q.2.category == 2))))) : am_LV ad ls' nL (am_st2 L i v) := by
  refine ⟨h'.1, h'.2.1, by simp [am_st2, am_cut_len, h.2.2.1], fun j w hj => ?_⟩
  unfold am_st2 at hj
  by_cases e : j = i
  · subst e
    rw [List.getElem?_set_self (by rw [List.length_set, am_cut_len, h.2.2.1]; omega)] at hj
    cases hj
    exact ⟨h'.2.2 (j, am_up ad v) List.mem_cons_self, hv⟩
  · rw [List.getElem?_set_ne (by omega)] at hj
    by_cases e2 : j = i + 1
    · subst e2
      rw [List.getElem?_set_self (by rw [am_cut_len, h.2.2.1]; omega)] at hj
      cases hj
    · rw [List.getElem?_set_ne (by omega)] at hj
      obtain ⟨h1, h2⟩ := am_cut_at hj
      refine ⟨h'.2.2 (j, am_up ad w) (List.mem_cons_of_mem _ (List.mem_filter.mpr ⟨am_as_mem.mpr ⟨w, h1, rfl⟩, ?_⟩)), (h.2.2.2 _ _ h1).2⟩
      simp only [am_up_cat]
      simp [e, e2]
      omega
/-! what the helpers' success says -/
theorem am_b32_inv {f : Int → Int → Int} {L L' : am_L} {st st' : List am_V} (h : am_b32 f L st = some (L', st')) : ∃ x y t, st = .inl y :: .inl x :: t ∧ L' = L ∧ st' = .inl (f x y) :: t := by
  unfold am_b32 at h; split at h <;> cases h; exact ⟨_, _, _, rfl, rfl, rfl⟩
theorem am_q32_inv {f : Int → Int → Int} {L L' : am_L} {st st' : List am_V} (h : am_q32 f L st = some (L', st')) : ∃ x y t, y ≠ 0 ∧ st = .inl y :: .inl x :: t ∧ L' = L ∧ st' = .inl (f x y) :: t := by
  unfold am_q32 at h; split at h
  · split at h <;> cases h; exact ⟨_, _, _, by assumption, rfl, rfl, rfl⟩
  · cases h
theorem am_b64_inv {f : Int → Int → Int} {L L' : am_L} {st st' : List am_V} (h : am_b64 f L st = some (L', st')) : ∃ x y t, st = .inr (.inl y) :: .inr (.inl x) :: t ∧ L' = L ∧ st' = .inr (.inl (f x y)) :: t := by
  unfold am_b64 at h; split at h <;> cases h; exact ⟨_, _, _, rfl, rfl, rfl⟩
theorem am_q64_inv {f : Int → Int → Int} {L L' : am_L} {st st' : List am_V} (h : am_q64 f L st = some (L', st')) : ∃ x y t, y ≠ 0 ∧ st = .inr (.inl y) :: .inr (.inl x) :: t ∧ L' = L ∧ st' = .inr (.inl (f x y)) :: t := by
  unfold am_q64 at h; split at h
  · split at h <;> cases h; exact ⟨_, _, _, by assumption, rfl, rfl, rfl⟩
  · cases h
theorem am_s64_inv {f : Int → Int → Int} {L L' : am_L} {st st' : List am_V} (h : am_s64 f L st = some (L', st')) : ∃ x y t, st = .inl y :: .inr (.inl x) :: t ∧ L' = L ∧ st' = .inr (.inl (f x y)) :: t := by
  unfold am_s64 at h; split at h <;> cases h; exact ⟨_, _, _, rfl, rfl, rfl⟩
theorem am_c64_inv {f : Int → Int → Int} {L L' : am_L} {st st' : List am_V} (h : am_c64 f L st = some (L', st')) : ∃ x y t, st = .inr (.inl y) :: .inr (.inl x) :: t ∧ L' = L ∧ st' = .inl (f x y) :: t := by
  unfold am_c64 at h; split at h <;> cases h; exact ⟨_, _, _, rfl, rfl, rfl⟩
theorem am_u32_inv {f : Int → Int} {L L' : am_L} {st st' : List am_V} (h : am_u32 f L st = some (L', st')) : ∃ x t, st = .inl x :: t ∧ L' = L ∧ st' = .inl (f x) :: t := by
  unfold am_u32 at h; split at h <;> cases h; exact ⟨_, _, rfl, rfl, rfl⟩
theorem am_u64_inv {f : Int → Int} {L L' : am_L} {st st' : List am_V} (h : am_u64 f L st = some (L', st')) : ∃ x t, st = .inr (.inl x) :: t ∧ L' = L ∧ st' = .inr (.inl (f x)) :: t := by
  unfold am_u64 at h; split at h <;> cases h; exact ⟨_, _, rfl, rfl, rfl⟩
theorem am_ul_inv {L L' : am_L} {st st' : List am_V} (h : am_ul L st = some (L', st')) : ∃ x t, st = .inl x :: t ∧ L' = L ∧ st' = .inr (.inl x) :: t := by
  unfold am_ul at h; split at h <;> cases h; exact ⟨_, _, rfl, rfl, rfl⟩
theorem am_li_inv {L L' : am_L} {st st' : List am_V} (h : am_li L st = some (L', st')) : ∃ x t, st = .inr (.inl x) :: t ∧ L' = L ∧ st' = .inl (w32 x) :: t := by
  unfold am_li at h; split at h <;> cases h; exact ⟨_, _, rfl, rfl, rfl⟩
theorem am_ldi_inv {a : Nat} {L L' : am_L} {st st' : List am_V} (h : am_ldi a L st = some (L', st')) : ∃ x, L[a]? = some (some (.inl x)) ∧ L' = L ∧ st' = .inl x :: st := by
  unfold am_ldi at h; split at h <;> cases h; exact ⟨_, by assumption, rfl, rfl⟩
theorem am_ldl_inv {a : Nat} {L L' : am_L} {st st' : List am_V} (h : am_ldl a L st = some (L', st')) : ∃ x, L[a]? = some (some (.inr (.inl x))) ∧ L' = L ∧ st' = .inr (.inl x) :: st := by
  unfold am_ldl at h; split at h <;> cases h; exact ⟨_, by assumption, rfl, rfl⟩
theorem am_lda_inv {a : Nat} {L L' : am_L} {st st' : List am_V} (h : am_lda a L st = some (L', st')) : ∃ x, (x ≠ 0 ∧ x ≠ -8) ∧ L[a]? = some (some (.inr (.inr x))) ∧ L' = L ∧ st' = .inr (.inr x) :: st := by
  unfold am_lda at h; split at h
  · split at h
    · cases h
    · rename_i q; cases h; exact ⟨_, not_or.mp q, by assumption, rfl, rfl⟩
  · cases h
theorem am_sti_inv {a : Nat} {L L' : am_L} {st st' : List am_V} (h : am_sti a L st = some (L', st')) : ∃ x, a < L.length ∧ st = .inl x :: st' ∧ L' = am_st1 L a (.inl x) := by
  unfold am_sti at h; split at h
  · split at h <;> cases h; exact ⟨_, by assumption, rfl, rfl⟩
  · cases h
theorem am_sta_inv {a : Nat} {L L' : am_L} {st st' : List am_V} (h : am_sta a L st = some (L', st')) : ∃ x, (x ≠ 0 ∧ x ≠ -8) ∧ a < L.length ∧ st = .inr (.inr x) :: st' ∧ L' = am_st1 L a (.inr (.inr x)) := by
  unfold am_sta at h; split at h
  · split at h
    · rename_i q; cases h; exact ⟨_, q.2, q.1, rfl, rfl⟩
    · cases h
  · cases h
theorem am_stl_inv {a : Nat} {L L' : am_L} {st st' : List am_V} (h : am_stl a L st = some (L', st')) : ∃ x, a + 1 < L.length ∧ st = .inr (.inl x) :: st' ∧ L' = am_st2 L a (.inr (.inl x)) := by
  unfold am_stl at h; split at h
  · split at h <;> cases h; exact ⟨_, by assumption, rfl, rfl⟩
  · cases h
theorem am_inc_inv {a : Nat} {c : Int} {L L' : am_L} {st st' : List am_V} (h : am_inc a c L st = some (L', st')) : ∃ x, L[a]? = some (some (.inl x)) ∧ st' = st ∧ L' = am_st1 L a (.inl (w32 (x + c))) := by
  unfold am_inc at h; split at h <;> cases h; exact ⟨_, by assumption, rfl, rfl⟩
theorem am_dup_inv {L L' : am_L} {st st' : List am_V} (h : am_dup L st = some (L', st')) : ∃ v t, am_cat v = 1 ∧ st = v :: t ∧ L' = L ∧ st' = v :: v :: t := by
  unfold am_dup at h; split at h
  · split at h <;> cases h; exact ⟨_, _, by assumption, rfl, rfl, rfl⟩
  · cases h
theorem am_pop_inv {L L' : am_L} {st st' : List am_V} (h : am_pop L st = some (L', st')) : ∃ v, am_cat v = 1 ∧ st = v :: st' ∧ L' = L := by
  unfold am_pop at h; split at h
  · split at h <;> cases h; exact ⟨_, by assumption, rfl, rfl⟩
  · cases h
theorem am_cat_1 {v : am_V} (h : ¬ am_cat v = 2) : am_cat v = 1 := by
  rcases v with x | x | r
  · rfl
  · exact absurd rfl h
  · rfl
theorem am_dup2_inv {L L' : am_L} {st st' : List am_V} (h : am_dup2 L st = some (L', st')) : L' = L ∧ ((∃ v t, am_cat v = 2 ∧ st = v :: t ∧ st' = v :: v :: t) ∨ (∃ v u t, am_cat v = 1 ∧ am_cat u = 1 ∧ st = v :: u :: t ∧ st' = v :: u :: v :: u :: t)) := by
  unfold am_dup2 at h; split at h
  next v t =>
    split at h
    next q => cases h; exact ⟨rfl, Or.inl ⟨_, _, q, rfl, rfl⟩⟩
    next q =>
      split at h
      next =>
        split at h
        next q2 => cases h; exact ⟨rfl, Or.inr ⟨_, _, _, am_cat_1 q, q2, rfl, rfl⟩⟩
        next => cases h
      next => cases h
  next => cases h
