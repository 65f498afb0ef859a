/-! a test's code: what it answers -/
def clp (x : Int) : Int := if 1000000000 < x then 1000000000 else if x < -1000000000 then -1000000000 else x
theorem clp_in (x : Int) : -1000000000 ≤ clp x ∧ clp x ≤ 1000000000 := by unfold clp; (repeat' split) <;> omega
def cmb (g a b : Int) : Int :=
  if g = 60 then b2i (a < b) else if g = 62 then b2i (b < a) else if g = 61 then b2i (a = b)
  else if g = 43 then clp (a + b) else if g = 45 then clp (a - b) else if g = 42 then clp (a * b)
  else if g = 47 then (if b = 0 then 0 else clp (Int.fdiv a b)) else (if b = 0 then 0 else clp (Int.fmod a b))
noncomputable def op1 (c a : Int) : Int := if c = -22 then 1 - a else if c = -18 then cb (isSq a) else cb (Pr a.toNat)
def op2 (c a b : Int) : Int :=
  if c = -20 ∨ c = -25 then (if a < b then b else a) else if c = -21 ∨ c = -24 then (if b < a then b else a)
  else if c = -26 then ((Nat.gcd a.natAbs b.natAbs : Nat) : Int) else cmb (-100 - c) a b
def isAsk (c : Int) : Prop := c = -1 ∨ c = -2 ∨ c = -4 ∨ c = -15 ∨ c = -16 ∨ c = -17
noncomputable def stp (e : Int → Int) (c : Int) (s : List Int) : List Int :=
  if 0 ≤ c then c :: s else if -17 ≤ c then e c :: s else if c = -23 then 1 :: s
  else match s with
    | [] => []
    | x :: s1 => if c = -22 ∨ c = -18 ∨ c = -19 then op1 c x :: s1 else match s1 with
      | [] => []
      | y :: s2 => op2 c y x :: s2
/-- the sorts of values: true a yes or no, false a number -/
def tyc (c : Int) (t : List Bool) : Option (List Bool) :=
  if 0 ≤ c then (if c ≤ 999999999 then some (false :: t) else none)
  else if c = -1 ∨ c = -2 ∨ c = -4 ∨ c = -15 ∨ c = -16 ∨ c = -17 then some (false :: t)
  else if c = -23 then some (true :: t)
  else match t with
    | [] => none
    | true :: t1 => if c = -22 then some (true :: t1) else match t1 with
      | true :: t2 => if c = -20 ∨ c = -21 then some (true :: t2) else none
      | _ => none
    | false :: t1 => if c = -18 ∨ c = -19 then some (true :: t1) else match t1 with
      | false :: t2 => if c = -24 ∨ c = -25 ∨ c = -26 ∨ c = -143 ∨ c = -145 ∨ c = -142 ∨ c = -147 ∨ c = -137 then some (false :: t2) else if c = -160 ∨ c = -161 ∨ c = -162 then some (true :: t2) else none
      | _ => none
/-- what a step may be -/
theorem tyc_cases {c : Int} {t t' : List Bool} (h : tyc c t = some t') :
    (0 ≤ c ∧ c ≤ 999999999 ∧ t' = false :: t) ∨ (isAsk c ∧ t' = false :: t) ∨ (c = -23 ∧ t' = true :: t)
    ∨ (c = -22 ∧ ∃ t1, t = true :: t1 ∧ t' = true :: t1)
    ∨ ((c = -18 ∨ c = -19) ∧ ∃ t1, t = false :: t1 ∧ t' = true :: t1)
    ∨ ((c = -20 ∨ c = -21) ∧ ∃ t1, t = true :: true :: t1 ∧ t' = true :: t1)
    ∨ ((c = -24 ∨ c = -25 ∨ c = -26 ∨ c = -143 ∨ c = -145 ∨ c = -142 ∨ c = -147 ∨ c = -137) ∧ ∃ t1, t = false :: false :: t1 ∧ t' = false :: t1)
    ∨ ((c = -160 ∨ c = -161 ∨ c = -162) ∧ ∃ t1, t = false :: false :: t1 ∧ t' = true :: t1) := by
  unfold tyc at h
  split at h
  · split at h
    · cases h; left; exact ⟨by assumption, by assumption, rfl⟩
    · cases h
  · split at h
    · cases h; right; left; exact ⟨by assumption, rfl⟩
    · split at h
      · cases h; right; right; left; exact ⟨by assumption, rfl⟩
      · split at h
        · cases h
        · split at h
          · cases h; right; right; right; left; exact ⟨by assumption, _, rfl, rfl⟩
          · split at h
            · split at h
              · cases h; right; right; right; right; right; left; exact ⟨by assumption, _, rfl, rfl⟩
              · cases h
            · cases h
        · split at h
          · cases h; right; right; right; right; left; exact ⟨by assumption, _, rfl, rfl⟩
          · split at h
            · split at h
              · cases h; right; right; right; right; right; right; left; exact ⟨by assumption, _, rfl, rfl⟩
              · split at h
                · cases h; right; right; right; right; right; right; right; exact ⟨by assumption, _, rfl, rfl⟩
                · cases h
            · cases h
/-- values of their sorts -/
def vOk (b : Bool) (v : Int) : Prop := if b then v = 0 ∨ v = 1 else -1000000000 ≤ v ∧ v ≤ 1000000000
def vsOk : List Bool → List Int → Prop
  | [], [] => True
  | b :: t, v :: s => vOk b v ∧ vsOk t s
  | _, _ => False
theorem vsOk_len : ∀ {t : List Bool} {s : List Int}, vsOk t s → s.length = t.length
  | [], [], _ => rfl
  | _ :: t, _ :: s, h => by simp only [List.length_cons]; rw [vsOk_len (t := t) (s := s) h.2]
  | [], _ :: _, h => h.elim
  | _ :: _, [], h => h.elim
theorem cb_v (p : Prop) : vOk true (cb p) := cb_01 p
theorem b2i_v (p : Prop) [Decidable p] : vOk true (b2i p) := b2i_01
theorem gcd_v {a b : Int} (ha : vOk false a) (hb : vOk false b) : vOk false ((Nat.gcd a.natAbs b.natAbs : Nat) : Int) := by
  have ha' : -1000000000 ≤ a ∧ a ≤ 1000000000 := ha
  have hb' : -1000000000 ≤ b ∧ b ≤ 1000000000 := hb
  show -1000000000 ≤ ((Nat.gcd a.natAbs b.natAbs : Nat) : Int) ∧ ((Nat.gcd a.natAbs b.natAbs : Nat) : Int) ≤ 1000000000
  rcases Nat.eq_zero_or_pos a.natAbs with q | q
  · rw [q, Nat.gcd_zero_left]; omega
  · have := Nat.gcd_le_left b.natAbs q
    omega
theorem cmb_v {c a b : Int} (hc : c = -143 ∨ c = -145 ∨ c = -142 ∨ c = -147 ∨ c = -137) : vOk false (cmb (-100 - c) a b) := by
  unfold cmb
  rcases hc with rfl | rfl | rfl | rfl | rfl <;> simp <;> (try split) <;> first | exact clp_in _ | (unfold vOk; simp)
theorem cmp_v {c a b : Int} (hc : c = -160 ∨ c = -161 ∨ c = -162) : vOk true (cmb (-100 - c) a b) := by
  unfold cmb
  rcases hc with rfl | rfl | rfl <;> simp <;> exact b2i_v _
/-- a step keeps the sorts -/
theorem stp_ok {e : Int → Int} {c : Int} {t t' : List Bool} {s : List Int} (he : ∀ c, isAsk c → vOk false (e c)) (h : tyc c t = some t') (hs : vsOk t s) : vsOk t' (stp e c s) := by
  unfold stp
  rcases tyc_cases h with ⟨h1, h2, rfl⟩ | ⟨h1, rfl⟩ | ⟨rfl, rfl⟩ | ⟨rfl, t1, rfl, rfl⟩ | ⟨h1, t1, rfl, rfl⟩ | ⟨h1, t1, rfl, rfl⟩ | ⟨h1, t1, rfl, rfl⟩ | ⟨h1, t1, rfl, rfl⟩
  · rw [if_pos h1]; exact ⟨by simp only [vOk]; simp; omega, hs⟩
  · rw [if_neg (by unfold isAsk at h1; omega), if_pos (by unfold isAsk at h1; omega)]; exact ⟨he c h1, hs⟩
  · simp; exact ⟨by simp [vOk], hs⟩
  · match s, hs with
    | x :: s1, hs =>
      simp
      refine ⟨?_, hs.2⟩
      have := hs.1
      simp only [vOk, if_true] at this ⊢
      simp only [op1, if_true]
      omega
  · match s, hs with
    | x :: s1, hs =>
      rcases h1 with rfl | rfl
      · simp; exact ⟨by simp [op1]; exact cb_v _, hs.2⟩
      · simp; exact ⟨by simp [op1]; exact cb_v _, hs.2⟩
  · match s, hs with
    | x :: y :: s2, hs =>
      have q1 := hs.1
      have q2 := hs.2.1
      simp only [vOk, if_true] at q1 q2
      rcases h1 with rfl | rfl
      · simp; refine ⟨?_, hs.2.2⟩; simp only [op2, vOk, if_true]; simp; split <;> assumption
      · simp; refine ⟨?_, hs.2.2⟩; simp only [op2, vOk, if_true]; simp; split <;> assumption
  · match s, hs with
    | x :: y :: s2, hs =>
      have q1 := hs.1
      have q2 := hs.2.1
      rw [if_neg (by omega), if_neg (by omega), if_neg (by omega)]
      simp only
      rw [if_neg (by omega)]
      refine ⟨?_, hs.2.2⟩
      unfold op2
      rcases h1 with rfl | rfl | rfl | h1
      · simp; split <;> assumption
      · simp; split <;> assumption
      · simp; exact gcd_v q2 q1
      · rw [if_neg (by omega), if_neg (by omega), if_neg (by omega)]; exact cmb_v h1
  · match s, hs with
    | x :: y :: s2, hs =>
      rw [if_neg (by omega), if_neg (by omega), if_neg (by omega)]
      simp only
      rw [if_neg (by omega)]
      refine ⟨?_, hs.2.2⟩
      unfold op2
      rw [if_neg (by omega), if_neg (by omega), if_neg (by omega)]; exact cmp_v h1
/-- sorts and values along a code -/
def tyr (code : Nat → Int) (f : Nat) : Nat → Option (List Bool)
  | 0 => some []
  | k + 1 => match tyr code f k with
    | none => none
    | some t => match tyc (code (f + k)) t with
      | none => none
      | some t' => if t'.length ≤ 60 then some t' else none
noncomputable def run (e : Int → Int) (code : Nat → Int) (f : Nat) : Nat → List Int
  | 0 => []
  | k + 1 => stp e (code (f + k)) (run e code f k)
theorem tyr_succ {code : Nat → Int} {f k : Nat} {t' : List Bool} (h : tyr code f (k + 1) = some t') : ∃ t, tyr code f k = some t ∧ tyc (code (f + k)) t = some t' ∧ t'.length ≤ 60 := by
  rw [tyr] at h
  split at h
  · cases h
  · rename_i t e1
    split at h
    · cases h
    · rename_i t2 e2
      split at h
      · cases h; exact ⟨t, e1, e2, by assumption⟩
      · cases h
theorem tyr_le {code : Nat → Int} {f : Nat} : ∀ {k : Nat} {t : List Bool}, tyr code f k = some t → ∀ j, j ≤ k → ∃ t1, tyr code f j = some t1
  | 0, t, h, j, hj => ⟨t, by rw [show j = 0 from by omega]; exact h⟩
  | k + 1, t, h, j, hj => by
    obtain ⟨t1, h1, -, -⟩ := tyr_succ h
    by_cases e : j = k + 1
    · exact ⟨t, by rw [e]; exact h⟩
    · exact tyr_le h1 j (by omega)
theorem tyr_len {code : Nat → Int} {f : Nat} : ∀ {k : Nat} {t : List Bool}, tyr code f k = some t → t.length ≤ 60
  | 0, t, h => by cases h; simp
  | k + 1, t, h => by obtain ⟨t1, h1, h2, h3⟩ := tyr_succ h; exact h3
theorem run_ok {e : Int → Int} {code : Nat → Int} {f : Nat} (he : ∀ c, isAsk c → vOk false (e c)) : ∀ {k : Nat} {t : List Bool}, tyr code f k = some t → vsOk t (run e code f k)
  | 0, t, h => by cases h; trivial
  | k + 1, t, h => by
    obtain ⟨t1, h1, h2, h3⟩ := tyr_succ h
    exact stp_ok he h2 (run_ok he h1)
/-- a whole test: its code ends with one yes or no -/
def wfT (code : Nat → Int) (f l : Nat) : Prop := tyr code f l = some [true]
theorem wf_end {e : Int → Int} {code : Nat → Int} {f l : Nat} (he : ∀ c, isAsk c → vOk false (e c)) (h : wfT code f l) : run e code f l = [0] ∨ run e code f l = [1] := by
  have := run_ok he h
  match hr : run e code f l, this with
  | [v], q =>
    rcases q.1 with q | q
    · left; rw [q]
    · right; rw [q]
noncomputable def holdsT (e : Int → Int) (code : Nat → Int) (f l : Nat) : Int := cb (run e code f l = [1])
