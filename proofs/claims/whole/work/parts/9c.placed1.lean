/-! ways for those past the bridge -/
theorem w32_nat {x : Nat} (h : x < 2147483648) : w32 ((x : Nat) : Int) = ((x : Nat) : Int) := w32_eq (by omega) (by omega)
def wtg (hm : Nat → Int) (p : Nat) : Bool := hm p == -1
def rkW (hm : Nat → Int) (p : Nat) : Nat := fb_ct (wtg hm) p
def dgH (k m w i : Nat) : Nat := w / k ^ (m - 1 - i) % k
def dvH (nh g : Nat) : Int := if g < nh then ((g : Nat) : Int) else -1
/-- homes when those of rank j on live as the way tells -/
def hJ (n nh m : Nat) (hm : Nat → Int) (w j p : Nat) : Int := if p < n ∧ hm p = -1 ∧ j ≤ rkW hm p then dvH nh (dgH (nh + 1) m w (rkW hm p)) else hm p
def plJ (nh m w j : Nat) : Nat := fb_ct (fun i => decide (dgH (nh + 1) m w i < nh ∧ j ≤ i)) m
def isAs (hm : Nat → Int) (n m : Nat) (as : Nat → Nat) : Prop := m = fb_ct (wtg hm) n ∧ ∀ i, i < m → as i < n ∧ hm (as i) = -1 ∧ rkW hm (as i) = i
theorem wtg_iff {hm : Nat → Int} {p : Nat} : wtg hm p = true ↔ hm p = -1 := by unfold wtg; exact beq_iff_eq
theorem rk_lt {hm : Nat → Int} {n p : Nat} (hp : p < n) (h : hm p = -1) : rkW hm p < fb_ct (wtg hm) n := by
  have := fb_ct_mono (wtg hm) (show p + 1 ≤ n by omega)
  rw [fb_ct_succ, if_pos (wtg_iff.mpr h)] at this
  unfold rkW
  omega
theorem as_one {hm : Nat → Int} {n m : Nat} {as : Nat → Nat} (ha : isAs hm n m as) {p : Nat} (hp : p < n) (h : hm p = -1) : rkW hm p < m ∧ as (rkW hm p) = p := by
  have r := rk_lt hp h
  rw [← ha.1] at r
  obtain ⟨a1, a2, a3⟩ := ha.2 _ r
  exact ⟨r, fb_ct_kth_one (wtg_iff.mpr a2) (wtg_iff.mpr h) a3⟩
theorem as_inj {hm : Nat → Int} {n m : Nat} {as : Nat → Nat} (ha : isAs hm n m as) {i j : Nat} (hi : i < m) (hj : j < m) (h : as i = as j) : i = j := by
  have a := (ha.2 i hi).2.2
  have b := (ha.2 j hj).2.2
  rw [h] at a; omega
theorem hJ_m {n nh m : Nat} {hm : Nat → Int} {as : Nat → Nat} (ha : isAs hm n m as) (w : Nat) : hJ n nh m hm w m = hm := by
  funext p
  unfold hJ
  by_cases c : p < n ∧ hm p = -1 ∧ m ≤ rkW hm p
  · have := as_one ha c.1 c.2.1
    omega
  · rw [if_neg c]
theorem hJ_off {n nh m : Nat} {hm : Nat → Int} {w j p : Nat} (h : ¬ (p < n ∧ hm p = -1)) : hJ n nh m hm w j p = hm p := by
  unfold hJ
  rw [if_neg (fun z => h ⟨z.1, z.2.1⟩)]
theorem hJ_s {n nh m : Nat} {hm : Nat → Int} {as : Nat → Nat} (ha : isAs hm n m as) {j : Nat} (hj : j < m) (w : Nat) : hJ n nh m hm w j = s1 (hJ n nh m hm w (j + 1)) (as j) (dvH nh (dgH (nh + 1) m w j)) := by
  obtain ⟨a1, a2, a3⟩ := ha.2 j hj
  funext p
  by_cases c : p = as j
  · subst c
    rw [s1_at]
    unfold hJ
    rw [if_pos ⟨a1, a2, by omega⟩, a3]
  · rw [s1_ne c]
    unfold hJ
    by_cases q : p < n ∧ hm p = -1
    · have o := as_one ha q.1 q.2
      have ne : rkW hm p ≠ j := fun e => c (by rw [← o.2, e])
      by_cases z : j ≤ rkW hm p
      · rw [if_pos ⟨q.1, q.2, z⟩, if_pos ⟨q.1, q.2, by omega⟩]
      · rw [if_neg (fun y => z y.2.2), if_neg (fun y => z (by have := y.2.2; omega))]
    · rw [if_neg (fun y => q ⟨y.1, y.2.1⟩), if_neg (fun y => q ⟨y.1, y.2.1⟩)]
theorem hJ_at {n nh m : Nat} {hm : Nat → Int} {as : Nat → Nat} (ha : isAs hm n m as) {i : Nat} (hi : i < m) (w j : Nat) : hJ n nh m hm w j (as i) = if j ≤ i then dvH nh (dgH (nh + 1) m w i) else -1 := by
  obtain ⟨a1, a2, a3⟩ := ha.2 i hi
  unfold hJ
  by_cases c : j ≤ i
  · rw [if_pos ⟨a1, a2, by omega⟩, if_pos c, a3]
  · rw [if_neg (fun z => c (by have := z.2.2; omega)), if_neg c, a2]
theorem dvH_in {nh g : Nat} : -1 ≤ dvH nh g ∧ dvH nh g < (nh : Nat) := by
  unfold dvH
  split <;> omega
theorem plJ_m (nh m w : Nat) : plJ nh m w m = 0 := fb_ct_zero.mpr (fun k hk => decide_eq_false (fun z => by omega))
theorem plJ_s {nh m w j : Nat} (hj : j < m) : plJ nh m w j = plJ nh m w (j + 1) + (if dgH (nh + 1) m w j < nh then 1 else 0) := by
  have h := fb_ct_upd (fun i => decide (dgH (nh + 1) m w i < nh ∧ j + 1 ≤ i)) (decide (dgH (nh + 1) m w j < nh)) hj
  have e : fb_ct (fun k => if k = j then decide (dgH (nh + 1) m w j < nh) else decide (dgH (nh + 1) m w k < nh ∧ j + 1 ≤ k)) m = plJ nh m w j := fb_ct_cong (fun k _ => by
    by_cases c : k = j
    · rw [if_pos c, c]; exact decide_eq_decide.mpr ⟨fun z => ⟨z, Nat.le_refl j⟩, fun z => z.1⟩
    · rw [if_neg c]; exact decide_eq_decide.mpr ⟨fun z => ⟨z.1, by omega⟩, fun z => ⟨z.1, by omega⟩⟩)
  rw [e] at h
  have z : decide (dgH (nh + 1) m w j < nh ∧ j + 1 ≤ j) = false := decide_eq_false (fun z => by omega)
  rw [z] at h
  unfold plJ at h ⊢
  by_cases c : dgH (nh + 1) m w j < nh
  · rw [decide_eq_true c] at h
    rw [if_pos c]
    simpa using h
  · rw [decide_eq_false c] at h
    rw [if_neg c]
    simpa using h
theorem plJ_le (nh m w j : Nat) : plJ nh m w j ≤ m := fb_ct_le _ _
theorem dg_div {k m w j : Nat} (hj : j < m) : w / k ^ (m - (j + 1)) / k = w / k ^ (m - j) := by
  rw [Nat.div_div_eq_div_mul, ← Nat.pow_succ, show (m - (j + 1)).succ = m - j by omega]
theorem dg_mod {k m w j : Nat} (hj : j < m) : w / k ^ (m - (j + 1)) % k = dgH k m w j := by
  unfold dgH
  rw [show m - (j + 1) = m - 1 - j by omega]
def rmOk (rm : Nat → Int) (n nh : Nat) (H : Nat → Int) : Prop := ∀ g, g < nh → ((fb_ct (fun p => H p == ((g : Nat) : Int)) n : Nat) : Int) ≤ rm g
theorem cnt_up {n nh m : Nat} {hm : Nat → Int} {w j g : Nat} : fb_ct (fun p => hJ n nh m hm w j p == ((g : Nat) : Int)) n ≤ fb_ct (fun p => hJ n nh m hm w 0 p == ((g : Nat) : Int)) n := fb_ct_sub (fun k hk h => by
  rw [beq_iff_eq] at h ⊢
  unfold hJ at h ⊢
  by_cases c : k < n ∧ hm k = -1 ∧ j ≤ rkW hm k
  · rw [if_pos c] at h
    rw [if_pos ⟨c.1, c.2.1, Nat.zero_le _⟩]; exact h
  · rw [if_neg c] at h
    rw [if_neg (fun z => by rw [z.2.1] at h; omega)]; exact h)
/-! a test told by the house and by how many live there -/
def envV (U : am_U) (me : Nat) (ot : Int) (g : Nat) (v : Int) (c : Int) : Int :=
  if c = -15 then U 17 me else if c = -16 then ot
  else if c = -4 then U 8 g else if c = -17 then v else if c = -1 then U 6 g else (g : Nat)
def hTV (U : am_U) (l me : Nat) (ot : Int) (g : Nat) (v : Int) : Prop := run (envV U me ot g v) (U 15) (U 13 l).toNat (U 14 l - U 13 l).toNat = [1]
theorem hTS_V {U : am_U} {n : Nat} {H : Nat → Int} {l me g : Nat} {ot : Int} (hg : H me = (g : Nat)) : hTS U n H l me ot ↔ hTV U l me ot g ((fb_ct (fun p => H p == ((g : Nat) : Int)) n : Nat) : Int) := by
  have e : envS U n H me ot = envV U me ot g ((fb_ct (fun p => H p == ((g : Nat) : Int)) n : Nat) : Int) := by
    funext c
    unfold envS envV
    rw [hg, if_pos (show (0 : Int) ≤ ((g : Nat) : Int) by omega), Int.toNat_natCast]
  unfold hTS hTV
  rw [e]
def brV (U : am_U) (b nl n : Nat) (hm : Nat → Int) (l me i g : Nat) (v : Int) : Prop := (U 12 l = 8 ∧ i = 16 ∧ ¬ hTV U l me 0 g v) ∨ (U 12 l ≠ 8 ∧ metS U b nl n hm (U 12 l) me i ∧ ¬ hTV U l me (U 17 i) g v)
/-- homes differ from those of before only for those past the bridge -/
def tryOk (n : Nat) (hm H : Nat → Int) : Prop := ∀ p, ¬ (p < n ∧ hm p = -1) → H p = hm p
def cmW (n : Nat) (hm H : Nat → Int) (g : Nat) : Nat := fb_ct (fun p => wtg hm p && H p == ((g : Nat) : Int)) n
theorem cnt_W {n : Nat} {hm H : Nat → Int} (ht : tryOk n hm H) (g : Nat) : fb_ct (fun p => H p == ((g : Nat) : Int)) n = fb_ct (fun p => hm p == ((g : Nat) : Int)) n + cmW n hm H g := by
  have e := fb_ct_or (p := fun p => hm p == ((g : Nat) : Int)) (q := fun p => wtg hm p && H p == ((g : Nat) : Int)) (n := n) (fun k hk z => by
    have z1 := z.1
    have z2 := z.2
    rw [Bool.and_eq_true] at z2
    have a := wtg_iff.mp z2.1
    have c : hm k = ((g : Nat) : Int) := beq_iff_eq.mp z1
    omega)
  unfold cmW
  rw [← e]
  refine fb_ct_cong (fun k hk => ?_)
  by_cases c : hm k = -1
  · have n1 : (hm k == ((g : Nat) : Int)) = false := by rw [beq_eq_false_iff_ne]; omega
    rw [n1, Bool.false_or, wtg_iff.mpr c, Bool.true_and]
  · have w0 : wtg hm k = false := Bool.eq_false_iff.mpr (fun z => c (wtg_iff.mp z))
    rw [ht k (fun z => c z.2), w0, Bool.false_and, Bool.or_false]
theorem cm_le {n m : Nat} {hm H : Nat → Int} (hm0 : m = fb_ct (wtg hm) n) (g : Nat) : cmW n hm H g ≤ m := by
  rw [hm0]
  exact fb_ct_sub (fun k hk z => by rw [Bool.and_eq_true] at z; exact z.1)
theorem brS_V {U : am_U} {b nl n : Nat} {hm H : Nat → Int} {l me i g : Nat} (ht : tryOk n hm H) (hn : n ≤ 16) (hg : hm me = (g : Nat)) (hi : ¬ (i < n ∧ hm i = -1)) : brS U b nl n H l me i ↔ brV U b nl n hm l me i g ((fb_ct (fun p => hm p == ((g : Nat) : Int)) n + cmW n hm H g : Nat) : Int) := by
  have hme : H me = ((g : Nat) : Int) := by rw [ht me (fun z => by omega)]; exact hg
  have hi2 : H i = hm i := ht i hi
  have e1 := fun ot => hTS_V (U := U) (n := n) (H := H) (l := l) (me := me) (ot := ot) hme
  rw [cnt_W ht g] at e1
  unfold brS brV
  rw [e1 0, e1 (U 17 i)]
  have em : metS U b nl n H (U 12 l) me i ↔ metS U b nl n hm (U 12 l) me i := by
    unfold metS
    rw [hme, hi2, hg]
  rw [em, hme]
  constructor
  · rintro (⟨x1, x2, x3, x4⟩ | x)
    · exact Or.inl ⟨x1, x2, x4⟩
    · exact Or.inr x
  · rintro (⟨x1, x2, x4⟩ | x)
    · exact Or.inl ⟨x1, x2, by omega, x4⟩
    · exact Or.inr x
def torn (U : am_U) (b nl nw n : Nat) (hm : Nat → Int) (g c : Nat) : Prop := ∃ me, me < n ∧ hm me = (g : Nat) ∧ ∃ l, l < nw ∧ ∃ i, i < 32 ∧ ¬ (i < n ∧ hm i = -1) ∧ brV U b nl n hm l me i g ((fb_ct (fun p => hm p == ((g : Nat) : Int)) n + c : Nat) : Int)
def lawP (U : am_U) (b nl nw n : Nat) (H : Nat → Int) : Prop := ∀ l, l < nw → ∀ me, me < n → ∀ i, i < 32 → ¬ brS U b nl n H l me i
theorem law_iff {U : am_U} {b nl nw n nh m : Nat} {hm H : Nat → Int} {as : Nat → Nat} (hn : n ≤ 16) (ha : isAs hm n m as) (ht : tryOk n hm H) (hh : ∀ p, p < n → -1 ≤ hm p ∧ hm p < (nh : Nat)) : lawP U b nl nw n H ↔ (∀ g, g < nh → ¬ torn U b nl nw n hm g (cmW n hm H g)) ∧ ∀ i, i < m → ¬ inBS U b nl nw n H (as i) := by
  constructor
  · intro h
    refine ⟨fun g hg z => ?_, fun i hi z => ?_⟩
    · obtain ⟨me, m1, m2, l, l1, i, i1, i2, i3⟩ := z
      exact h l l1 me m1 i i1 ((brS_V ht hn m2 i2).mpr i3)
    · have a1 := (ha.2 i hi).1
      obtain ⟨l, l1, z⟩ := z
      rcases z with ⟨j, j1, j2⟩ | ⟨me, m1, m2⟩
      · exact h l l1 (as i) a1 j j1 j2
      · exact h l l1 me m1 (as i) (by omega) m2
  · rintro ⟨h1, h2⟩ l hl me hme i hi z
    by_cases c : hm me = -1
    · obtain ⟨r1, r2⟩ := as_one ha hme c
      refine h2 _ r1 ⟨l, hl, Or.inl ⟨i, hi, ?_⟩⟩
      rw [r2]; exact z
    · by_cases c2 : i < n ∧ hm i = -1
      · obtain ⟨r1, r2⟩ := as_one ha c2.1 c2.2
        refine h2 _ r1 ⟨l, hl, Or.inr ⟨me, hme, ?_⟩⟩
        rw [r2]; exact z
      · have q := hh me hme
        obtain ⟨g, hg⟩ : ∃ g : Nat, hm me = (g : Nat) := ⟨(hm me).toNat, by omega⟩
        exact h1 g (by omega) ⟨me, hme, hg, l, hl, i, hi, c2, (brS_V ht hn hg c2).mp z⟩
/-- the first of the best ways so far -/
noncomputable def bsW (pl : Nat → Nat) (ok : Nat → Prop) : Nat → Int × Nat
  | 0 => (-1, 0)
  | w + 1 => if pd ((bsW pl ok w).1 < (pl w : Nat) ∧ ok w) then (((pl w : Nat) : Int), w) else bsW pl ok w
theorem bsW_t {pl : Nat → Nat} {ok : Nat → Prop} {w : Nat} (h : (bsW pl ok w).1 < (pl w : Nat) ∧ ok w) : bsW pl ok (w + 1) = (((pl w : Nat) : Int), w) := by
  show (if pd _ then _ else _) = _
  rw [pd_t h]; rfl
theorem bsW_f {pl : Nat → Nat} {ok : Nat → Prop} {w : Nat} (h : ¬ ((bsW pl ok w).1 < (pl w : Nat) ∧ ok w)) : bsW pl ok (w + 1) = bsW pl ok w := by
  show (if pd _ then _ else _) = _
  rw [pd_f h]; rfl
theorem bsW_in {pl : Nat → Nat} {ok : Nat → Prop} {m : Nat} (hp : ∀ w, pl w ≤ m) : ∀ w, -1 ≤ (bsW pl ok w).1 ∧ (bsW pl ok w).1 ≤ (m : Nat)
  | 0 => by show -1 ≤ (-1 : Int) ∧ (-1 : Int) ≤ (m : Nat); omega
  | w + 1 => by
    have ih := bsW_in (ok := ok) hp w
    rcases Classical.em ((bsW pl ok w).1 < (pl w : Nat) ∧ ok w) with c | c
    · rw [bsW_t c]
      have := hp w
      show -1 ≤ ((pl w : Nat) : Int) ∧ ((pl w : Nat) : Int) ≤ (m : Nat)
      omega
    · rw [bsW_f c]; exact ih
theorem bsW_stop {pl : Nat → Nat} {ok : Nat → Prop} {m w : Nat} (hp : ∀ w, pl w ≤ m) (h : (m : Int) ≤ (bsW pl ok w).1) : ∀ k, bsW pl ok (w + k) = bsW pl ok w
  | 0 => rfl
  | k + 1 => by
    have ih := bsW_stop hp h k
    show bsW pl ok (w + k + 1) = _
    rw [bsW_f (fun z => by have := z.1; have := hp (w + k); rw [ih] at *; omega), ih]
