/-! all parts of a number together: sums -/
/-- all below itself by which a number can be divided, together -/
def prt (n : Nat) : Nat := fb_sm (fun k => if n % k = 0 then k else 0) n
def sg (n : Nat) : Nat := fb_sm (fun k => if n % k = 0 then k else 0) (n + 1)
def ta (p m : Nat) : Nat := fb_sm (fun k => if m % k = 0 ∧ k % p ≠ 0 then k else 0) (m + 1)
theorem sg_prt (n : Nat) : sg n = prt n + n := by
  show prt n + (if n % n = 0 then n else 0) = _
  rw [Nat.mod_self, if_pos rfl]
theorem fb_sm_z {f : Nat → Nat} : ∀ n, (∀ k, k < n → f k = 0) → fb_sm f n = 0 := by
  intro n
  induction n with
  | zero => intro _; rfl
  | succ n ih =>
    intro h
    rw [fb_sm_succ, ih (fun k hk => h k (by omega)), h n (by omega)]
theorem fb_sm_ext {f : Nat → Nat} {m n : Nat} (h : m ≤ n) (hz : ∀ k, m ≤ k → k < n → f k = 0) : fb_sm f n = fb_sm f m := by
  have e := fb_sm_split f m (n - m)
  rw [show m + (n - m) = n by omega, fb_sm_z (n - m) (fun k hk => hz (m + k) (by omega) (by omega))] at e
  rw [e, Nat.add_zero]
theorem fb_sm_pt (c : Nat) {i n : Nat} (h : i < n) : fb_sm (fun k => if k = i then c else 0) n = c := by
  have e : fb_sm (fun k => if k = i then c else 0) n + 0 = fb_sm (fun _ => 0) n + c := fb_sm_upd (fun _ => 0) c h
  rw [fb_sm_z (f := fun _ => 0) n (fun _ _ => rfl)] at e
  omega
theorem fb_sm_mul (g : Nat → Nat) {p : Nat} (hp : 0 < p) : ∀ m, fb_sm (fun k => if k % p = 0 then g k else 0) (p * m) = fb_sm (fun j => g (p * j)) m := by
  intro m
  induction m with
  | zero => rfl
  | succ m ih =>
    rw [Nat.mul_succ, fb_sm_split, ih, fb_sm_succ]
    congr 1
    have e : fb_sm (fun k => if (p * m + k) % p = 0 then g (p * m + k) else 0) p = fb_sm (fun k => if k = 0 then g (p * m) else 0) p := by
      refine fb_sm_cong (fun k hk => ?_)
      rw [Nat.mul_add_mod, Nat.mod_eq_of_lt hk]
      by_cases q : k = 0
      · rw [if_pos q, if_pos q, q, Nat.add_zero]
      · rw [if_neg q, if_neg q]
    rw [e, fb_sm_pt _ hp]
theorem ta_mul {p m : Nat} (hp : Pr p) (hm : 0 < m) : ta p (p * m) = ta p m := by
  have hp2 := hp.1
  have key : ∀ k, k % p ≠ 0 → ((p * m) % k = 0 ↔ m % k = 0) := by
    intro k hk
    constructor
    · intro h
      have h1 := Nat.dvd_of_mod_eq_zero h
      have h2 : Nat.Coprime p k := pr_cop hp (fun z => hk (Nat.mod_eq_zero_of_dvd z))
      exact Nat.mod_eq_zero_of_dvd (h2.symm.dvd_of_dvd_mul_left h1)
    · intro h
      exact Nat.mod_eq_zero_of_dvd (Nat.dvd_trans (Nat.dvd_of_mod_eq_zero h) (Nat.dvd_mul_left _ _))
  have hle : m ≤ p * m := Nat.le_mul_of_pos_left m (by omega)
  unfold ta
  rw [fb_sm_ext (m := m + 1) (n := p * m + 1) (by omega) (fun k h1 h2 => ?_)]
  · refine fb_sm_cong (fun k hk => ?_)
    by_cases q : k % p = 0
    · rw [if_neg (fun z => z.2 q), if_neg (fun z => z.2 q)]
    · by_cases w : m % k = 0
      · rw [if_pos ⟨(key k q).mpr w, q⟩, if_pos ⟨w, q⟩]
      · rw [if_neg (fun z => w ((key k q).mp z.1)), if_neg (fun z => w z.1)]
  · rw [if_neg]
    intro z
    have h3 := (key k z.2).mp z.1
    rw [Nat.mod_eq_of_lt (by omega)] at h3
    omega
theorem sg_mul {p m : Nat} (hp : Pr p) (hm : 0 < m) : sg (p * m) = p * sg m + ta p m := by
  have hp2 := hp.1
  have e1 : sg (p * m) = fb_sm (fun k => (if k % p = 0 then (if p * m % k = 0 then k else 0) else 0) + (if p * m % k = 0 ∧ k % p ≠ 0 then k else 0)) (p * m + 1) := by
    unfold sg
    refine fb_sm_cong (fun k _ => ?_)
    by_cases q : k % p = 0
    · rw [if_pos q, if_neg (fun z : p * m % k = 0 ∧ k % p ≠ 0 => z.2 q), Nat.add_zero]
    · rw [if_neg q, Nat.zero_add]
      by_cases w : p * m % k = 0
      · rw [if_pos w, if_pos ⟨w, q⟩]
      · rw [if_neg w, if_neg (fun z => w z.1)]
  rw [e1, fb_sm_add]
  have e2 : fb_sm (fun k => if p * m % k = 0 ∧ k % p ≠ 0 then k else 0) (p * m + 1) = ta p m := ta_mul hp hm
  rw [e2]
  congr 1
  rw [fb_sm_succ, fb_sm_mul (fun k => if p * m % k = 0 then k else 0) (by omega) m, Nat.mul_mod_right, if_pos rfl, ← fb_sm_succ (fun j => if p * m % (p * j) = 0 then p * j else 0) m]
  unfold sg
  rw [← fb_sm_mulc]
  refine fb_sm_cong (fun j _ => ?_)
  rw [Nat.mul_mod_mul_left]
  by_cases q : m % j = 0
  · rw [if_pos q, q, Nat.mul_zero, if_pos rfl]
  · have : p * (m % j) ≠ 0 := Nat.mul_ne_zero (by omega) q
    rw [if_neg q, if_neg this, Nat.mul_zero]
theorem ta_sg {p r : Nat} (hr : ¬ p ∣ r) : ta p r = sg r := by
  unfold ta sg
  refine fb_sm_cong (fun k _ => ?_)
  by_cases q : r % k = 0
  · rw [if_pos q, if_pos ⟨q, fun z => hr (Nat.dvd_trans (Nat.dvd_of_mod_eq_zero z) (Nat.dvd_of_mod_eq_zero q))⟩]
  · rw [if_neg q, if_neg (fun z => q z.1)]
def Tg (p : Nat) : Nat → Nat
  | 0 => 1
  | e + 1 => Tg p e * p + 1
theorem sg_pow {p r : Nat} (hp : Pr p) (hr : ¬ p ∣ r) (h0 : 0 < r) : ∀ e, sg (p ^ e * r) = Tg p e * sg r ∧ ta p (p ^ e * r) = sg r := by
  have hp2 := hp.1
  intro e
  induction e with
  | zero =>
    rw [Nat.pow_zero, Nat.one_mul]
    exact ⟨(Nat.one_mul _).symm, ta_sg hr⟩
  | succ e ih =>
    have h1 : 0 < p ^ e * r := Nat.mul_pos (Nat.pow_pos (by omega)) h0
    have e1 : p ^ (e + 1) * r = p * (p ^ e * r) := by rw [Nat.pow_succ, Nat.mul_comm (p ^ e) p, Nat.mul_assoc]
    rw [e1, sg_mul hp h1, ta_mul hp h1, ih.1, ih.2]
    refine ⟨?_, rfl⟩
    show p * (Tg p e * sg r) + sg r = (Tg p e * p + 1) * sg r
    rw [Nat.add_mul, Nat.one_mul, Nat.mul_comm (Tg p e) p, Nat.mul_assoc]
theorem Tg_le {p : Nat} (hp : 2 ≤ p) : ∀ e, Tg p e + 1 ≤ 2 * p ^ e := by
  intro e
  induction e with
  | zero => show 1 + 1 ≤ 2 * p ^ 0; rw [Nat.pow_zero]; omega
  | succ e ih =>
    show Tg p e * p + 1 + 1 ≤ 2 * p ^ (e + 1)
    have h := Nat.mul_le_mul_right p ih
    rw [Nat.add_mul, Nat.one_mul, Nat.mul_assoc] at h
    rw [Nat.pow_succ]
    omega
theorem sg_le (n : Nat) : sg n ≤ (n + 1) * n := by
  unfold sg
  refine fb_sm_bound (fun k hk => ?_)
  split <;> omega
theorem sg_pos {n : Nat} (h : 0 < n) : 1 ≤ sg n := by
  rw [sg_prt]; omega
theorem sg_1 : sg 1 = 1 := by decide
theorem sg_pr {m : Nat} (h : Pr m) : sg m = m + 1 := by
  have h2 := h.1
  have e : prt m = fb_sm (fun k => if k = 1 then 1 else 0) m := by
    refine fb_sm_cong (fun k hk => ?_)
    by_cases q : m % k = 0
    · rcases h.2 k (Nat.dvd_of_mod_eq_zero q) with z | z
      · rw [if_pos q, if_pos z, z]
      · omega
    · rw [if_neg q]
      by_cases z : k = 1
      · rw [z, Nat.mod_one] at q; exact absurd rfl q
      · rw [if_neg z]
  rw [sg_prt, e, fb_sm_pt 1 (by omega), Nat.add_comm]
theorem pr_or {p m : Nat} (h : ∀ r, Pr r → r ∣ m → p ≤ r) (hm : m < p * p) (h0 : 0 < m) : Pr m ∨ m = 1 := by
  rcases (by omega : m = 1 ∨ 2 ≤ m) with q | q
  · exact Or.inr q
  · left
    obtain ⟨r, r1, ⟨c, hc⟩⟩ := pr_ex m q
    rcases (by omega : c = 0 ∨ c = 1 ∨ 2 ≤ c) with w | w | w
    · rw [w, Nat.mul_zero] at hc; omega
    · rw [w, Nat.mul_one] at hc; rw [hc]; exact r1
    · exfalso
      obtain ⟨s, s1, s2⟩ := pr_ex c w
      have h1 := h r r1 ⟨c, hc⟩
      have h2 := h s s1 (Nat.dvd_trans s2 ⟨r, by rw [hc, Nat.mul_comm]⟩)
      have h3 := Nat.le_of_dvd (by omega) s2
      have : p * p ≤ r * c := Nat.mul_le_mul h1 (by omega)
      omega
/-! pairs -/
def psm (v d : Nat) : Nat := fb_sm (fun k => if v % k = 0 ∧ (k < d ∨ v / k < d) then k else 0) v
theorem psm_le (v d : Nat) : psm v d ≤ v * v := by
  unfold psm
  refine fb_sm_bound (fun k hk => ?_)
  split <;> omega
theorem psm_2 {v : Nat} (h : 2 ≤ v) : psm v 2 = 1 := by
  have e : psm v 2 = fb_sm (fun k => if k = 1 then 1 else 0) v := by
    refine fb_sm_cong (fun k hk => ?_)
    rcases (by omega : k = 0 ∨ k = 1 ∨ 2 ≤ k) with q | q | q
    · subst q
      rw [Nat.mod_zero, if_neg (fun z => by omega), if_neg (by decide)]
    · subst q
      rw [if_pos ⟨Nat.mod_one v, Or.inl (by decide)⟩, if_pos rfl]
    · rw [if_neg (by omega : ¬ k = 1), if_neg]
      intro z
      have h1 := Nat.div_add_mod v k
      rw [z.1] at h1
      rcases z.2 with w | w
      · omega
      · rcases Nat.lt_or_ge (v / k) 1 with y | y
        · have y := Nat.lt_one_iff.mp y
          rw [y, Nat.mul_zero] at h1; omega
        · have y := Nat.le_antisymm (Nat.le_of_lt_succ w) y
          rw [y, Nat.mul_one] at h1; omega
  rw [e, fb_sm_pt 1 (by omega)]
theorem psm_0 {v d : Nat} (h : v ≤ 1) : psm v d = 0 := by
  unfold psm
  refine fb_sm_z v (fun k hk => ?_)
  have e : k = 0 := by omega
  subst e
  split <;> rfl
theorem psm_no {v d : Nat} (h : v % d ≠ 0) : psm v (d + 1) = psm v d := by
  unfold psm
  refine fb_sm_cong (fun k hk => ?_)
  by_cases q : v % k = 0
  · have h1 := Nat.div_add_mod v k
    rw [q, Nat.add_zero] at h1
    have a1 : k ≠ d := fun e => h (e ▸ q)
    have a2 : v / k ≠ d := fun e => by
      rw [e] at h1
      exact h (by rw [← h1]; exact Nat.mul_mod_left k d)
    have key : (k < d + 1 ∨ v / k < d + 1) ↔ (k < d ∨ v / k < d) := by
      generalize v / k = z at a2 ⊢
      omega
    by_cases w : k < d ∨ v / k < d
    · rw [if_pos ⟨q, key.mpr w⟩, if_pos ⟨q, w⟩]
    · rw [if_neg (fun z => w (key.mp z.2)), if_neg (fun z => w z.2)]
  · rw [if_neg (fun z => q z.1), if_neg (fun z => q z.1)]
theorem psm_pt {v d c k : Nat} (hv : v = d * c) (hd : 0 < d) (hc : d ≤ c) : (if v % k = 0 ∧ (k < d + 1 ∨ v / k < d + 1) then k else 0) = (if v % k = 0 ∧ (k < d ∨ v / k < d) then k else 0) + (if k = d then d else if k = c then c else 0) := by
  have v1 : v % d = 0 := by rw [hv, Nat.mul_mod_right]
  have v2 : v / d = c := by rw [hv, Nat.mul_div_cancel_left _ hd]
  have v3 : v % c = 0 := by rw [hv, Nat.mul_mod_left]
  have v4 : v / c = d := by rw [hv, Nat.mul_div_cancel _ (by omega)]
  by_cases q1 : k = d
  · subst q1
    rw [if_pos rfl, if_pos ⟨v1, Or.inl (by omega)⟩, if_neg (fun z => by have := z.2; omega), Nat.zero_add]
  · rw [if_neg q1]
    by_cases q2 : k = c
    · subst q2
      rw [if_pos rfl, if_pos ⟨v3, Or.inr (by omega)⟩, if_neg (fun z => by have := z.2; omega), Nat.zero_add]
    · rw [if_neg q2]
      by_cases q : v % k = 0
      · have h1 := Nat.div_add_mod v k
        rw [q, Nat.add_zero] at h1
        have a2 : v / k ≠ d := fun e => by
          rw [e, hv, Nat.mul_comm k d] at h1
          exact q2 (Nat.eq_of_mul_eq_mul_left hd h1)
        have key : (k < d + 1 ∨ v / k < d + 1) ↔ (k < d ∨ v / k < d) := by
          generalize v / k = z at a2 ⊢
          omega
        by_cases w : k < d ∨ v / k < d
        · rw [if_pos ⟨q, key.mpr w⟩, if_pos ⟨q, w⟩, Nat.add_zero]
        · rw [if_neg (fun z => w (key.mp z.2)), if_neg (fun z => w z.2)]
      · rw [if_neg (fun z => q z.1), if_neg (fun z => q z.1)]
theorem psm_yes {v d c : Nat} (hv : v = d * c) (hd : 2 ≤ d) (hc : d < c) : psm v (d + 1) = psm v d + (d + c) := by
  have e : psm v (d + 1) = fb_sm (fun k => (if v % k = 0 ∧ (k < d ∨ v / k < d) then k else 0) + ((if k = d then d else 0) + (if k = c then c else 0))) v := by
    refine fb_sm_cong (fun k _ => ?_)
    rw [psm_pt hv (by omega) (by omega)]
    congr 1
    by_cases q1 : k = d
    · rw [if_pos q1, if_pos q1, if_neg (by omega), Nat.add_zero]
    · rw [if_neg q1, if_neg q1, Nat.zero_add]
  have hdv : c < v := by
    have : 2 * c ≤ d * c := Nat.mul_le_mul_right c hd
    omega
  rw [e, fb_sm_add, fb_sm_add, fb_sm_pt d (by omega), fb_sm_pt c hdv]
  rfl
theorem psm_sq {v d : Nat} (hv : v = d * d) (hd : 2 ≤ d) : psm v (d + 1) = psm v d + d := by
  have e : psm v (d + 1) = fb_sm (fun k => (if v % k = 0 ∧ (k < d ∨ v / k < d) then k else 0) + (if k = d then d else 0)) v := by
    refine fb_sm_cong (fun k _ => ?_)
    rw [psm_pt hv (by omega) (Nat.le_refl _)]
    congr 1
    by_cases q1 : k = d
    · rw [if_pos q1, if_pos q1]
    · rw [if_neg q1, if_neg q1]
  have hdv : d < v := by
    have : 2 * d ≤ d * d := Nat.mul_le_mul_right d hd
    omega
  rw [e, fb_sm_add, fb_sm_pt d hdv]
  rfl
theorem psm_end {v d : Nat} (h : v < d * d) : psm v d = prt v := by
  refine fb_sm_cong (fun k hk => ?_)
  by_cases q : v % k = 0
  · have h1 := Nat.div_add_mod v k
    rw [q, Nat.add_zero] at h1
    rw [if_pos q, if_pos]
    refine ⟨q, ?_⟩
    rcases (by omega : k < d ∨ v / k < d ∨ (d ≤ k ∧ d ≤ v / k)) with w | w | ⟨w1, w2⟩
    · exact Or.inl w
    · exact Or.inr w
    · have : d * d ≤ k * (v / k) := Nat.mul_le_mul w1 w2
      omega
  · rw [if_neg q, if_neg (fun z => q z.1)]
