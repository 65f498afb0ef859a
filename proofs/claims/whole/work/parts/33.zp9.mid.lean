/-! no other number passes: a factor from 150 to 32768; small factors -/
noncomputable def okE (q h : Nat) : Bool := aB (Nat.beq (Nat.mod (Nat.pow 2 h) q) 1) (Nat.beq (Nat.mod (Nat.pow 7 h) q) 1)
noncomputable def mnE (q b h : Nat) : Nat := Bool.rec (motive := fun _ => Nat) (Bool.rec (motive := fun _ => Nat) b h (okE q h)) b (Nat.ble b h)
noncomputable def eL (q q1 k : Nat) : Nat → Nat → Nat := Nat.rec (motive := fun _ => Nat → Nat → Nat) (fun _ b => b) (fun _ ih s b => tF (Bool.rec (motive := fun _ => Nat) b (tF (mnE q b s) (fun b1 => mnE q b1 (Nat.div q1 s))) (Nat.beq (Nat.mod q1 s) 0)) (fun b' => tF (Nat.add s 1) (fun s' => ih s' b'))) k
noncomputable def lfB (q E k : Nat) : Bool := tF (Nat.add 1 (Nat.mul k E)) (fun m => iB (Nat.beq (Nat.gcd m 210) 1) (tF (Nat.mul m q) chk))
noncomputable def fB (W q : Nat) : Bool := iB (Nat.beq (Nat.gcd q W) 1) (tF (Nat.sub q 1) (fun q1 => iB (okE q q1) (tF (eL q q1 181 1 q1) (fun E => tF (Nat.div (Nat.sub (Nat.div 1000000000 q) 1) E) (fun K => allU (lfB q E) K 24 1)))))
theorem okE_t {q h : Nat} : okE q h = true ↔ 2 ^ h % q = 1 ∧ 7 ^ h % q = 1 := by
  constructor
  · intro e
    have := aB_t e
    exact ⟨Nat.eq_of_beq_eq_true this.1, Nat.eq_of_beq_eq_true this.2⟩
  · intro e
    show aB (Nat.beq (2 ^ h % q) 1) (Nat.beq (7 ^ h % q) 1) = true
    rw [e.1, e.2]; rfl
theorem mnE_c (q b h : Nat) : mnE q b h = if b ≤ h then b else if okE q h = true then h else b := by
  unfold mnE
  cases e : Nat.ble b h with
  | true => rw [if_pos (Nat.ble_eq.mp e)]
  | false =>
    have : ¬ b ≤ h := fun z => by rw [Nat.ble_eq.mpr z] at e; cases e
    rw [if_neg this]
    cases okE q h <;> rfl
theorem eL_s (q q1 k s b : Nat) : eL q q1 (k + 1) s b = eL q q1 k (s + 1) (if q1 % s = 0 then mnE q (mnE q b s) (q1 / s) else b) := by
  have h : eL q q1 (k + 1) s b = eL q q1 k (s + 1) (Bool.rec (motive := fun _ => Nat) b (mnE q (mnE q b s) (q1 / s)) (Nat.beq (q1 % s) 0)) := rfl
  rw [h]
  by_cases e : q1 % s = 0
  · rw [if_pos e, beq_t e]
  · rw [if_neg e, beq_f e]
theorem eL_t {q q1 : Nat} : ∀ k s b, 0 < s → 0 < q1 → 0 < b → okE q b = true → okE q (eL q q1 k s b) = true ∧ 0 < eL q q1 k s b ∧ eL q q1 k s b ≤ b ∧ ∀ x, s ≤ x → x < s + k → q1 % x = 0 → (okE q x = true → eL q q1 k s b ≤ x) ∧ (okE q (q1 / x) = true → eL q q1 k s b ≤ q1 / x) := by
  intro k
  induction k with
  | zero =>
    intro s b hs h1 hb ho
    exact ⟨ho, hb, Nat.le_refl _, fun x h2 h3 => by omega⟩
  | succ k ih =>
    intro s b hs h1 hb ho
    rw [eL_s]
    have B : ∃ b', (if q1 % s = 0 then mnE q (mnE q b s) (q1 / s) else b) = b' ∧ 0 < b' ∧ okE q b' = true ∧ b' ≤ b ∧ (q1 % s = 0 → (okE q s = true → b' ≤ s) ∧ (okE q (q1 / s) = true → b' ≤ q1 / s)) := by
      by_cases e : q1 % s = 0
      · rw [if_pos e]
        have hd : 0 < q1 / s := Nat.div_pos (Nat.le_of_dvd h1 (Nat.dvd_of_mod_eq_zero e)) hs
        refine ⟨_, rfl, ?_⟩
        have m1 : ∀ b h : Nat, 0 < b → 0 < h → okE q b = true → 0 < mnE q b h ∧ okE q (mnE q b h) = true ∧ mnE q b h ≤ b ∧ (okE q h = true → mnE q b h ≤ h) := by
          intro b h z1 z2 z3
          rw [mnE_c]
          by_cases w : b ≤ h
          · rw [if_pos w]; exact ⟨z1, z3, Nat.le_refl _, fun _ => w⟩
          · rw [if_neg w]
            by_cases v : okE q h = true
            · rw [if_pos v]; exact ⟨z2, v, by omega, fun _ => Nat.le_refl _⟩
            · rw [if_neg v]; exact ⟨z1, z3, Nat.le_refl _, fun u => absurd u v⟩
        obtain ⟨a1, a2, a3, a4⟩ := m1 b s hb hs ho
        obtain ⟨c1, c2, c3, c4⟩ := m1 (mnE q b s) (q1 / s) a1 hd a2
        exact ⟨c1, c2, Nat.le_trans c3 a3, fun _ => ⟨fun u => Nat.le_trans c3 (a4 u), c4⟩⟩
      · rw [if_neg e]
        exact ⟨b, rfl, hb, ho, Nat.le_refl _, fun u => absurd u e⟩
    obtain ⟨b', e, b1, b2, b3, b4⟩ := B
    rw [e]
    obtain ⟨c1, c2, c3, c4⟩ := ih (s + 1) b' (by omega) h1 b1 b2
    refine ⟨c1, c2, Nat.le_trans c3 b3, fun x h2 h3 h4 => ?_⟩
    by_cases w : x = s
    · subst w
      obtain ⟨d1, d2⟩ := b4 h4
      exact ⟨fun u => Nat.le_trans c3 (d1 u), fun u => Nat.le_trans c3 (d2 u)⟩
    · exact c4 x (by omega) (by omega) h4
theorem fB_t {W q m : Nat} (h : fB W q = true) (hq : Pr q) (hW : Nat.gcd q W = 1) (hq1 : 149 < q) (hq2 : q ≤ 32768) (hm : Nat.gcd m 210 = 1) (hm2 : 2 ≤ m) (hn : m * q ≤ 1000000000) (h2 : 2 ^ (m - 1) % q = 1) (h7 : 7 ^ (m - 1) % q = 1) : chk (m * q) = true := by
  have f2 : 2 ^ (q - 1) % q = 1 := flt1 hq (fun z => by have := Nat.le_of_dvd (by decide) z; omega)
  have f7 : 7 ^ (q - 1) % q = 1 := flt1 hq (fun z => by have := Nat.le_of_dvd (by decide) z; omega)
  have hok : okE q (q - 1) = true := okE_t.mpr ⟨f2, f7⟩
  obtain ⟨c1, c2, c3, c4⟩ := eL_t (q := q) (q1 := q - 1) 181 1 (q - 1) (by decide) (by omega) (by omega) hok
  have h1 : tF (Nat.sub q 1) (fun q1 => iB (okE q q1) (tF (eL q q1 181 1 q1) (fun E => tF (Nat.div (Nat.sub (Nat.div 1000000000 q) 1) E) (fun K => allU (lfB q E) K 24 1)))) = true := iB_t h (beq_t hW)
  have eq1 : Nat.sub q 1 = q - 1 := rfl
  have eq2 : ∀ E, Nat.div (Nat.sub (Nat.div 1000000000 q) 1) E = (1000000000 / q - 1) / E := fun _ => rfl
  simp only [tF_eq] at h1
  rw [eq1] at h1
  simp only [eq2] at h1
  have h3 := iB_t h1 hok
  generalize eL q (q - 1) 181 1 (q - 1) = E at h3 c1 c2 c3 c4
  have hE : ∀ g, g ∣ q - 1 → okE q g = true → E ≤ g := by
    intro g hg ho
    have hg0 : 0 < g := Nat.pos_of_dvd_of_pos hg (by omega)
    have hgl := Nat.le_of_dvd (by omega) hg
    rcases Nat.lt_or_ge g 182 with z | z
    · exact (c4 g (by omega) (by omega) (Nat.mod_eq_zero_of_dvd hg)).1 ho
    · obtain ⟨c, hc⟩ := hg
      have hc0 : 0 < c := by
        rcases Nat.eq_zero_or_pos c with w | w
        · rw [w, Nat.mul_zero] at hc; omega
        · exact w
      have hc1 : c < 182 := by
        rcases Nat.lt_or_ge c 182 with w | w
        · exact w
        · have : 182 * 182 ≤ g * c := Nat.mul_le_mul z w
          omega
      have e : (q - 1) / c = g := by rw [hc, Nat.mul_div_cancel _ hc0]
      have := (c4 c (by omega) (by omega) (Nat.mod_eq_zero_of_dvd ⟨g, by rw [hc, Nat.mul_comm]⟩)).2
      rw [e] at this
      exact this ho
  have hq0 : 2 ≤ q := hq.1
  obtain ⟨e2, e7⟩ := okE_t.mp c1
  have hg : okE q (Nat.gcd E (Nat.gcd (m - 1) (q - 1))) = true := okE_t.mpr ⟨pw_gcd hq0 _ _ e2 (pw_gcd hq0 _ _ h2 f2), pw_gcd hq0 _ _ e7 (pw_gcd hq0 _ _ h7 f7)⟩
  have hg1 := hE _ (Nat.dvd_trans (Nat.gcd_dvd_right _ _) (Nat.gcd_dvd_right _ _)) hg
  have hg2 : Nat.gcd E (Nat.gcd (m - 1) (q - 1)) = E := Nat.le_antisymm (Nat.le_of_dvd c2 (Nat.gcd_dvd_left _ _)) hg1
  have hd : E ∣ m - 1 := by
    have h5 := Nat.gcd_dvd_right E (Nat.gcd (m - 1) (q - 1))
    rw [hg2] at h5
    exact Nat.dvd_trans h5 (Nat.gcd_dvd_left _ _)
  have hk : (m - 1) / E * E = m - 1 := Nat.div_mul_cancel hd
  have hmq : m ≤ 1000000000 / q := (Nat.le_div_iff_mul_le (by omega)).mpr hn
  have hkK : (m - 1) / E ≤ (1000000000 / q - 1) / E := Nat.div_le_div_right (by omega)
  have hk1 : 1 ≤ (m - 1) / E := by
    rcases Nat.eq_zero_or_pos ((m - 1) / E) with z | z
    · rw [z, Nat.zero_mul] at hk; omega
    · exact z
  have hk2 : (m - 1) / E ≤ m - 1 := Nat.div_le_self _ _
  have hm3 : m ≤ 6666667 := by
    rcases Nat.lt_or_ge 6666667 m with z | z
    · have : 6666668 * 150 ≤ m * q := Nat.mul_le_mul z hq1
      omega
    · exact z
  have h6 := allU_t 24 1 h3 ((m - 1) / E) hk1 (by omega) hkK
  have h8 : iB (Nat.beq (Nat.gcd (1 + (m - 1) / E * E) 210) 1) (chk ((1 + (m - 1) / E * E) * q)) = true := h6
  have e9 : 1 + (m - 1) / E * E = m := by rw [hk]; omega
  rw [e9] at h8
  exact iB_t h8 (beq_t hm)
noncomputable def wC (p : Nat) (g : Nat → Bool) (f : Nat) : Nat → Bool := Nat.rec (motive := fun _ => Nat → Bool) (fun _ => true) (fun _ ih n => tF (Nat.mul n p) (fun x => iB (Nat.ble x 1000000000) (aB (g n) (aB (chk x) (ih x))))) f
noncomputable def gC (l : List Nat) : Nat → Bool := List.rec (motive := fun _ => Nat → Bool) (fun _ => true) (fun p _ ih n => wC p ih 30 n) l
theorem wC_s (p : Nat) (g : Nat → Bool) (f n : Nat) : wC p g (f + 1) n = iB (Nat.ble (n * p) 1000000000) (aB (g n) (aB (chk (n * p)) (wC p g f (n * p)))) := rfl
theorem gC_s (p : Nat) (l : List Nat) (n : Nat) : gC (p :: l) n = wC p (gC l) 30 n := rfl
theorem wC_t {p : Nat} {l : List Nat} (hp : Pr p) (hl : ∀ r, r ∈ l → p ≤ r) (hg : ∀ n y, gC l n = true → 2 ≤ y → n * y ≤ 1000000000 → (∀ r, Pr r → r ∣ y → r ∈ l) → chk (n * y) = true) : ∀ f n y, y < 2 ^ f → wC p (gC l) f n = true → 2 ≤ y → n * y ≤ 1000000000 → (∀ r, Pr r → r ∣ y → r ∈ p :: l) → chk (n * y) = true := by
  intro f
  induction f with
  | zero => intro n y h; rw [Nat.pow_zero] at h; omega
  | succ f ih =>
    intro n y hy h h2 hn hr
    rw [wC_s] at h
    have hp2 := hp.1
    obtain ⟨r, r1, r2⟩ := pr_ex y h2
    have hpy : p ≤ y := by
      have := Nat.le_of_dvd (by omega) r2
      rcases List.mem_cons.mp (hr r r1 r2) with z | z
      · omega
      · have := hl r z; omega
    have hnp : n * p ≤ 1000000000 := Nat.le_trans (Nat.mul_le_mul_left n hpy) hn
    obtain ⟨a1, a2⟩ := aB_t (iB_t h (Nat.ble_eq.mpr hnp))
    obtain ⟨a3, a4⟩ := aB_t a2
    by_cases hd : p ∣ y
    · obtain ⟨z, hz⟩ := hd
      subst hz
      rcases (by omega : z = 0 ∨ z = 1 ∨ 2 ≤ z) with w | w | w
      · rw [w, Nat.mul_zero] at h2; omega
      · rw [w, Nat.mul_one]; exact a3
      · rw [← Nat.mul_assoc]
        rw [← Nat.mul_assoc] at hn
        rw [Nat.pow_succ] at hy
        have : 2 * z ≤ p * z := Nat.mul_le_mul_right z hp2
        exact ih (n * p) z (by omega) a4 w hn (fun r q1 q2 => hr r q1 (Nat.dvd_trans q2 (Nat.dvd_mul_left _ _)))
    · refine hg n y a1 h2 hn (fun r q1 q2 => ?_)
      rcases List.mem_cons.mp (hr r q1 q2) with z | z
      · rw [z] at q2; exact absurd q2 hd
      · exact z
theorem gC_t : ∀ l : List Nat, (∀ r, r ∈ l → Pr r) → l.Pairwise (fun a b => a ≤ b) → ∀ n y, gC l n = true → 2 ≤ y → n * y ≤ 1000000000 → 0 < n → (∀ r, Pr r → r ∣ y → r ∈ l) → chk (n * y) = true := by
  intro l
  induction l with
  | nil =>
    intro _ _ n y _ h2 _ _ hr
    obtain ⟨r, r1, r2⟩ := pr_ex y h2
    exact absurd (hr r r1 r2) List.not_mem_nil
  | cons p l ih =>
    intro hp hs n y h h2 hn h0 hr
    rw [gC_s] at h
    have hs' := List.pairwise_cons.mp hs
    have hy : y ≤ n * y := Nat.le_mul_of_pos_left y h0
    have H : ∀ f n y, y < 2 ^ f → wC p (gC l) f n = true → 2 ≤ y → n * y ≤ 1000000000 → (∀ r, Pr r → r ∣ y → r ∈ p :: l) → chk (n * y) = true := wC_t (hp p List.mem_cons_self) hs'.1 (fun n y a b c d => by
      rcases Nat.eq_zero_or_pos n with z | z
      · rw [z, Nat.zero_mul]; decide +kernel
      · exact ih (fun r q => hp r (List.mem_cons_of_mem _ q)) hs'.2 n y a b c z d)
    exact H 30 n y (by omega) h h2 hn hr
