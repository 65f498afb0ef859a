/-! no other number passes: a greatest factor above 32768 -/
noncomputable def gA (m : Nat) : Nat := Nat.gcd (Nat.sub (Nat.pow 2 (Nat.sub m 1)) 1) (Nat.sub (Nat.pow 7 (Nat.sub m 1)) 1)
noncomputable def ckA (m x : Nat) : Bool := tF (Nat.mul m x) (fun n => iB (Nat.ble n 1000000000) (chk n))
noncomputable def lkA (l : List (Nat × List Nat)) (m : Nat) : List Nat := List.rec (motive := fun _ => List Nat) [] (fun y _ ih => Bool.rec (motive := fun _ => List Nat) ih y.2 (Nat.beq y.1 m)) l
noncomputable def lpA (l : List Nat) : Nat := List.rec (motive := fun _ => Nat) 1 (fun x _ ih => Nat.mul x ih) l
noncomputable def laA (m : Nat) (l : List Nat) : Bool := List.rec (motive := fun _ => Bool) true (fun x _ ih => aB (Nat.ble x 1000000000) (aB (ckA m x) ih)) l
noncomputable def fsA (m R : Nat) (l : List Nat) : Bool := aB (Nat.beq (lpA l) R) (laA m l)
noncomputable def fA (L : List (Nat × List Nat)) (F m : Nat) : Bool := iB (Nat.beq (Nat.gcd m 210) 1) (tF (gA m) (fun G => tF (Nat.div G (Nat.gcd G F)) (fun G1 => tF (Nat.div G1 (Nat.gcd G1 F)) (fun R => Bool.rec (motive := fun _ => Bool) (aB (Nat.beq (Nat.gcd R F) 1) (Bool.rec (motive := fun _ => Bool) (fsA m R (lkA L m)) (ckA m R) (Nat.ble R 1000000000))) true (Nat.beq R 1)))))
theorem lpA_pr {q : Nat} (hq : Pr q) : ∀ l : List Nat, q ∣ lpA l → ∃ x, x ∈ l ∧ q ∣ x := by
  intro l
  induction l with
  | nil =>
    intro h
    have := Nat.le_of_dvd (by decide) (show q ∣ 1 from h)
    have := hq.1
    omega
  | cons x l ih =>
    intro h
    rcases pr_mul hq (show q ∣ x * lpA l from h) with w | w
    · exact ⟨x, List.mem_cons_self, w⟩
    · obtain ⟨y, h1, h2⟩ := ih w
      exact ⟨y, List.mem_cons_of_mem _ h1, h2⟩
theorem lpA_dv : ∀ (l : List Nat) x, x ∈ l → x ∣ lpA l := by
  intro l
  induction l with
  | nil => intro x h; exact absurd h List.not_mem_nil
  | cons y l ih =>
    intro x h
    show x ∣ y * lpA l
    rcases List.mem_cons.mp h with rfl | w
    · exact Nat.dvd_mul_right _ _
    · exact Nat.dvd_trans (ih x w) (Nat.dvd_mul_left _ _)
theorem laA_t {m : Nat} : ∀ l : List Nat, laA m l = true → ∀ x, x ∈ l → x ≤ 1000000000 ∧ ckA m x = true := by
  intro l
  induction l with
  | nil => intro _ x h; exact absurd h List.not_mem_nil
  | cons y l ih =>
    intro h x hx
    have h1 := aB_t (show aB (Nat.ble y 1000000000) (aB (ckA m y) (laA m l)) = true from h)
    have h2 := aB_t h1.2
    rcases List.mem_cons.mp hx with rfl | w
    · exact ⟨Nat.ble_eq.mp h1.1, h2.1⟩
    · exact ih h2.2 x w
theorem st_A {q G F : Nat} (hq : Pr q) (hqF : ¬ q ∣ F) (h : q ∣ G) : q ∣ G / Nat.gcd G F := by
  obtain ⟨c, hc⟩ := Nat.gcd_dvd_left G F
  rcases Nat.eq_zero_or_pos (Nat.gcd G F) with z | z
  · exfalso
    have : F = 0 := (Nat.gcd_eq_zero_iff.mp z).2
    exact hqF (this ▸ Nat.dvd_zero q)
  · have e : G / Nat.gcd G F = c := by
      have h1 : G / Nat.gcd G F = Nat.gcd G F * c / Nat.gcd G F := by rw [← hc]
      rw [h1, Nat.mul_div_cancel_left _ z]
    rw [e]
    rw [hc] at h
    rcases pr_mul hq h with w | w
    · exact absurd (Nat.dvd_trans w (Nat.gcd_dvd_right G F)) hqF
    · exact w
theorem eq_A {F : Nat} (hF1 : ∀ c, 0 < c → c ≤ 32768 → c ∣ F) {q x : Nat} (hq : 32768 < q) (hx : x ≤ 1000000000) (hx0 : 0 < x) (hg : Nat.gcd x F = 1) (h : q ∣ x) : x = q := by
  obtain ⟨c, hc⟩ := h
  have hc0 : 0 < c := by
    rcases Nat.eq_zero_or_pos c with z | z
    · rw [z, Nat.mul_zero] at hc; omega
    · exact z
  have hcs : c ≤ 32768 := by
    rcases Nat.lt_or_ge 32768 c with z | z
    · have : 32769 * 32769 ≤ q * c := Nat.mul_le_mul hq z
      omega
    · exact z
  have h1 : c ∣ Nat.gcd x F := Nat.dvd_gcd ⟨q, by rw [hc, Nat.mul_comm]⟩ (hF1 c hc0 hcs)
  rw [hg] at h1
  have h2 := Nat.le_of_dvd (by decide) h1
  have : c = 1 := by omega
  rw [hc, this, Nat.mul_one]
theorem ckA_t {m q : Nat} (h : ckA m q = true) (hn : m * q ≤ 1000000000) : chk (m * q) = true :=
  iB_t (show iB (Nat.ble (m * q) 1000000000) (chk (m * q)) = true from h) (Nat.ble_eq.mpr hn)
theorem fA_t {F : Nat} (hF1 : ∀ c, 0 < c → c ≤ 32768 → c ∣ F) (hF2 : ∀ q, Pr q → 32768 < q → ¬ q ∣ F) {L : List (Nat × List Nat)} {m q : Nat} (h : fA L F m = true) (hm : Nat.gcd m 210 = 1) (hq : Pr q) (hql : 32768 < q) (hn : m * q ≤ 1000000000) (h2 : 2 ^ (m - 1) % q = 1) (h7 : 7 ^ (m - 1) % q = 1) : chk (m * q) = true := by
  have hqF := hF2 q hq hql
  have h1 := iB_t h (beq_t hm)
  have hG : q ∣ gA m := by
    refine Nat.dvd_gcd ?_ ?_
    · exact mod_dvd (by show 2 ^ (m - 1) % q = 1 % q; rw [h2]; exact (Nat.mod_eq_of_lt (by omega)).symm)
    · exact mod_dvd (by show 7 ^ (m - 1) % q = 1 % q; rw [h7]; exact (Nat.mod_eq_of_lt (by omega)).symm)
  have hR : q ∣ (gA m / Nat.gcd (gA m) F) / Nat.gcd (gA m / Nat.gcd (gA m) F) F := st_A hq hqF (st_A hq hqF hG)
  generalize eR : (gA m / Nat.gcd (gA m) F) / Nat.gcd (gA m / Nat.gcd (gA m) F) F = R at hR
  have h3 : (Bool.rec (motive := fun _ => Bool) (aB (Nat.beq (Nat.gcd R F) 1) (Bool.rec (motive := fun _ => Bool) (fsA m R (lkA L m)) (ckA m R) (Nat.ble R 1000000000))) true (Nat.beq R 1) : Bool) = true := by
    rw [← eR]; exact h1
  by_cases e1 : R = 1
  · rw [e1] at hR
    have := Nat.le_of_dvd (by decide) hR
    omega
  · rw [beq_f e1] at h3
    obtain ⟨hg, h4⟩ := aB_t h3
    have hg' : Nat.gcd R F = 1 := Nat.eq_of_beq_eq_true hg
    have hR0 : 0 < R := by
      rcases Nat.eq_zero_or_pos R with z | z
      · exfalso
        rw [z, Nat.gcd_zero_left] at hg'
        have := hF1 2 (by decide) (by decide)
        rw [hg'] at this
        have := Nat.le_of_dvd (by decide) this
        omega
      · exact z
    cases e2 : Nat.ble R 1000000000 with
    | true =>
      rw [e2] at h4
      have e3 := eq_A hF1 hql (Nat.ble_eq.mp e2) hR0 hg' hR
      have h5 : ckA m R = true := h4
      rw [e3] at h5
      exact ckA_t h5 hn
    | false =>
      rw [e2] at h4
      obtain ⟨h5, h6⟩ := aB_t (show aB (Nat.beq (lpA (lkA L m)) R) (laA m (lkA L m)) = true from h4)
      have h7 : lpA (lkA L m) = R := Nat.eq_of_beq_eq_true h5
      rw [← h7] at hR
      obtain ⟨x, hx1, hx2⟩ := lpA_pr hq _ hR
      obtain ⟨hx3, hx4⟩ := laA_t _ h6 x hx1
      have hxR : x ∣ R := by rw [← h7]; exact lpA_dv _ x hx1
      have hx0 : 0 < x := Nat.pos_of_dvd_of_pos hxR hR0
      have hxg : Nat.gcd x F = 1 := by
        have : Nat.gcd x F ∣ Nat.gcd R F := Nat.dvd_gcd (Nat.dvd_trans (Nat.gcd_dvd_left x F) hxR) (Nat.gcd_dvd_right x F)
        rw [hg'] at this
        exact Nat.dvd_one.mp this
      have e3 := eq_A hF1 hql hx3 hx0 hxg hx2
      rw [e3] at hx4
      exact ckA_t hx4 hn
