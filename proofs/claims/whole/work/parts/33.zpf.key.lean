/-! no other number passes -/
theorem all_B {q : Nat} (h1 : 150 ≤ q) (h2 : q ≤ 32768) : fB (lpA wLs) q = true := by
  by_cases c0 : q ≤ 156
  · have h := run_B0
    rw [tF_eq] at h
    exact allU_t 3 150 h q (by omega) (by omega) c0
  by_cases c1 : q ≤ 157
  · have h := run_B1
    rw [tF_eq] at h
    exact allU_t 0 157 h q (by omega) (by omega) c1
  by_cases c2 : q ≤ 166
  · have h := run_B2
    rw [tF_eq] at h
    exact allU_t 4 158 h q (by omega) (by omega) c2
  by_cases c3 : q ≤ 172
  · have h := run_B3
    rw [tF_eq] at h
    exact allU_t 3 167 h q (by omega) (by omega) c3
  by_cases c4 : q ≤ 180
  · have h := run_B4
    rw [tF_eq] at h
    exact allU_t 3 173 h q (by omega) (by omega) c4
  by_cases c5 : q ≤ 192
  · have h := run_B5
    rw [tF_eq] at h
    exact allU_t 4 181 h q (by omega) (by omega) c5
  by_cases c6 : q ≤ 196
  · have h := run_B6
    rw [tF_eq] at h
    exact allU_t 2 193 h q (by omega) (by omega) c6
  by_cases c7 : q ≤ 198
  · have h := run_B7
    rw [tF_eq] at h
    exact allU_t 1 197 h q (by omega) (by omega) c7
  by_cases c8 : q ≤ 222
  · have h := run_B8
    rw [tF_eq] at h
    exact allU_t 5 199 h q (by omega) (by omega) c8
  by_cases c9 : q ≤ 223
  · have h := run_B9
    rw [tF_eq] at h
    exact allU_t 0 223 h q (by omega) (by omega) c9
  by_cases c10 : q ≤ 232
  · have h := run_B10
    rw [tF_eq] at h
    exact allU_t 4 224 h q (by omega) (by omega) c10
  by_cases c11 : q ≤ 250
  · have h := run_B11
    rw [tF_eq] at h
    exact allU_t 5 233 h q (by omega) (by omega) c11
  by_cases c12 : q ≤ 270
  · have h := run_B12
    rw [tF_eq] at h
    exact allU_t 5 251 h q (by omega) (by omega) c12
  by_cases c13 : q ≤ 282
  · have h := run_B13
    rw [tF_eq] at h
    exact allU_t 4 271 h q (by omega) (by omega) c13
  by_cases c14 : q ≤ 316
  · have h := run_B14
    rw [tF_eq] at h
    exact allU_t 6 283 h q (by omega) (by omega) c14
  by_cases c15 : q ≤ 366
  · have h := run_B15
    rw [tF_eq] at h
    exact allU_t 6 317 h q (by omega) (by omega) c15
  by_cases c16 : q ≤ 418
  · have h := run_B16
    rw [tF_eq] at h
    exact allU_t 6 367 h q (by omega) (by omega) c16
  by_cases c17 : q ≤ 456
  · have h := run_B17
    rw [tF_eq] at h
    exact allU_t 6 419 h q (by omega) (by omega) c17
  by_cases c18 : q ≤ 556
  · have h := run_B18
    rw [tF_eq] at h
    exact allU_t 7 457 h q (by omega) (by omega) c18
  by_cases c19 : q ≤ 676
  · have h := run_B19
    rw [tF_eq] at h
    exact allU_t 7 557 h q (by omega) (by omega) c19
  by_cases c20 : q ≤ 918
  · have h := run_B20
    rw [tF_eq] at h
    exact allU_t 8 677 h q (by omega) (by omega) c20
  by_cases c21 : q ≤ 1320
  · have h := run_B21
    rw [tF_eq] at h
    exact allU_t 9 919 h q (by omega) (by omega) c21
  by_cases c22 : q ≤ 2338
  · have h := run_B22
    rw [tF_eq] at h
    exact allU_t 10 1321 h q (by omega) (by omega) c22
  by_cases c23 : q ≤ 4798
  · have h := run_B23
    rw [tF_eq] at h
    exact allU_t 12 2339 h q (by omega) (by omega) c23
  by_cases c24 : q ≤ 9748
  · have h := run_B24
    rw [tF_eq] at h
    exact allU_t 13 4799 h q (by omega) (by omega) c24
  by_cases c25 : q ≤ 16140
  · have h := run_B25
    rw [tF_eq] at h
    exact allU_t 13 9749 h q (by omega) (by omega) c25
  by_cases c26 : q ≤ 23202
  · have h := run_B26
    rw [tF_eq] at h
    exact allU_t 13 16141 h q (by omega) (by omega) c26
  by_cases c27 : q ≤ 30702
  · have h := run_B27
    rw [tF_eq] at h
    exact allU_t 13 23203 h q (by omega) (by omega) c27
  have h := run_B28
  rw [tF_eq] at h
  exact allU_t 12 30703 h q (by omega) (by omega) h2
theorem all_C : gD cLs 1 = true := by
  have e5 : cLs.drop 4 = 23 :: cLs.drop 5 := rfl
  have e4 : cLs.drop 3 = 19 :: cLs.drop 4 := rfl
  have e3 : cLs.drop 2 = 17 :: cLs.drop 3 := rfl
  have e2 : cLs.drop 1 = 13 :: cLs.drop 2 := rfl
  have e1 : cLs = 11 :: cLs.drop 1 := rfl
  have st : ∀ (p : Nat) (l : List Nat), gD l 1 = true → wD p (gD l) 29 p = true → gD (p :: l) 1 = true := by
    intro p l b d
    rw [gD_s, wD_s, Nat.one_mul, b, d]
    show iB (Nat.ble p 1000000000) (aB true (aB (iB false (chk p)) true)) = true
    show iB (Nat.ble p 1000000000) true = true
    cases Nat.ble p 1000000000 <;> rfl
  have h0 : gD (cLs.drop 4) 1 = true := by
    rw [e5]; exact st 23 _ run_C0 run_C1
  have h1 : gD (cLs.drop 3) 1 = true := by
    rw [e4]; exact st 19 _ h0 run_C2
  have h2 : gD (cLs.drop 2) 1 = true := by
    rw [e3]; exact st 17 _ h1 run_C3
  have h3 : gD (cLs.drop 1) 1 = true := by
    rw [e2]; exact st 13 _ h2 run_C4
  have h4 : wD 11 (gD (cLs.drop 1)) 29 11 = true := by
    rw [wD_s]
    show iB (Nat.ble 121 1000000000) (aB (gD (cLs.drop 1) 11) (aB (iB (Nat.ble 2 11) (chk 121)) (wD 11 (gD (cLs.drop 1)) 28 121))) = true
    rw [run_C5, run_C6, run_C7]
    generalize Nat.ble 121 1000000000 = b1
    generalize Nat.ble 2 11 = b2
    cases b1 <;> cases b2 <;> rfl
  rw [e1]; exact st 11 _ h3 h4
theorem pr_210 {r : Nat} (hr : Pr r) (h : r ∣ 210) : r = 2 ∨ r = 3 ∨ r = 5 ∨ r = 7 := by
  have h2 := hr.1
  have one : ∀ p, Pr p → r ∣ p → r = p := fun p hp hd => by
    rcases hp.2 r hd with z | z
    · omega
    · exact z
  rcases pr_mul hr (show r ∣ 2 * 105 from h) with w | w
  · exact Or.inl (one 2 (pr_12 2 (by decide)) w)
  · rcases pr_mul hr (show r ∣ 3 * 35 from w) with w | w
    · exact Or.inr (Or.inl (one 3 (pr_12 3 (by decide)) w))
    · rcases pr_mul hr (show r ∣ 5 * 7 from w) with w | w
      · exact Or.inr (Or.inr (Or.inl (one 5 (pr_12 5 (by decide)) w)))
      · exact Or.inr (Or.inr (Or.inr (one 7 (pr_12 7 (by decide)) w)))
theorem fl_red {n m q a : Nat} (hq : Pr q) (ha : ¬ q ∣ a) (e : n = m * q) (hm : 1 ≤ m) (h : a ^ (n - 1) % n = 1) : a ^ (m - 1) % q = 1 := by
  have hq2 := hq.1
  have hd : q ∣ n := ⟨m, by rw [e, Nat.mul_comm]⟩
  have h1 : a ^ (n - 1) % q = 1 := by
    rw [← Nat.mod_mod_of_dvd _ hd, h]
    exact Nat.mod_eq_of_lt (by omega)
  have e1 : n - 1 = (q - 1) * m + (m - 1) := by
    have : q * m = (q - 1) * m + m := by
      obtain ⟨z, rfl⟩ : ∃ z, q = z + 1 := ⟨q - 1, by omega⟩
      rw [Nat.succ_mul]; rfl
    rw [e, Nat.mul_comm m q]
    omega
  rw [e1, Nat.pow_add, Nat.pow_mul, Nat.mul_mod, pow_mod1 hq2 (flt1 hq ha), Nat.one_mul, Nat.mod_mod] at h1
  exact h1
theorem cLs_pr : ∀ r, r ∈ cLs → Pr r := by
  have h : cLs.all (fun p => Nat.ble 2 p && (List.range p).all (fun m => Nat.blt m 2 || !(Nat.beq (p % m) 0))) = true := by decide +kernel
  intro r hr
  have h1 := List.all_eq_true.mp h r hr
  rw [Bool.and_eq_true] at h1
  exact pr_of (Nat.ble_eq.mp h1.1) h1.2
theorem wLs_le : ∀ x, x ∈ wLs → 0 < x ∧ x ≤ 149 := by decide +kernel
theorem prKey_t : prKey := by
  intro n h2 hn hnp d2 d3 d5 d7 f2 f7
  have dv : ∀ r, Pr r → r ∣ n → ¬ r ∣ 210 := by
    intro r hr hd h
    have z := Nat.mod_eq_zero_of_dvd hd
    rcases pr_210 hr h with w | w | w | w
    · rw [w] at z; exact d2 z
    · rw [w] at z; exact d3 z
    · rw [w] at z; exact d5 z
    · rw [w] at z; exact d7 z
  refine chk_ok ?_ f2 f7
  by_cases hb : ∃ q, Pr q ∧ q ∣ n ∧ 149 < q
  · obtain ⟨q, hq, ⟨m, hm'⟩, hql⟩ := hb
    have e : n = m * q := by rw [hm', Nat.mul_comm]
    have hm2 : 2 ≤ m := by
      rcases (by omega : m = 0 ∨ m = 1 ∨ 2 ≤ m) with w | w | w
      · rw [w, Nat.zero_mul] at e; omega
      · rw [w, Nat.one_mul] at e; rw [e] at hnp; exact absurd hq hnp
      · exact w
    have hmn : m ∣ n := ⟨q, e⟩
    have hmg : Nat.gcd m 210 = 1 := by
      rcases (by omega : Nat.gcd m 210 = 0 ∨ Nat.gcd m 210 = 1 ∨ 2 ≤ Nat.gcd m 210) with w | w | w
      · have := (Nat.gcd_eq_zero_iff.mp w).1; omega
      · exact w
      · obtain ⟨r, r1, r2⟩ := pr_ex _ w
        exact absurd (Nat.dvd_trans r2 (Nat.gcd_dvd_right _ _)) (dv r r1 (Nat.dvd_trans (Nat.dvd_trans r2 (Nat.gcd_dvd_left _ _)) hmn))
    have nq : ∀ a, 0 < a → a < 149 → ¬ q ∣ a := fun a h0 h1 z => by
      have := Nat.le_of_dvd h0 z; omega
    have g2 := fl_red hq (nq 2 (by decide) (by decide)) e (by omega) f2
    have g7 := fl_red hq (nq 7 (by decide) (by decide)) e (by omega) f7
    rw [e] at hn ⊢
    rcases Nat.lt_or_ge 32768 q with w | w
    · have hA := run_A
      rw [tF_eq] at hA
      have hm3 : m ≤ 30517 := by
        rcases Nat.lt_or_ge 30517 m with z | z
        · have : 30518 * 32769 ≤ m * q := Nat.mul_le_mul z w
          omega
        · exact z
      have h1 := allU_t 15 2 hA m hm2 (by omega) hm3
      refine fA_t (fun c c0 c1 => prd_in 15 1 c (by omega) (by omega)) (fun r r1 r2 => ?_) h1 hmg hq w hn g2 g7
      rcases prd_pr r1 15 1 (by decide) (by omega) with z | z
      · exact z
      · omega
    · have hW : Nat.gcd q (lpA wLs) = 1 := by
        rcases hq.2 _ (Nat.gcd_dvd_left q (lpA wLs)) with z | z
        · exact z
        · exfalso
          have hd : q ∣ lpA wLs := by
            have := Nat.gcd_dvd_right q (lpA wLs)
            rw [z] at this
            exact this
          obtain ⟨x, x1, x2⟩ := lpA_pr hq _ hd
          have := wLs_le x x1
          have := Nat.le_of_dvd (by omega) x2
          omega
      exact fB_t (all_B (by omega) w) hq hW hql w hmg hm2 hn g2 g7
  · have hC : chk (1 * n) = true ∨ Pr (1 * n) := by
      refine gD_t cLs cLs_pr (by decide +kernel) 1 n (by decide) all_C h2 (by omega) (fun r r1 r2 => ?_)
      have hr : r ≤ 149 := by
        rcases Nat.lt_or_ge 149 r with z | z
        · exact absurd ⟨r, r1, r2, z⟩ hb
        · exact z
      have T : ∀ r : Fin 150, 2 ≤ r.val → r.val ∈ cLs ∨ (r.val % 2 = 0) ∨ (r.val % 3 = 0) ∨ (r.val % 5 = 0) ∨ (r.val % 7 = 0) ∨ (r.val % 11 = 0 ∧ r.val ≠ 11) := by decide +kernel
      have nd : ∀ p, p ∣ 210 → 2 ≤ p → r % p = 0 → False := by
        intro p hp p2 z
        rcases r1.2 p (Nat.dvd_of_mod_eq_zero z) with y | y
        · omega
        · rw [y] at hp; exact dv r r1 r2 hp
      rcases T ⟨r, by omega⟩ r1.1 with z | z | z | z | z | ⟨z1, z2⟩
      · exact z
      · exact (nd 2 (by decide) (by decide) z).elim
      · exact (nd 3 (by decide) (by decide) z).elim
      · exact (nd 5 (by decide) (by decide) z).elim
      · exact (nd 7 (by decide) (by decide) z).elim
      · rcases r1.2 11 (Nat.dvd_of_mod_eq_zero z1) with y | y
        · omega
        · exact absurd y.symm z2
    rw [Nat.one_mul] at hC
    exact hC.resolve_right hnp
