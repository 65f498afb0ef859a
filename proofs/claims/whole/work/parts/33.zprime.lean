/-! primes and parts, both ways -/
theorem ct_isPrime {N : Nat} {X : Nat → Int} {d : Nat} {U : am_U} (n : Int) (hn : n ≤ 1000000000) : EvK N X (Nm_isPrime_s0 d n U) (rI (cb (Pr n.toNat)) U) := ct_isPrime_k prKey_t n hn
theorem ct_M_isPrime {N : Nat} {X : Nat → Int} {d : Nat} {U : am_U} (n : Int) (hn : n ≤ 1000000000) : EvK N X (M_isPrime_s0 (d + 2) n U) (rI (cb (Pr n.toNat)) U) := ct_M_isPrime_k prKey_t n hn
theorem w32_pp {p : Nat} (h : p ≤ 40000) : w32 ((p : Int) * (p : Int)) = ((p * p : Nat) : Int) := by
  have hb : p * p ≤ 40000 * 40000 := Nat.mul_le_mul h h
  rw [← Int.natCast_mul, w32_eq (by omega) (by omega)]
theorem w64_pp {p : Nat} (h : p ≤ 40000) : w64 ((p : Int) * (p : Int)) = ((p * p : Nat) : Int) := by
  have hb : p * p ≤ 40000 * 40000 := Nat.mul_le_mul h h
  rw [← Int.natCast_mul, w64_eq (by omega) (by omega)]
theorem w32_p2 {p : Nat} (h : p ≤ 40000) : w32 ((p : Int) + 2) = ((p + 2 : Nat) : Int) := by
  rw [w32_eq (by omega) (by omega)]; omega
theorem w64_p1 {p : Nat} (h : p ≤ 40000) : w64 ((p : Int) + 1) = ((p + 1 : Nat) : Int) := by
  rw [w64_eq (by omega) (by omega)]; omega
theorem w64_nt {x : Nat} (h : x ≤ 4000000000000000000) : w64 ((x : Nat) : Int) = ((x : Nat) : Int) := w64_eq (by omega) (by omega)
theorem w64_add2 {x y : Nat} (h : x + y ≤ 4000000000000000000) : w64 (((x : Nat) : Int) + ((y : Nat) : Int)) = ((x + y : Nat) : Int) := by
  rw [← Int.natCast_add, w64_nt h]
theorem w64_mul2 {x y : Nat} (h : x * y ≤ 4000000000000000000) : w64 (((x : Nat) : Int) * ((y : Nat) : Int)) = ((x * y : Nat) : Int) := by
  rw [← Int.natCast_mul, w64_nt h]
theorem td_nat (a c : Nat) : Int.tdiv (a : Int) (c : Int) = ((a / c : Nat) : Int) := (Int.ofNat_tdiv a c).symm
theorem w32_td {a c : Nat} (h : a ≤ 1000000000) : w32 (Int.tdiv (a : Int) (c : Int)) = ((a / c : Nat) : Int) := by
  have h2 := Nat.div_le_self a c
  rw [td_nat]
  generalize a / c = z at h2 ⊢
  rw [w32_eq (by omega) (by omega)]
theorem w64_td {a c : Nat} (h : a ≤ 1000000000) : w64 (Int.tdiv (a : Int) (c : Int)) = ((a / c : Nat) : Int) := by
  have := Nat.div_le_self a c
  rw [td_nat, w64_nt (by omega)]
def nxP (p : Nat) : Nat := if p = 2 then 3 else p + 2
section PARTS
variable {N : Nat} {X : Nat → Int} {d : Nat} {U : am_U}
theorem ct_po55 {R : Option am_V × am_M} {n all p m0 : Nat} {pl : Int} (hn0 : m0 ≤ 1000000000) (hp : Pr p) (hpb : p ≤ 31623) (hB : all * sg m0 ≤ 2000000000000000000) (hk : ∀ r e, 0 < r → ¬ p ∣ r → p ^ e * r = m0 → EvK N X (Nm_partsOf_s20 (d + 1) (n : Nat) ((all * Tg p e : Nat) : Int) (r : Nat) (cb (Pr r)) ((nxP p : Nat) : Int) U) R) : ∀ f m j, m < 2 ^ f → 0 < m → p ^ j * m = m0 → EvK N X (Nm_partsOf_s55 (d + 1) (n : Nat) (all : Nat) (m : Nat) pl (p : Nat) ((Tg p j : Nat) : Int) (j : Nat) U) R := by
  have hp2 := hp.1
  intro f
  induction f with
  | zero => intro m j h h0; rw [Nat.pow_zero] at h; omega
  | succ f ih =>
    intro m j hm h0 he
    have hpj : 0 < p ^ j := Nat.pow_pos (by omega)
    have hmm : m ≤ m0 := by rw [← he]; exact Nat.le_mul_of_pos_left m hpj
    have hpm : p ^ j ≤ m0 := by rw [← he]; exact Nat.le_mul_of_pos_right _ h0
    have hj : j < 30 := by
      rcases Nat.lt_or_ge j 30 with q | q
      · exact q
      · have h1 : 2 ^ 30 ≤ 2 ^ j := Nat.pow_le_pow_right (by decide) q
        have h2 : 2 ^ j ≤ p ^ j := Nat.pow_le_pow_left hp2 j
        omega
    have hT := Tg_le hp2 j
    have hTp : Tg p j * p ≤ 2000000000 * 31623 := Nat.mul_le_mul (by omega) hpb
    refine Nm_partsOf_r55 ⟨fun q => absurd q (by omega), fun _ => ⟨by omega, fun q => ?_, fun q => ⟨by omega, ?_⟩⟩⟩
    · rw [tmod_nat] at q
      have hd : ¬ p ∣ m := fun z => by
        have := Nat.mod_eq_zero_of_dvd z
        omega
      have hip := ct_isPrime (N := N) (X := X) (d := d) (U := U) ((m : Nat) : Int) (by omega)
      rw [Int.toNat_natCast] at hip
      have hs := (sg_pow hp hd h0 j).1
      rw [he] at hs
      have hsp := sg_pos h0
      have hb : all * Tg p j ≤ 2000000000000000000 := by
        rw [hs, ← Nat.mul_assoc] at hB
        exact Nat.le_trans (Nat.le_mul_of_pos_right _ hsp) hB
      have hK := hk m j h0 hd he
      refine ⟨_, _, hip, fun h2 => ?_, fun h2 => ?_⟩
      · rw [w64_mul2 (by omega), w32_p2 (by omega)]
        rw [show nxP p = p + 2 from if_neg (by omega)] at hK
        exact hK
      · have e2 : p = 2 := by omega
        rw [w64_mul2 (by omega)]
        rw [show nxP p = p + 1 by rw [e2]; rfl] at hK
        rw [w32_succ (by omega)]
        exact hK
    · rw [tmod_nat] at q
      have hdv : p ∣ m := Nat.dvd_of_mod_eq_zero (by omega)
      obtain ⟨c, hc⟩ := hdv
      have ec : m / p = c := by rw [hc, Nat.mul_div_cancel_left _ (by omega)]
      have hc0 : 0 < c := by
        rcases Nat.eq_zero_or_pos c with z | z
        · rw [z, Nat.mul_zero] at hc; omega
        · exact z
      have hc2 : 2 * c ≤ p * c := Nat.mul_le_mul_right c hp2
      rw [Nat.pow_succ] at hm
      rw [w32_td (by omega), ec, w64_mul2 (by omega), w32_succ (by omega)]
      have e1 : w64 (((Tg p j * p : Nat) : Int) + 1) = ((Tg p (j + 1) : Nat) : Int) := w64_add2 (x := Tg p j * p) (y := 1) (by omega)
      rw [e1]
      exact ih c (j + 1) (by omega) hc0 (by rw [Nat.pow_succ, Nat.mul_assoc, ← hc, he])
theorem po_fin {n all m : Nat} (hn : n ≤ 999999999) (h : Pr m ∨ m = 1) (hm : m ≤ 1000000000) (hs : all * sg m = sg n) : (((m : Nat) : Int) ≤ 1 → rJ ((prt n : Nat) : Int) U = rJ (w64 (((all : Nat) : Int) - ((n : Nat) : Int))) U) ∧ (1 < ((m : Nat) : Int) → rJ ((prt n : Nat) : Int) U = rJ (w64 ((w64 (((all : Nat) : Int) * (w32 (((m : Nat) : Int) + 1)))) - ((n : Nat) : Int))) U) := by
  have hl : (n + 1) * n ≤ 1000000000 * 1000000000 := Nat.mul_le_mul (by omega) (by omega)
  have hb := sg_le n
  have hp := sg_prt n
  constructor
  · intro q
    have hm1 : m = 1 := by
      rcases h with w | w
      · have := w.1; omega
      · exact w
    rw [hm1, sg_1, Nat.mul_one] at hs
    have e : ((all : Nat) : Int) - ((n : Nat) : Int) = ((prt n : Nat) : Int) := by omega
    rw [e, w64_nt (by omega)]
  · intro q
    have hm1 : sg m = m + 1 := by
      rcases h with w | w
      · exact sg_pr w
      · omega
    rw [hm1] at hs
    rw [w32_succ (by omega), w64_mul2 (by omega), hs]
    have e : ((sg n : Nat) : Int) - ((n : Nat) : Int) = ((prt n : Nat) : Int) := by omega
    rw [e, w64_nt (by omega)]
theorem ct_po20 {n : Nat} (hn : n ≤ 999999999) : ∀ k p m all, 31640 ≤ p + k → (p = 2 ∨ (p % 2 = 1 ∧ 3 ≤ p)) → p ≤ 31625 → 0 < m → m ≤ 1000000000 → (∀ r, Pr r → r ∣ m → p ≤ r) → all * sg m = sg n → EvK N X (Nm_partsOf_s20 (d + 1) (n : Nat) (all : Nat) (m : Nat) (cb (Pr m)) (p : Nat) U) (rJ ((prt n : Nat) : Int) U) := by
  intro k
  induction k with
  | zero => intro p m all h _ h1; omega
  | succ k ih =>
    intro p m all hk hp hpb h0 hm hr hs
    have hl : (n + 1) * n ≤ 1000000000 * 1000000000 := Nat.mul_le_mul (by omega) (by omega)
    have hb := sg_le n
    refine Nm_partsOf_r20 ⟨fun q => ?_, fun q => ⟨fun q1 => po_fin hn (Or.inl (cb_ne.mp q1)) hm hs, fun q1 => ⟨fun q2 => ?_, fun q2 => ⟨by omega, fun q3 => ?_, fun q3 => ?_⟩⟩⟩⟩
    · have : 31624 * 31624 ≤ p * p := Nat.mul_le_mul (by omega) (by omega)
      exact po_fin hn (pr_or hr (by omega) h0) hm hs
    · rw [w32_pp (by omega)] at q2
      exact po_fin hn (pr_or hr (by omega) h0) hm hs
    · clear q2
      rw [tmod_nat] at q3
      have hd : ¬ p ∣ m := fun z => by
        have := Nat.mod_eq_zero_of_dvd z
        omega
      refine ⟨fun q4 => ?_, fun q4 => ?_⟩
      · rw [w32_p2 (by omega)]
        refine ih (p + 2) m all (by omega) (by omega) (by omega) h0 hm (fun r r1 r2 => ?_) hs
        have h3 := hr r r1 r2
        have h4 : r ≠ p := fun z => hd (z ▸ r2)
        have h5 : r ≠ p + 1 := fun z => by
          rcases r1.2 2 (Nat.dvd_of_mod_eq_zero (by omega)) with w | w <;> omega
        omega
      · have e2 : p = 2 := by omega
        rw [w32_succ (by omega)]
        refine ih (p + 1) m all (by omega) (by omega) (by omega) h0 hm (fun r r1 r2 => ?_) hs
        have h3 := hr r r1 r2
        have h4 : r ≠ p := fun z => hd (z ▸ r2)
        omega
    · clear q2
      rw [tmod_nat] at q3
      have hd : p ∣ m := Nat.dvd_of_mod_eq_zero (by omega)
      have hpp : Pr p := by
        obtain ⟨r, r1, r2⟩ := pr_ex p (by omega)
        have h3 := hr r r1 (Nat.dvd_trans r2 hd)
        have h4 := Nat.le_of_dvd (by omega) r2
        have : r = p := by omega
        rw [← this]; exact r1
      have hB : all * sg m ≤ 2000000000000000000 := by rw [hs]; omega
      refine ct_po55 hm hpp (by omega) hB (fun r e r0 r1 r2 => ?_) 30 m 0 (by omega) h0 (by rw [Nat.pow_zero, Nat.one_mul])
      have hrd : r ∣ m := ⟨p ^ e, by rw [← r2, Nat.mul_comm]⟩
      have hrm := Nat.le_of_dvd h0 hrd
      have hs2 : all * Tg p e * sg r = sg n := by
        rw [Nat.mul_assoc, ← (sg_pow hpp r1 r0 e).1, r2]; exact hs
      have hnx : p + 1 ≤ nxP p ∧ nxP p ≤ p + 2 ∧ nxP p % 2 = 1 ∧ 3 ≤ nxP p ∧ (p ≠ 2 → nxP p = p + 2) := by
        unfold nxP
        split <;> omega
      refine ih (nxP p) r (all * Tg p e) (by omega) (Or.inr ⟨hnx.2.2.1, hnx.2.2.2.1⟩) (by omega) r0 (by omega) (fun s s1 s2 => ?_) hs2
      have h3 := hr s s1 (Nat.dvd_trans s2 hrd)
      have h4 : s ≠ p := fun z => r1 (z ▸ s2)
      rcases (by omega : p = 2 ∨ p ≠ 2) with w | w
      · have : nxP p = 3 := if_pos w
        omega
      · have h5 : s ≠ p + 1 := fun z => by
          rcases s1.2 2 (Nat.dvd_of_mod_eq_zero (by omega)) with y | y <;> omega
        have := hnx.2.2.2.2 w
        omega
theorem ct_partsOf (n : Nat) (hn : n ≤ 999999999) : EvK N X (Nm_partsOf_s0 (d + 1) (n : Nat) U) (rJ ((prt n : Nat) : Int) U) := by
  refine Nm_partsOf_r0 ⟨fun q => ?_, fun q => ?_⟩
  · have hip := ct_isPrime (N := N) (X := X) (d := d) (U := U) ((n : Nat) : Int) (by omega)
    rw [Int.toNat_natCast] at hip
    exact ⟨_, _, hip, ct_po20 hn 31638 2 n 1 (by decide) (Or.inl rfl) (by decide) (by omega) (by omega) (fun r r1 _ => r1.1) (Nat.one_mul _)⟩
  · have e : prt n = 0 := by
      rcases (by omega : n = 0 ∨ n = 1) with w | w
      · rw [w]; decide
      · rw [w]; decide
    rw [e]; rfl
theorem ct_mp17 {v : Nat} (hv : v ≤ 999999999) : ∀ k e, 31700 ≤ e + k → 2 ≤ e → e ≤ 31624 → EvK N X (M_partsOf_s17 d (v : Nat) ((psm v e : Nat) : Int) (e : Nat) U) (rJ ((prt v : Nat) : Int) U) := by
  intro k
  induction k with
  | zero => intro e h _ h1; omega
  | succ k ih =>
    intro e hk h2 h3
    have hvv : v * v ≤ 1000000000 * 1000000000 := Nat.mul_le_mul (by omega) (by omega)
    have hps := psm_le v e
    refine M_partsOf_r17 ⟨fun q => ?_, fun q => ?_⟩
    · rw [w64_pp (by omega)] at q
      rw [psm_end (by omega)]
    · rw [w64_pp (by omega)] at q
      have hee : e * e ≤ v := by omega
      have he : e ≤ 31623 := by
        rcases Nat.lt_or_ge e 31624 with w | w
        · omega
        · have : 31624 * 31624 ≤ e * e := Nat.mul_le_mul w w
          omega
      refine ⟨by omega, fun q1 => ⟨fun q2 => ⟨by omega, ?_⟩, fun q2 => ?_⟩, fun q1 => ?_⟩
      · rw [w64_pp (by omega)] at q2
        rw [tmod_nat] at q1
        have hd : e ∣ v := Nat.dvd_of_mod_eq_zero (by omega)
        obtain ⟨c, hc⟩ := hd
        have ec : v / e = c := by rw [hc, Nat.mul_div_cancel_left _ (by omega)]
        have hec : e < c := by
          rcases Nat.lt_or_ge e c with w | w
          · exact w
          · exfalso
            have h5 : e * c ≤ e * e := Nat.mul_le_mul_left e w
            omega
        have hcv : c ≤ v := by rw [← ec]; exact Nat.div_le_self _ _
        rw [w64_td (by omega), ec, w64_add2 (by omega), w64_add2 (by omega), w64_p1 (by omega), ← psm_yes hc h2 hec]
        exact ih (e + 1) (by omega) (by omega) (by omega)
      · rw [w64_pp (by omega)] at q2
        rw [w64_add2 (by omega), w64_p1 (by omega), ← psm_sq (by omega) h2]
        exact ih (e + 1) (by omega) (by omega) (by omega)
      · rw [tmod_nat] at q1
        rw [w64_p1 (by omega), ← psm_no (by omega)]
        exact ih (e + 1) (by omega) (by omega) (by omega)
theorem ct_M_partsOf (n : Nat) (hn : n ≤ 999999999) : EvK N X (M_partsOf_s0 d (n : Nat) U) (rJ ((prt n : Nat) : Int) U) := by
  refine M_partsOf_r0 ⟨fun q => ?_, fun q => ?_⟩
  · have h := ct_mp17 (N := N) (X := X) (d := d) (U := U) hn 31698 2 (by decide) (by decide) (by decide)
    rw [psm_0 (by omega)] at h
    exact h
  · have h := ct_mp17 (N := N) (X := X) (d := d) (U := U) hn 31698 2 (by decide) (by decide) (by decide)
    rw [psm_2 (by omega)] at h
    exact h
end PARTS
