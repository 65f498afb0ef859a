/-! no other number passes: small factors alone, primes left out -/
noncomputable def wD (p : Nat) (g : Nat → Bool) (f : Nat) : Nat → Bool := Nat.rec (motive := fun _ => Nat → Bool) (fun _ => true) (fun _ ih n => tF (Nat.mul n p) (fun x => iB (Nat.ble x 1000000000) (aB (g n) (aB (iB (Nat.ble 2 n) (chk x)) (ih x))))) f
noncomputable def gD (l : List Nat) : Nat → Bool := List.rec (motive := fun _ => Nat → Bool) (fun _ => true) (fun p _ ih n => wD p ih 30 n) l
theorem wD_s (p : Nat) (g : Nat → Bool) (f n : Nat) : wD p g (f + 1) n = iB (Nat.ble (n * p) 1000000000) (aB (g n) (aB (iB (Nat.ble 2 n) (chk (n * p))) (wD p g f (n * p)))) := rfl
theorem gD_s (p : Nat) (l : List Nat) (n : Nat) : gD (p :: l) n = wD p (gD l) 30 n := rfl
theorem wD_t {p : Nat} {l : List Nat} (hp : Pr p) (hl : ∀ r, r ∈ l → p ≤ r) (hg : ∀ n y, 0 < n → gD l n = true → 2 ≤ y → n * y ≤ 1000000000 → (∀ r, Pr r → r ∣ y → r ∈ l) → chk (n * y) = true ∨ Pr (n * y)) : ∀ f n y, y < 2 ^ f → 0 < n → wD p (gD l) f n = true → 2 ≤ y → n * y ≤ 1000000000 → (∀ r, Pr r → r ∣ y → r ∈ p :: l) → chk (n * y) = true ∨ Pr (n * y) := by
  intro f
  induction f with
  | zero => intro n y h; rw [Nat.pow_zero] at h; omega
  | succ f ih =>
    intro n y hy h0 h h2 hn hr
    rw [wD_s] at h
    have hp2 := hp.1
    obtain ⟨r, r1, r2⟩ := pr_ex y h2
    have hpy : p ≤ y := by
      have := Nat.le_of_dvd (by omega) r2
      rcases List.mem_cons.mp (hr r r1 r2) with z | z
      · omega
      · have := hl r z; omega
    have hnp : n * p ≤ 1000000000 := Nat.le_trans (Nat.mul_le_mul_left n hpy) hn
    obtain ⟨a1, a2⟩ := aB_t (iB_t h (Nat.ble_eq.mpr hnp))
    obtain ⟨a3, a4⟩ := aB_t a2
    by_cases hd : p ∣ y
    · obtain ⟨z, hz⟩ := hd
      subst hz
      rcases (by omega : z = 0 ∨ z = 1 ∨ 2 ≤ z) with w | w | w
      · rw [w, Nat.mul_zero] at h2; omega
      · rw [w, Nat.mul_one]
        rcases (by omega : n = 1 ∨ 2 ≤ n) with v | v
        · right
          rw [v, Nat.one_mul]; exact hp
        · left
          exact iB_t a3 (Nat.ble_eq.mpr v)
      · rw [← Nat.mul_assoc]
        rw [← Nat.mul_assoc] at hn
        rw [Nat.pow_succ] at hy
        have : 2 * z ≤ p * z := Nat.mul_le_mul_right z hp2
        exact ih (n * p) z (by omega) (Nat.mul_pos h0 (by omega)) a4 w hn (fun r q1 q2 => hr r q1 (Nat.dvd_trans q2 (Nat.dvd_mul_left _ _)))
    · refine hg n y h0 a1 h2 hn (fun r q1 q2 => ?_)
      rcases List.mem_cons.mp (hr r q1 q2) with z | z
      · rw [z] at q2; exact absurd q2 hd
      · exact z
theorem gD_t : ∀ l : List Nat, (∀ r, r ∈ l → Pr r) → l.Pairwise (fun a b => a ≤ b) → ∀ n y, 0 < n → gD l n = true → 2 ≤ y → n * y ≤ 1000000000 → (∀ r, Pr r → r ∣ y → r ∈ l) → chk (n * y) = true ∨ Pr (n * y) := by
  intro l
  induction l with
  | nil =>
    intro _ _ n y _ _ h2 _ hr
    obtain ⟨r, r1, r2⟩ := pr_ex y h2
    exact absurd (hr r r1 r2) List.not_mem_nil
  | cons p l ih =>
    intro hp hs n y h0 h h2 hn hr
    rw [gD_s] at h
    have hs' := List.pairwise_cons.mp hs
    have hy : y ≤ n * y := Nat.le_mul_of_pos_left y h0
    have H : ∀ f n y, y < 2 ^ f → 0 < n → wD p (gD l) f n = true → 2 ≤ y → n * y ≤ 1000000000 → (∀ r, Pr r → r ∣ y → r ∈ p :: l) → chk (n * y) = true ∨ Pr (n * y) := wD_t (hp p List.mem_cons_self) hs'.1 (ih (fun r q => hp r (List.mem_cons_of_mem _ q)) hs'.2)
    exact H 30 n y (by omega) h0 h h2 hn hr
/-! tried by the kernel: small factors alone -/
theorem run_C0 : gD (cLs.drop 5) 1 = true := by decide +kernel
theorem run_C1 : wD 23 (gD (cLs.drop 5)) 29 23 = true := by decide +kernel
theorem run_C2 : wD 19 (gD (cLs.drop 4)) 29 19 = true := by decide +kernel
theorem run_C3 : wD 17 (gD (cLs.drop 3)) 29 17 = true := by decide +kernel
theorem run_C4 : wD 13 (gD (cLs.drop 2)) 29 13 = true := by decide +kernel
theorem run_C5 : gD (cLs.drop 1) 11 = true := by decide +kernel
theorem run_C6 : wD 11 (gD (cLs.drop 1)) 28 121 = true := by decide +kernel
theorem run_C7 : chk 121 = true := by decide +kernel
