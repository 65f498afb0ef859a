/-! has, person -/
theorem ct_waiting_l {N : Nat} {X : Nat → Int} {d : Nat} {U : am_U} {n : Nat} (hn : U 16 0 = (n : Nat)) (hn2 : n ≤ 16) : ∀ m i : Nat, i + m = n → ∀ r, in32 r → (∀ j, j < 32 → tb r j = decide (j < i ∧ U 18 j = -1)) → ∃ r', EvK N X (Fk_waiting_s4 d r (i : Nat) U) (rI r' U) ∧ in32 r' ∧ ∀ j, j < 32 → tb r' j = decide (j < n ∧ U 18 j = -1) := by
  intro m
  induction m with
  | zero =>
    intro i hi r h1 h2
    obtain rfl : i = n := by omega
    exact ⟨r, Fk_waiting_r4 ⟨fun _ => rfl, fun q => absurd q (by rw [hn]; omega)⟩, h1, h2⟩
  | succ m ih =>
    intro i hi r h1 h2
    by_cases c : U 18 i = -1
    · obtain ⟨r', k1, k2, k3⟩ := ih (i + 1) (by omega) (am_or r (am_shl 1 (i : Nat))) (or_in _ _) (fun j hj => by
        rw [tb_or, h2 j hj, tb_bit (by omega) hj]
        by_cases e : j = i
        · subst e; simp [c]
        · simp only [e, decide_false, Bool.or_false]
          exact decide_eq_decide.mpr ⟨fun ⟨a, q⟩ => ⟨by omega, q⟩, fun ⟨a, q⟩ => ⟨by omega, q⟩⟩)
      refine ⟨r', Fk_waiting_r4 ⟨fun q => absurd q (by rw [hn]; omega), fun _ => ⟨by omega, fun q => ?_, fun _ => ?_⟩⟩, k2, k3⟩
      · rw [Int.toNat_natCast] at q; exact absurd c q
      · rw [w32_succ (i := i) (by omega)]; exact k1
    · obtain ⟨r', k1, k2, k3⟩ := ih (i + 1) (by omega) r h1 (fun j hj => by
        rw [h2 j hj]
        refine decide_eq_decide.mpr ⟨fun ⟨a, q⟩ => ⟨by omega, q⟩, fun ⟨a, q⟩ => ⟨?_, q⟩⟩
        rcases Nat.lt_or_ge j i with z | z
        · exact z
        · have : j = i := by omega
          subst this; exact absurd q c)
      refine ⟨r', Fk_waiting_r4 ⟨fun q => absurd q (by rw [hn]; omega), fun _ => ⟨by omega, fun _ => ?_, fun q => ?_⟩⟩, k2, k3⟩
      · rw [w32_succ (i := i) (by omega)]; exact k1
      · rw [Int.toNat_natCast] at q; exact absurd q c
theorem ct_waiting {N : Nat} {X : Nat → Int} {d : Nat} {U : am_U} {n : Nat} (hn : U 16 0 = (n : Nat)) (hn2 : n ≤ 16) : ∃ r, EvK N X (Fk_waiting_s0 d U) (rI r U) ∧ in32 r ∧ ∀ j, j < 32 → tb r j = decide (j < n ∧ U 18 j = -1) := by
  obtain ⟨r, k1, k2, k3⟩ := ct_waiting_l (N := N) (X := X) (d := d) hn hn2 n 0 (by omega) 0 (by unfold in32; omega) (fun j hj => by rw [tb_0]; simp)
  exact ⟨r, Fk_waiting_r0 k1, k2, k3⟩
theorem M_has4 {N : Nat} {X : Nat → Int} {d : Nat} {U : am_U} {n : Nat} {w : Int} (hn : U 122 0 = (n : Nat)) (hn2 : n ≤ 16) : ∀ m i : Nat, i + m = n → EvK N X (M_has_s103 (d + 1) w ((fb_ct (fun p => U 124 p == -1) i : Nat) : Int) (i : Nat) U) (rI ((fb_ct (fun p => U 124 p == -1) n : Nat) : Int) U) := by
  intro m
  induction m with
  | zero =>
    intro i hi
    obtain rfl : i = n := by omega
    exact M_has_r103 ⟨fun _ => rfl, fun q => absurd q (by rw [hn]; omega)⟩
  | succ m ih =>
    intro i hi
    have k1 := ih (i + 1) (by omega)
    have hs := fb_ct_succ (fun p => U 124 p == -1) i
    have hl := fb_ct_le (fun p => U 124 p == -1) i
    refine M_has_r103 ⟨fun q => absurd q (by rw [hn]; omega), fun _ => ⟨by omega, ?_⟩⟩
    rw [Int.toNat_natCast, w32_succ (i := i) (by omega)]
    refine ⟨fun q => ?_, fun q => ?_⟩
    · rw [hs, if_neg (by simpa using q)] at k1
      rw [w32_0 (by omega) (by omega)]; exact k1
    · rw [hs, if_pos (by simpa using q)] at k1
      rw [w32_succ (by omega)]; exact k1
/-- what a question may leave behind: the judge's table alone -/
def kJ (U : am_U) (b nl nw n : Nat) (V : am_U) : Prop := lkp U V ∧ iJdg V b nl nw n
theorem kJ_agr {U V : am_U} {b nl nw n : Nat} (h : agr U V) (h2 : ∀ r j, r ≠ 46 → r ≠ 47 → (r = 45 → j ≠ 3 ∧ j ≠ 5) → V r j = U r j) (hj : iJdg V b nl nw n) : kJ U b nl nw n V := ⟨h2, hj⟩
theorem pair_has {N : Nat} {X : Nat → Int} {d : Nat} {U : am_U} {b ns nh nl nw nd cl n : Nat} (ht : iTown U b ns nh nl nw nd cl) (hf : iFolk U n nh) (hm : iMisc U) (hh : U 86 58 = U 56 2) (hj : iJdg U b nl nw n) (x : Int) : ask3 N X (kJ U b nl nw n) (D_has_s0 (d + 7) x) (M_has_s0 (d + 7) x) U := by
  have hb2 := ht.1.2
  by_cases x7 : x = 7
  · obtain ⟨U1, f1, f2, f3⟩ := ct_countBreaches (N := N) (X := X) (d := d) (jCtx_of ht hf) hj
    have ht1 := iTown_agrC (agrC_lkp f2) ht
    have hf1 := iFolk_agrC (agrC_lkp f2) hf
    obtain ⟨U2, g1, g2, g3⟩ := ct_scans (N := N) (X := X) (d := d) (w := -1) (k := -1) (by decide) (mCtx_of ht1 hf1)
    rw [brA_cg (stq_agrC (agrC_lkp f2)), lkp_row f2 (r := 18) (by decide) (by decide) (by decide)] at g1
    subst x7
    refine ⟨(((brA U b nl nw n (U 18) (-1)).length : Nat) : Int), U1, D_has_r0 ?_, agrC_lkp f2, ⟨f2, f3⟩, U2, M_has_r0 ?_, agr_sk g2⟩
    · exact ⟨fun h => by simp at h, fun h => by simp at h, fun h => by simp at h, fun h => by simp at h, fun h => by simp at h, fun h => by simp at h, fun h => by simp at h, fun _ => ⟨_, _, f1, rfl⟩, fun h => by simp at h, fun h => by simp at h, fun h => by simp at h, fun h => by simp at h, fun h => by simp at h⟩
    · exact ⟨fun h => by simp at h, fun h => by simp at h, fun h => by simp at h, fun h => by simp at h, fun h => by simp at h, fun h => by simp at h, fun h => by simp at h, fun _ => ⟨_, _, g1, rfl⟩, fun h => by simp at h, fun h => by simp at h, fun h => by simp at h, fun h => by simp at h, fun h => by simp at h⟩
  · obtain ⟨r4, w1, w2, w3⟩ := ct_waiting (N := N) (X := X) (d := d + 6) hf.1.1 hf.1.2.2
    have hn := hf.1.2.2
    have e4 : fb_ct (tb r4) 32 = fb_ct (fun p => U 124 p == -1) n := by
      rw [ct_cut (m := n) (by omega) (fun i a e => by rw [w3 i e]; simp; omega)]
      refine fb_ct_cong (fun i hi => ?_)
      rw [w3 i (by omega), (hf.2.2.2.1 i hi).2]
      by_cases q : U 18 i = -1 <;> simp [q, hi]
    have fin : ∀ r : Int, (x = 0 → r = (ns : Nat)) → (x = 1 → r = (nh : Nat)) → (x = 2 → r = (nl : Nat)) → (x = 3 → r = (n : Nat)) → (x = 4 → r = ((fb_ct (tb r4) 32 : Nat) : Int)) → (x = 5 → r = (nw : Nat)) → (x = 6 → r = (nd : Nat)) → (x = 8 → r = U 16 1) → (x = 9 → r = U 16 2) → (x = 10 → r = U 56 2) → (x = 11 → r = U 1 18) → (¬ x = 0 ∧ ¬ x = 1 ∧ ¬ x = 2 ∧ ¬ x = 3 ∧ ¬ x = 4 ∧ ¬ x = 5 ∧ ¬ x = 6 ∧ ¬ x = 7 ∧ ¬ x = 8 ∧ ¬ x = 9 ∧ ¬ x = 10 ∧ ¬ x = 11 → r = -1) → ask3 N X (kJ U b nl nw n) (D_has_s0 (d + 7) x) (M_has_s0 (d + 7) x) U := by
      intro r a0 a1 a2 a3 a4 a5 a6 a8 a9 a10 a11 ad
      refine ⟨r, U, D_has_r0 ?_, agrC_refl _, ⟨lkp_refl _, hj⟩, U, M_has_r0 ?_, agr_refl _⟩
      · refine ⟨fun h => by rw [a0 h, ht.2.1.1], fun h => by rw [a1 h, ht.2.2.1.1], fun h => by rw [a2 h, ht.2.2.2.1.1], fun h => by rw [a3 h, hf.1.1], fun h => ⟨_, _, w1, _, _, ct_bitCount _, by rw [a4 h]⟩, fun h => by rw [a5 h, ht.2.2.2.2.2.2.1.1], fun h => by rw [a6 h, ht.2.2.2.2.1.1], fun h => absurd h x7, fun h => by rw [a8 h], fun h => ?_, fun h => by rw [a10 h], fun h => by rw [a11 h], fun h => by rw [ad h]⟩
        rw [a9 h]
        exact ⟨fun q => by rw [q], fun q => by rw [hf.2.2.1.2.resolve_left q]⟩
      · rw [ht.1.1, Int.toNat_natCast]
        refine ⟨fun h => ⟨by omega, by rw [a0 h, ht.2.1.2.1]⟩, fun h => ⟨by omega, by rw [a1 h, ht.2.2.1.2.1]⟩, fun h => ⟨by omega, by rw [a2 h, ht.2.2.2.1.2.1]⟩, fun h => by rw [a3 h, hf.1.2.1], fun h => ?_, fun h => ⟨by omega, by rw [a5 h, ht.2.2.2.2.2.2.1.2.1]⟩, fun h => ⟨by omega, by rw [a6 h, ht.2.2.2.2.1.2.1]⟩, fun h => absurd h x7, fun h => by rw [a8 h, hf.2.1.1], fun h => by rw [a9 h, hf.2.2.1.1], fun h => by rw [a10 h, hh], fun h => ?_, fun h => by rw [ad h]⟩
        · rw [a4 h, e4]
          have := M_has4 (N := N) (X := X) (d := d + 6) (U := U) (w := x) hf.1.2.1 hf.1.2.2 n 0 (by omega)
          simpa [fb_ct] using this
        · rw [a11 h, hm.2.2.1.1, w32_eq (by have := hm.2.2.1.2; omega) hm.2.2.1.2.2]
    by_cases x0 : x = 0
    · exact fin (ns : Nat) (fun _ => rfl) (fun h => by omega) (fun h => by omega) (fun h => by omega) (fun h => by omega) (fun h => by omega) (fun h => by omega) (fun h => by omega) (fun h => by omega) (fun h => by omega) (fun h => by omega) (fun h => absurd x0 h.1)
    by_cases x1 : x = 1
    · exact fin (nh : Nat) (fun h => by omega) (fun _ => rfl) (fun h => by omega) (fun h => by omega) (fun h => by omega) (fun h => by omega) (fun h => by omega) (fun h => by omega) (fun h => by omega) (fun h => by omega) (fun h => by omega) (fun h => absurd x1 h.2.1)
    by_cases x2 : x = 2
    · exact fin (nl : Nat) (fun h => by omega) (fun h => by omega) (fun _ => rfl) (fun h => by omega) (fun h => by omega) (fun h => by omega) (fun h => by omega) (fun h => by omega) (fun h => by omega) (fun h => by omega) (fun h => by omega) (fun h => absurd x2 h.2.2.1)
    by_cases x3 : x = 3
    · exact fin (n : Nat) (fun h => by omega) (fun h => by omega) (fun h => by omega) (fun _ => rfl) (fun h => by omega) (fun h => by omega) (fun h => by omega) (fun h => by omega) (fun h => by omega) (fun h => by omega) (fun h => by omega) (fun h => absurd x3 h.2.2.2.1)
    by_cases x4 : x = 4
    · exact fin _ (fun h => by omega) (fun h => by omega) (fun h => by omega) (fun h => by omega) (fun _ => rfl) (fun h => by omega) (fun h => by omega) (fun h => by omega) (fun h => by omega) (fun h => by omega) (fun h => by omega) (fun h => absurd x4 h.2.2.2.2.1)
    by_cases x5 : x = 5
    · exact fin (nw : Nat) (fun h => by omega) (fun h => by omega) (fun h => by omega) (fun h => by omega) (fun h => by omega) (fun _ => rfl) (fun h => by omega) (fun h => by omega) (fun h => by omega) (fun h => by omega) (fun h => by omega) (fun h => absurd x5 h.2.2.2.2.2.1)
    by_cases x6 : x = 6
    · exact fin (nd : Nat) (fun h => by omega) (fun h => by omega) (fun h => by omega) (fun h => by omega) (fun h => by omega) (fun h => by omega) (fun _ => rfl) (fun h => by omega) (fun h => by omega) (fun h => by omega) (fun h => by omega) (fun h => absurd x6 h.2.2.2.2.2.2.1)
    by_cases x8 : x = 8
    · exact fin _ (fun h => by omega) (fun h => by omega) (fun h => by omega) (fun h => by omega) (fun h => by omega) (fun h => by omega) (fun h => by omega) (fun _ => rfl) (fun h => by omega) (fun h => by omega) (fun h => by omega) (fun h => absurd x8 h.2.2.2.2.2.2.2.2.1)
    by_cases x9 : x = 9
    · exact fin _ (fun h => by omega) (fun h => by omega) (fun h => by omega) (fun h => by omega) (fun h => by omega) (fun h => by omega) (fun h => by omega) (fun h => by omega) (fun _ => rfl) (fun h => by omega) (fun h => by omega) (fun h => absurd x9 h.2.2.2.2.2.2.2.2.2.1)
    by_cases x10 : x = 10
    · exact fin _ (fun h => by omega) (fun h => by omega) (fun h => by omega) (fun h => by omega) (fun h => by omega) (fun h => by omega) (fun h => by omega) (fun h => by omega) (fun h => by omega) (fun _ => rfl) (fun h => by omega) (fun h => absurd x10 h.2.2.2.2.2.2.2.2.2.2.1)
    by_cases x11 : x = 11
    · exact fin _ (fun h => by omega) (fun h => by omega) (fun h => by omega) (fun h => by omega) (fun h => by omega) (fun h => by omega) (fun h => by omega) (fun h => by omega) (fun h => by omega) (fun h => by omega) (fun _ => rfl) (fun h => absurd x11 h.2.2.2.2.2.2.2.2.2.2.2)
    · exact fin (-1) (fun h => absurd h x0) (fun h => absurd h x1) (fun h => absurd h x2) (fun h => absurd h x3) (fun h => absurd h x4) (fun h => absurd h x5) (fun h => absurd h x6) (fun h => absurd h x8) (fun h => absurd h x9) (fun h => absurd h x10) (fun h => absurd h x11) (fun _ => rfl)
