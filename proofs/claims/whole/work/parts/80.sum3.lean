/-! sums: both answer alike -/
def adF (f : Nat → Bool) (g : Nat → Nat) (t : Sm) : Nat → Sm
  | 0 => t
  | n + 1 => if f n then ad (adF f g t n) (g n) else adF f g t n
def stF (U : am_U) (s n : Nat) : Nat → Sm
  | 0 => (0, 0, 0)
  | h + 1 => if U 6 h = (s : Nat) then adF (liv U h) (siz U) (stF U s n h) n else stF U s n h
theorem stF_s (U : am_U) (s n h : Nat) : stF U s n (h + 1) = if U 6 h = (s : Nat) then adF (liv U h) (siz U) (stF U s n h) n else stF U s n h := rfl
theorem adF_s (f : Nat → Bool) (g : Nat → Nat) (t : Sm) (n : Nat) : adF f g t (n + 1) = if f n then ad (adF f g t n) (g n) else adF f g t n := rfl
def smB (t : Sm) (k : Nat) : Prop := t.1 ≤ k * 1000000000 ∧ t.2.1 ≤ k * 20 ∧ t.2.2 ≤ 20
theorem smB_up {t : Sm} {k m : Nat} (h : smB t k) (hk : k ≤ m) : smB t m := by
  obtain ⟨h1, h2, h3⟩ := h
  exact ⟨Nat.le_trans h1 (Nat.mul_le_mul_right _ hk), Nat.le_trans h2 (Nat.mul_le_mul_right _ hk), h3⟩
theorem adF_B {f : Nat → Bool} {g : Nat → Nat} {t : Sm} {k : Nat} (ht : smB t k) : ∀ {n : Nat}, (∀ p, p < n → g p ≤ 1000000000) → smB (adF f g t n) (k + n)
  | 0, _ => ht
  | n + 1, h => by
    have ih := adF_B (f := f) ht (n := n) (fun p hp => h p (by omega))
    rw [adF_s]
    split
    · obtain ⟨h1, h2, h3⟩ := ih
      have hg := h n (by omega)
      have hc := cs_le (adF f g t n).1 (g n) 20
      have hl := lg_le (v := (adF f g t n).1) (x := g n) h3 20 (Nat.le_refl 20)
      refine ⟨?_, ?_, hl⟩
      · show (adF f g t n).1 + g n ≤ (k + (n + 1)) * 1000000000
        generalize (adF f g t n).1 = z at *
        generalize g n = y at *
        omega
      · show (adF f g t n).2.1 + cs (adF f g t n).1 (g n) 20 ≤ (k + (n + 1)) * 20
        generalize cs (adF f g t n).1 (g n) 20 = z at *
        generalize (adF f g t n).2.1 = y at *
        omega
    · exact smB_up ih (by omega)
theorem stF_B {U : am_U} {s n nh : Nat} (hf : iFolk U n nh) : ∀ h : Nat, smB (stF U s n h) (16 * h)
  | 0 => ⟨Nat.zero_le _, Nat.zero_le _, Nat.zero_le _⟩
  | h + 1 => by
    have ih := stF_B (s := s) hf h
    have hn := hf.1.2.2
    rw [stF_s]
    split
    · exact smB_up (adF_B ih (siz_b2 hf)) (by omega)
    · exact smB_up ih (by omega)
theorem smB_b {t : Sm} {k : Nat} (h : smB t k) (hk : k ≤ 500) : t.1 < 1000000000000 ∧ t.2.1 ≤ 100000 ∧ t.2.2 ≤ 20 := by
  obtain ⟨h1, h2, h3⟩ := h
  exact ⟨by omega, by omega, h3⟩
theorem isLen_12 {v L : Nat} (h : isLen v L) (hv : v < 1000000000000) : L ≤ 12 := by
  obtain ⟨l1, l2, l3⟩ := h
  rcases l3 with q | q
  · omega
  · rcases Nat.lt_or_ge 12 L with z | z
    · have p : 10 ^ 12 ≤ 10 ^ (L - 1) := Nat.pow_le_pow_right (by decide) (by omega)
      have e : (10 : Nat) ^ 12 = 1000000000000 := by decide
      rw [e] at p
      exact absurd (Nat.lt_of_le_of_lt (Nat.le_trans p q) hv) (Nat.lt_irrefl _)
    · exact z
theorem D_addDw_l {N : Nat} {X : Nat → Int} {d : Nat} {U0 : am_U} {n nh h k : Nat} {t : Sm} (hf : iFolk U0 n nh) (ht : smB t k) (hk : k ≤ 400) : ∀ m i : Nat, i + m = n → ∀ U L, dgk U0 U → dS U (adF (liv U0 h) (siz U0) t i) L → ∃ U' L', EvK N X (D_addDwellers_s2 (d + 2) (h : Nat) (i : Nat) U) (rV U') ∧ dgk U0 U' ∧ dS U' (adF (liv U0 h) (siz U0) t n) L' := by
  have hn := hf.1.2.2
  intro m
  induction m with
  | zero =>
    intro i hi U L hd hS
    obtain rfl : i = n := by omega
    have e16 : U 16 0 = (i : Nat) := by rw [hd 16 (by decide) (by decide)]; exact hf.1.1
    exact ⟨U, L, D_addDwellers_r2 ⟨fun _ => rfl, fun q => absurd q (by rw [e16]; omega)⟩, hd, hS⟩
  | succ m ih =>
    intro i hi U L hd hS
    have e16 : U 16 0 = (n : Nat) := by rw [hd 16 (by decide) (by decide)]; exact hf.1.1
    have e17 : U 17 = U0 17 := hd 17 (by decide) (by decide)
    have e18 : U 18 = U0 18 := hd 18 (by decide) (by decide)
    obtain ⟨b1, b2, b3⟩ := smB_b (adF_B (f := liv U0 h) (n := i) ht (fun p hp => siz_b2 hf p (by omega))) (by omega)
    by_cases c : U0 18 i = (h : Nat)
    · have cl : liv U0 h i = true := by unfold liv; rw [c]; exact beq_self_eq_true _
      have ev : adF (liv U0 h) (siz U0) t (i + 1) = ad (adF (liv U0 h) (siz U0) t i) (siz U0 i) := by rw [adF_s, if_pos cl]
      obtain ⟨U1, L1, t1, t2, t3⟩ := ct_Dadd (N := N) (X := X) (d := d) (siz_b hf (by omega : i < n)) b1 b2 b3 hS
      rw [← ev] at t2
      obtain ⟨U', L', k1, k2, k3⟩ := ih (i + 1) (by omega) U1 L1 (fun r a b => by rw [t3 r a b, hd r a b]) t2
      refine ⟨U', L', D_addDwellers_r2 ⟨fun q => absurd q (by rw [e16]; omega), fun _ => ⟨by omega, fun q => absurd ?_ q, fun _ => ⟨U1, ?_, ?_⟩⟩⟩, k2, k3⟩
      · rw [Int.toNat_natCast, e18]; exact c
      · rw [Int.toNat_natCast, e17, abs_nat (hf.2.2.2.2.1.1 i (by omega)).2.1]; exact t1
      · rw [w32_succ (i := i) (by omega)]; exact k1
    · have cl : ¬ liv U0 h i = true := by unfold liv; rw [beq_iff_eq]; exact c
      have ev : adF (liv U0 h) (siz U0) t (i + 1) = adF (liv U0 h) (siz U0) t i := by rw [adF_s, if_neg cl]
      rw [← ev] at hS
      obtain ⟨U', L', k1, k2, k3⟩ := ih (i + 1) (by omega) U L hd hS
      refine ⟨U', L', D_addDwellers_r2 ⟨fun q => absurd q (by rw [e16]; omega), fun _ => ⟨by omega, fun _ => ?_, fun q => absurd ?_ c⟩⟩, k2, k3⟩
      · rw [w32_succ (i := i) (by omega)]; exact k1
      · rw [Int.toNat_natCast, e18] at q; exact q
def smT (t : Sm) (L : Nat) (y : Int) : Int := if y = 20 then (t.2.1 : Nat) else if y = 21 then (t.2.2 : Nat) else tellS t.1 L y
theorem D_sum_l {N : Nat} {X : Nat → Int} {d : Nat} {U0 : am_U} {b ns nh nl nw nd cl n s : Nat} {y : Int} (hT : iTown U0 b ns nh nl nw nd cl) (hf : iFolk U0 n nh) : ∀ m h : Nat, h + m = nh → ∀ U L, dgk U0 U → dS U (stF U0 s n h) L → ∃ U' L', EvK N X (D_sum_s27 (d + 3) (s : Nat) y (h : Nat) U) (rI (smT (stF U0 s n nh) L' y) U') ∧ dgk U0 U' ∧ isLen (stF U0 s n nh).1 L' := by
  have h12 := hT.2.2.1.2.2.1
  intro m
  induction m with
  | zero =>
    intro h hh U L hd hS
    obtain rfl : h = nh := by omega
    have e31 : U 3 1 = (h : Nat) := by rw [hd 3 (by decide) (by decide)]; exact hT.2.2.1.1
    refine ⟨U, L, D_sum_r27 ⟨fun _ => ⟨fun c1 => ⟨fun c2 => ⟨_, _, ct_tellOf hS.1 y, ?_⟩, fun c2 => ?_⟩, fun c1 => ?_⟩, fun q => absurd q (by rw [e31]; omega)⟩, hd, hS.1.2.1⟩
    · unfold smT; rw [if_neg c1, if_neg c2]
    · unfold smT; rw [if_neg c1, if_pos c2, hS.2.2]
    · unfold smT; rw [if_pos c1, hS.2.1]
  | succ m ih =>
    intro h hh U L hd hS
    have e31 : U 3 1 = (nh : Nat) := by rw [hd 3 (by decide) (by decide)]; exact hT.2.2.1.1
    have e6 : U 6 = U0 6 := hd 6 (by decide) (by decide)
    by_cases c : U0 6 h = (s : Nat)
    · obtain ⟨U1, L1, t1, t2, t3⟩ := D_addDw_l (N := N) (X := X) (d := d) (h := h) hf (stF_B (s := s) hf h) (by omega) n 0 (by omega) U L hd hS
      have ev : stF U0 s n (h + 1) = adF (liv U0 h) (siz U0) (stF U0 s n h) n := by rw [stF_s, if_pos c]
      rw [← ev] at t3
      obtain ⟨U', L', k1, k2, k3⟩ := ih (h + 1) (by omega) U1 L1 t2 t3
      refine ⟨U', L', D_sum_r27 ⟨fun q => absurd q (by rw [e31]; omega), fun _ => ⟨by omega, fun q => absurd ?_ q, fun _ => ⟨U1, D_addDwellers_r0 t1, ?_⟩⟩⟩, k2, k3⟩
      · rw [Int.toNat_natCast, e6]; exact c
      · rw [w32_succ (i := h) (by omega)]; exact k1
    · have ev : stF U0 s n (h + 1) = stF U0 s n h := by rw [stF_s, if_neg c]
      rw [← ev] at hS
      obtain ⟨U', L', k1, k2, k3⟩ := ih (h + 1) (by omega) U L hd hS
      refine ⟨U', L', D_sum_r27 ⟨fun q => absurd q (by rw [e31]; omega), fun _ => ⟨by omega, fun _ => ?_, fun q => absurd ?_ c⟩⟩, k2, k3⟩
      · rw [w32_succ (i := h) (by omega)]; exact k1
      · rw [Int.toNat_natCast, e6] at q; exact q
/-! the reference -/
theorem M_sum_p {N : Nat} {X : Nat → Int} {d : Nat} {U0 : am_U} {b ns nh nl nw nd cl n s h k : Nat} {y : Int} {t : Sm} (hT : iTown U0 b ns nh nl nw nd cl) (hf : iFolk U0 n nh) (hh : h < nh) (ht : smB t k) (hk : k ≤ 400) : ∀ m p : Nat, p + m = n → ∀ U, adm U0 U → dM U (if U0 6 h = (s : Nat) then adF (liv U0 h) (siz U0) t p else t) → ∃ U', adm U0 U' ∧ dM U' (if U0 6 h = (s : Nat) then adF (liv U0 h) (siz U0) t n else t) ∧ ∀ R, EvK N X (M_sum_s37 (d + 2) (s : Nat) y ((h + 1 : Nat) : Int) U') R → EvK N X (M_sum_s53 (d + 2) (s : Nat) y (h : Nat) (p : Nat) U) R := by
  have h12 := hT.2.2.1.2.2.1
  have hn := hf.1.2.2
  intro m
  induction m with
  | zero =>
    intro p hp U hd hS
    obtain rfl : p = n := by omega
    have e16 : U 122 0 = (p : Nat) := by rw [hd 122 0 (by decide)]; exact hf.1.2.1
    refine ⟨U, hd, hS, fun R hR => M_sum_r53 ⟨fun _ => ?_, fun q => absurd q (by rw [e16]; omega)⟩⟩
    rw [w32_succ (i := h) (by omega)]; exact hR
  | succ m ih =>
    intro p hp U hd hS
    have e16 : U 122 0 = (n : Nat) := by rw [hd 122 0 (by decide)]; exact hf.1.2.1
    have hf1 : iFolk U n nh := iFolk_agr (agr_adm hd) hf
    have hT1 : iTown U b ns nh nl nw nd cl := iTown_agr (agr_adm hd) hT
    have e17 : U 17 p = U0 17 p := hd 17 p (by omega)
    have e18 : U 124 p = U0 18 p := by rw [(hf1.2.2.2.1 p (by omega)).2]; exact hd 18 p (by omega)
    have so := ct_M_streetOf (N := N) (X := X) (d := d + 1) (U := U) h hT1.1.1 hT1.1.2 (by omega)
    have e6 : U 92 (12 * b + h) = U0 6 h := by rw [(hT1.2.2.1.2.2.2 h hh).2.1.1]; exact hd 6 h (by omega)
    rw [e6] at so
    obtain ⟨b1, b2, b3⟩ := smB_b (adF_B (f := liv U0 h) (n := p) ht (fun q hq => siz_b2 hf q (by omega))) (by omega)
    by_cases c0 : U0 6 h = (s : Nat)
    · rw [if_pos c0] at hS
      by_cases c : U0 18 p = (h : Nat)
      · have cl : liv U0 h p = true := by unfold liv; rw [c]; exact beq_self_eq_true _
        have ev : adF (liv U0 h) (siz U0) t (p + 1) = ad (adF (liv U0 h) (siz U0) t p) (siz U0 p) := by rw [adF_s, if_pos cl]
        obtain ⟨U1, t1, t2, t3⟩ := ct_adds (N := N) (X := X) (d := d + 1) (siz_b hf (by omega : p < n)) b1 b2 b3 hS
        rw [← ev] at t2
        obtain ⟨U', k1, k2, k3⟩ := ih (p + 1) (by omega) U1 (adm_trans hd t3) (by rw [if_pos c0]; exact t2)
        refine ⟨U', k1, k2, fun R hR => M_sum_r53 ⟨fun q => absurd q (by rw [e16]; omega), fun _ => ⟨_, _, so, fun q => absurd c0 q, fun _ => ⟨by omega, fun q => absurd ?_ q, fun _ => ⟨_, _, ct_sizeOf hf1 (by omega), U1, ?_, ?_⟩⟩⟩⟩⟩
        · rw [Int.toNat_natCast, e18]; exact c
        · rw [e17]; exact t1
        · rw [w32_succ (i := p) (by omega)]; exact k3 R hR
      · have cl : ¬ liv U0 h p = true := by unfold liv; rw [beq_iff_eq]; exact c
        have ev : adF (liv U0 h) (siz U0) t (p + 1) = adF (liv U0 h) (siz U0) t p := by rw [adF_s, if_neg cl]
        rw [← ev] at hS
        obtain ⟨U', k1, k2, k3⟩ := ih (p + 1) (by omega) U hd (by rw [if_pos c0]; exact hS)
        refine ⟨U', k1, k2, fun R hR => M_sum_r53 ⟨fun q => absurd q (by rw [e16]; omega), fun _ => ⟨_, _, so, fun q => absurd c0 q, fun _ => ⟨by omega, fun _ => ?_, fun q => absurd ?_ c⟩⟩⟩⟩
        · rw [w32_succ (i := p) (by omega)]; exact k3 R hR
        · rw [Int.toNat_natCast, e18] at q; exact q
    · rw [if_neg c0] at hS
      obtain ⟨U', k1, k2, k3⟩ := ih (p + 1) (by omega) U hd (by rw [if_neg c0]; exact hS)
      refine ⟨U', k1, k2, fun R hR => M_sum_r53 ⟨fun q => absurd q (by rw [e16]; omega), fun _ => ⟨_, _, so, fun _ => ?_, fun q => absurd q c0⟩⟩⟩
      rw [w32_succ (i := p) (by omega)]; exact k3 R hR
theorem M_sum_l {N : Nat} {X : Nat → Int} {d : Nat} {U0 : am_U} {b ns nh nl nw nd cl n s L : Nat} {y : Int} (hT : iTown U0 b ns nh nl nw nd cl) (hf : iFolk U0 n nh) (hL : isLen (stF U0 s n nh).1 L) : ∀ m h : Nat, h + m = nh → ∀ U, adm U0 U → dM U (stF U0 s n h) → ∃ U', EvK N X (M_sum_s37 (d + 2) (s : Nat) y (h : Nat) U) (rI (smT (stF U0 s n nh) L y) U') ∧ adm U0 U' := by
  have h12 := hT.2.2.1.2.2.1
  have hn := hf.1.2.2
  obtain ⟨b1, b2, b3⟩ := smB_b (stF_B (s := s) hf nh) (by omega)
  intro m
  induction m with
  | zero =>
    intro h hh U hd hS
    obtain rfl : h = nh := by omega
    have hT1 : iTown U b ns h nl nw nd cl := iTown_agr (agr_adm hd) hT
    obtain ⟨s1, s2, s3⟩ := hS
    refine ⟨U, M_sum_r37 ?_, hd⟩
    rw [hT1.1.1, Int.toNat_natCast, hT1.2.2.1.2.1, s1, s2, s3]
    have := hT1.1.2
    refine ⟨by omega, fun _ => ⟨fun c0 => ⟨fun c1 => ⟨fun c2 => ⟨_, _, ct_M_digit (Nat.lt_trans b1 (by decide)) hL y c0, ?_⟩, fun c2 => ?_⟩, fun c1 => ?_⟩, fun c0 => ⟨_, _, (ct_M_digits (Nat.lt_trans b1 (by decide)) hL).1, ?_⟩⟩, fun q => absurd q (by omega)⟩
    · unfold smT; rw [if_neg c1, if_neg c2]
    · unfold smT; rw [if_neg c1, if_pos c2]
    · unfold smT; rw [if_pos c1]
    · unfold smT tellS; rw [if_neg (by omega), if_neg (by omega), if_pos c0]
  | succ m ih =>
    intro h hh U hd hS
    have hT1 : iTown U b ns nh nl nw nd cl := iTown_agr (agr_adm hd) hT
    obtain ⟨U1, t1, t2, t3⟩ := M_sum_p (N := N) (X := X) (d := d) (s := s) (y := y) hT hf (show h < nh by omega) (stF_B (s := s) hf h) (by omega) n 0 (by omega) U hd (by
      split
      · exact hS
      · exact hS)
    rw [← stF_s] at t2
    obtain ⟨U', k1, k2⟩ := ih (h + 1) (by omega) U1 t1 t2
    refine ⟨U', M_sum_r37 ?_, k2⟩
    rw [hT1.1.1, Int.toNat_natCast, hT1.2.2.1.2.1]
    have := hT1.1.2
    exact ⟨by omega, fun q => absurd q (by omega), fun _ => t3 _ k1⟩
theorem stF_cong {U V : am_U} (h6 : V 6 = U 6) (h17 : V 17 = U 17) (h18 : V 18 = U 18) (s n : Nat) : ∀ h, stF V s n h = stF U s n h
  | 0 => rfl
  | h + 1 => by
    have e1 : liv V h = liv U h := by unfold liv; rw [h18]
    have e2 : siz V = siz U := by unfold siz; rw [h17]
    rw [stF_s, stF_s, h6, e1, e2, stF_cong h6 h17 h18 s n h]
theorem pair_sum {N : Nat} {X : Nat → Int} {d : Nat} {U : am_U} {b ns nh nl nw nd cl n : Nat} (hT : iTown U b ns nh nl nw nd cl) (hf : iFolk U n nh) (x y : Int) : ask2 N X (D_sum_s0 (d + 3) x y) (M_sum_s0 (d + 2) x y) U := by
  have e30 := hT.2.1.1
  have e88 := hT.2.1.2.1
  have h4 := hT.2.1.2.2.1
  have h12 := hT.2.2.1.2.2.1
  by_cases c : 0 ≤ x ∧ x < (ns : Nat)
  · obtain ⟨s, rfl⟩ : ∃ s : Nat, x = s := ⟨x.toNat, by omega⟩
    obtain ⟨U3, L3, g1, g2, g3, g4, g5⟩ := ct_set (N := N) (X := X) (d := d + 1) (U := U) 0 (by decide)
    obtain ⟨U4, L4, k1, k2, k3⟩ := D_sum_l (N := N) (X := X) (d := d) (s := s) (y := y) hT hf nh 0 (by omega) U3 L3 g3 ⟨g2, g4, g5⟩
    have a1 : EvK N X (D_sum_s0 (d + 3) (s : Nat) y U) (rI (smT (stF U s n nh) L4 y) U4) := D_sum_r0 ⟨fun q => absurd q (by omega), fun _ => ⟨fun _ => ⟨U3, g1, k1⟩, fun q => absurd q (by rw [e30]; omega)⟩⟩
    have ag := agr_dgk k2
    have hT4 : iTown U4 b ns nh nl nw nd cl := iTown_agr ag hT
    have hf4 : iFolk U4 n nh := iFolk_agr ag hf
    have ec := stF_cong (k2 6 (by decide) (by decide)) (k2 17 (by decide) (by decide)) (k2 18 (by decide) (by decide)) s n nh
    have is1 : EvK N X (M_isStreet_s0 (d + 1) (s : Nat) U4) (rI 1 U4) := by
      have := ct_M_isStreet (N := N) (X := X) (d := d + 1) (U := U4) (s : Nat) hT4.1.1 hT4.1.2
      rwa [hT4.2.1.2.1, b2i_t c] at this
    by_cases c2 : -1 ≤ y ∧ y ≤ 21
    · obtain ⟨U5, j1, j2⟩ := M_sum_l (N := N) (X := X) (d := d) (s := s) (L := L4) (y := y) hT4 hf4 (by rw [ec]; exact k3) nh 0 (by omega) (am_upd (am_upd (am_upd U4 86 76 0) 86 77 0) 86 78 0) (adm_trans (adm_upd _ (Or.inl rfl) _) (adm_trans (adm_upd _ (Or.inr (Or.inl rfl)) _) (adm_upd _ (Or.inr (Or.inr rfl)) _))) ⟨by rw [upd_ne (by decide), upd_ne (by decide), upd_at]; rfl, by rw [upd_ne (by decide), upd_at]; rfl, by rw [upd_at]; rfl⟩
      rw [ec] at j1
      exact ⟨_, U4, a1, ag, U5, M_sum_r0 ⟨_, _, is1, fun q => absurd q (by decide), fun _ => ⟨_, _, M_is1 c2, fun _ => j1, fun q => absurd q (by decide)⟩⟩, agr_adm j2⟩
    · have hL := isLen_12 k3 (smB_b (stF_B (s := s) hf nh) (by omega)).1
      have e : smT (stF U s n nh) L4 y = -1 := by
        unfold smT tellS
        rw [if_neg (by omega), if_neg (by omega), if_neg (by omega), if_neg (by omega)]
      rw [e] at a1
      exact ⟨_, U4, a1, ag, U4, M_sum_r0 ⟨_, _, is1, fun q => absurd q (by decide), fun _ => ⟨_, _, M_is0 c2, fun q => absurd rfl q, fun _ => rfl⟩⟩, agr_refl _⟩
  · have is0 : EvK N X (M_isStreet_s0 (d + 1) x U) (rI 0 U) := by
      have := ct_M_isStreet (N := N) (X := X) (d := d + 1) (U := U) x hT.1.1 hT.1.2
      rwa [e88, b2i_f c] at this
    refine ask2_of (r := -1) (D_sum_r0 ⟨fun _ => rfl, fun q => ⟨fun q2 => absurd c ?_, fun _ => rfl⟩⟩) (M_sum_r0 ⟨_, _, is0, fun _ => rfl, fun q => absurd rfl q⟩)
    rw [e30] at q2
    omega
