/-! years: the people as numbers and homes -/
abbrev FS := Nat × (Nat → Int) × (Nat → Int)
noncomputable def cmF (f : FS) (v h : Int) : FS × Nat := bif pd (v ≠ 0 ∧ v ≤ 999999999 ∧ f.1 < 16 ∧ ∀ p, p < f.1 → f.2.1 p ≠ v) then ((f.1 + 1, s1 f.2.1 f.1 v, s1 f.2.2 f.1 h), 1) else (f, 0)
theorem cmF_t {f : FS} {v h : Int} (c : v ≠ 0 ∧ v ≤ 999999999 ∧ f.1 < 16 ∧ ∀ p, p < f.1 → f.2.1 p ≠ v) : cmF f v h = ((f.1 + 1, s1 f.2.1 f.1 v, s1 f.2.2 f.1 h), 1) := by unfold cmF; rw [pd_t c]; rfl
theorem cmF_f {f : FS} {v h : Int} (c : ¬ (v ≠ 0 ∧ v ≤ 999999999 ∧ f.1 < 16 ∧ ∀ p, p < f.1 → f.2.1 p ≠ v)) : cmF f v h = (f, 0) := by unfold cmF; rw [pd_f c]; rfl
def bnF (f : FS) (h : Nat) : FS := (f.1, f.2.1, fun p => if p < f.1 ∧ f.2.2 p = (h : Nat) then -1 else f.2.2 p)
def ctF (f : FS) (h : Nat) : Nat := fb_ct (fun p => f.2.2 p == ((h : Nat) : Int)) f.1
def kthF (f : FS) (h : Nat) (k : Int) : Int := kth (fun p => f.2.2 p == ((h : Nat) : Int)) k f.1
def absI (x : Int) : Int := if 0 ≤ x then x else -x
noncomputable def brF (rm : Nat → Int) (f : FS) (h : Nat) : FS × Nat := if 2 ≤ ctF f h ∧ ((ctF f h : Nat) : Int) < rm h then cmF f (absI (f.2.1 (kthF f h 0).toNat - f.2.1 (kthF f h 1).toNat)) ((h : Nat) : Int) else (f, 0)
def FOk (rm : Nat → Int) (nh : Nat) (f : FS) : Prop := f.1 ≤ 16 ∧ pplOk f.2.1 f.2.2 rm f.1 nh
theorem kth_ex {p : Nat → Bool} {k : Int} (hk : 0 ≤ k) : ∀ {n : Nat}, k < (fb_ct p n : Int) → ∃ i : Nat, kth p k n = (i : Nat) ∧ i < n ∧ p i = true := by
  intro n
  induction n with
  | zero => intro h; exact absurd h (by simp [fb_ct]; omega)
  | succ n ih =>
    intro h
    have h2 := fb_ct_succ p n
    by_cases c : k < (fb_ct p n : Int)
    · obtain ⟨i, a1, a2, a3⟩ := ih c
      refine ⟨i, ?_, by omega, a3⟩
      unfold kth
      rw [a1, if_neg (by omega)]
    · cases e : p n with
      | true =>
        rw [e, if_pos rfl] at h2
        refine ⟨n, ?_, by omega, e⟩
        unfold kth
        rw [kth_m1 (by omega), if_pos ⟨rfl, e, by omega⟩]
      | false =>
        rw [e, if_neg (by decide)] at h2
        exact absurd h (by omega)
theorem FOk_cm {rm : Nat → Int} {nh : Nat} {f : FS} {v h : Int} (hf : FOk rm nh f) (hv : 0 ≤ v) (hh : -1 ≤ h ∧ h < (nh : Nat)) (hr : ∀ g : Nat, h = (g : Nat) → ((ctF f g : Nat) : Int) < rm g) : FOk rm nh (cmF f v h).1 := by
  by_cases c : v ≠ 0 ∧ v ≤ 999999999 ∧ f.1 < 16 ∧ ∀ p, p < f.1 → f.2.1 p ≠ v
  · rw [cmF_t c]
    obtain ⟨c1, c2, c3, c4⟩ := c
    obtain ⟨h1, h2, h3, h4⟩ := hf
    refine ⟨by show f.1 + 1 ≤ 16; omega, fun p hp => ?_, fun p q hpq hq => ?_, fun g hg => ?_⟩
    · show s1 f.2.1 f.1 v p ≠ 0 ∧ _
      by_cases e : p = f.1
      · rw [e]; show s1 f.2.1 f.1 v f.1 ≠ 0 ∧ (_ ≤ s1 f.2.1 f.1 v f.1 ∧ s1 f.2.1 f.1 v f.1 ≤ _) ∧ _ ≤ s1 f.2.2 f.1 h f.1 ∧ s1 f.2.2 f.1 h f.1 < _
        rw [s1_at, s1_at]; omega
      · show s1 f.2.1 f.1 v p ≠ 0 ∧ (_ ≤ s1 f.2.1 f.1 v p ∧ s1 f.2.1 f.1 v p ≤ _) ∧ _ ≤ s1 f.2.2 f.1 h p ∧ s1 f.2.2 f.1 h p < _
        rw [s1_ne e, s1_ne e]
        have : p < f.1 + 1 := hp
        exact h2 p (by omega)
    · show s1 f.2.1 f.1 v p ≠ s1 f.2.1 f.1 v q
      have hq' : q < f.1 + 1 := hq
      by_cases e : q = f.1
      · rw [e, s1_at, s1_ne (by omega)]; exact c4 p (by omega)
      · rw [s1_ne e, s1_ne (by omega)]; exact h3 p q hpq (by omega)
    · show ((fb_ct (fun p => s1 f.2.2 f.1 h p == ((g : Nat) : Int)) (f.1 + 1) : Nat) : Int) ≤ rm g
      have z := fb_ct_succ (fun p => s1 f.2.2 f.1 h p == ((g : Nat) : Int)) f.1
      have z2 : fb_ct (fun p => s1 f.2.2 f.1 h p == ((g : Nat) : Int)) f.1 = fb_ct (fun p => f.2.2 p == ((g : Nat) : Int)) f.1 := fb_ct_cong (fun p hp => by rw [s1_ne (by omega)])
      rw [z, z2]
      have z3 := h4 g hg
      simp only [s1_at]
      by_cases e : h = (g : Nat)
      · have z4 := hr g e
        unfold ctF at z4
        rw [if_pos (by rw [e]; exact beq_self_eq_true _)]; omega
      · rw [if_neg (by simp; exact e)]; omega
  · rw [cmF_f c]; exact hf
theorem FOk_bn {rm : Nat → Int} {nh : Nat} {f : FS} {h : Nat} (hf : FOk rm nh f) : FOk rm nh (bnF f h) := by
  obtain ⟨h1, h2, h3, h4⟩ := hf
  refine ⟨h1, fun p hp => ?_, h3, fun g hg => ?_⟩
  · have z := h2 p hp
    show f.2.1 p ≠ 0 ∧ (_ ≤ f.2.1 p ∧ f.2.1 p ≤ _) ∧ _ ≤ (if p < f.1 ∧ f.2.2 p = (h : Nat) then (-1 : Int) else f.2.2 p) ∧ (if p < f.1 ∧ f.2.2 p = (h : Nat) then (-1 : Int) else f.2.2 p) < _
    split <;> omega
  · have z := h4 g hg
    have z2 : fb_ct (fun p => (bnF f h).2.2 p == ((g : Nat) : Int)) f.1 ≤ fb_ct (fun p => f.2.2 p == ((g : Nat) : Int)) f.1 := fb_ct_sub (fun p hp e => by
      have e' : (if p < f.1 ∧ f.2.2 p = (h : Nat) then (-1 : Int) else f.2.2 p) = (g : Nat) := by simpa [bnF] using e
      simp only [beq_iff_eq]
      split at e'
      · omega
      · exact e')
    show ((fb_ct (fun p => (bnF f h).2.2 p == ((g : Nat) : Int)) f.1 : Nat) : Int) ≤ rm g
    omega
theorem FOk_br {rm : Nat → Int} {nh : Nat} {f : FS} {h : Nat} (hf : FOk rm nh f) (hh : h < nh) : FOk rm nh (brF rm f h).1 := by
  unfold brF
  split
  · next c => exact FOk_cm hf (by unfold absI; split <;> omega) (by omega) (fun g e => by
      obtain rfl : h = g := by omega
      exact c.2)
  · exact hf
/-! the class's side -/
def RD (U U0 : am_U) (y : Int) (f : FS) (s : Nat) : Prop := U 16 0 = (f.1 : Nat) ∧ U 17 = f.2.1 ∧ U 18 = f.2.2 ∧ DwOk f.1 f.2.2 (U 19) ∧ iPrt U ∧ (U 1 18 = (s : Nat) ∧ s < 2147483648) ∧ (∀ r j, ¬ (16 ≤ r ∧ r ≤ 20) → ¬ (r = 1 ∧ j = 18) → U r j = U0 r j) ∧ U 16 2 = U0 16 2 ∧ U 16 1 = y
theorem RD_draw {U U0 : am_U} {y : Int} {f : FS} {s : Nat} (h : RD U U0 y f s) : RD (am_upd U 1 18 ((drS s : Nat) : Int)) U0 y f (drS s) := by
  obtain ⟨h1, h2, h3, h4, h5, h6, h7, h8, h9⟩ := h
  refine ⟨by rw [upd_row (by decide)]; exact h1, by rw [upd_row (by decide)]; exact h2, by rw [upd_row (by decide)]; exact h3, by rw [upd_row (by decide)]; exact h4, by unfold iPrt; rw [upd_row (by decide), upd_row (by decide)]; exact h5, ⟨upd_at _ _ _ _, drS_lt s⟩, fun r j q1 q2 => by rw [upd_if2 q2]; exact h7 r j q1 q2, by rw [upd_row (by decide)]; exact h8, by rw [upd_row (by decide)]; exact h9⟩
theorem ct_comeIn {N : Nat} {X : Nat → Int} {d : Nat} {U U0 : am_U} {y : Int} {f : FS} {s : Nat} {v x : Int} (h : RD U U0 y f s) (hf : f.1 ≤ 16) (hx : -1 ≤ x ∧ x < 12) : ∃ U', EvK N X (D_comeIn_s0 (d + 2) v x U) (rI (((cmF f v x).2 : Nat) : Int) U') ∧ RD U' U0 y (cmF f v x).1 s := by
  have h' := h
  obtain ⟨h1, h2, h3, h4, h5, h6, h7, h8, h9⟩ := h'
  obtain ⟨r, f1, f2⟩ := ct_find_16 (N := N) (X := X) (d := d + 1) v h1 hf
  by_cases c : v ≠ 0 ∧ v ≤ 999999999 ∧ f.1 < 16 ∧ ∀ p, p < f.1 → f.2.1 p ≠ v
  · obtain ⟨U', a1, a2, a3, a4, a5, a6, a7⟩ := ct_add_16 (N := N) (X := X) (d := d) (U := U) (v := v) (hs := x) h1 c.2.2.1 hx
    have hr : r < 0 := by
      rcases f2 with ⟨e, _⟩ | ⟨j, e, e2, e3⟩
      · omega
      · rw [h2] at e3; exact absurd e3 (c.2.2.2 j e2)
    refine ⟨U', D_comeIn_r0 ⟨fun z => absurd z c.1, fun _ => ⟨fun z => absurd z (by omega), fun _ => ⟨fun z => absurd z (by rw [h1]; omega), fun _ => ⟨r, U, f1, fun _ => ⟨U', a1, by rw [cmF_t c]; rfl⟩, fun z => absurd z (by omega)⟩⟩⟩⟩, ?_⟩
    rw [cmF_t c]
    refine ⟨by rw [a2, s1_at], by rw [a3, h2], by rw [a4, h3], ?_, iPrt_add h5 a3 a6, ?_, fun r' j q1 q2 => ?_, ?_, ?_⟩
    · have := a5 (by rw [h3]; exact h4)
      rw [a4, h3] at this; exact this
    · rw [a7 1 (by decide) (by decide) (by decide) (by decide) (by decide)]; exact h6
    · rw [a7 r' (by omega) (by omega) (by omega) (by omega) (by omega)]; exact h7 r' j q1 q2
    · rw [a2, s1_ne (by decide)]; exact h8
    · rw [a2, s1_ne (by decide)]; exact h9
  · refine ⟨U, D_comeIn_r0 ?_, by rw [cmF_f c]; exact h⟩
    rw [cmF_f c]
    refine ⟨fun _ => rfl, fun c1 => ⟨fun _ => rfl, fun c2 => ⟨fun _ => rfl, fun c3 => ⟨r, U, f1, fun z => ?_, fun _ => rfl⟩⟩⟩⟩
    exfalso
    apply c
    rw [h1] at c3
    refine ⟨c1, c2, by omega, ?_⟩
    rcases f2 with ⟨_, e⟩ | ⟨j, e, e2, e3⟩
    · rw [h2] at e; exact e
    · omega
theorem ct_burn_l {N : Nat} {X : Nat → Int} {d h : Nat} {U0 : am_U} {y : Int} {f : FS} {s : Nat} (hf : f.1 ≤ 16) (hh : ∀ p, p < f.1 → -1 ≤ f.2.2 p ∧ f.2.2 p < 12) : ∀ m i : Nat, i + m = f.1 → ∀ U, RD U U0 y (f.1, f.2.1, fun p => if p < i ∧ f.2.2 p = (h : Nat) then -1 else f.2.2 p) s → ∃ U', EvK N X (D_burn_s31 (d + 1) (h : Nat) (i : Nat) U) (rV U') ∧ RD U' U0 y (bnF f h) s := by
  intro m
  induction m with
  | zero =>
    intro i hi U hr
    obtain rfl : i = f.1 := by omega
    exact ⟨U, D_burn_r31 ⟨fun _ => rfl, fun z => absurd z (by rw [hr.1]; omega)⟩, hr⟩
  | succ m ih =>
    intro i hi U hr
    have hi2 : i < f.1 := by omega
    have u18 : U 18 i = f.2.2 i := by rw [hr.2.2.1]; exact if_neg (by omega)
    have e16 : U 16 0 = (f.1 : Nat) := hr.1
    by_cases c : f.2.2 i = (h : Nat)
    · obtain ⟨U1, a1, a2, a3, a4, a5⟩ := ct_settle_16 (N := N) (X := X) (d := d) (U := U) (hs := -1) hi2 hf (by decide) (by rw [u18]; exact hh i hi2)
      have e18 : U1 18 = fun p => if p < i + 1 ∧ f.2.2 p = (h : Nat) then -1 else f.2.2 p := by
        rw [a2, hr.2.2.1]
        funext p
        unfold s1
        by_cases z : p = i
        · subst z; rw [if_pos rfl, if_pos ⟨by omega, c⟩]
        · rw [if_neg z]
          by_cases z2 : p < i ∧ f.2.2 p = (h : Nat)
          · rw [if_pos (by omega)]; exact if_pos z2
          · rw [if_neg (by omega)]; exact if_neg z2
      have rd1 : RD U1 U0 y (f.1, f.2.1, fun p => if p < i + 1 ∧ f.2.2 p = (h : Nat) then -1 else f.2.2 p) s := by
        obtain ⟨h1, h2, h3, h4, h5, h6, h7, h8, h9⟩ := hr
        refine ⟨by rw [a5 16 (by decide) (by decide)]; exact h1, by rw [a5 17 (by decide) (by decide)]; exact h2, e18, ?_, by unfold iPrt; rw [a5 17 (by decide) (by decide), a5 20 (by decide) (by decide)]; exact h5, by rw [a5 1 (by decide) (by decide)]; exact h6, fun r' j q1 q2 => by rw [a5 r' (by omega) (by omega)]; exact h7 r' j q1 q2, by rw [a5 16 (by decide) (by decide)]; exact h8, by rw [a5 16 (by decide) (by decide)]; exact h9⟩
        have := a3 (by rw [h3]; exact h4)
        rw [e18] at this; exact this
      obtain ⟨U', k1, k2⟩ := ih (i + 1) (by omega) U1 rd1
      refine ⟨U', D_burn_r31 ⟨fun z => absurd z (by rw [e16]; omega), fun _ => ⟨by omega, ?_⟩⟩, k2⟩
      rw [Int.toNat_natCast, u18, w32_succ (i := i) (by omega)]
      exact ⟨fun z => absurd c z, fun _ => ⟨U1, a1, k1⟩⟩
    · have e18 : (fun p => if p < i + 1 ∧ f.2.2 p = ((h : Nat) : Int) then (-1 : Int) else f.2.2 p) = fun p => if p < i ∧ f.2.2 p = (h : Nat) then -1 else f.2.2 p := by
        funext p
        by_cases z : p = i
        · subst z; rw [if_neg (fun q => c q.2), if_neg (by omega)]
        · by_cases z2 : p < i ∧ f.2.2 p = (h : Nat)
          · rw [if_pos (by omega), if_pos z2]
          · rw [if_neg (by omega), if_neg z2]
      obtain ⟨U', k1, k2⟩ := ih (i + 1) (by omega) U (by rw [e18]; exact hr)
      refine ⟨U', D_burn_r31 ⟨fun z => absurd z (by rw [e16]; omega), fun _ => ⟨by omega, ?_⟩⟩, k2⟩
      rw [Int.toNat_natCast, u18, w32_succ (i := i) (by omega)]
      exact ⟨fun _ => k1, fun z => absurd z c⟩
