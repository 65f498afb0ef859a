/-! houses, tests -/
theorem M_house_nb {N : Nat} {X : Nat → Int} {d : Nat} {U : am_U} {b ns nh nl nw nd cl h : Nat} {w : Int} (ht : iTown U b ns nh nl nw nd cl) (hh : h < nh) : ∀ m i : Nat, i + m = nh → ∀ r, in32 r → (∀ j, j < 32 → tb r j = pd (j < i ∧ nbU U b nl h j)) → ∃ r', EvK N X (M_house_s136 (d + 2) (h : Nat) w r (i : Nat) U) (rI r' U) ∧ in32 r' ∧ ∀ j, j < 32 → tb r' j = pd (j < nh ∧ nbU U b nl h j) := by
  have e90 := ht.2.2.1.2.1
  have hnh := ht.2.2.1.2.2.1
  intro m
  induction m with
  | zero =>
    intro i hi r h1 h2
    obtain rfl : i = nh := by omega
    refine ⟨r, M_house_r136 ?_, h1, h2⟩
    rw [ht.1.1, Int.toNat_natCast, e90]
    have := ht.1.2
    exact ⟨by omega, fun _ => rfl, fun q => absurd q (by omega)⟩
  | succ m ih =>
    intro i hi r h1 h2
    have nb := ct_M_nb (N := N) (X := X) (d := d) (U := U) (x := h) (y := i) ht.1.2 ht.2.2.2.1.2.1 ht.2.2.2.1.2.2.1 (by omega) (by omega)
    have key := nbP_cg (st := fun k => U 92 (12 * b + k)) (st' := U 6) (lf := fun k => U 95 (10 * b + k)) (lt := fun k => U 96 (10 * b + k)) (nl := nl) (nh := nh) (x := h) (y := i) (fun k hk => (ht.2.2.1.2.2.2 k hk).2.1.1) hh (by omega)
    rw [propext key] at nb
    have start : ∀ R, ((cb (nbU U b nl h i) = 0 → EvK N X (M_house_s136 (d + 2) (h : Nat) w (am_or r 0) ((i + 1 : Nat) : Int) U) R) ∧ (cb (nbU U b nl h i) ≠ 0 → EvK N X (M_house_s136 (d + 2) (h : Nat) w (am_or r (am_shl 1 (i : Nat))) ((i + 1 : Nat) : Int) U) R)) → EvK N X (M_house_s136 (d + 2) (h : Nat) w r (i : Nat) U) R := by
      intro R hR
      refine M_house_r136 ?_
      rw [ht.1.1, Int.toNat_natCast, e90, w32_succ (i := i) (by omega)]
      have := ht.1.2
      exact ⟨by omega, fun q => absurd q (by omega), fun _ => ⟨_, _, nb, hR⟩⟩
    by_cases c : nbU U b nl h i
    · obtain ⟨r', k1, k2, k3⟩ := ih (i + 1) (by omega) (am_or r (am_shl 1 (i : Nat))) (or_in _ _) (fun j hj => by
        rw [tb_or, h2 j hj, tb_bit (by omega) hj]
        by_cases e : j = i
        · subst e
          have z : pd (j < j + 1 ∧ nbU U b nl h j) = true := pd_t ⟨by omega, c⟩
          rw [z]; simp
        · simp only [e, decide_false, Bool.or_false]
          exact pd_cg ⟨fun ⟨a, q⟩ => ⟨by omega, q⟩, fun ⟨a, q⟩ => ⟨by omega, q⟩⟩)
      exact ⟨r', start _ ⟨fun q => absurd c (cb_eq.mp q), fun _ => k1⟩, k2, k3⟩
    · obtain ⟨r', k1, k2, k3⟩ := ih (i + 1) (by omega) (am_or r 0) (or_in _ _) (fun j hj => by
        rw [tb_or, h2 j hj, tb_0, Bool.or_false]
        refine pd_cg ⟨fun ⟨a, q⟩ => ⟨by omega, q⟩, fun ⟨a, q⟩ => ⟨?_, q⟩⟩
        rcases Nat.lt_or_ge j i with z | z
        · exact z
        · have : j = i := by omega
          subst this; exact absurd q c)
      exact ⟨r', start _ ⟨fun _ => k1, fun q => absurd (cb_ne.mp q) c⟩, k2, k3⟩
theorem M_house_kth {N : Nat} {X : Nat → Int} {d : Nat} {U : am_U} {n h : Nat} {w : Int} (hw : 10 ≤ w ∧ w < 2147483648) (hn : U 122 0 = (n : Nat)) (hn2 : n ≤ 16) : ∀ m i : Nat, i + m = n → (fb_ct (fun p => U 124 p == (h : Nat)) i : Int) ≤ w - 10 → EvK N X (M_house_s21 (d + 1) (h : Nat) w ((fb_ct (fun p => U 124 p == (h : Nat)) i : Nat) : Int) (i : Nat) U) (rI (kth (fun p => U 124 p == (h : Nat)) (w - 10) n) U) := by
  intro m
  induction m with
  | zero =>
    intro i hi hle
    obtain rfl : i = n := by omega
    exact M_house_r21 ⟨fun _ => by rw [kth_m1 hle], fun q => absurd q (by rw [hn]; omega)⟩
  | succ m ih =>
    intro i hi hle
    have hs := fb_ct_succ (fun p => U 124 p == (h : Nat)) i
    have hl := fb_ct_le (fun p => U 124 p == (h : Nat)) i
    refine M_house_r21 ⟨fun q => absurd q (by rw [hn]; omega), fun _ => ⟨by omega, ?_⟩⟩
    rw [Int.toNat_natCast, w32_succ (i := i) (by omega), w32_eq (x := w - 10) (by omega) (by omega)]
    refine ⟨fun q => ⟨fun q2 => ?_, fun q2 => ?_⟩, fun q => ?_⟩
    · have e : fb_ct (fun p => U 124 p == (h : Nat)) (i + 1) = fb_ct (fun p => U 124 p == (h : Nat)) i + 1 := by rw [hs, if_pos (by simpa using q)]
      have := ih (i + 1) (by omega) (by rw [e]; omega)
      rw [e] at this
      rw [w32_succ (by omega)]
      exact this
    · rw [kth_in (p := fun p => U 124 p == (h : Nat)) (i := i) (by simpa using q) q2 (by omega)]
    · have e : fb_ct (fun p => U 124 p == (h : Nat)) (i + 1) = fb_ct (fun p => U 124 p == (h : Nat)) i := by rw [hs, if_neg (by simpa using q)]; rfl
      have := ih (i + 1) (by omega) (by rw [e]; omega)
      rw [e] at this
      exact this
theorem pair_house {N : Nat} {X : Nat → Int} {d : Nat} {U : am_U} {b ns nh nl nw nd cl n : Nat} (ht : iTown U b ns nh nl nw nd cl) (hf : iFolk U n nh) (x w : Int) (hw : w < 2147483648) : ask2 N X (D_house_s0 (d + 3) x w) (M_house_s0 (d + 3) x w) U := by
  have e31 := ht.2.2.1.1
  have e90 := ht.2.2.1.2.1
  have hnh := ht.2.2.1.2.2.1
  by_cases c : 0 ≤ x ∧ x < (nh : Nat)
  · obtain ⟨h, rfl⟩ : ∃ h : Nat, x = h := ⟨x.toNat, by omega⟩
    have hh : h < nh := by omega
    obtain ⟨-, ⟨s1, -⟩, ⟨r1, -⟩, p1, n1, n2⟩ := ht.2.2.1.2.2.2 h hh
    have dD : ∀ r, (w = 0 → r = U 6 h) → (w = 1 → r = U 8 h) → (w = 2 → r = ((fb_ct (tb (U 19 h)) 32 : Nat) : Int)) → (w = 3 → r = U 7 h) → (w = 4 → r = U 9 h) → (¬ w = 0 ∧ ¬ w = 1 ∧ ¬ w = 2 ∧ ¬ w = 3 ∧ ¬ w = 4 → (w < 10 → r = -1) ∧ (10 ≤ w → r = kth (tb (U 19 h)) (w - 10) 32)) → EvK N X (D_house_s0 (d + 3) (h : Nat) w U) (rI r U) := by
      intro r q0 q1 q2 q3 q4 q5
      refine D_house_r0 ⟨_, _, D_h1 (by rw [e31]; exact c), fun _ => ?_, fun z => absurd z (by decide)⟩
      rw [Int.toNat_natCast]
      refine ⟨fun z => ⟨by omega, by rw [q0 z]⟩, fun z => ⟨by omega, by rw [q1 z]⟩, fun z => ⟨_, _, ct_Fk_living_16 h (by omega), by rw [q2 z]⟩, fun z => ⟨by omega, by rw [q3 z]⟩, fun z => ⟨by omega, by rw [q4 z]⟩, fun z => ⟨fun y => by rw [(q5 z).1 y], fun y => ⟨by omega, _, _, ct_bitAt _ _ (by have := w32_in (w - 10); unfold in32 at this; exact this.2), ?_⟩⟩⟩
      rw [w32_eq (by omega) (by omega), (q5 z).2 y]
    have dM : ∀ r, (w = 0 → r = U 6 h) → (w = 1 → r = U 8 h) → (w = 2 → r = ((fb_ct (fun p => U 18 p == (h : Nat)) n : Nat) : Int)) → (w = 3 → r = U 7 h) → (w = 4 → r = U 9 h) → (¬ w = 0 ∧ ¬ w = 1 ∧ ¬ w = 2 ∧ ¬ w = 3 ∧ ¬ w = 4 → (w < 10 → r = -1) ∧ (10 ≤ w → r = kth (fun p => U 18 p == (h : Nat)) (w - 10) n)) → EvK N X (M_house_s0 (d + 3) (h : Nat) w U) (rI r U) := by
      intro r q0 q1 q2 q3 q4 q5
      have st := ct_M_streetOf (N := N) (X := X) (d := d + 2) (U := U) h ht.1.1 ht.1.2 (by omega)
      have ro := ct_M_roomsOf (N := N) (X := X) (d := d + 2) (U := U) h ht.1.1 ht.1.2 (by omega)
      have li := ct_M_living (N := N) (X := X) (d := d + 1) (U := U) 0 (h : Nat) (by decide) hf.1.2.1 hf.1.2.2
      have pl := ct_M_placeOf (N := N) (X := X) (d := d + 2) (U := U) (b := b) (h := h) ht.1.2 (by omega)
      rw [s1] at st
      rw [r1] at ro
      have el : fb_ct (fun q => U 124 (16 * 0 + q) == (h : Nat)) n = fb_ct (fun q => U 18 q == (h : Nat)) n := fb_ct_cong (fun q hq => by rw [show 16 * 0 + q = q from by omega, (hf.2.2.2.1 q hq).2])
      rw [el] at li
      have ep : plc (fun k => U 92 (12 * b + k)) h = plc (U 6) h := plc_cg (nh := nh) (fun k hk => (ht.2.2.1.2.2.2 k hk).2.1.1) hh
      rw [ep, ← p1] at pl
      refine M_house_r0 ⟨_, _, M_h1 ht.1.1 ht.1.2 (by rw [e90]; exact c), fun _ => ⟨fun y => ⟨fun z => ⟨_, _, st, by rw [q0 z]⟩, fun z => ⟨_, _, ro, by rw [q1 z]⟩, fun z => ⟨_, _, li, by rw [q2 z]⟩, fun z => ⟨_, _, by rw [ht.1.1]; exact pl, by rw [q3 z]⟩, fun z => ?_, fun z => by rw [(q5 z).1 y]⟩, fun y => ?_⟩, fun z => absurd z (by decide)⟩
      · obtain ⟨r', k1, k2, k3⟩ := M_house_nb (N := N) (X := X) (d := d + 1) (w := w) ht hh nh 0 (by omega) 0 (by unfold in32; omega) (fun j hj => by rw [tb_0, pd_f]; rintro ⟨q, -⟩; omega)
        have : r = r' := by rw [q4 z]; exact tb_ext n1 k2 (fun i hi => by rw [n2 i hi, k3 i hi]; rfl)
        rw [this]; exact k1
      · have k1 := M_house_kth (N := N) (X := X) (d := d + 2) (U := U) (h := h) (w := w) ⟨y, hw⟩ hf.1.2.1 hf.1.2.2 n 0 (by omega) (by simp [fb_ct]; omega)
        have : kth (fun p => U 124 p == (h : Nat)) (w - 10) n = kth (fun p => U 18 p == (h : Nat)) (w - 10) n := kth_cong (fun q hq => by rw [(hf.2.2.2.1 q hq).2])
        rw [this] at k1
        rw [(q5 (by omega)).2 y]
        simpa [fb_ct] using k1
    have e1 := dw_ct hf.2.2.2.2.2 hf.1.2.2 (h := h) (by omega)
    have e2 := dw_kth hf.2.2.2.2.2 hf.1.2.2 (h := h) (by omega) (w - 10)
    have fin : ∀ r, (w = 0 → r = U 6 h) → (w = 1 → r = U 8 h) → (w = 2 → r = ((fb_ct (tb (U 19 h)) 32 : Nat) : Int)) → (w = 3 → r = U 7 h) → (w = 4 → r = U 9 h) → (¬ w = 0 ∧ ¬ w = 1 ∧ ¬ w = 2 ∧ ¬ w = 3 ∧ ¬ w = 4 → (w < 10 → r = -1) ∧ (10 ≤ w → r = kth (tb (U 19 h)) (w - 10) 32)) → ask2 N X (D_house_s0 (d + 3) (h : Nat) w) (M_house_s0 (d + 3) (h : Nat) w) U := fun r a0 a1 a2 a3 a4 a5 => ask2_of (dD r a0 a1 a2 a3 a4 a5) (dM r a0 a1 (fun z => by rw [a2 z, e1]) a3 a4 (fun z => ⟨(a5 z).1, fun y => by rw [(a5 z).2 y, e2]⟩))
    clear dD dM
    by_cases w0 : w = 0
    · exact fin (U 6 h) (fun _ => rfl) (fun z => by omega) (fun z => by omega) (fun z => by omega) (fun z => by omega) (fun z => absurd w0 z.1)
    by_cases w1 : w = 1
    · exact fin (U 8 h) (fun z => by omega) (fun _ => rfl) (fun z => by omega) (fun z => by omega) (fun z => by omega) (fun z => absurd w1 z.2.1)
    by_cases w2 : w = 2
    · exact fin _ (fun z => by omega) (fun z => by omega) (fun _ => rfl) (fun z => by omega) (fun z => by omega) (fun z => absurd w2 z.2.2.1)
    by_cases w3 : w = 3
    · exact fin (U 7 h) (fun z => by omega) (fun z => by omega) (fun z => by omega) (fun _ => rfl) (fun z => by omega) (fun z => absurd w3 z.2.2.2.1)
    by_cases w4 : w = 4
    · exact fin (U 9 h) (fun z => by omega) (fun z => by omega) (fun z => by omega) (fun z => by omega) (fun _ => rfl) (fun z => absurd w4 z.2.2.2.2)
    by_cases w10 : w < 10
    · exact fin (-1) (fun z => by omega) (fun z => by omega) (fun z => by omega) (fun z => by omega) (fun z => by omega) (fun _ => ⟨fun _ => rfl, fun z => by omega⟩)
    · exact fin _ (fun z => by omega) (fun z => by omega) (fun z => by omega) (fun z => by omega) (fun z => by omega) (fun _ => ⟨fun z => by omega, fun _ => rfl⟩)
  · exact ask2_of (r := -1) (D_house_r0 ⟨_, _, D_h0 (by rw [e31]; exact c), fun h => absurd rfl h, fun _ => rfl⟩) (M_house_r0 ⟨_, _, M_h0 ht.1.1 ht.1.2 (by rw [e90]; exact c), fun h => absurd rfl h, fun _ => rfl⟩)
