/-! hidden ones: both alike -/
theorem tri_w : ∀ k, k < 5 → 2 ≤ k → w32 (2 + w32 (Int.tdiv (w32 (((k : Nat) : Int) * w32 (((k : Nat) : Int) - 1))) 2)) = ((2 + k * (k - 1) / 2 : Nat) : Int) := by decide +kernel
theorem pix_tri : ∀ k, k < 5 → ∀ b, b < k → ∀ a, a < b → pix k a b < k * (k - 1) / 2 := by decide
theorem tri_6 : ∀ k, k < 5 → k * (k - 1) / 2 ≤ 6 := by decide
def tlOk (T : Nat → Int) (L k mo : Nat) : Prop := (T 0 = (k : Nat) ∧ 2 ≤ k ∧ k ≤ 4) ∧ (T 1 = (mo : Nat) ∧ 1 ≤ mo ∧ mo ≤ 24) ∧ L = 2 + k * (k - 1) / 2 ∧ ∀ j, 2 ≤ j → j < L → T j ≤ 1
theorem ct_isTold {N : Nat} {X : Nat → Int} {d L : Nat} {U : am_U} {T : Nat → Int} (hT : U 2 = T) (hTb : ∀ j, j < 1600 → 0 ≤ T j ∧ T j ≤ 255) (hL : L ≤ 1600) : ∃ r, EvK N X (Rl_isTold_s0 d (L : Nat) U) (rI r U) ∧ ((r = 1 ∧ ∃ k mo, tlOk T L k mo) ∨ (r = 0 ∧ ¬ ∃ k mo, tlOk T L k mo)) := by
  obtain ⟨k, hk⟩ : ∃ k : Nat, T 0 = k := ⟨(T 0).toNat, by have := hTb 0 (by decide); omega⟩
  obtain ⟨mo, hmo⟩ : ∃ mo : Nat, T 1 = mo := ⟨(T 1).toNat, by have := hTb 1 (by decide); omega⟩
  by_cases c : (2 ≤ k ∧ k ≤ 4) ∧ (1 ≤ mo ∧ mo ≤ 24) ∧ L = 2 + k * (k - 1) / 2
  · obtain ⟨c1, c2, c3⟩ := c
    have h6 := tri_6 k (by omega)
    have hp : 1 ≤ k * (k - 1) / 2 := by
      rcases (show k = 2 ∨ k = 3 ∨ k = 4 by omega) with rfl | rfl | rfl <;> decide
    have loop : ∀ m j : Nat, j + m = L → 2 ≤ j → (∀ i, 2 ≤ i → i < j → T i ≤ 1) → ∃ r, EvK N X (Rl_isTold_s63 d (L : Nat) (j : Nat) U) (rI r U) ∧ ((r = 1 ∧ ∃ k mo, tlOk T L k mo) ∨ (r = 0 ∧ ¬ ∃ k mo, tlOk T L k mo)) := by
      intro m
      induction m with
      | zero =>
        intro j hj _ h
        obtain rfl : j = L := by omega
        exact ⟨1, Rl_isTold_r63 ⟨fun _ => rfl, fun z => absurd z (by omega)⟩, Or.inl ⟨rfl, k, mo, ⟨hk, c1.1, c1.2⟩, ⟨hmo, c2.1, c2.2⟩, c3, h⟩⟩
      | succ m ih =>
        intro j hj h2 h
        by_cases q : T j ≤ 1
        · obtain ⟨r, k1, k2⟩ := ih (j + 1) (by omega) (by omega) (fun i i1 i2 => by
            by_cases e : i = j
            · rw [e]; exact q
            · exact h i i1 (by omega))
          refine ⟨r, Rl_isTold_r63 ⟨fun z => absurd z (by omega), fun _ => ⟨by omega, fun _ => ?_, fun z => absurd z ?_⟩⟩, k2⟩
          · rw [w32_succ (i := j) (by omega)]; exact k1
          · rw [hT, Int.toNat_natCast]; omega
        · refine ⟨0, Rl_isTold_r63 ⟨fun z => absurd z (by omega), fun _ => ⟨by omega, fun z => absurd z ?_, fun _ => rfl⟩⟩, Or.inr ⟨rfl, fun ⟨k', mo', o⟩ => q (o.2.2.2 j h2 (by omega))⟩⟩
          rw [hT, Int.toNat_natCast]; exact q
    obtain ⟨r, k1, k2⟩ := loop (L - 2) 2 (by omega) (by omega) (fun i i1 i2 => absurd i2 (by omega))
    refine ⟨r, Rl_isTold_r0 ?_, k2⟩
    rw [hT, hk, hmo, tri_w k (by omega) c1.1, ← c3]
    exact ⟨fun z => absurd z (by omega), fun _ => ⟨fun z => absurd z (by omega), fun _ => ⟨fun z => absurd z (by omega), fun _ => ⟨fun _ => ⟨fun z => absurd z (by omega), fun _ => ⟨fun z => absurd z (by omega), fun _ => ⟨fun _ => k1, fun z => absurd rfl z⟩⟩⟩, fun z => absurd z (by omega)⟩⟩⟩⟩
  · refine ⟨0, Rl_isTold_r0 ?_, Or.inr ⟨rfl, fun ⟨k', mo', o1, o2, o3, o4⟩ => c ?_⟩⟩
    · rw [hT, hk, hmo]
      refine ⟨fun _ => rfl, fun q1 => ⟨fun _ => rfl, fun q2 => ⟨fun _ => rfl, fun q3 => ⟨fun q4 => ⟨fun _ => rfl, fun q5 => ⟨fun _ => rfl, fun q6 => ⟨fun q7 => absurd ?_ c, fun _ => rfl⟩⟩⟩, fun _ => rfl⟩⟩⟩⟩
      rw [tri_w k (by omega) (by omega)] at q7
      exact ⟨by omega, by omega, by omega⟩
    · have e1 : k' = k := by omega
      have e2 : mo' = mo := by omega
      subst e1 e2
      exact ⟨o1.2, o2.2, o3⟩
theorem ct_tell_ref {N : Nat} {X : Nat → Int} {d : Nat} {W : am_U} {x1 x3 : Int} : EvK N X (M_tell_s75 (d + 1) x1 0 x3 W) (rI (-1) (am_upd W 119 5 (w32 (W 119 5 + 1)))) := M_tell_r75 ⟨fun _ => ⟨fun z => absurd rfl z, fun _ => ⟨_, _, ct_M_refuses 5 (by decide), rfl⟩⟩, fun _ => ⟨fun _ => ⟨_, _, ct_M_refuses 5 (by decide), rfl⟩, fun z => absurd rfl z⟩⟩
theorem ct_M_tell {N : Nat} {X : Nat → Int} {d L : Nat} {U : am_U} {T : Nat → Int} (hTe : ∀ j, j < 1600 → U 87 j = T j) (hTb : ∀ j, j < 1600 → 0 ≤ T j ∧ T j ≤ 255) (hL1 : U 86 1 = (L : Nat)) (hL : L ≤ 1600) : ((¬ ∃ k mo, tlOk T L k mo) → EvK N X (M_tell_s0 (d + 4) U) (rI (-1) (am_upd (am_upd U 86 1 0) 119 5 (w32 ((am_upd U 86 1 0) 119 5 + 1))))) ∧ ∀ k mo, tlOk T L k mo → ∃ U', EvK N X (M_tell_s0 (d + 4) U) (rI (U' 86 84) U') ∧ (∀ r j, r ≠ 135 → r ≠ 136 → r ≠ 137 → ¬ (r = 86 ∧ (j = 82 ∨ j = 83 ∨ j = 84)) → U' r j = (am_upd U 86 1 0) r j) ∧ U' 86 82 = (k : Nat) ∧ rdS (okW (fun i => T (2 + i)) k mo) mo k (mo ^ k) (U' 86 84) (U' 137) := by
  generalize hW : am_upd U 86 1 0 = W
  have w87 : ∀ j, j < 1600 → W 87 j = T j := fun j hj => by rw [← hW, upd_row (by decide)]; exact hTe j hj
  have e0 := hTe 0 (by decide)
  have e1 := hTe 1 (by decide)
  have f0 := w87 0 (by decide)
  have f1 := w87 1 (by decide)
  -- the bytes behind the first two
  have good : ∀ {R}, (∀ j, 2 ≤ j → j < L → T j ≤ 1) → ∀ m j : Nat, j + m = L → 2 ≤ j → EvK N X (M_tell_s138 (d + 4) (L : Nat) 1 2 (am_upd (am_upd W 86 82 (T 0)) 86 83 (T 1))) R → EvK N X (M_tell_s75 (d + 4) (L : Nat) 1 (j : Nat) W) R := fun {R} hb m => by
    induction m with
    | zero =>
      intro j hj h2 k1
      refine M_tell_r75 ⟨fun _ => ⟨fun _ => ?_, fun z => absurd z (by decide)⟩, fun z => absurd z (by omega)⟩
      rw [f0, f1]; exact k1
    | succ m ih =>
      intro j hj h2 k1
      have := ih (j + 1) (by omega) (by omega) k1
      refine M_tell_r75 ⟨fun z => absurd z (by omega), fun _ => ⟨fun z => absurd z (by decide), fun _ => ⟨by omega, fun z => absurd z ?_, fun _ => ?_⟩⟩⟩
      · rw [Int.toNat_natCast, w87 j (by omega)]; have := hb j h2 (by omega); omega
      · rw [w32_succ (i := j) (by omega)]; exact this
  have bad : ∀ m j : Nat, j + m = L → 2 ≤ j → (∃ i, j ≤ i ∧ i < L ∧ 2 ≤ T i) → EvK N X (M_tell_s75 (d + 4) (L : Nat) 1 (j : Nat) W) (rI (-1) (am_upd W 119 5 (w32 (W 119 5 + 1)))) := fun m => by
    induction m with
    | zero => intro j hj h2 ⟨i, i1, i2, _⟩; exact absurd i2 (by omega)
    | succ m ih =>
      intro j hj h2 ⟨i, i1, i2, i3⟩
      by_cases c : 2 ≤ T j
      · refine M_tell_r75 ⟨fun z => absurd z (by omega), fun _ => ⟨fun z => absurd z (by decide), fun _ => ⟨by omega, fun _ => ct_tell_ref, fun z => absurd z ?_⟩⟩⟩
        rw [Int.toNat_natCast, w87 j (by omega)]; omega
      · have ne : i ≠ j := fun e => c (by rw [← e]; exact i3)
        have := ih (j + 1) (by omega) (by omega) ⟨i, by omega, i2, i3⟩
        refine M_tell_r75 ⟨fun z => absurd z (by omega), fun _ => ⟨fun z => absurd z (by decide), fun _ => ⟨by omega, fun z => absurd z ?_, fun _ => ?_⟩⟩⟩
        · rw [Int.toNat_natCast, w87 j (by omega)]; exact c
        · rw [w32_succ (i := j) (by omega)]; exact this
  obtain ⟨k, hk⟩ : ∃ k : Nat, T 0 = k := ⟨(T 0).toNat, by have := hTb 0 (by decide); omega⟩
  obtain ⟨mo, hmo⟩ : ∃ mo : Nat, T 1 = mo := ⟨(T 1).toNat, by have := hTb 1 (by decide); omega⟩
  have start : ∀ {R}, (2 ≤ k ∧ k ≤ 4) → (1 ≤ mo ∧ mo ≤ 24) → L = 2 + k * (k - 1) / 2 → EvK N X (M_tell_s75 (d + 4) (L : Nat) 1 2 W) R → EvK N X (M_tell_s0 (d + 4) U) R := fun {R} c1 c2 c3 h => by
    refine M_tell_r0 ?_
    rw [hL1, hW, e0]
    refine ⟨fun z => absurd z (by omega), fun _ => ⟨1, W, M_is1 (by omega), fun z => absurd z (by decide), fun _ => ⟨1, W, M_is1 (by rw [f1]; omega), fun z => absurd z (by decide), fun _ => ?_⟩⟩⟩
    rw [f0, hk, tri_w k (by omega) c1.1, ← c3]
    exact ⟨fun z => absurd rfl z, fun _ => h⟩
  constructor
  · intro no
    by_cases c : (2 ≤ k ∧ k ≤ 4) ∧ (1 ≤ mo ∧ mo ≤ 24) ∧ L = 2 + k * (k - 1) / 2
    · obtain ⟨c1, c2, c3⟩ := c
      refine start c1 c2 c3 (bad (L - 2) 2 (by omega) (by decide) ?_)
      rcases Classical.em (∃ i, 2 ≤ i ∧ i < L ∧ 2 ≤ T i) with q | q
      · exact q
      · exfalso
        refine no ⟨k, mo, ⟨hk, c1⟩, ⟨hmo, c2⟩, c3, fun j j1 j2 => ?_⟩
        have : ¬ 2 ≤ T j := fun z => q ⟨j, j1, j2, z⟩
        omega
    · refine M_tell_r0 ?_
      rw [hL1, hW, e0, hk]
      refine ⟨fun _ => ct_tell_ref, fun z1 => ?_⟩
      by_cases q1 : 2 ≤ k ∧ k ≤ 4
      · refine ⟨1, W, M_is1 (by omega), fun z => absurd z (by decide), fun _ => ?_⟩
        rw [f1, hmo]
        by_cases q2 : 1 ≤ mo ∧ mo ≤ 24
        · refine ⟨1, W, M_is1 (by omega), fun z => absurd z (by decide), fun _ => ?_⟩
          rw [f0, hk, tri_w k (by omega) q1.1]
          exact ⟨fun _ => ct_tell_ref, fun z => absurd ⟨q1, q2, by omega⟩ c⟩
        · exact ⟨0, W, M_is0 (by omega), fun _ => ct_tell_ref, fun z => absurd rfl z⟩
      · exact ⟨0, W, M_is0 (by omega), fun _ => ct_tell_ref, fun z => absurd rfl z⟩
  · intro k' mo' o
    obtain ⟨o1, o2, o3, o4⟩ := o
    obtain rfl : k' = k := by omega
    obtain rfl : mo' = mo := by omega
    have h6 := tri_6 k' (by omega)
    -- what is told is copied
    have copy : ∀ m j : Nat, j + m = L → 2 ≤ j → ∀ V : am_U, (∀ r i, r ≠ 135 → V r i = (am_upd (am_upd W 86 82 (T 0)) 86 83 (T 1)) r i) → (∀ i, 2 + i < j → V 135 i = T (2 + i)) → ∃ V1 : am_U, (∀ r i, r ≠ 135 → V1 r i = (am_upd (am_upd W 86 82 (T 0)) 86 83 (T 1)) r i) ∧ (∀ i, 2 + i < L → V1 135 i = T (2 + i)) ∧ ∀ R, EvK N X (M_tell_s138 (d + 4) (L : Nat) 1 (L : Nat) V1) R → EvK N X (M_tell_s138 (d + 4) (L : Nat) 1 (j : Nat) V) R := fun m => by
      induction m with
      | zero =>
        intro j hj _ V h1 h2
        obtain rfl : j = L := by omega
        exact ⟨V, h1, h2, fun R h => h⟩
      | succ m ih =>
        intro j hj j2 V h1 h2
        have v87 : V 87 j = T j := by rw [h1 87 j (by decide), upd_row (by decide), upd_row (by decide)]; exact w87 j (by omega)
        obtain ⟨V1, a1, a2, a3⟩ := ih (j + 1) (by omega) (by omega) (am_upd V 135 (j - 2) (T j)) (fun r i q => by rw [upd_row q]; exact h1 r i q) (fun i hi => by
          rw [upd_if]
          by_cases e : i = j - 2
          · rw [if_pos e, e, show 2 + (j - 2) = j from by omega]
          · rw [if_neg e]; exact h2 i (by omega))
        refine ⟨V1, a1, a2, fun R hR => M_tell_r138 ⟨fun z => absurd z (by omega), fun _ => ?_⟩⟩
        rw [w32_eq (x := ((j : Nat) : Int) - 2) (by omega) (by omega), show (((j : Nat) : Int) - 2).toNat = j - 2 from by omega, Int.toNat_natCast, v87, w32_succ (i := j) (by omega)]
        exact ⟨by omega, by omega, a3 R hR⟩
    obtain ⟨V1, a1, a2, a3⟩ := copy (L - 2) 2 (by omega) (by decide) _ (fun _ _ _ => rfl) (fun i hi => absurd hi (by omega))
    have v82 : V1 86 82 = (k' : Nat) := by rw [a1 86 82 (by decide), upd_ne (by decide), upd_at]; exact o1.1
    have v83 : V1 86 83 = (mo' : Nat) := by rw [a1 86 83 (by decide), upd_at]; exact o2.1
    obtain ⟨U', b1, b2, b3⟩ := M_fin_c (N := N) (X := X) (d := d) (t := fun i => T (2 + i)) o1.2 o2.2 v82 v83 (fun a b ab bk => by
      have p := pix_tri k' (by omega) b bk a ab
      have q1 := o4 (2 + pix k' a b) (by omega) (by omega)
      have q2 := hTb (2 + pix k' a b) (by omega)
      refine ⟨a2 _ (by omega), ?_⟩
      show T (2 + pix k' a b) = 0 ∨ T (2 + pix k' a b) = 1
      omega)
    refine ⟨U', start o1.2 o2.2 o3 (good o4 (L - 2) 2 (by omega) (by decide) (a3 _ (M_tell_r138 ⟨fun _ => ⟨U', b1, rfl⟩, fun z => absurd z (by omega)⟩))), fun r j q1 q2 q3 q4 => ?_, ?_, b3⟩
    · rw [b2 r j q2 q3 (by omega), a1 r j q1, upd_if2 (by omega), upd_if2 (by omega)]
    · rw [b2 86 82 (by decide) (by decide) (by decide)]; exact v82
