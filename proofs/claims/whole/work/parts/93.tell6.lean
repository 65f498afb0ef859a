/-! hidden ones: the two calls side by side -/
def iR2 (V : am_U) : Prop := iRid V ∧ iFoe V ∧ 0 ≤ V 86 82 ∧ V 86 82 ≤ 4
/-- nothing but the riddle and the refusals has changed -/
def kR (U V : am_U) : Prop := ∀ r j, scr r j = false → r ≠ 78 → r ≠ 79 → r ≠ 81 → r ≠ 85 → r ≠ 119 → r ≠ 137 → ¬ (r = 86 ∧ (j = 82 ∨ j = 84)) → V r j = U r j
theorem pair_tell {N : Nat} {X : Nat → Int} {d : Nat} {U : am_U} (htp : iTape U) (hr : iR2 U) (hs : ∀ k, k < 6 → U 119 k = U 85 k) : ∃ r U1 U2, EvK N X (D_tell_s0 (d + 8) U) (rI r U1) ∧ EvK N X (M_tell_s0 (d + 4) U1) (rI r U2) ∧ kR (am_upd (am_upd U 1 1 0) 86 1 0) U2 ∧ iR2 U2 ∧ ∀ k, k < 6 → U2 119 k = U2 85 k := by
  obtain ⟨⟨t1, t2, t3⟩, t4⟩ := htp
  obtain ⟨L, hL⟩ : ∃ L : Nat, U 1 1 = L := ⟨(U 1 1).toNat, by omega⟩
  have hTb : ∀ j, j < 1600 → 0 ≤ U 2 j ∧ U 2 j ≤ 255 := fun j hj => (t4 j hj).2
  generalize hW : am_upd U 1 1 0 = W
  have wr : ∀ r, r ≠ 1 → W r = U r := fun r q => by rw [← hW, upd_row q]
  obtain ⟨r, a1, a2⟩ := ct_isTold (N := N) (X := X) (d := d + 7) (L := L) (U := W) (T := U 2) (wr 2 (by decide)) hTb (by omega)
  obtain ⟨h1, h2, h3, h4⟩ := hr
  rcases a2 with ⟨rfl, k, mo, o⟩ | ⟨rfl, no⟩
  · have o' := o
    obtain ⟨⟨o1, o1a, o1b⟩, ⟨o2, o2a, o2b⟩, o3, o4⟩ := o'
    have h6 := tri_6 k (by omega)
    have w2 : W 2 = U 2 := wr 2 (by decide)
    generalize hV0 : am_upd (am_upd (am_upd W 78 3 ((k : Nat) : Int)) 78 4 (w32 (am_shl 2 ((mo : Nat) : Int) - 2))) 78 5 0 = V0
    have v0 : ∀ r, r ≠ 78 → V0 r = W r := fun r q => by rw [← hV0, upd_row q, upd_row q, upd_row q]
    have v783 : V0 78 3 = (k : Nat) := by rw [← hV0, upd_ne (by decide), upd_ne (by decide), upd_at]
    have v784 : V0 78 4 = w32 (am_shl 2 ((mo : Nat) : Int) - 2) := by rw [← hV0, upd_ne (by decide), upd_at]
    have v785 : V0 78 5 = 0 := by rw [← hV0, upd_at]
    obtain ⟨V1, b1, b2, b3⟩ := ct_findFoes (N := N) (X := X) (d := d + 5) (U := V0) (fun a a1 a2 i i1 i2 q => h2 a a1 a2 i i1 i2 (by rw [v0 79 (by decide), wr 79 (by decide)] at q; exact q))
    have pw := mo_pow o2b o1b
    obtain ⟨V2, c1, c2, -, c4⟩ := D_search (N := N) (X := X) (d := d + 5 - k + 0) (k := k) (mo := mo) (t := fun i => U 2 (2 + i)) (U0 := V1) o1b ⟨o2a, o2b⟩ (by rw [b2 78 (by decide)]; exact v783) (fun i hi => by rw [b2 78 (by decide), v784]; exact all_tb mo (by omega) i hi) (fun a b ab bk => by rw [b2 2 (by decide), v0 2 (by decide), w2]) b3 (k - 1) 0 (by omega) 0 (by rw [Nat.zero_add, Nat.one_mul, show k - 1 + 1 = k from by omega]; exact pw) V1 (fun _ _ _ _ _ => rfl) (fun i hi => absurd hi (Nat.not_lt_zero i)) (fun a b _ hb => absurd hb (Nat.not_lt_zero b)) (by
      rw [Nat.zero_mul, b2 78 (by decide), v785]
      exact ⟨rfl, fun q => absurd q (Nat.lt_irrefl 0)⟩)
    rw [Nat.zero_add, Nat.one_mul, show k - 1 + 1 = k from by omega] at c4
    rw [show d + 5 - k + 0 + (k - 1) + 2 = d + 6 from by omega] at c1
    have dU : EvK N X (D_tell_s0 (d + 8) U) (rI (V2 78 5) V2) := by
      refine D_tell_r0 ⟨1, W, by rw [hL, hW]; exact a1, fun _ => ⟨V2, Rl_solve_r0 ⟨V1, ?_, V2, c1, rfl⟩, rfl⟩, fun z => absurd z (by decide)⟩
      rw [w2, o1, o2, hV0]; exact b1
    have vr : ∀ r j, r ≠ 78 → r ≠ 79 → r ≠ 80 → r ≠ 81 → V2 r j = W r j := fun r j q1 q2 q3 q4 => by rw [c2 r j q3 q4 (fun z => q1 z.1), b2 r q2, v0 r q1]
    obtain ⟨-, mt⟩ := ct_M_tell (N := N) (X := X) (d := d) (L := L) (U := V2) (T := U 2) (fun j hj => by rw [vr 87 j (by decide) (by decide) (by decide) (by decide), wr 87 (by decide)]; exact (t4 j hj).1) hTb (by rw [vr 86 1 (by decide) (by decide) (by decide) (by decide), wr 86 (by decide), t1]; exact hL) (by omega)
    obtain ⟨V3, m1, m2, m3, m4⟩ := mt k mo o
    obtain ⟨s1', s2'⟩ := rdS_one c4 m4
    have z785 : V3 78 5 = V2 78 5 := by rw [m2 78 5 (by decide) (by decide) (by decide) (by decide), upd_row (by decide)]
    have z783 : V3 78 3 = (k : Nat) := by rw [m2 78 3 (by decide) (by decide) (by decide) (by decide), upd_row (by decide), c2 78 3 (by decide) (by decide) (by decide), b2 78 (by decide)]; exact v783
    refine ⟨V2 78 5, V2, V3, dU, by rw [s1']; exact m1, fun r j e q1 q2 q3 q4 q5 q6 q7 => ?_, ⟨?_, ?_, by rw [m3]; omega, by rw [m3]; omega⟩, fun i hi => ?_⟩
    · have q80 : r ≠ 80 := fun q => by subst q; simp [scr] at e
      have q135 : r ≠ 135 := fun q => by subst q; simp [scr] at e
      have q136 : r ≠ 136 := fun q => by subst q; simp [scr] at e
      have q83 : ¬ (r = 86 ∧ j = 83) := fun q => by obtain ⟨rfl, rfl⟩ := q; simp [scr] at e
      rw [m2 r j q135 q136 q6 (by omega)]
      by_cases c : r = 86 ∧ j = 1
      · obtain ⟨rfl, rfl⟩ := c
        rw [upd_at, upd_at]
      · rw [upd_if2 c, upd_if2 c]; exact vr r j q1 q2 q80 q3
    · have hc : 0 ≤ V2 78 5 := by rw [c4.1]; omega
      by_cases z : V2 78 5 = 0
      · exact Or.inl ⟨by rw [z785]; exact z, Or.inr (by rw [← s1']; exact z)⟩
      · refine Or.inr ⟨by rw [z785]; omega, by rw [← s1']; omega, by rw [z783, m3], by rw [m3]; omega, fun i hi => ?_⟩
        rw [m3] at hi
        rw [m2 81 i (by decide) (by decide) (by decide) (by omega), upd_row (by decide)]
        exact s2' (by omega) i (by omega)
    · have fo : foX V2 := foX_fr c2 b3
      refine iFoe_of (fun a a1 a2 i i1 i2 => ?_)
      rw [m2 79 a (by decide) (by decide) (by decide) (by omega), upd_row (by decide)]
      exact fo a a1 a2 i i1 i2
    · rw [m2 119 i (by decide) (by decide) (by decide) (by omega), m2 85 i (by decide) (by decide) (by decide) (by omega), upd_row (by decide), upd_row (by decide), vr 119 i (by decide) (by decide) (by decide) (by decide), vr 85 i (by decide) (by decide) (by decide) (by decide), wr 119 (by decide), wr 85 (by decide)]
      exact hs i hi
  · have dU : EvK N X (D_tell_s0 (d + 8) U) (rI (-1) (am_upd W 85 5 (w32 (U 85 5 + 1)))) := by
      refine D_tell_r0 ⟨0, W, by rw [hL, hW]; exact a1, fun z => absurd rfl z, fun _ => ⟨0, _, ct_D_refuse 5 (by decide), by rw [wr 85 (by decide)]⟩⟩
    generalize hV : am_upd W 85 5 (w32 (U 85 5 + 1)) = V at dU
    have vr : ∀ r j, ¬ (r = 85 ∧ j = 5) → V r j = W r j := fun r j q => by rw [← hV, upd_if2 q]
    have v85 : V 85 5 = w32 (U 85 5 + 1) := by rw [← hV, upd_at]
    clear hV
    obtain ⟨mt, -⟩ := ct_M_tell (N := N) (X := X) (d := d) (L := L) (U := V) (T := U 2) (fun j hj => by rw [vr 87 j (by clear v85; omega), wr 87 (by decide)]; exact (t4 j hj).1) hTb (by rw [vr 86 1 (by decide), wr 86 (by decide), t1]; exact hL) (by clear v85; omega)
    have e119 : (am_upd V 86 1 0) 119 5 = U 119 5 := by rw [upd_row (by decide), vr 119 5 (by decide), wr 119 (by decide)]
    have mU := mt no
    rw [e119] at mU
    generalize hV3 : am_upd (am_upd V 86 1 0) 119 5 (w32 (U 119 5 + 1)) = V3 at mU
    have v3 : ∀ r j, ¬ (r = 85 ∧ j = 5) → ¬ (r = 119 ∧ j = 5) → ¬ (r = 86 ∧ j = 1) → V3 r j = W r j := fun r j q1 q2 q3 => by rw [← hV3, upd_if2 q2, upd_if2 q3, vr r j q1]
    have v861 : V3 86 1 = 0 := by rw [← hV3, upd_row (by decide), upd_at]
    have x119 : V3 119 5 = w32 (U 119 5 + 1) := by rw [← hV3, upd_at]
    have x85 : V3 85 5 = w32 (U 85 5 + 1) := by rw [← hV3, upd_row (by decide), upd_row (by decide)]; exact v85
    clear hV3 v85 e119
    refine ⟨-1, V, V3, dU, mU, fun r j e q1 q2 q3 q4 q5 q6 q7 => ?_, ⟨?_, ?_, ?_, ?_⟩, fun i hi => ?_⟩
    · by_cases c : r = 86 ∧ j = 1
      · obtain ⟨rfl, rfl⟩ := c
        rw [v861, upd_at]
      · rw [v3 r j (fun z => q4 z.1) (fun z => q5 z.1) c, upd_if2 c]
    · unfold iRid
      rw [v3 78 5 (by decide) (by decide) (by decide), v3 86 82 (by decide) (by decide) (by decide), v3 86 84 (by decide) (by decide) (by decide), v3 78 3 (by decide) (by decide) (by decide), wr 78 (by decide), wr 86 (by decide)]
      rcases h1 with q | ⟨p1, p2, p3, p4, p5⟩
      · exact Or.inl q
      · refine Or.inr ⟨p1, p2, p3, p4, fun i hi => ?_⟩
        rw [v3 81 i (by simp) (by simp) (by simp), v3 137 i (by simp) (by simp) (by simp), wr 81 (by decide), wr 137 (by decide)]
        exact p5 i hi
    · intro a a1 a2 i i1 i2 q
      rw [v3 79 a (by simp) (by simp) (by simp), wr 79 (by decide)] at q
      exact h2 a a1 a2 i i1 i2 q
    · rw [v3 86 82 (by decide) (by decide) (by decide), wr 86 (by decide)]; exact h3
    · rw [v3 86 82 (by decide) (by decide) (by decide), wr 86 (by decide)]; exact h4
    · by_cases e : i = 5
      · rw [e, x119, x85, hs 5 (by decide)]
      · rw [v3 119 i (by simp) (by simp [e]) (by simp), v3 85 i (by simp [e]) (by simp) (by simp), wr 119 (by decide), wr 85 (by decide)]
        exact hs i hi
