/-! houses beside each other: two joined, one more built -/
def jnG (Z : am_U) (r o t : Nat) : am_U := am_upd (am_upd Z r o (am_or (Z r o) (am_shl 1 (t : Nat)))) r t (am_or (Z r t) (am_shl 1 (o : Nat)))
theorem jnG_row {Z : am_U} {r o t q : Nat} (h : q ≠ r) : jnG Z r o t q = Z q := by unfold jnG; rw [upd_row h, upd_row h]
theorem jnG_at {Z : am_U} {r o t : Nat} (h : Nat) : jnG Z r o t r h = if h = t then am_or (Z r t) (am_shl 1 (o : Nat)) else if h = o then am_or (Z r o) (am_shl 1 (t : Nat)) else Z r h := by unfold jnG; rw [upd_if, upd_if]
theorem jnG_in {Z : am_U} {r o t h : Nat} (hz : in32 (Z r h)) : in32 (jnG Z r o t r h) := by
  rw [jnG_at]
  split
  · exact or_in _ _
  · split
    · exact or_in _ _
    · exact hz
theorem jnG_tb {Z : am_U} {r o t h i : Nat} (hne : o ≠ t) (ho : o < 32) (ht : t < 32) (hi : i < 32) : tb (jnG Z r o t r h) i = (tb (Z r h) i || (decide (h = t ∧ i = o) || decide (h = o ∧ i = t))) := by
  rw [jnG_at]
  by_cases c1 : h = t
  · subst c1
    rw [if_pos rfl, tb_or, tb_bit ho hi]
    by_cases c2 : i = o
    · simp [c2]
    · simp [c2]
      intro e
      exact absurd e.symm hne
  · rw [if_neg c1]
    by_cases c2 : h = o
    · subst c2
      rw [if_pos rfl, tb_or, tb_bit ht hi]
      by_cases c3 : i = t
      · simp [c3, c1]
      · simp [c3, c1]
    · rw [if_neg c2]; simp [c1, c2]
theorem cW_jn {U W : am_U} {o t : Nat} (h : cW U W) : cW (jnG U 37 o t) (jnG W 9 o t) := by
  have e : U 37 = W 9 := h.1 37 (by decide) (by decide) (by decide)
  unfold jnG
  rw [e]
  exact cW_up (cW_up h 37 (by omega) (by omega)) 37 (by omega) (by omega)
theorem rW_jn {V W : am_U} {b o t : Nat} (h : rW V W b) : rW V (jnG W 9 o t) b := rW_gh (rW_gh h (by omega) (by omega) (by omega)) (by omega) (by omega) (by omega)
section JNS
variable {N : Nat} {X : Nat → Int} {d : Nat} {U : am_U}
theorem ct_join {o t : Nat} (ho : o < 12) (ht : t < 12) (hne : o ≠ t) : EvK N X (Tw_join_s0 d (o : Nat) (t : Nat) U) (rV (jnG U 37 o t)) := by
  refine Tw_join_r0 ⟨by omega, by omega, ?_⟩
  rw [Int.toNat_natCast, Int.toNat_natCast, upd_ne (fun e => hne e.symm)]; rfl
/-- the last place of a number in a row -/
def lsR (f : Nat → Int) (x : Int) (n : Nat) (r : Int) : Prop := (r = -1 ∧ ∀ j, j < n → f j ≠ x) ∨ ∃ j : Nat, r = (j : Nat) ∧ j < n ∧ f j = x ∧ ∀ i, j < i → i < n → f i ≠ x
theorem lsR_ex (f : Nat → Int) (x : Int) : ∀ n : Nat, ∃ r, lsR f x n r
  | 0 => ⟨-1, Or.inl ⟨rfl, fun j h => absurd h (Nat.not_lt_zero j)⟩⟩
  | n + 1 => by
    by_cases c : f n = x
    · exact ⟨(n : Nat), Or.inr ⟨n, rfl, by omega, c, fun i h1 h2 => by omega⟩⟩
    · obtain ⟨r, h⟩ := lsR_ex f x n
      rcases h with ⟨h1, h2⟩ | ⟨j, h1, h2, h3, h4⟩
      · refine ⟨-1, Or.inl ⟨rfl, fun j hj => ?_⟩⟩
        by_cases e : j = n
        · rw [e]; exact c
        · exact h2 j (by omega)
      · refine ⟨r, Or.inr ⟨j, h1, by omega, h3, fun i q1 q2 => ?_⟩⟩
        by_cases e : i = n
        · rw [e]; exact c
        · exact h4 i q1 (by omega)
theorem lsR_cg {f g : Nat → Int} {x r : Int} {n : Nat} (h : ∀ j, j < n → g j = f j) (hr : lsR f x n r) : lsR g x n r := by
  rcases hr with ⟨h1, h2⟩ | ⟨j, h1, h2, h3, h4⟩
  · exact Or.inl ⟨h1, fun j hj => by rw [h j hj]; exact h2 j hj⟩
  · exact Or.inr ⟨j, h1, h2, by rw [h j h2]; exact h3, fun i q1 q2 => by rw [h i q2]; exact h4 i q1 q2⟩
theorem ct_lastOn {n : Nat} (hn : U 31 1 = (n : Nat)) (hn2 : n ≤ 12) {x r : Int} (h : lsR (U 34) x n r) : EvK N X (Tw_lastOn_s0 d x U) (rI r U) := by
  have goA : ∀ i : Nat, i ≤ n → (∀ j, i ≤ j → j < n → U 34 j ≠ x) → ∀ y : Int, y = ((i : Nat) : Int) - 1 → EvK N X (Tw_lastOn_s7 d x y U) (rI r U) := by
    intro i
    induction i with
    | zero =>
      intro _ hp y hy
      have e : r = -1 := by
        rcases h with ⟨h1, -⟩ | ⟨j, h1, h2, h3, -⟩
        · exact h1
        · exact absurd h3 (hp j (Nat.zero_le j) h2)
      exact Tw_lastOn_r7 ⟨fun _ => by rw [e], fun z => absurd z (by omega)⟩
    | succ i ih =>
      intro hi hp y hy
      obtain rfl : y = ((i : Nat) : Int) := by omega
      refine Tw_lastOn_r7 ⟨fun z => absurd z (by omega), fun _ => ⟨by omega, ?_⟩⟩
      rw [Int.toNat_natCast]
      refine ⟨fun z => ?_, fun z => ?_⟩
      · refine ih (by omega) (fun j q1 q2 => ?_) _ (w32_eq (by omega) (by omega))
        by_cases e : j = i
        · rw [e]; exact z
        · exact hp j (by omega) q2
      · rcases h with ⟨-, h2⟩ | ⟨j, h1, h2, h3, h4⟩
        · exact absurd z (h2 i (by omega))
        · have e : j = i := by
            rcases Nat.lt_trichotomy j i with q | q | q
            · exact absurd z (h4 i q (by omega))
            · exact q
            · exact absurd h3 (hp j q h2)
          rw [h1, e]
  refine Tw_lastOn_r0 (goA n (Nat.le_refl n) (fun j q1 q2 => absurd q2 (by omega)) _ ?_)
  rw [hn, w32_eq (by omega) (by omega)]
end JNS
/-- one house more: who stands beside whom -/
theorem nb_new {st st' lf lt : Nat → Int} {nl nh : Nat} {r bf : Int} (h6 : ∀ k, k < nh → st' k = st k) (hr : st' nh = r) (hl : ∀ k, k < nl → (0 ≤ lf k ∧ lf k < (nh : Nat)) ∧ 0 ≤ lt k ∧ lt k < (nh : Nat)) (hb : lsR st r nh bf) : (∀ x y, x < nh → y < nh → (nbP st' lf lt nl x y ↔ nbP st lf lt nl x y)) ∧ (∀ x, x < nh → (nbP st' lf lt nl x nh ↔ bf = (x : Nat))) ∧ ((bf < 0 ∧ plc st' nh = 0) ∨ ∃ j : Nat, bf = (j : Nat) ∧ j < nh ∧ plc st' nh = plc st j + 1) := by
  have pe : ∀ x, x < nh → plc st' x = plc st x := fun x hx => plc_cg h6 hx
  have pn : plc st' nh = fb_ct (fun k => st k == r) nh := by
    unfold plc
    refine fb_ct_cong (fun k hk => ?_)
    rw [h6 k hk, hr]
  have px : ∀ x, st x = r → plc st x = fb_ct (fun k => st k == r) x := fun x e => by unfold plc; rw [e]
  have key : (bf = -1 ∧ (∀ j, j < nh → st j ≠ r) ∧ plc st' nh = 0) ∨ ∃ j : Nat, bf = (j : Nat) ∧ j < nh ∧ st j = r ∧ (∀ i, j < i → i < nh → st i ≠ r) ∧ plc st' nh = plc st j + 1 := by
    rcases hb with ⟨b1, b2⟩ | ⟨j, b1, b2, b3, b4⟩
    · refine Or.inl ⟨b1, b2, ?_⟩
      rw [pn]
      exact fb_ct_zero.mpr (fun k hk => by simpa using b2 k hk)
    · refine Or.inr ⟨j, b1, b2, b3, b4, ?_⟩
      rw [pn, px j b3, ct_cut (m := j + 1) (by omega) (fun i q1 q2 => by simpa using b4 i (by omega) q2), fb_ct_succ, if_pos (by simpa using b3)]
  refine ⟨fun x y hx hy => ?_, fun x hx => ?_, ?_⟩
  · unfold nbP
    rw [h6 x hx, h6 y hy, pe x hx, pe y hy]
  · constructor
    · rintro ⟨n1, n2⟩
      rcases n2 with ⟨e1, e2⟩ | ⟨k, hk, q⟩
      · rw [h6 x hx, hr] at e1
        rw [pe x hx] at e2
        rcases key with ⟨_, b2, _⟩ | ⟨j, b1, b2, b3, b4, b5⟩
        · exact absurd e1 (b2 x hx)
        · rw [b1]
          rcases Nat.lt_trichotomy x j with q | q | q
          · have m1 := px x e1
            have m2 := px j b3
            have m3 := fb_ct_mono (fun k => st k == r) (show x + 1 ≤ j by omega)
            rw [fb_ct_succ, if_pos (by simpa using e1)] at m3
            omega
          · rw [q]
          · exact absurd e1 (b4 x q hx)
      · have := hl k hk
        omega
    · intro e
      rcases key with ⟨b1, _⟩ | ⟨j, b1, b2, b3, b4, b5⟩
      · omega
      · obtain rfl : j = x := by omega
        refine ⟨by omega, Or.inl ⟨by rw [h6 j hx, hr]; exact b3, ?_⟩⟩
        rw [pe j hx, b5]
        right; omega
  · rcases key with ⟨b1, _, b3⟩ | ⟨j, b1, b2, _, _, b5⟩
    · exact Or.inl ⟨by omega, b3⟩
    · exact Or.inr ⟨j, b1, b2, b5⟩
