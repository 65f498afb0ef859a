/-! hidden ones: the class's foes, what fits -/
def iFoe (V : am_U) : Prop := ∀ a, 1 ≤ a → a ≤ 24 → ∀ i, 1 ≤ i → i ≤ 24 → tb (V 79 a) i = true → 1 < Nat.gcd a i
def foX (V : am_U) : Prop := ∀ a, 1 ≤ a → a ≤ 24 → ∀ i, 1 ≤ i → i ≤ 24 → tb (V 79 a) i = decide (1 < Nat.gcd a i)
theorem iFoe_of {V : am_U} (h : foX V) : iFoe V := fun a a1 a2 i i1 i2 q => by rw [h a a1 a2 i i1 i2, decide_eq_true_iff] at q; exact q
theorem ct_foes_in {N : Nat} {X : Nat → Int} {d a : Nat} (ha : 1 ≤ a ∧ a ≤ 24) : ∀ m b : Nat, b + m = 25 → 1 ≤ b → ∀ U : am_U, iFoe U → (∀ i, 1 ≤ i → i < b → tb (U 79 a) i = decide (1 < Nat.gcd a i)) → ∃ U' : am_U, (∀ r j, ¬ (r = 79 ∧ j = a) → U' r j = U r j) ∧ iFoe U' ∧ (∀ i, 1 ≤ i → i < 25 → tb (U' 79 a) i = decide (1 < Nat.gcd a i)) ∧ ∀ R, EvK N X (Rl_findFoes_s2 (d + 1) ((a + 1 : Nat) : Int) U') R → EvK N X (Rl_findFoes_s10 (d + 1) (a : Nat) (b : Nat) U) R := by
  intro m
  induction m with
  | zero =>
    intro b hb hb1 U h1 h2
    obtain rfl : b = 25 := by omega
    refine ⟨U, fun _ _ _ => rfl, h1, h2, fun R hR => Rl_findFoes_r10 ⟨fun _ => ?_, fun z => absurd z (by decide)⟩⟩
    rw [w32_succ (i := a) (by omega)]; exact hR
  | succ m ih =>
    intro b hb hb1 U h1 h2
    have g := ct_commonFactor (N := N) (X := X) (d := d) (U := U) ((a : Nat) : Int) ((b : Nat) : Int) (by omega) (by omega)
    rw [Int.natAbs_natCast, Int.natAbs_natCast] at g
    -- one more bit, if they quarrel
    have nx : ∀ y : Int, (∀ i, i < 32 → tb y i = decide (1 < Nat.gcd a b ∧ i = b)) → ∃ U' : am_U, (∀ r j, ¬ (r = 79 ∧ j = a) → U' r j = U r j) ∧ iFoe U' ∧ (∀ i, 1 ≤ i → i < 25 → tb (U' 79 a) i = decide (1 < Nat.gcd a i)) ∧ ∀ R, EvK N X (Rl_findFoes_s2 (d + 1) ((a + 1 : Nat) : Int) U') R → EvK N X (Rl_findFoes_s10 (d + 1) (a : Nat) ((b + 1 : Nat) : Int) (am_upd U 79 a (am_or (U 79 a) y))) R := fun y hy => by
      have bit : ∀ i, i < 32 → tb ((am_upd U 79 a (am_or (U 79 a) y)) 79 a) i = (tb (U 79 a) i || decide (1 < Nat.gcd a b ∧ i = b)) := fun i hi => by rw [upd_at, tb_or, hy i hi]
      obtain ⟨U', k1, k2⟩ := ih (b + 1) (by omega) (by omega) (am_upd U 79 a (am_or (U 79 a) y)) (fun c c1 c2 i i1 i2 q => by
        by_cases e : c = a
        · subst e
          rw [bit i (by omega), Bool.or_eq_true, decide_eq_true_iff] at q
          rcases q with q | ⟨q1, q2⟩
          · exact h1 c c1 c2 i i1 i2 q
          · rw [q2]; exact q1
        · rw [upd_ne e] at q; exact h1 c c1 c2 i i1 i2 q) (fun i i1 i2 => by
        rw [bit i (by omega)]
        by_cases e : i = b
        · subst e
          by_cases q : 1 < Nat.gcd a i
          · rw [decide_eq_true (⟨q, rfl⟩ : 1 < Nat.gcd a i ∧ i = i), decide_eq_true q, Bool.or_true]
          · rw [decide_eq_false (show ¬ (1 < Nat.gcd a i ∧ i = i) from fun z => q z.1), decide_eq_false q, Bool.or_false]
            exact Bool.eq_false_iff.mpr (fun z => q (h1 a ha.1 ha.2 i i1 (by omega) z))
        · rw [h2 i i1 (by omega), decide_eq_false (show ¬ (1 < Nat.gcd a b ∧ i = b) from fun z => e z.2), Bool.or_false])
      exact ⟨U', fun r j q => by rw [k1 r j q, upd_if2 q], k2⟩
    by_cases c : 1 < Nat.gcd a b
    · obtain ⟨U', k1, k2, k3, k4⟩ := nx (am_shl 1 ((b : Nat) : Int)) (fun i hi => by
        rw [tb_bit (by omega) hi]
        exact decide_eq_decide.mpr ⟨fun z => ⟨c, z⟩, fun z => z.2⟩)
      refine ⟨U', k1, k2, k3, fun R hR => Rl_findFoes_r10 ⟨fun z => absurd z (by omega), fun _ => ⟨by omega, _, _, g, fun z => absurd z (by omega), fun _ => ?_⟩⟩⟩
      rw [Int.toNat_natCast, w32_succ (i := b) (by omega)]; exact k4 R hR
    · obtain ⟨U', k1, k2, k3, k4⟩ := nx 0 (fun i hi => by
        rw [tb_0, decide_eq_false (fun z => c z.1)])
      refine ⟨U', k1, k2, k3, fun R hR => Rl_findFoes_r10 ⟨fun z => absurd z (by omega), fun _ => ⟨by omega, _, _, g, fun _ => ?_, fun z => absurd z (by omega)⟩⟩⟩
      rw [Int.toNat_natCast, w32_succ (i := b) (by omega)]; exact k4 R hR
theorem ct_findFoes {N : Nat} {X : Nat → Int} {d : Nat} {U : am_U} (h : iFoe U) : ∃ U', EvK N X (Rl_findFoes_s0 (d + 1) U) (rV U') ∧ (∀ r, r ≠ 79 → U' r = U r) ∧ foX U' := by
  have loop : ∀ m a : Nat, a + m = 25 → 1 ≤ a → ∀ V : am_U, iFoe V → (∀ c, 1 ≤ c → c < a → ∀ i, 1 ≤ i → i ≤ 24 → tb (V 79 c) i = decide (1 < Nat.gcd c i)) → ∃ U', EvK N X (Rl_findFoes_s2 (d + 1) (a : Nat) V) (rV U') ∧ (∀ r, r ≠ 79 → U' r = V r) ∧ foX U' := by
    intro m
    induction m with
    | zero =>
      intro a ha _ V h1 h2
      obtain rfl : a = 25 := by omega
      exact ⟨V, Rl_findFoes_r2 ⟨fun _ => rfl, fun z => absurd z (by decide)⟩, fun _ _ => rfl, fun c c1 c2 i i1 i2 => h2 c c1 (by omega) i i1 i2⟩
    | succ m ih =>
      intro a ha ha1 V h1 h2
      obtain ⟨V1, k1, k2, k3, k4⟩ := ct_foes_in (N := N) (X := X) (d := d) (a := a) (by omega) 24 1 (by omega) (by omega) V h1 (fun i i1 i2 => absurd i2 (by omega))
      obtain ⟨U', q1, q2, q3⟩ := ih (a + 1) (by omega) (by omega) V1 k2 (fun c c1 c2 i i1 i2 => by
        by_cases e : c = a
        · subst e; exact k3 i i1 (by omega)
        · rw [k1 79 c (by omega)]; exact h2 c c1 (by omega) i i1 i2)
      exact ⟨U', Rl_findFoes_r2 ⟨fun z => absurd z (by omega), fun _ => k4 _ q1⟩, fun r q => by rw [q2 r q]; exact funext fun j => k1 r j (fun z => q z.1), q3⟩
  obtain ⟨U', k1, k2, k3⟩ := loop 24 1 (by omega) (by omega) U h (fun c c1 c2 => absurd c2 (by omega))
  exact ⟨U', Rl_findFoes_r0 k1, k2, k3⟩
theorem all_tb : ∀ mo, mo < 25 → ∀ i, i < 32 → tb (w32 (am_shl 2 ((mo : Nat) : Int) - 2)) i = decide (1 ≤ i ∧ i ≤ mo) := by decide +kernel
theorem pix_w : ∀ k, k < 5 → ∀ j, j < k → ∀ b, b < j → w32 (w32 (w32 (w32 (Int.tdiv (w32 (((b : Nat) : Int) * w32 (w32 (w32 (2 * ((k : Nat) : Int)) - ((b : Nat) : Int)) - 1))) 2) + ((j : Nat) : Int)) - ((b : Nat) : Int)) - 1) = ((pix k b j : Nat) : Int) := by decide +kernel
theorem dgW_pre {mo k j g W y i : Nat} (hm : 0 < mo) (hk : j + g = k) (hy : y < mo ^ g) (hi : i < j) : dgW mo k (W * mo ^ g + y) i = dgW mo j W i := by
  unfold dgW
  have hp : 0 < mo ^ g := Nat.pow_pos hm
  rw [show k - 1 - i = g + (j - 1 - i) from by omega, Nat.pow_add, ← Nat.div_div_eq_div_mul, Nat.mul_comm W, Nat.add_comm (mo ^ g * W) y, Nat.add_mul_div_left _ _ hp, Nat.div_eq_of_lt hy, Nat.zero_add]
theorem dgW_last {mo j w v : Nat} (hv : v < mo) : dgW mo (j + 1) (w * mo + v) j = 1 + v := by
  unfold dgW
  rw [show j + 1 - 1 - j = 0 from by omega, Nat.pow_zero, Nat.div_one, Nat.mul_comm w, Nat.add_comm (mo * w), Nat.add_mul_mod_self_left, Nat.mod_eq_of_lt hv]
theorem dgW_le {mo k w i : Nat} (hm : 1 ≤ mo) : 1 ≤ dgW mo k w i ∧ dgW mo k w i ≤ mo := by
  unfold dgW
  have : w / mo ^ (k - 1 - i) % mo < mo := Nat.mod_lt _ (by omega)
  omega
theorem okP_s {t : Nat → Int} {k j : Nat} {r : Nat → Nat} : okP t k r (j + 1) ↔ okP t k r j ∧ ∀ b, b < j → (1 < Nat.gcd (r b) (r j) ↔ t (pix k b j) = 1) := by
  constructor
  · intro o; exact ⟨fun a b h1 h2 => o a b h1 (by omega), fun b hb => o b j hb (by omega)⟩
  · intro o a b h1 h2
    by_cases e : b = j
    · subst e; exact o.2 a h1
    · exact o.1 a b h1 (by omega)
theorem okP_le {t : Nat → Int} {k j m : Nat} {r : Nat → Nat} (h : okP t k r m) (hj : j ≤ m) : okP t k r j := fun a b h1 h2 => h a b h1 (by omega)
/-- what fits behind a prefix -/
def fitP (t : Nat → Int) (k mo : Nat) (r : Nat → Nat) (j m v : Nat) : Prop := (1 ≤ v ∧ v ≤ mo) ∧ ∀ b, b < m → (1 < Nat.gcd (r b) v ↔ t (pix k b j) = 1)
theorem ct_fit {N : Nat} {X : Nat → Int} {d k mo j : Nat} {U : am_U} {t : Nat → Int} {r : Nat → Nat} (hk : k < 5) (hmo : mo ≤ 24) (hj : j < k) (h783 : U 78 3 = (k : Nat)) (ht : ∀ b, b < j → U 2 (2 + pix k b j) = t (pix k b j)) (hr : ∀ b, b < j → U 80 b = (r b : Nat) ∧ 1 ≤ r b ∧ r b ≤ 24) (hf : foX U) : ∀ m b : Nat, b + m = j → ∀ F : Int, (∀ v, v < 32 → tb F v = pd (fitP t k mo r j b v)) → ∃ F', (∀ v, v < 32 → tb F' v = pd (fitP t k mo r j j v)) ∧ ∀ R, EvK N X (Rl_search_s8 (d + 1) (j : Nat) F' (j : Nat) U) R → EvK N X (Rl_search_s8 (d + 1) (j : Nat) F (b : Nat) U) R := by
  intro m
  induction m with
  | zero =>
    intro b hb F hF
    obtain rfl : b = j := by omega
    exact ⟨F, hF, fun R h => h⟩
  | succ m ih =>
    intro b hb F hF
    have p6 := pix_6 k hk j hj b (by omega)
    obtain ⟨r1, r2, r3⟩ := hr b (by omega)
    have po : EvK N X (Rl_pairOf_s0 d (b : Nat) (j : Nat) U) (rI ((pix k b j : Nat) : Int) U) := by
      refine Rl_pairOf_r0 ?_
      rw [h783, pix_w k hk j hj b (by omega)]
    have e2 : w32 (2 + ((pix k b j : Nat) : Int)) = ((2 + pix k b j : Nat) : Int) := by rw [w32_eq (by omega) (by omega)]; omega
    have next : ∀ F1 : Int, (∀ v, 1 ≤ v → v ≤ mo → tb F1 v = (tb F v && pd (1 < Nat.gcd (r b) v ↔ t (pix k b j) = 1))) → (∀ v, v < 32 → tb F v = false → tb F1 v = false) → ∀ v, v < 32 → tb F1 v = pd (fitP t k mo r j (b + 1) v) := fun F1 g1 g2 v hv => by
      by_cases c : 1 ≤ v ∧ v ≤ mo
      · rw [g1 v c.1 c.2, hF v hv]
        by_cases q : fitP t k mo r j b v
        · rw [pd_t q, Bool.true_and]
          refine pd_cg ⟨fun z => ⟨c, fun b' hb' => ?_⟩, fun z => z.2 b (by omega)⟩
          by_cases e : b' = b
          · rw [e]; exact z
          · exact q.2 b' (by omega)
        · rw [pd_f q, Bool.false_and]
          exact (pd_f (fun z => q ⟨z.1, fun b' hb' => z.2 b' (by omega)⟩)).symm
      · rw [g2 v hv (by rw [hF v hv]; exact pd_f (fun z => c z.1))]
        exact (pd_f (fun z => c z.1)).symm
    by_cases c : t (pix k b j) = 1
    · obtain ⟨F', k1, k2⟩ := ih (b + 1) (by clear e2; omega) (am_and F (U 79 (r b))) (next _ (fun v v1 v2 => by
        rw [tb_and, hf (r b) r2 r3 v v1 (by clear e2; omega)]
        by_cases q : 1 < Nat.gcd (r b) v
        · rw [decide_eq_true q, pd_t (⟨fun _ => c, fun _ => q⟩ : 1 < Nat.gcd (r b) v ↔ t (pix k b j) = 1)]
        · rw [decide_eq_false q, pd_f (show ¬ (1 < Nat.gcd (r b) v ↔ t (pix k b j) = 1) from fun z => q (z.mpr c))]) (fun v hv z => by rw [tb_and, z, Bool.false_and]))
      refine ⟨F', k1, fun R hR => Rl_search_r8 ⟨fun z => absurd z (by clear e2; omega), fun _ => ⟨_, _, po, ?_⟩⟩⟩
      rw [e2, Int.toNat_natCast, Int.toNat_natCast, ht b (by clear e2; omega), r1, Int.toNat_natCast, w32_succ (i := b) (by clear e2; omega)]
      clear e2
      exact ⟨by omega, fun z => absurd c z, fun _ => ⟨by omega, by omega, k2 R hR⟩⟩
    · obtain ⟨F', k1, k2⟩ := ih (b + 1) (by clear e2; omega) (am_and F (am_xor (U 79 (r b)) (-1))) (next _ (fun v v1 v2 => by
        rw [tb_and, tb_not (by clear e2; omega), hf (r b) r2 r3 v v1 (by clear e2; omega)]
        by_cases q : 1 < Nat.gcd (r b) v
        · rw [decide_eq_true q, pd_f (show ¬ (1 < Nat.gcd (r b) v ↔ t (pix k b j) = 1) from fun z => c (z.mp q))]; rfl
        · rw [decide_eq_false q, pd_t (⟨fun z => absurd z q, fun z => absurd z c⟩ : 1 < Nat.gcd (r b) v ↔ t (pix k b j) = 1)]; rfl) (fun v hv z => by rw [tb_and, z, Bool.false_and]))
      refine ⟨F', k1, fun R hR => Rl_search_r8 ⟨fun z => absurd z (by clear e2; omega), fun _ => ⟨_, _, po, ?_⟩⟩⟩
      rw [e2, Int.toNat_natCast, Int.toNat_natCast, ht b (by clear e2; omega), r1, Int.toNat_natCast, w32_succ (i := b) (by clear e2; omega)]
      clear e2
      exact ⟨by omega, fun _ => ⟨by omega, by omega, k2 R hR⟩, fun z => absurd z c⟩
