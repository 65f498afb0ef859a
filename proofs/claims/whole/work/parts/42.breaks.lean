/-! which laws one breaks, whether one is in a breach, whether one may live in a house -/
theorem ct_breaks_l {N : Nat} {X : Nat → Int} {d : Nat} {U0 : am_U} {b ns nh nl nw nd cl n l me : Nat} {asked kind M : Int} (hc : jCtx U0 b ns nh nl nw nd cl n) (hl : l < nw) (hm : me < n) : ∀ m i : Nat, i + m = n → ∀ (U : am_U) (r : Int), jk U0 U → in32 r → (∀ j, j < 32 → tb r j = pd (j < i ∧ tb M j = true ∧ ¬ hT U0 l me (U0 17 j))) → ∃ U' r', EvK N X (Jg_breaks_s106 (d + 4) (l : Nat) (me : Nat) asked kind M r (i : Nat) U) (rI r' U') ∧ jk U0 U' ∧ in32 r' ∧ ∀ j, j < 32 → tb r' j = pd (j < n ∧ tb M j = true ∧ ¬ hT U0 l me (U0 17 j)) := by
  obtain ⟨ht, h2, h3, h4, h5⟩ := hc
  intro m
  induction m with
  | zero =>
    intro i hi U r h6 h7 h8
    obtain rfl : i = n := by omega
    refine ⟨U, r, Jg_breaks_r106 ⟨fun _ => rfl, fun h => absurd h ?_⟩, h6, h7, h8⟩
    rw [jk_row h6 (r := 16) (by decide) (by decide), h2]; omega
  | succ m ih =>
    intro i hi U r h6 h7 h8
    have e16 : U 16 0 = (n : Nat) := by rw [jk_row h6 (r := 16) (by decide) (by decide)]; exact h2
    have hb : am_and (am_shr M (i : Nat)) 1 = if tb M i then 1 else 0 := bit_shr (by omega)
    cases e : tb M i with
    | false =>
      rw [e] at hb
      obtain ⟨U', r', k1, k2, k3, k4⟩ := ih (i + 1) (by omega) U r h6 h7 (fun j hj => by
        rw [h8 j hj]
        refine pd_cg ⟨fun ⟨a1, a2⟩ => ⟨by omega, a2⟩, fun ⟨a1, a2⟩ => ⟨?_, a2⟩⟩
        rcases Nat.lt_or_ge j i with q | q
        · exact q
        · have : j = i := by omega
          rw [this, e] at a2; simp at a2)
      refine ⟨U', r', Jg_breaks_r106 ⟨fun h => absurd h (by rw [e16]; omega), fun _ => ?_⟩, k2, k3, k4⟩
      rw [hb, w32_succ (by omega)]
      exact ⟨fun _ => k1, fun h => by simp at h⟩
    | true =>
      rw [e] at hb
      have hc' : jCtx U b ns nh nl nw nd cl n := jCtx_jk h6 ⟨ht, h2, h3, h4, h5⟩
      have ho := (h4.1 i (by omega)).2.1
      have e17 : U 17 i = U0 17 i := by rw [jk_row h6 (r := 17) (by decide) (by decide)]
      obtain ⟨U1, g1, g2⟩ := ct_law (N := N) (X := X) (d := d) (ot := U 17 i) hc' hl hm (by rw [e17]; omega)
      rw [e17] at g1
      by_cases hh : hT U0 l me (U0 17 i)
      · rw [cb_t ((hT_jk h6 l me _).mpr hh)] at g1
        obtain ⟨U', r', k1, k2, k3, k4⟩ := ih (i + 1) (by omega) U1 r (jk_trans h6 g2) h7 (fun j hj => by
          rw [h8 j hj]
          refine pd_cg ⟨fun ⟨a1, a2⟩ => ⟨by omega, a2⟩, fun ⟨a1, a2⟩ => ⟨?_, a2⟩⟩
          rcases Nat.lt_or_ge j i with q | q
          · exact q
          · have : j = i := by omega
            rw [this] at a2; exact absurd hh a2.2)
        refine ⟨U', r', Jg_breaks_r106 ⟨fun h => absurd h (by rw [e16]; omega), fun _ => ?_⟩, k2, k3, k4⟩
        rw [hb, w32_succ (by omega), Int.toNat_natCast, e17]
        exact ⟨fun h => absurd rfl h, fun _ => ⟨by omega, _, _, g1, fun _ => k1, fun h => by simp at h⟩⟩
      · rw [cb_f (fun q => hh ((hT_jk h6 l me _).mp q))] at g1
        obtain ⟨U', r', k1, k2, k3, k4⟩ := ih (i + 1) (by omega) U1 (am_or r (am_shl 1 (i : Nat))) (jk_trans h6 g2) (or_in _ _) (fun j hj => by
          rw [tb_or, h8 j hj, tb_bit (by omega) hj]
          by_cases c1 : j = i
          · subst c1
            have z : pd (j < j + 1 ∧ tb M j = true ∧ ¬ hT U0 l me (U0 17 j)) = true := pd_t ⟨by omega, e, hh⟩
            rw [z]; simp
          · simp only [c1, decide_false, Bool.or_false]
            exact pd_cg ⟨fun ⟨a1, a2⟩ => ⟨by omega, a2⟩, fun ⟨a1, a2⟩ => ⟨by omega, a2⟩⟩)
        refine ⟨U', r', Jg_breaks_r106 ⟨fun h => absurd h (by rw [e16]; omega), fun _ => ?_⟩, k2, k3, k4⟩
        rw [hb, w32_succ (by omega), Int.toNat_natCast, e17]
        exact ⟨fun h => absurd rfl h, fun _ => ⟨by omega, _, _, g1, fun h => absurd rfl h, fun _ => k1⟩⟩
theorem tb_65536 {i : Nat} (h : i < 32) : tb 65536 i = decide (i = 16) := (by decide +kernel : ∀ i, i < 32 → tb 65536 i = decide (i = 16)) i h
/-- breaks: of those asked for, with whom one breaks a law; 16: alone -/
theorem ct_breaks {N : Nat} {X : Nat → Int} {d : Nat} {U : am_U} {b ns nh nl nw nd cl n l me : Nat} {asked : Int} (hc : jCtx U b ns nh nl nw nd cl n) (hl : l < nw) (hm : me < n) : ∃ U' r, EvK N X (Jg_breaks_s0 (d + 4) (l : Nat) (me : Nat) asked U) (rI r U') ∧ jk U U' ∧ in32 r ∧ ∀ i, i < 32 → tb r i = (tb asked i && pd (brP U b nl n l me i)) := by
  have hc0 := hc
  obtain ⟨ht, h2, h3, h4, h5⟩ := hc
  obtain ⟨w1, w2, w3, w4, w5, w6⟩ := ht.2.2.2.2.2.2.1
  obtain ⟨z1, z2, -⟩ := w6 l hl
  obtain ⟨q1, q2, q3, q4⟩ := h4.1 me hm
  by_cases k8 : U 12 l = 8
  · by_cases hn : U 18 me = -1
    · refine ⟨U, 0, Jg_breaks_r0 ?_, jk_refl _, by unfold in32; omega, fun i hi => ?_⟩
      · rw [Int.toNat_natCast, Int.toNat_natCast]
        exact ⟨by omega, fun h => absurd k8 h, fun _ => ⟨by omega, fun _ => rfl, fun h => absurd hn h⟩⟩
      · rw [tb_0, pd_f, Bool.and_false]
        rintro (⟨-, -, h, -⟩ | ⟨h, -⟩)
        · omega
        · exact h k8
    · have hb : am_and (am_shr asked 16) 1 = if tb asked 16 then 1 else 0 := bit_shr (n := 16) (by omega)
      cases e : tb asked 16 with
      | false =>
        rw [e] at hb
        refine ⟨U, 0, Jg_breaks_r0 ?_, jk_refl _, by unfold in32; omega, fun i hi => ?_⟩
        · rw [Int.toNat_natCast, Int.toNat_natCast, hb]
          exact ⟨by omega, fun h => absurd k8 h, fun _ => ⟨by omega, fun h => absurd h hn, fun _ => ⟨fun h => by simp at h, fun _ => rfl⟩⟩⟩
        · rw [tb_0]
          by_cases c : i = 16
          · rw [c, e]; rfl
          · rw [pd_f, Bool.and_false]
            rintro (⟨-, h, -⟩ | ⟨h, -⟩)
            · exact c h
            · exact h k8
      | true =>
        rw [e] at hb
        obtain ⟨U1, g1, g2⟩ := ct_law (N := N) (X := X) (d := d) (ot := 0) hc0 hl hm (by omega)
        by_cases hh : hT U l me 0
        · rw [cb_t hh] at g1
          refine ⟨U1, 0, Jg_breaks_r0 ?_, g2, by unfold in32; omega, fun i hi => ?_⟩
          · rw [Int.toNat_natCast, Int.toNat_natCast, hb]
            exact ⟨by omega, fun h => absurd k8 h, fun _ => ⟨by omega, fun h => absurd h hn, fun _ => ⟨fun _ => ⟨_, _, g1, fun h => by simp at h, fun _ => rfl⟩, fun h => by simp at h⟩⟩⟩
          · rw [tb_0, pd_f, Bool.and_false]
            rintro (⟨-, -, -, h⟩ | ⟨h, -⟩)
            · exact h hh
            · exact h k8
        · rw [cb_f hh] at g1
          refine ⟨U1, 65536, Jg_breaks_r0 ?_, g2, by unfold in32; omega, fun i hi => ?_⟩
          · rw [Int.toNat_natCast, Int.toNat_natCast, hb]
            exact ⟨by omega, fun h => absurd k8 h, fun _ => ⟨by omega, fun h => absurd h hn, fun _ => ⟨fun _ => ⟨_, _, g1, fun _ => rfl, fun h => absurd rfl h⟩, fun h => by simp at h⟩⟩⟩
          · rw [tb_65536 hi]
            by_cases c : i = 16
            · subst c
              have z : pd (brP U b nl n l me 16) = true := pd_t (Or.inl ⟨k8, rfl, by omega, hh⟩)
              rw [e, z]; rfl
            · rw [pd_f, Bool.and_false]
              · simp [c]
              · rintro (⟨-, h, -⟩ | ⟨h, -⟩)
                · exact c h
                · exact h k8
  · -- beside or within: the same behind whom one meets
    have rest : ∀ W, in32 W → (∀ i, i < 32 → tb W i = pd (metP U b nl n (U 12 l) me i)) → ∃ U' r, ((am_and W asked ≠ 0 → EvK N X (Jg_breaks_s106 (d + 4) (l : Nat) (me : Nat) asked (U 12 l) (am_and W asked) 0 0 U) (rI r U')) ∧ (am_and W asked = 0 → rI r U' = rI 0 U)) ∧ jk U U' ∧ in32 r ∧ ∀ i, i < 32 → tb r i = (tb asked i && pd (brP U b nl n l me i)) := by
      intro W hW hW2
      by_cases c0 : am_and W asked = 0
      · refine ⟨U, 0, ⟨fun h => absurd c0 h, fun _ => rfl⟩, jk_refl _, by unfold in32; omega, fun i hi => ?_⟩
        have : tb (am_and W asked) i = false := by rw [c0, tb_0]
        rw [tb_and, hW2 i hi] at this
        rw [tb_0]
        cases e : tb asked i with
        | false => rfl
        | true =>
          rw [e, Bool.and_true] at this
          rw [pd_f]; rfl
          rintro (⟨h, -⟩ | ⟨-, h, -⟩)
          · exact k8 h
          · exact (pd_niff.mp this) h
      · obtain ⟨U', r, f1, f2, f3, f4⟩ := ct_breaks_l (N := N) (X := X) (d := d) (asked := asked) (kind := U 12 l) (M := am_and W asked) hc0 hl hm n 0 (by omega) U 0 (jk_refl _) (by unfold in32; omega) (fun j hj => by rw [tb_0, pd_f]; rintro ⟨h, -⟩; omega)
        refine ⟨U', r, ⟨fun _ => f1, fun h => absurd h c0⟩, f2, f3, fun i hi => ?_⟩
        rw [f4 i hi]
        cases e : tb asked i with
        | false =>
          rw [pd_f]; rfl
          rintro ⟨-, h, -⟩
          rw [tb_and, e, Bool.and_false] at h; simp at h
        | true =>
          rw [Bool.true_and]
          refine pd_cg ⟨fun ⟨a1, a2, a3⟩ => Or.inr ⟨k8, ?_, a3⟩, fun h => ?_⟩
          · rw [tb_and, e, Bool.and_true, hW2 i hi] at a2
            exact pd_iff.mp a2
          · rcases h with ⟨h, -⟩ | ⟨-, a2, a3⟩
            · exact absurd h k8
            · refine ⟨a2.1, ?_, a3⟩
              rw [tb_and, e, Bool.and_true, hW2 i hi]
              exact pd_t a2
    by_cases k10 : U 12 l = 10
    · obtain ⟨W, g1, g2, g3⟩ := ct_within (N := N) (X := X) (d := d + 3) hc0 hm
      obtain ⟨U', r, ⟨f1, f2⟩, f3, f4, f5⟩ := rest W g2 (by rw [k10]; exact g3)
      refine ⟨U', r, Jg_breaks_r0 ?_, f3, f4, f5⟩
      rw [Int.toNat_natCast, Int.toNat_natCast]
      exact ⟨by omega, fun _ => ⟨fun h => absurd k10 h, fun _ => ⟨_, _, g1, f1, f2⟩⟩, fun h => absurd h k8⟩
    · obtain ⟨W, g1, g2, g3⟩ := ct_besides (N := N) (X := X) (d := d + 3) (kind := U 12 l) k10 hc0 hm
      obtain ⟨U', r, ⟨f1, f2⟩, f3, f4, f5⟩ := rest W g2 g3
      refine ⟨U', r, Jg_breaks_r0 ?_, f3, f4, f5⟩
      rw [Int.toNat_natCast, Int.toNat_natCast]
      exact ⟨by omega, fun _ => ⟨fun _ => ⟨_, _, g1, f1, f2⟩, fun h => absurd h k10⟩, fun h => absurd h k8⟩
/-- one is in a breach -/
def inB (U : am_U) (b nl nw n p : Nat) : Prop := ∃ l, l < nw ∧ ((∃ i, i < 32 ∧ brP U b nl n l p i) ∨ ∃ me, me < n ∧ brP U b nl n l me p)
theorem r0_bits {r : Int} (hr : in32 r) : r = 0 ↔ ∀ i, i < 32 → tb r i = false := ⟨fun h i _ => by rw [h, tb_0], fun h => tb_ext hr (by unfold in32; omega) (fun i hi => by rw [h i hi, tb_0])⟩
theorem inB_l1 {N : Nat} {X : Nat → Int} {d : Nat} {U0 : am_U} {b ns nh nl nw nd cl n l p : Nat} {M : Int} (hc : jCtx U0 b ns nh nl nw nd cl n) (hl : l < nw) (hp : p < n) (hM : ∀ i, i < 32 → tb M i = pd (metP U0 b nl n 10 p i ∨ metP U0 b nl n 9 p i)) (R : am_U → Option am_V × am_M → Prop) (hbr : ∀ U, jk U0 U → (∃ me, me < n ∧ brP U0 b nl n l me p) → R U (rI 1 U)) (hgo : ∀ U, jk U0 U → (¬ ∃ me, me < n ∧ brP U0 b nl n l me p) → ∃ Q, EvK N X (Jg_isInBreach_s14 (d + 5) (p : Nat) M ((l + 1 : Nat) : Int) U) Q ∧ R U Q) : ∀ m i : Nat, i + m = n → ∀ U, jk U0 U → (∀ me, me < i → ¬ brP U0 b nl n l me p) → ∃ U' Q, EvK N X (Jg_isInBreach_s40 (d + 5) (p : Nat) M (l : Nat) (i : Nat) U) Q ∧ R U' Q := by
  have hn16 : n ≤ 16 := hc.2.2.1
  intro m
  induction m with
  | zero =>
    intro i hi U h6 hno
    obtain rfl : i = n := by omega
    obtain ⟨Q, q1, q2⟩ := hgo U h6 (fun ⟨me, a, b⟩ => hno me a b)
    refine ⟨U, Q, Jg_isInBreach_r40 ⟨fun _ => ?_, fun h => absurd h ?_⟩, q2⟩
    · rw [w32_succ (by have := hc.1.2.2.2.2.2.2.1.2.2.1; omega)]; exact q1
    · rw [jk_row h6 (r := 16) (by decide) (by decide), hc.2.1]; omega
  | succ m ih =>
    intro i hi U h6 hno
    have e16 : U 16 0 = (n : Nat) := by rw [jk_row h6 (r := 16) (by decide) (by decide)]; exact hc.2.1
    have hb : am_and (am_shr M (i : Nat)) 1 = if tb M i then 1 else 0 := bit_shr (by omega)
    have hbit := hM i (by omega)
    -- whoever breaks a law with p as the other one is met by p
    have sym : brP U0 b nl n l i p → tb M i = true := by
      intro h
      rw [hbit]
      refine pd_t ?_
      rcases h with ⟨-, h, -⟩ | ⟨-, ⟨a1, a2, a3⟩, -⟩
      · omega
      · rcases a3 with ⟨-, b2, b3⟩ | ⟨-, b2, b3⟩
        · left; exact ⟨by omega, by rw [b3]; exact a2, Or.inl ⟨rfl, fun e => b2 e.symm, b3.symm⟩⟩
        · right; exact ⟨by omega, b2, Or.inr ⟨by decide, a2, nbP_sym b3⟩⟩
    cases e : tb M i with
    | false =>
      rw [e] at hb
      obtain ⟨U', Q, k1, k2⟩ := ih (i + 1) (by omega) U h6 (fun me hme hq => by
        rcases Nat.lt_or_ge me i with q | q
        · exact hno me q hq
        · have : me = i := by omega
          subst this
          rw [sym hq] at e; simp at e)
      refine ⟨U', Q, Jg_isInBreach_r40 ⟨fun h => absurd h (by rw [e16]; omega), fun _ => ?_⟩, k2⟩
      rw [hb, w32_succ (by omega)]
      exact ⟨fun _ => k1, fun h => by simp at h⟩
    | true =>
      rw [e] at hb
      obtain ⟨U1, r, g1, g2, g3, g4⟩ := ct_breaks (N := N) (X := X) (d := d) (asked := am_shl 1 (p : Nat)) (jCtx_jk h6 hc) hl (show i < n by omega)
      have hr : r = 0 ↔ ¬ brP U0 b nl n l i p := by
        rw [r0_bits g3]
        constructor
        · intro h hq
          have := h p (by omega)
          rw [g4 p (by omega), tb_bit (by omega) (by omega), pd_t ((brP_jk h6 b nl n l i p).mpr hq)] at this
          simp at this
        · intro h j hj
          rw [g4 j hj, tb_bit (by omega) hj]
          by_cases c : j = p
          · subst c; rw [pd_f (fun q => h ((brP_jk h6 b nl n l i j).mp q))]; simp
          · simp [c]
      by_cases c : r = 0
      · obtain ⟨U', Q, k1, k2⟩ := ih (i + 1) (by omega) U1 (jk_trans h6 g2) (fun me hme hq => by
          rcases Nat.lt_or_ge me i with q | q
          · exact hno me q hq
          · have : me = i := by omega
            subst this; exact hr.mp c hq)
        refine ⟨U', Q, Jg_isInBreach_r40 ⟨fun h => absurd h (by rw [e16]; omega), fun _ => ?_⟩, k2⟩
        rw [hb, w32_succ (by omega)]
        exact ⟨fun h => absurd rfl h, fun _ => ⟨_, _, g1, fun _ => k1, fun h => absurd c h⟩⟩
      · refine ⟨U1, rI 1 U1, Jg_isInBreach_r40 ⟨fun h => absurd h (by rw [e16]; omega), fun _ => ?_⟩, hbr U1 (jk_trans h6 g2) ⟨i, by omega, Classical.byContradiction fun q => c (hr.mpr q)⟩⟩
        rw [hb]
        exact ⟨fun h => absurd rfl h, fun _ => ⟨_, _, g1, fun h => absurd h c, fun _ => rfl⟩⟩
theorem inB_l2 {N : Nat} {X : Nat → Int} {d : Nat} {U0 : am_U} {b ns nh nl nw nd cl n p : Nat} {M : Int} (hc : jCtx U0 b ns nh nl nw nd cl n) (hp : p < n) (hM : ∀ i, i < 32 → tb M i = pd (metP U0 b nl n 10 p i ∨ metP U0 b nl n 9 p i)) : ∀ m l : Nat, l + m = nw → ∀ U, jk U0 U → (∀ k, k < l → ¬ ((∃ i, i < 32 ∧ brP U0 b nl n k p i) ∨ ∃ me, me < n ∧ brP U0 b nl n k me p)) → ∃ U', EvK N X (Jg_isInBreach_s14 (d + 5) (p : Nat) M (l : Nat) U) (rI (cb (inB U0 b nl nw n p)) U') ∧ jk U0 U' := by
  have e4 := hc.1.2.2.2.2.2.2.1.1
  intro m
  induction m with
  | zero =>
    intro l hl U h6 hno
    obtain rfl : l = nw := by omega
    refine ⟨U, Jg_isInBreach_r14 ⟨fun _ => ?_, fun h => absurd h ?_⟩, h6⟩
    · rw [cb_f]
      rintro ⟨k, a, b⟩; exact hno k a b
    · rw [jk_row h6 (r := 3) (by decide) (by decide), e4]; omega
  | succ m ih =>
    intro l hl U h6 hno
    have e34 : U 3 4 = (nw : Nat) := by rw [jk_row h6 (r := 3) (by decide) (by decide)]; exact e4
    obtain ⟨U1, r, g1, g2, g3, g4⟩ := ct_breaks (N := N) (X := X) (d := d) (asked := -1) (jCtx_jk h6 hc) (show l < nw by omega) hp
    have hr : r = 0 ↔ ¬ ∃ i, i < 32 ∧ brP U0 b nl n l p i := by
      rw [r0_bits g3]
      constructor
      · rintro h ⟨i, hi, hq⟩
        have := h i hi
        rw [g4 i hi, tb_m1 hi, pd_t ((brP_jk h6 b nl n l p i).mpr hq)] at this
        simp at this
      · intro h j hj
        rw [g4 j hj, pd_f (fun q => h ⟨j, hj, (brP_jk h6 b nl n l p j).mp q⟩), Bool.and_false]
    by_cases c : r = 0
    · obtain ⟨U', Q, k1, k2⟩ := inB_l1 (N := N) (X := X) (d := d) (M := M) hc (show l < nw by omega) hp hM (fun U' Q => ∃ U2, Q = rI (cb (inB U0 b nl nw n p)) U2 ∧ jk U0 U2)
        (fun U2 q1 q2 => ⟨U2, by rw [cb_t ⟨l, by omega, Or.inr q2⟩], q1⟩)
        (fun U2 q1 q2 => by
          obtain ⟨U3, z1, z2⟩ := ih (l + 1) (by omega) U2 q1 (fun k hk => by
            rcases Nat.lt_or_ge k l with q | q
            · exact hno k q
            · have : k = l := by omega
              subst this
              rintro (q | q)
              · exact hr.mp c q
              · exact q2 q)
          exact ⟨_, z1, U3, rfl, z2⟩) n 0 (by omega) U1 (jk_trans h6 g2) (fun me h => absurd h (Nat.not_lt_zero _))
      obtain ⟨U2, rfl, q2⟩ := k2
      refine ⟨U2, Jg_isInBreach_r14 ⟨fun h => absurd h (by rw [e34]; omega), fun _ => ⟨_, _, g1, fun _ => k1, fun h => absurd c h⟩⟩, q2⟩
    · refine ⟨U1, Jg_isInBreach_r14 ⟨fun h => absurd h (by rw [e34]; omega), fun _ => ⟨_, _, g1, fun h => absurd h c, fun _ => ?_⟩⟩, jk_trans h6 g2⟩
      rw [cb_t]
      exact ⟨l, by omega, Or.inl (Classical.byContradiction fun q => c (hr.mpr q))⟩
theorem ct_isInBreach {N : Nat} {X : Nat → Int} {d : Nat} {U : am_U} {b ns nh nl nw nd cl n p : Nat} (hc : jCtx U b ns nh nl nw nd cl n) (hp : p < n) : ∃ U', EvK N X (Jg_isInBreach_s0 (d + 5) (p : Nat) U) (rI (cb (inB U b nl nw n p)) U') ∧ jk U U' := by
  obtain ⟨W, g1, g2, g3⟩ := ct_within (N := N) (X := X) (d := d + 4) hc hp
  obtain ⟨B, k1, k2, k3⟩ := ct_besides (N := N) (X := X) (d := d + 4) (kind := 9) (by decide) hc hp
  obtain ⟨U', q1, q2⟩ := inB_l2 (N := N) (X := X) (d := d) (M := am_or W B) hc hp (fun i hi => by
    rw [tb_or, g3 i hi, k3 i hi]
    by_cases a : metP U b nl n 10 p i
    · rw [pd_t a, pd_t (Or.inl a)]; rfl
    · by_cases e : metP U b nl n 9 p i
      · rw [pd_t e, pd_t (Or.inr e)]; simp
      · rw [pd_f a, pd_f e, pd_f (by rintro (q | q) <;> contradiction)]; rfl) nw 0 (by omega) U (jk_refl _) (fun k h => absurd h (Nat.not_lt_zero _))
  exact ⟨U', Jg_isInBreach_r0 ⟨_, _, g1, _, _, k1, q1⟩, q2⟩
