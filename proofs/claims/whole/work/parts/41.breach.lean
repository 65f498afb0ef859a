/-! laws broken: the class's side -/
def jCtx (U : am_U) (b ns nh nl nw nd cl n : Nat) : Prop := iTown U b ns nh nl nw nd cl ∧ U 16 0 = (n : Nat) ∧ n ≤ 16 ∧ pplOk (U 17) (U 18) (U 8) n nh ∧ DwOk n (U 18) (U 19)
theorem jCtx_jk {U U' : am_U} {b ns nh nl nw nd cl n : Nat} (h : jk U U') (hc : jCtx U b ns nh nl nw nd cl n) : jCtx U' b ns nh nl nw nd cl n := by
  obtain ⟨h1, h2, h3, h4, h5⟩ := hc
  refine ⟨iTown_agr (agr_jk h) h1, ?_, h3, ?_, ?_⟩
  · rw [jk_row h (r := 16) (by decide) (by decide)]; exact h2
  · rw [jk_row h (r := 17) (by decide) (by decide), jk_row h (r := 18) (by decide) (by decide), jk_row h (r := 8) (by decide) (by decide)]; exact h4
  · rw [jk_row h (r := 18) (by decide) (by decide), jk_row h (r := 19) (by decide) (by decide)]; exact h5
/-- a law's test, as it stands in the class -/
def hT (U : am_U) (l me : Nat) (ot : Int) : Prop := run (envD U me ot) (U 15) (U 13 l).toNat (U 14 l - U 13 l).toNat = [1]
theorem hT_jk {U U' : am_U} (h : jk U U') (l me : Nat) (ot : Int) : hT U' l me ot ↔ hT U l me ot := by
  unfold hT
  rw [envD_jk h, jk_row h (r := 15) (by decide) (by decide), jk_row h (r := 13) (by decide) (by decide), jk_row h (r := 14) (by decide) (by decide)]
theorem envD_v {U : am_U} {b ns nh nl nw nd cl n me : Nat} {ot : Int} (hc : jCtx U b ns nh nl nw nd cl n) (hm : me < n) (ho : -1000000000 ≤ ot ∧ ot ≤ 1000000000) : ∀ c, isAsk c → vOk false (envD U me ot c) := by
  intro c _
  obtain ⟨ht, h2, h3, h4, h5⟩ := hc
  obtain ⟨q1, q2, q3, q4⟩ := h4.1 me hm
  have hh := ht.2.2.1
  show -1000000000 ≤ envD U me ot c ∧ envD U me ot c ≤ 1000000000
  unfold envD
  split
  · omega
  · split
    · omega
    · split
      · rename_i hp
        have hg : (U 18 me).toNat < nh := by omega
        obtain ⟨-, ⟨-, s1, s2⟩, ⟨-, r1, r2⟩, -⟩ := hh.2.2.2 _ hg
        have := ht.2.1.2.2.1
        have := hh.2.2.1
        have := fb_ct_le (tb (U 19 (U 18 me).toNat)) 32
        (repeat' split) <;> omega
      · (repeat' split) <;> omega
theorem ct_law {N : Nat} {X : Nat → Int} {d : Nat} {U : am_U} {b ns nh nl nw nd cl n l me : Nat} {ot : Int} (hc : jCtx U b ns nh nl nw nd cl n) (hl : l < nw) (hm : me < n) (ho : -1000000000 ≤ ot ∧ ot ≤ 1000000000) : ∃ U', EvK N X (Jg_isTrue_s0 (d + 3) (l : Nat) (me : Nat) ot U) (rI (cb (hT U l me ot)) U') ∧ jk U U' := by
  have he := envD_v hc hm ho
  obtain ⟨ht, h2, h3, h4, h5⟩ := hc
  obtain ⟨w1, w2, w3, w4, w5, w6⟩ := ht.2.2.2.2.2.2.1
  obtain ⟨-, -, f, m, e1, e2, -, -, e3, e4⟩ := w6 l hl
  obtain ⟨U', g1, g2⟩ := ct_isTrue (N := N) (X := X) (d := d) (law := l) (ot := ot) e4 he (by omega) (by omega) (by rw [ht.2.2.1.1]; have := ht.2.2.1.2.2.1; omega) (by omega) e1 e2
  refine ⟨U', ?_, g2⟩
  have : (cb (hT U l me ot)) = holdsT (envD U me ot) (U 15) f m := by
    unfold hT holdsT
    rw [e1, e2, Int.toNat_natCast, show (((f + m : Nat) : Int) - (f : Nat)).toNat = m from by omega]
  rw [this]
  exact g1
def nbU (U : am_U) (b nl x y : Nat) : Prop := nbP (U 6) (fun k => U 95 (10 * b + k)) (fun k => U 96 (10 * b + k)) nl x y
/-- whom one meets by a law of a sort: 10 within, else beside -/
def metP (U : am_U) (b nl n : Nat) (kind : Int) (me i : Nat) : Prop := i < n ∧ 0 ≤ U 18 me ∧ ((kind = 10 ∧ i ≠ me ∧ U 18 i = U 18 me) ∨ (kind ≠ 10 ∧ 0 ≤ U 18 i ∧ nbU U b nl (U 18 me).toNat (U 18 i).toNat))
def brP (U : am_U) (b nl n l me i : Nat) : Prop := (U 12 l = 8 ∧ i = 16 ∧ 0 ≤ U 18 me ∧ ¬ hT U l me 0) ∨ (U 12 l ≠ 8 ∧ metP U b nl n (U 12 l) me i ∧ ¬ hT U l me (U 17 i))
theorem metP_jk {U U' : am_U} (h : jk U U') (b nl n : Nat) (kind : Int) (me i : Nat) : metP U' b nl n kind me i ↔ metP U b nl n kind me i := by
  unfold metP nbU
  rw [jk_row h (r := 18) (by decide) (by decide), jk_row h (r := 6) (by decide) (by decide), jk_row h (r := 95) (by decide) (by decide), jk_row h (r := 96) (by decide) (by decide)]
theorem brP_jk {U U' : am_U} (h : jk U U') (b nl n l me i : Nat) : brP U' b nl n l me i ↔ brP U b nl n l me i := by
  unfold brP
  rw [metP_jk h, hT_jk h, hT_jk h, jk_row h (r := 12) (by decide) (by decide), jk_row h (r := 18) (by decide) (by decide), jk_row h (r := 17) (by decide) (by decide)]
theorem ct_within {N : Nat} {X : Nat → Int} {d : Nat} {U : am_U} {b ns nh nl nw nd cl n me : Nat} (hc : jCtx U b ns nh nl nw nd cl n) (hm : me < n) : ∃ r, EvK N X (Jg_within_s0 d (me : Nat) U) (rI r U) ∧ in32 r ∧ ∀ i, i < 32 → tb r i = pd (metP U b nl n 10 me i) := by
  obtain ⟨ht, h2, h3, h4, h5⟩ := hc
  obtain ⟨q1, q2, q3, q4⟩ := h4.1 me hm
  have hh := ht.2.2.1
  by_cases c0 : U 18 me < 0
  · refine ⟨0, Jg_within_r0 ⟨by omega, fun _ => rfl, fun h => absurd h (by rw [Int.toNat_natCast]; omega)⟩, by unfold in32; omega, fun i hi => ?_⟩
    rw [tb_0, pd_f]
    rintro ⟨-, h, -⟩; omega
  · obtain ⟨g, hg⟩ : ∃ g : Nat, U 18 me = g := ⟨(U 18 me).toNat, by omega⟩
    have hg2 : g < 12 := by omega
    refine ⟨am_and (U 19 g) (am_xor (am_shl 1 (me : Nat)) (-1)), Jg_within_r0 ?_, and_in _ _, fun i hi => ?_⟩
    · rw [Int.toNat_natCast, hg, Int.toNat_natCast, hh.1]
      exact ⟨by omega, fun h => absurd h (by omega), fun _ => ⟨fun h => absurd h (by omega), fun _ => ⟨by omega, rfl⟩⟩⟩
    · rw [tb_and, (h5 g hg2).2 i hi, tb_not hi, tb_bit (by omega) hi]
      unfold metP
      rw [hg]
      by_cases c1 : i < n ∧ U 18 i = (g : Nat) ∧ i ≠ me
      · rw [pd_t ⟨c1.1, by omega, Or.inl ⟨rfl, c1.2.2, c1.2.1⟩⟩]
        simp [c1.1, c1.2.1, c1.2.2]
      · rw [pd_f (by rintro ⟨a1, -, ⟨-, a2, a3⟩ | ⟨a2, -⟩⟩; exact c1 ⟨a1, a3, a2⟩; exact a2 rfl)]
        by_cases c2 : i < n ∧ U 18 i = (g : Nat)
        · have : i = me := Classical.byContradiction fun q => c1 ⟨c2.1, c2.2, q⟩
          simp [this]
        · simp [c2]
theorem ct_besides_l {N : Nat} {X : Nat → Int} {d : Nat} {U : am_U} {b ns nh nl nw nd cl n me g : Nat} (hc : jCtx U b ns nh nl nw nd cl n) (hg : g < nh) : ∀ m i : Nat, i + m = nh → ∀ r, in32 r → (∀ j, j < 32 → tb r j = pd (j < n ∧ ∃ h, h < i ∧ nbU U b nl g h ∧ U 18 j = (h : Nat))) → ∃ r', EvK N X (Jg_besides_s32 d (me : Nat) (g : Nat) r (i : Nat) U) (rI r' U) ∧ in32 r' ∧ ∀ j, j < 32 → tb r' j = pd (j < n ∧ ∃ h, h < nh ∧ nbU U b nl g h ∧ U 18 j = (h : Nat)) := by
  obtain ⟨ht, h2, h3, h4, h5⟩ := hc
  have hh := ht.2.2.1
  intro m
  induction m with
  | zero =>
    intro i hi r h1 h6
    obtain rfl : i = nh := by omega
    exact ⟨r, Jg_besides_r32 ⟨fun _ => rfl, fun h => absurd h (by rw [hh.1]; omega)⟩, h1, h6⟩
  | succ m ih =>
    intro i hi r h1 h6
    have hi2 : i < 12 := by have := hh.2.2.1; omega
    have hg2 : g < 12 := by have := hh.2.2.1; omega
    have bit := (hh.2.2.2 g hg).2.2.2.2.2 i (by omega)
    have hb : am_and (am_shr (U 9 g) (i : Nat)) 1 = if tb (U 9 g) i then 1 else 0 := bit_shr (by omega)
    by_cases c : nbU U b nl g i
    · have e : tb (U 9 g) i = true := by rw [bit]; exact pd_t ⟨by omega, c⟩
      rw [e] at hb
      obtain ⟨r', k1, k2, k3⟩ := ih (i + 1) (by omega) (am_or r (U 19 i)) (or_in _ _) (fun j hj => by
        rw [tb_or, h6 j hj, (h5 i hi2).2 j hj]
        by_cases c1 : j < n ∧ ∃ h, h < i + 1 ∧ nbU U b nl g h ∧ U 18 j = (h : Nat)
        · rw [pd_t c1]
          obtain ⟨a, h, a1, a2, a3⟩ := c1
          by_cases e1 : h = i
          · subst e1; simp [a, a3]
          · rw [pd_t ⟨a, h, by omega, a2, a3⟩]; simp
        · rw [pd_f c1]
          have n1 : ¬ (j < n ∧ ∃ h, h < i ∧ nbU U b nl g h ∧ U 18 j = (h : Nat)) := fun ⟨a, h, a1, a2, a3⟩ => c1 ⟨a, h, by omega, a2, a3⟩
          have n2 : ¬ (j < n ∧ U 18 j = (i : Nat)) := fun ⟨a, a3⟩ => c1 ⟨a, i, by omega, c, a3⟩
          rw [pd_f n1, decide_eq_false n2]; rfl)
      refine ⟨r', Jg_besides_r32 ⟨fun h => absurd h (by rw [hh.1]; omega), fun _ => ⟨by omega, ?_⟩⟩, k2, k3⟩
      rw [Int.toNat_natCast, Int.toNat_natCast, hb, w32_succ (by omega)]
      exact ⟨fun h => absurd rfl h, fun _ => ⟨by omega, k1⟩⟩
    · have e : tb (U 9 g) i = false := by rw [bit]; exact pd_f (fun q => c q.2)
      rw [e] at hb
      obtain ⟨r', k1, k2, k3⟩ := ih (i + 1) (by omega) r h1 (fun j hj => by
        rw [h6 j hj]
        refine pd_cg ⟨fun ⟨a, h, a1, a2, a3⟩ => ⟨a, h, by omega, a2, a3⟩, fun ⟨a, h, a1, a2, a3⟩ => ⟨a, h, ?_, a2, a3⟩⟩
        rcases Nat.lt_or_ge h i with q | q
        · exact q
        · have : h = i := by omega
          subst this; exact absurd a2 c)
      refine ⟨r', Jg_besides_r32 ⟨fun h => absurd h (by rw [hh.1]; omega), fun _ => ⟨by omega, ?_⟩⟩, k2, k3⟩
      rw [Int.toNat_natCast, Int.toNat_natCast, hb, w32_succ (by omega)]
      exact ⟨fun _ => k1, fun h => by simp at h⟩
theorem ct_besides {N : Nat} {X : Nat → Int} {d : Nat} {U : am_U} {b ns nh nl nw nd cl n me : Nat} {kind : Int} (hk : kind ≠ 10) (hc : jCtx U b ns nh nl nw nd cl n) (hm : me < n) : ∃ r, EvK N X (Jg_besides_s0 d (me : Nat) U) (rI r U) ∧ in32 r ∧ ∀ i, i < 32 → tb r i = pd (metP U b nl n kind me i) := by
  have hc0 := hc
  obtain ⟨ht, h2, h3, h4, h5⟩ := hc
  obtain ⟨q1, q2, q3, q4⟩ := h4.1 me hm
  have hh := ht.2.2.1
  by_cases c0 : U 18 me < 0
  · refine ⟨0, Jg_besides_r0 ⟨by omega, fun _ => rfl, fun h => absurd h (by rw [Int.toNat_natCast]; omega)⟩, by unfold in32; omega, fun i hi => ?_⟩
    rw [tb_0, pd_f]
    rintro ⟨-, h, -⟩; omega
  · obtain ⟨g, hg⟩ : ∃ g : Nat, U 18 me = g := ⟨(U 18 me).toNat, by omega⟩
    obtain ⟨r, k1, k2, k3⟩ := ct_besides_l (N := N) (X := X) (d := d) (me := me) (g := g) hc0 (by omega) nh 0 (by omega) 0 (by unfold in32; omega) (fun j hj => by rw [tb_0, pd_f]; rintro ⟨-, h, a, -⟩; omega)
    refine ⟨r, Jg_besides_r0 ?_, k2, fun i hi => ?_⟩
    · rw [Int.toNat_natCast, hg, hh.1]
      exact ⟨by omega, fun h => absurd h (by omega), fun _ => ⟨fun _ => k1, fun h => absurd h (by omega)⟩⟩
    · rw [k3 i hi]
      refine pd_cg ⟨fun ⟨a, h, a1, a2, a3⟩ => ⟨a, by omega, Or.inr ⟨hk, by omega, ?_⟩⟩, fun ⟨a, _, q⟩ => ?_⟩
      · rw [hg, a3, Int.toNat_natCast, Int.toNat_natCast]; exact a2
      · rcases q with ⟨q, -⟩ | ⟨-, b1, b2⟩
        · exact absurd q hk
        · have := (h4.1 i a).2.2
          refine ⟨a, (U 18 i).toNat, by omega, ?_, by omega⟩
          rw [hg, Int.toNat_natCast] at b2; exact b2
