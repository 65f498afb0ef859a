/-! the first of like couples, one after the other -/
def gok (al : Nat → Nat → Bool) (E : Nat → Nat) (S a b : Nat) : Bool := (clr S a).testBit b && al a b && decide (1 + E (clr (clr S a) b) = E S)
def gfd (al : Nat → Nat → Bool) (E : Nat → Nat) (S a : Nat) : Nat → Option Nat
  | 0 => none
  | b + 1 => match gfd al E S a b with
    | some c => some c
    | none => if a < b ∧ gok al E S a b = true then some b else none
theorem gfd_some {al : Nat → Nat → Bool} {E : Nat → Nat} {S a b c : Nat} (h : gfd al E S a b = some c) : gfd al E S a (b + 1) = some c := by
  show (match gfd al E S a b with | some c => some c | none => _) = _
  rw [h]
theorem gfd_none {al : Nat → Nat → Bool} {E : Nat → Nat} {S a b : Nat} (h : gfd al E S a b = none) : gfd al E S a (b + 1) = if a < b ∧ gok al E S a b = true then some b else none := by
  show (match gfd al E S a b with | some c => some c | none => _) = _
  rw [h]
theorem gfd_mono {al : Nat → Nat → Bool} {E : Nat → Nat} {S a b c : Nat} (h : gfd al E S a b = some c) : ∀ k, gfd al E S a (b + k) = some c
  | 0 => h
  | k + 1 => gfd_some (gfd_mono h k)
theorem gfd_low {al : Nat → Nat → Bool} {E : Nat → Nat} {S a : Nat} : ∀ b, b ≤ a + 1 → gfd al E S a b = none
  | 0, _ => rfl
  | b + 1, h => by rw [gfd_none (gfd_low b (by omega)), if_neg (fun z => by omega)]
theorem gfd_is {al : Nat → Nat → Bool} {E : Nat → Nat} {S a c : Nat} : ∀ b, gfd al E S a b = some c → a < c ∧ c < b ∧ gok al E S a c = true
  | 0, h => by cases h
  | b + 1, h => by
    cases e : gfd al E S a b with
    | some c' =>
      rw [gfd_some e] at h
      obtain rfl : c' = c := Option.some.inj h
      have := gfd_is b e
      exact ⟨this.1, by omega, this.2.2⟩
    | none =>
      rw [gfd_none e] at h
      by_cases q : a < b ∧ gok al E S a b = true
      · rw [if_pos q] at h
        obtain rfl : b = c := Option.some.inj h
        exact ⟨q.1, by omega, q.2⟩
      · rw [if_neg q] at h; cases h
theorem gfd_no {al : Nat → Nat → Bool} {E : Nat → Nat} {S a : Nat} : ∀ b, gfd al E S a b = none → ∀ c, a < c → c < b → gok al E S a c = false
  | 0, _, c, _, hc => absurd hc (Nat.not_lt_zero c)
  | b + 1, h, c, h1, h2 => by
    cases e : gfd al E S a b with
    | some c' => rw [gfd_some e] at h; cases h
    | none =>
      rw [gfd_none e] at h
      by_cases q : c = b
      · subst q
        refine Bool.eq_false_iff.mpr (fun z => ?_)
        rw [if_pos ⟨h1, z⟩] at h; cases h
      · exact gfd_no b e c h1 (by omega)
def sP (P : Nat → Option Nat) (a b : Nat) : Nat → Option Nat := fun i => if i = b then some a else if i = a then some b else P i
def gst (al : Nat → Nat → Bool) (E : Nat → Nat) (n S : Nat) (P : Nat → Option Nat) (a : Nat) : Nat × (Nat → Option Nat) :=
  if S.testBit a then (match gfd al E S a n with
    | some b => (clr (clr S a) b, sP P a b)
    | none => (clr S a, P)) else (S, P)
def gq (al : Nat → Nat → Bool) (E : Nat → Nat) (n : Nat) : Nat → Nat → Nat → (Nat → Option Nat) → Nat × (Nat → Option Nat)
  | 0, _, S, P => (S, P)
  | k + 1, a, S, P => gq al E n k (a + 1) (gst al E n S P a).1 (gst al E n S P a).2
theorem gq_s (al : Nat → Nat → Bool) (E : Nat → Nat) (n k a S : Nat) (P : Nat → Option Nat) : gq al E n (k + 1) a S P = gq al E n k (a + 1) (gst al E n S P a).1 (gst al E n S P a).2 := rfl
theorem gst_no {al : Nat → Nat → Bool} {E : Nat → Nat} {n S a : Nat} {P : Nat → Option Nat} (h : S.testBit a = false) : gst al E n S P a = (S, P) := by unfold gst; rw [h]; rfl
theorem gst_some {al : Nat → Nat → Bool} {E : Nat → Nat} {n S a b : Nat} {P : Nat → Option Nat} (h : S.testBit a = true) (hb : gfd al E S a n = some b) : gst al E n S P a = (clr (clr S a) b, sP P a b) := by
  unfold gst; rw [if_pos h, hb]
theorem gst_none {al : Nat → Nat → Bool} {E : Nat → Nat} {n S a : Nat} {P : Nat → Option Nat} (h : S.testBit a = true) (hb : gfd al E S a n = none) : gst al E n S P a = (clr S a, P) := by
  unfold gst; rw [if_pos h, hb]
theorem gq_add (al : Nat → Nat → Bool) (E : Nat → Nat) (n : Nat) : ∀ k j a S P, gq al E n (k + j) a S P = gq al E n j (a + k) (gq al E n k a S P).1 (gq al E n k a S P).2
  | 0, j, a, S, P => by rw [Nat.zero_add]; rfl
  | k + 1, j, a, S, P => by
    rw [show k + 1 + j = (k + j) + 1 by omega, gq_s, gq_s, gq_add al E n k j, show a + 1 + k = a + (k + 1) by omega]
def vP (z : Int) (o : Option Nat) : Int := match o with
  | none => z
  | some b => ((b : Nat) : Int)
/-- bits of S: those from a on, below n, who have nobody -/
def gI (n a S : Nat) (P : Nat → Option Nat) : Prop := S < 2 ^ n ∧ (∀ i, i < a → S.testBit i = false) ∧ (∀ i, a ≤ i → i < n → (S.testBit i = true ↔ P i = none)) ∧ ∀ i b, P i = some b → b < n
theorem gI_clr_lt {n S a : Nat} (h : S < 2 ^ n) : clr S a < 2 ^ n := Nat.lt_of_le_of_lt (clr_le S a) h
theorem gI_next {al : Nat → Nat → Bool} {E : Nat → Nat} {n a S : Nat} {P : Nat → Option Nat} (ha : a < n) (h : gI n a S P) : gI n (a + 1) (gst al E n S P a).1 (gst al E n S P a).2 := by
  obtain ⟨h1, h2, h3, h4⟩ := h
  by_cases c : S.testBit a = true
  · cases e : gfd al E S a n with
    | some b =>
      obtain ⟨b1, b2, b3⟩ := gfd_is n e
      rw [gst_some c e]
      refine ⟨gI_clr_lt (gI_clr_lt h1), fun i hi => ?_, fun i hi hin => ?_, fun i b' hb' => ?_⟩
      · show (clr (clr S a) b).testBit i = false
        rw [clr_tb, clr_tb]
        by_cases q : i = a
        · rw [decide_eq_false (show ¬ i ≠ a by omega), Bool.and_false, Bool.false_and]
        · rw [h2 i (by omega), Bool.false_and, Bool.false_and]
      · show ((clr (clr S a) b).testBit i = true ↔ sP P a b i = none)
        rw [clr_tb, clr_tb, decide_eq_true (show i ≠ a by omega), Bool.and_true]
        unfold sP
        by_cases q : i = b
        · rw [if_pos q, decide_eq_false (show ¬ i ≠ b by omega), Bool.and_false]; simp
        · rw [if_neg q, if_neg (show i ≠ a by omega), decide_eq_true q, Bool.and_true]; exact h3 i (by omega) hin
      · have hb'2 : sP P a b i = some b' := hb'
        unfold sP at hb'2
        by_cases q : i = b
        · rw [if_pos q] at hb'2; have := Option.some.inj hb'2; omega
        · rw [if_neg q] at hb'2
          by_cases q2 : i = a
          · rw [if_pos q2] at hb'2; have := Option.some.inj hb'2; omega
          · rw [if_neg q2] at hb'2; exact h4 i b' hb'2
    | none =>
      rw [gst_none c e]
      refine ⟨gI_clr_lt h1, fun i hi => ?_, fun i hi hin => ?_, h4⟩
      · show (clr S a).testBit i = false
        rw [clr_tb]
        by_cases q : i = a
        · rw [decide_eq_false (show ¬ i ≠ a by omega), Bool.and_false]
        · rw [h2 i (by omega), Bool.false_and]
      · show ((clr S a).testBit i = true ↔ P i = none)
        rw [clr_tb, decide_eq_true (show i ≠ a by omega), Bool.and_true]; exact h3 i (by omega) hin
  · rw [gst_no (Bool.eq_false_iff.mpr c)]
    refine ⟨h1, fun i hi => ?_, fun i hi hin => h3 i (by omega) hin, h4⟩
    show S.testBit i = false
    by_cases q : i = a
    · rw [q]; exact Bool.eq_false_iff.mpr c
    · exact h2 i (by omega)
theorem gI_gq {al : Nat → Nat → Bool} {E : Nat → Nat} {n : Nat} : ∀ k a S P, a + k ≤ n → gI n a S P → gI n (a + k) (gq al E n k a S P).1 (gq al E n k a S P).2
  | 0, _, _, _, _, h => h
  | k + 1, a, S, P, hk, h => by
    rw [gq_s, show a + (k + 1) = a + 1 + k by omega]
    exact gI_gq k (a + 1) _ _ (by omega) (gI_next (by omega) h)
/-- the reference chooses -/
theorem M_choose_in {N : Nat} {X : Nat → Int} {d n S a : Nat} {U U0 : am_U} {E : Nat → Nat} (hn : n ≤ 16) (hS : S < 2 ^ n) (hab : S.testBit a = true) (han : a < n) (hE : isM (alW U0 n) n E (2 ^ n)) (h131 : ∀ t, t < 2 ^ n → U 131 t = (E t : Nat)) (h130 : ∀ x, x < n → ∀ i, i < 32 → tb (U 130 x) i = pd (i < n ∧ x ≠ i ∧ wdP U0 n x i)) {R : Option am_V × am_M} (h1 : gfd (alW U0 n) E S a n = none → EvK N X (M_couples_s213 (d + 1) (n : Nat) ((clr S a : Nat) : Int) U) R) (h2 : ∀ c, gfd (alW U0 n) E S a n = some c → EvK N X (M_couples_s213 (d + 1) (n : Nat) ((clr (clr S a) c : Nat) : Int) (am_upd (am_upd U 132 a (c : Nat)) 132 c (a : Nat))) R) : ∀ m b : Nat, b + m = n → a < b → EvK N X (M_couples_s239 (d + 1) (n : Nat) (S : Nat) (a : Nat) (clr S a : Nat) (vP (-1) (gfd (alW U0 n) E S a b)) (b : Nat) U) R := by
  have p16 := pow16 hn
  have cl := clr_lt hab
  have cl2 := clr_le (clr S a)
  -- somebody has been found
  have fin : ∀ c b : Nat, b ≤ n → gfd (alW U0 n) E S a b = some c → (0 ≤ ((a : Nat) : Int) ∧ ((a : Nat) : Int) < 16) ∧ (0 ≤ ((c : Nat) : Int) ∧ ((c : Nat) : Int) < 16) ∧ EvK N X (M_couples_s213 (d + 1) (n : Nat) (am_and ((clr S a : Nat) : Int) (am_xor (am_shl 1 ((c : Nat) : Int)) (-1))) (am_upd (am_upd U 132 ((a : Nat) : Int).toNat (c : Nat)) 132 ((c : Nat) : Int).toNat (a : Nat))) R := fun c b hb e => by
    have g := gfd_is b e
    have m := gfd_mono e (n - b)
    rw [show b + (n - b) = n by omega] at m
    refine ⟨by omega, by omega, ?_⟩
    rw [and_clr (by omega) (by omega), Int.toNat_natCast, Int.toNat_natCast]
    exact h2 c m
  intro m
  induction m with
  | zero =>
    intro b hb hab2
    obtain rfl : b = n := by omega
    refine M_couples_r239 ⟨fun _ => ?_, fun z => absurd z (by omega)⟩
    cases e : gfd (alW U0 b) E S a b with
    | none => exact ⟨fun _ => h1 e, fun z => absurd rfl z⟩
    | some c =>
      refine ⟨fun z => absurd z (by show ¬ ((c : Nat) : Int) = -1; omega), fun _ => ?_⟩
      exact fin c b (Nat.le_refl b) e
  | succ m ih =>
    intro b hb hab2
    refine M_couples_r239 ⟨fun z => absurd z (by omega), fun _ => ?_⟩
    have nx := ih (b + 1) (by omega) (by omega)
    cases e : gfd (alW U0 n) E S a b with
    | some c =>
      refine ⟨fun _ => ?_, fun z => absurd z (by show ¬ ((c : Nat) : Int) = -1; omega)⟩
      exact fin c b (by omega) e
    | none =>
      rw [gfd_none e] at nx
      refine ⟨fun z => absurd rfl z, fun _ => ⟨by omega, ?_⟩⟩
      have ebit : tb (am_and ((clr S a : Nat) : Int) (U 130 a)) b = ((clr S a).testBit b && alW U0 n a b) := by
        rw [tb_and, tb_nat (by omega) (by omega), h130 a han b (by omega)]
        congr 1
        exact pd_cg ⟨fun z => ⟨han, z⟩, fun z => z.2⟩
      have e0 := and_bit0 (x := am_and ((clr S a : Nat) : Int) (U 130 a)) (show b < 32 by omega)
      rw [ebit] at e0
      have hle := cl2 b
      rw [w32_succ (i := b) (by omega), Int.toNat_natCast, and_clr (by omega) (by omega), Int.toNat_natCast, Int.toNat_natCast, h131 _ (by omega), h131 S hS, w32_eq (by have := isM_8 hE hn (S := clr (clr S a) b) (by omega) (by omega); omega) (by have := isM_8 hE hn (S := clr (clr S a) b) (by omega) (by omega); omega)]
      by_cases c : ((clr S a).testBit b && alW U0 n a b) = true
      · have c' := c
        rw [Bool.and_eq_true] at c'
        refine ⟨fun z => absurd (e0.mp z) (by rw [c]; decide), fun _ => ⟨by omega, by omega, fun q => ?_, fun q => ?_⟩⟩
        · rw [if_neg (fun z => q (by have := z.2; unfold gok at this; rw [Bool.and_eq_true, decide_eq_true_iff] at this; omega))] at nx
          exact nx
        · have gk : gok (alW U0 n) E S a b = true := by unfold gok; rw [c, decide_eq_true (by omega)]; rfl
          rw [if_pos ⟨hab2, gk⟩] at nx
          exact nx
      · rw [if_neg (fun z => c (by have := z.2; unfold gok at this; rw [Bool.and_eq_true] at this; exact this.1))] at nx
        exact ⟨fun _ => nx, fun z => absurd (e0.mpr (Bool.eq_false_iff.mpr c)) z⟩
theorem row_sP {U : am_U} {r n a c : Nat} {z : Int} {P : Nat → Option Nat} (h : ∀ i, i < n → U r i = vP z (P i)) : ∀ i, i < n → am_upd (am_upd U r a (c : Nat)) r c (a : Nat) r i = vP z (sP P a c i) := fun i hi => by
  unfold sP
  rw [upd_if]
  by_cases q : i = c
  · rw [if_pos q, if_pos q]; rfl
  · rw [if_neg q, if_neg q, upd_if]
    by_cases q2 : i = a
    · rw [if_pos q2, if_pos q2]; rfl
    · rw [if_neg q2, if_neg q2]; exact h i hi
theorem low_of {n a S : Nat} {P : Nat → Option Nat} (h : gI n a S P) (hb : S.testBit a = true) : isLow S a := ⟨hb, h.2.1⟩
theorem M_choose {N : Nat} {X : Nat → Int} {d n : Nat} {U U0 : am_U} {E : Nat → Nat} (hn : n ≤ 16) (hE : isM (alW U0 n) n E (2 ^ n)) (h131 : ∀ t, t < 2 ^ n → U 131 t = (E t : Nat)) (h130 : ∀ x, x < n → ∀ i, i < 32 → tb (U 130 x) i = pd (i < n ∧ x ≠ i ∧ wdP U0 n x i)) : ∀ k a : Nat, a + k = n → ∀ (S : Nat) (P : Nat → Option Nat) (V : am_U), gI n a S P → (∀ r, r ≠ 132 → V r = U r) → (∀ i, i < n → V 132 i = vP (-1) (P i)) → ∃ U', EvK N X (M_couples_s213 (d + 1) (n : Nat) (S : Nat) V) (rV U') ∧ (∀ r, r ≠ 132 → U' r = U r) ∧ ∀ i, i < n → U' 132 i = vP (-1) ((gq (alW U0 n) E n k a S P).2 i) := by
  have p16 := pow16 hn
  intro k
  induction k with
  | zero =>
    intro a ha S P V g v1 v2
    have S0 : S = 0 := tb_eq (fun i => by
      rw [Nat.zero_testBit]
      rcases Nat.lt_or_ge i a with q | q
      · exact g.2.1 i q
      · exact tb_out g.1 (by omega))
    subst S0
    exact ⟨V, M_couples_r213 ⟨fun _ => rfl, fun z => absurd rfl z⟩, v1, v2⟩
  | succ k ih =>
    intro a ha S P V g v1 v2
    have gn := gI_next (al := alW U0 n) (E := E) (show a < n by omega) g
    rw [gq_s]
    by_cases c : S.testBit a = true
    · have hS := g.1
      have S0 : S ≠ 0 := fun e => by rw [e, Nat.zero_testBit] at c; exact absurd c (by decide)
      have h131V : ∀ t, t < 2 ^ n → V 131 t = (E t : Nat) := fun t ht => by rw [v1 131 (by decide)]; exact h131 t ht
      have h130V : ∀ x, x < n → ∀ i, i < 32 → tb (V 130 x) i = pd (i < n ∧ x ≠ i ∧ wdP U0 n x i) := fun x hx i hi => by rw [v1 130 (by decide)]; exact h130 x hx i hi
      have st : ∀ R, (gfd (alW U0 n) E S a n = none → EvK N X (M_couples_s213 (d + 1) (n : Nat) ((clr S a : Nat) : Int) V) R) → (∀ c, gfd (alW U0 n) E S a n = some c → EvK N X (M_couples_s213 (d + 1) (n : Nat) ((clr (clr S a) c : Nat) : Int) (am_upd (am_upd V 132 a (c : Nat)) 132 c (a : Nat))) R) → EvK N X (M_couples_s213 (d + 1) (n : Nat) (S : Nat) V) R := fun R h1 h2 => by
        have go := M_choose_in (N := N) (X := X) (d := d) (U := V) hn hS c (show a < n by omega) hE h131V h130V h1 h2 (n - (a + 1)) (a + 1) (by omega) (by omega)
        rw [gfd_low (a + 1) (Nat.le_refl _)] at go
        refine M_couples_r213 ⟨fun z => absurd z (by omega), fun _ => ⟨_, _, ct_lowest (show S < 65536 by omega) (low_of g c), ?_⟩⟩
        rw [and_clr (by omega) (show a < 32 by omega), w32_succ (i := a) (by omega)]
        exact go
      cases e : gfd (alW U0 n) E S a n with
      | none =>
        rw [gst_none c e] at gn ⊢
        obtain ⟨U', k1, k2, k3⟩ := ih (a + 1) (by omega) (clr S a) P V gn v1 v2
        exact ⟨U', st _ (fun _ => k1) (fun b hb => by rw [e] at hb; cases hb), k2, k3⟩
      | some b =>
        rw [gst_some c e] at gn ⊢
        obtain ⟨U', k1, k2, k3⟩ := ih (a + 1) (by omega) (clr (clr S a) b) (sP P a b) (am_upd (am_upd V 132 a (b : Nat)) 132 b (a : Nat)) gn (fun r hr => by rw [upd_row hr, upd_row hr]; exact v1 r hr) (row_sP v2)
        refine ⟨U', st _ (fun z => by rw [e] at z; cases z) (fun b' hb => ?_), k2, k3⟩
        rw [e] at hb
        obtain rfl : b = b' := Option.some.inj hb
        exact k1
    · rw [gst_no (Bool.eq_false_iff.mpr c)] at gn ⊢
      exact ih (a + 1) (by omega) S P V gn v1 v2
theorem gI_all (n : Nat) : gI n 0 (2 ^ n - 1) (fun _ => none) := by
  have : 0 < 2 ^ n := Nat.pow_pos (by decide)
  refine ⟨by omega, fun i hi => absurd hi (Nat.not_lt_zero i), fun i _ hi => ?_, fun i b h => by cases h⟩
  rw [Nat.testBit_two_pow_sub_one, decide_eq_true hi]
  exact ⟨fun _ => rfl, fun _ => rfl⟩
theorem ct_M_couples {N : Nat} {X : Nat → Int} {d : Nat} {U : am_U} {b ns nh nl nw nd cl n : Nat} {E : Nat → Nat} (ht : iTown U b ns nh nl nw nd cl) (hf : iFolk U n nh) (hE : isM (alW U n) n E (2 ^ n)) (h0 : U 131 0 = 0) : ∃ U', EvK N X (M_couples_s0 (d + 6) U) (rV U') ∧ fM U U' ∧ U' 131 0 = 0 ∧ U' 131 (2 ^ n - 1) = (E (2 ^ n - 1) : Nat) ∧ ∀ i, i < n → U' 132 i = vP (-1) ((gq (alW U n) E n n 0 (2 ^ n - 1) (fun _ => none)).2 i) := by
  have hn := hf.1.2.2
  have pp : 0 < 2 ^ n := Nat.pow_pos (by decide)
  obtain ⟨U1, a1, a2, a3, a4⟩ := M_may_rows (N := N) (X := X) (d := d) ht hf
  obtain ⟨U2, b1, b2, b3⟩ := M_tab (N := N) (X := X) (d := d + 5) hn hE (by rw [a2]; exact h0) a3
  obtain ⟨U3, c1, c2, c3⟩ := M_choose (N := N) (X := X) (d := d + 5) (U := U2) hn hE b1 (fun x hx i hi => by rw [b2 130 (by decide)]; exact (a3 x hx).1 i hi) n 0 (by omega) (2 ^ n - 1) (fun _ => none) U2 (gI_all n) (fun _ _ => rfl) (fun i hi => by rw [b2 132 (by decide)]; exact (a3 i hi).2)
  refine ⟨U3, a4 _ (b3 _ c1), fun r j q1 q2 q3 q4 q5 => ?_, ?_, ?_, c3⟩
  · rw [c2 r q3, b2 r q2]; exact a1 r j q1 q2 q3 q4 q5
  · rw [c2 131 (by decide), b1 0 (by omega), hE.1]; rfl
  · rw [c2 131 (by decide)]; exact b1 _ (by omega)
