/-! what the reference holds back, and what it writes -/
def isOp (c : Int) : Prop := c = -20 ∨ c = -21 ∨ c = -22 ∨ c = -160 ∨ c = -161 ∨ c = -162 ∨ c = -18 ∨ c = -19 ∨ c = -143 ∨ c = -145 ∨ c = -142 ∨ c = -147 ∨ c = -137
def rkC (c : Int) : Int := if c = -20 then 1 else if c = -21 then 2 else if c = -22 then 3 else if c = -160 ∨ c = -161 ∨ c = -162 ∨ c = -18 ∨ c = -19 then 4 else if c = -143 ∨ c = -145 then 5 else 6
theorem ct_rank1 {N : Nat} {X : Nat → Int} {d : Nat} {V : am_U} {c : Int} (hc : isOp c) : EvK N X (M_rank_s0 d (srt c) V) (rI (rkC c) V) := by
  refine M_rank_r0 ?_
  rcases hc with rfl | rfl | rfl | rfl | rfl | rfl | rfl | rfl | rfl | rfl | rfl | rfl | rfl
  all_goals
    repeat' (first
      | apply And.intro
      | (intro z; exact absurd z (by decide))
      | (intro _))
  all_goals rfl
theorem srt_22 {c : Int} (hc : isOp c) : srt c = 22 ↔ c = -22 := by
  rcases hc with rfl | rfl | rfl | rfl | rfl | rfl | rfl | rfl | rfl | rfl | rfl | rfl | rfl <;> decide
/-- the codes of the reference grown by ds -/
def emR (V V' : am_U) (b cl : Nat) (ds : List Int) : Prop := V' 86 39 = ((cl + ds.length : Nat) : Int) ∧ (∀ j, ¬ (1600 * b + cl ≤ j ∧ j < 1600 * b + 1600) → V' 111 j = V 111 j ∧ V' 112 j = V 112 j) ∧ ∀ k c, ds[k]? = some c → V' 111 (1600 * b + cl + k) = srt c ∧ (0 ≤ c → V' 112 (1600 * b + cl + k) = c)
theorem emR_nil {V V' : am_U} {b cl : Nat} (h : V' 86 39 = (cl : Nat)) (h1 : V' 111 = V 111) (h2 : V' 112 = V 112) : emR V V' b cl [] := ⟨by rw [h]; rfl, fun j _ => by rw [h1, h2]; exact ⟨rfl, rfl⟩, fun k c h => by simp at h⟩
theorem emR_app {V V1 V2 : am_U} {b cl : Nat} {d1 d2 : List Int} (h1 : emR V V1 b cl d1) (h2 : emR V1 V2 b (cl + d1.length) d2) (hb : cl + d1.length ≤ 1600) : emR V V2 b cl (d1 ++ d2) := by
  obtain ⟨a1, a2, a3⟩ := h1
  obtain ⟨b1, b2, b3⟩ := h2
  refine ⟨by rw [b1, List.length_append, Nat.add_assoc], fun j hj => ?_, fun k c hk => ?_⟩
  · obtain ⟨x1, x2⟩ := b2 j (by omega)
    obtain ⟨y1, y2⟩ := a2 j hj
    exact ⟨by rw [x1, y1], by rw [x2, y2]⟩
  · by_cases q : k < d1.length
    · rw [List.getElem?_append_left q] at hk
      obtain ⟨x1, x2⟩ := b2 (1600 * b + cl + k) (by omega)
      rw [x1, x2]; exact a3 k c hk
    · rw [List.getElem?_append_right (by omega)] at hk
      have := b3 _ c hk
      rw [show 1600 * b + (cl + d1.length) + (k - d1.length) = 1600 * b + cl + k by omega] at this; exact this
/-- all that a test's reading may change in the reference -/
def scZ (r j : Nat) : Bool := (r == 86 && (j == 3 || j == 4 || j == 5 || j == 6 || j == 7 || j == 8 || j == 9 || j == 12 || j == 39 || j == 46 || j == 47 || j == 49 || j == 50)) || (111 ≤ r && r ≤ 118)
/-- the codes of the other town stay -/
def fX (V V' : am_U) : Prop := ∀ j : Nat, ¬ (V 86 40 * 1600 ≤ (j : Int) ∧ (j : Int) < V 86 40 * 1600 + 1600) → V' 111 j = V 111 j ∧ V' 112 j = V 112 j
theorem fX_em {V V' : am_U} {b cl : Nat} {ds : List Int} (h40 : V 86 40 = (b : Nat)) (he : emR V V' b cl ds) : fX V V' := fun j hj => he.2.1 j (by rw [h40] at hj; omega)
def fZ (V V' : am_U) : Prop := (∀ r j, scZ r j = false → V' r j = V r j) ∧ fX V V'
theorem fZ_refl (V : am_U) : fZ V V := ⟨fun _ _ _ => rfl, fun _ _ => ⟨rfl, rfl⟩⟩
theorem fZ_trans {U U1 U2 : am_U} (h1 : fZ U U1) (h2 : fZ U1 U2) : fZ U U2 := ⟨fun r j a => by rw [h2.1 r j a, h1.1 r j a], fun j hj => by
  obtain ⟨x1, x2⟩ := h2.2 j (by rw [h1.1 86 40 rfl]; exact hj)
  obtain ⟨y1, y2⟩ := h1.2 j hj
  exact ⟨by rw [x1, y1], by rw [x2, y2]⟩⟩
theorem fZ_A6 {V V' : am_U} (h : fA6 V V') : fZ V V' := ⟨fun r j e => h r j (fun z => by
  obtain ⟨rfl, z⟩ := z
  rcases z with rfl | rfl | rfl | rfl | rfl | rfl <;> simp [scZ] at e), fun j _ => ⟨h 111 j (by omega), h 112 j (by omega)⟩⟩
theorem fZ_upd {V W : am_U} {r j : Nat} {x : Int} (hs : scZ r j = true) (h : fZ V W) (h3 : r ≠ 111 ∧ r ≠ 112 := by decide) : fZ V (am_upd W r j x) := ⟨fun r' j' e => by
  by_cases c : r' = r ∧ j' = j
  · obtain ⟨rfl, rfl⟩ := c
    rw [hs] at e; exact absurd e (by decide)
  · have : am_upd W r j x r' j' = W r' j' := if_neg c
    rw [this]; exact h.1 r' j' e, fun j' hj => by
  rw [upd_row (fun e => h3.1 e.symm), upd_row (fun e => h3.2 e.symm)]; exact h.2 j' hj⟩
theorem scZ_row {r : Nat} (h : 111 ≤ r ∧ r ≤ 118) (j : Nat) : scZ r j = true := by
  unfold scZ
  have : (decide (111 ≤ r) && decide (r ≤ 118)) = true := by simp [h.1, h.2]
  rw [this, Bool.or_true]
theorem ct_add1 {N : Nat} {X : Nat → Int} {d b cl : Nat} {V : am_U} {c v : Int} (hb : V 86 40 = (b : Nat)) (hb2 : b < 2) (hc : V 86 39 = (cl : Nat)) (hcl : cl < 1600) (hv : 0 ≤ c → v = c) : ∃ V', EvK N X (M_add_s0 d (srt c) v V) (rV V') ∧ emR V V' b cl [c] ∧ (∀ r j, r ≠ 111 → r ≠ 112 → ¬ (r = 86 ∧ j = 39) → V' r j = V r j) := by
  refine ⟨am_upd (am_upd (am_upd V 111 (1600 * b + cl) (srt c)) 112 (1600 * b + cl) v) 86 39 ((cl + 1 : Nat) : Int), M_add_r0 ?_, ⟨upd_at _ _ _ _, fun j hj => ⟨?_, ?_⟩, fun k c' hk => ?_⟩, fun r j q1 q2 q3 => ?_⟩
  · rw [hb, hc, w32_eq (x := 1600 * ((b : Nat) : Int)) (by omega) (by omega), w32_eq (x := 1600 * ((b : Nat) : Int) + ((cl : Nat) : Int)) (by omega) (by omega), show 1600 * ((b : Nat) : Int) + ((cl : Nat) : Int) = ((1600 * b + cl : Nat) : Int) by omega, Int.toNat_natCast, w32_succ (i := cl) (by omega)]
    exact ⟨by omega, rfl⟩
  · rw [upd_row (by decide), upd_row (by decide), upd_ne (by omega)]
  · rw [upd_row (by decide), upd_ne (by omega), upd_row (by decide)]
  · cases k with
    | zero =>
      obtain rfl : c = c' := by simpa using hk
      rw [Nat.add_zero (1600 * b + cl), upd_row (by decide), upd_row (by decide), upd_at, upd_row (by decide), upd_at]
      exact ⟨rfl, hv⟩
    | succ k => simp at hk
  · by_cases z : r = 86
    · subst z; rw [upd_ne (fun e => q3 ⟨rfl, e⟩), upd_row (by decide), upd_row (by decide)]
    · rw [upd_row z, upd_row q2, upd_row q1]
/-- the ops held back above q0, the last one first -/
def hst (V : am_U) (q0 : Nat) (S : List Int) : Prop := V 86 49 = ((q0 + S.length : Nat) : Int) ∧ (∀ c, c ∈ S → isOp c) ∧ ∀ k c, S[k]? = some c → V 118 (q0 + (S.length - 1 - k)) = srt c
theorem hst_top {V : am_U} {q0 : Nat} {c : Int} {S : List Int} (h : hst V q0 (c :: S)) : V 118 (q0 + S.length) = srt c := by
  have := h.2.2 0 c rfl
  rw [show (c :: S).length - 1 - 0 = S.length by simp] at this; exact this
theorem hst_cg {V V' : am_U} {q0 : Nat} {S : List Int} (h : hst V q0 S) (h1 : V' 118 = V 118) (h2 : V' 86 49 = V 86 49) : hst V' q0 S := by
  unfold hst
  rw [h1, h2]; exact h
theorem hst_tail {V V' : am_U} {q0 : Nat} {c : Int} {S : List Int} (h : hst V q0 (c :: S)) (h1 : V' 118 = V 118) (h2 : V' 86 49 = ((q0 + S.length : Nat) : Int)) : hst V' q0 S := by
  refine ⟨h2, fun x hx => h.2.1 x (List.mem_cons_of_mem _ hx), fun k x hk => ?_⟩
  have lt : k < S.length := by
    rcases Nat.lt_or_ge k S.length with z | z
    · exact z
    · rw [List.getElem?_eq_none z] at hk; cases hk
  have := h.2.2 (k + 1) x (by rw [List.getElem?_cons_succ]; exact hk)
  rw [h1]
  rw [show (c :: S).length - 1 - (k + 1) = S.length - 1 - k by simp; omega] at this
  exact this
theorem ct_hold1 {N : Nat} {X : Nat → Int} {d q0 : Nat} {V : am_U} {S : List Int} {c : Int} (h : hst V q0 S) (hq : q0 + S.length < 500) (hc : isOp c) : ∃ V', EvK N X (M_holdsBack_s0 d (srt c) V) (rV V') ∧ hst V' q0 (c :: S) ∧ (∀ j, j < q0 → V' 118 j = V 118 j) ∧ (∀ r j, r ≠ 118 → ¬ (r = 86 ∧ j = 49) → V' r j = V r j) := by
  refine ⟨am_upd (am_upd V 118 (q0 + S.length) (srt c)) 86 49 ((q0 + S.length + 1 : Nat) : Int), M_holdsBack_r0 ?_, ⟨?_, fun x hx => ?_, fun k x hk => ?_⟩, fun j hj => ?_, fun r j q1 q2 => ?_⟩
  · rw [h.1, Int.toNat_natCast, w32_succ (i := q0 + S.length) (by omega)]
    exact ⟨by omega, rfl⟩
  · rw [upd_at]
    simp only [List.length_cons]
    omega
  · rcases List.mem_cons.mp hx with rfl | z
    · exact hc
    · exact h.2.1 x z
  · rw [upd_row (by decide)]
    cases k with
    | zero =>
      obtain rfl : c = x := by simpa using hk
      rw [show (c :: S).length - 1 - 0 = S.length by simp, upd_at]
    | succ k =>
      rw [List.getElem?_cons_succ] at hk
      have lt : k < S.length := by
        rcases Nat.lt_or_ge k S.length with z | z
        · exact z
        · rw [List.getElem?_eq_none z] at hk; cases hk
      rw [show (c :: S).length - 1 - (k + 1) = S.length - 1 - k by simp; omega, upd_ne (by omega)]
      exact h.2.2 k x hk
  · rw [upd_row (by decide), upd_ne (by omega)]
  · by_cases z : r = 86
    · subst z; rw [upd_ne (fun e => q2 ⟨rfl, e⟩), upd_row (by decide)]
    · rw [upd_row z, upd_row q1]
/-- how many 'not' stand there -/
def nNot (S : List Int) : Nat := (S.filter (fun c => c == -22)).length
theorem nNot_cons (c : Int) (S : List Int) : nNot (c :: S) = (if c = -22 then 1 else 0) + nNot S := by
  unfold nNot
  by_cases z : c = -22
  · rw [if_pos z, List.filter_cons_of_pos (by rw [z]; rfl), List.length_cons]; omega
  · rw [if_neg z, List.filter_cons_of_neg (by simpa using z)]; omega
theorem nNot_app (S S' : List Int) : nNot (S ++ S') = nNot S + nNot S' := by unfold nNot; rw [List.filter_append, List.length_append]
theorem ct_joins1 {N : Nat} {X : Nat → Int} {d b q0 f : Nat} {least : Int} {S1 : List Int} (hb2 : b < 2) (hf : f < 20) (hq : q0 + S1.length ≤ 400) (h1 : ∀ c S', S1 = c :: S' → rkC c < least) : ∀ (S2 : List Int) (V : am_U) (cl o : Nat), (∀ c, c ∈ S2 → least ≤ rkC c) → hst V q0 (S2 ++ S1) → S2.length ≤ 90 → V 86 40 = (b : Nat) → V 86 39 = (cl : Nat) → cl + S2.length ≤ 1600 → V 86 46 = ((f + 1 : Nat) : Int) → V 117 f = (q0 : Nat) → V 86 47 = ((o + nNot S2 : Nat) : Int) → o + nNot S2 < 100 → ∃ V', EvK N X (M_joins_s0 (d + 1) least V) (rV V') ∧ hst V' q0 S1 ∧ emR V V' b cl S2 ∧ V' 86 47 = (o : Nat) ∧ (∀ r j, r ≠ 111 → r ≠ 112 → ¬ (r = 86 ∧ (j = 39 ∨ j = 47 ∨ j = 49)) → V' r j = V r j) := by
  intro S2
  induction S2 with
  | nil =>
    intro V cl o _ hs _ v40 v39 _ v46 v117 v47 _
    have e49 : V 86 49 = ((q0 + S1.length : Nat) : Int) := hs.1
    refine ⟨V, M_joins_r0 ?_, hs, emR_nil v39 rfl rfl, v47, fun _ _ _ _ _ => rfl⟩
    rw [v46, w32_eq (by omega) (by omega), show ((f + 1 : Nat) : Int) - 1 = ((f : Nat) : Int) by omega, Int.toNat_natCast, v117, e49]
    refine ⟨by omega, fun _ => rfl, fun z => ?_⟩
    cases S1 with
    | nil => simp at z
    | cons c S' =>
      have tp := hst_top hs
      have lt := h1 c S' rfl
      simp only [List.length_cons] at hq ⊢
      rw [w32_eq (by omega) (by omega), show ((q0 + (S'.length + 1) : Nat) : Int) - 1 = ((q0 + S'.length : Nat) : Int) by omega, Int.toNat_natCast, tp]
      exact ⟨by omega, _, V, ct_rank1 (hs.2.1 c List.mem_cons_self), fun _ => rfl, fun y => absurd y (by omega)⟩
  | cons c S2 ih =>
    intro V cl o hr hs hl v40 v39 hcl v46 v117 v47 hoo
    have e49 : V 86 49 = ((q0 + ((c :: S2) ++ S1).length : Nat) : Int) := hs.1
    simp only [List.length_cons] at hl hcl
    have tp : V 118 (q0 + (S2 ++ S1).length) = srt c := hst_top hs
    have op := hs.2.1 c List.mem_cons_self
    have le := hr c List.mem_cons_self
    have el : ((c :: S2) ++ S1).length = (S2 ++ S1).length + 1 := by simp
    have l2 : (S2 ++ S1).length = S2.length + S1.length := List.length_append
    rw [el] at e49
    obtain ⟨V2, a1, a2, a3⟩ := ct_add1 (N := N) (X := X) (d := d) (V := am_upd V 86 49 ((q0 + (S2 ++ S1).length : Nat) : Int)) (c := c) (v := 0) (b := b) (cl := cl) (by rw [upd_ne (by decide)]; exact v40) hb2 (by rw [upd_ne (by decide)]; exact v39) (by omega) (fun z => by rcases op with rfl | rfl | rfl | rfl | rfl | rfl | rfl | rfl | rfl | rfl | rfl | rfl | rfl <;> exact absurd z (by decide))
    have w49 : V2 86 49 = ((q0 + (S2 ++ S1).length : Nat) : Int) := by rw [a3 86 49 (by decide) (by decide) (by decide), upd_at]
    have w118 : V2 118 = V 118 := funext fun j => by rw [a3 118 j (by decide) (by decide) (by omega), upd_row (by decide)]
    have wj : ∀ j, j ≠ 39 → j ≠ 49 → V2 86 j = V 86 j := fun j q1 q2 => by rw [a3 86 j (by decide) (by decide) (by omega), upd_ne q2]
    have em1 : emR V V2 b cl [c] := ⟨a2.1, fun j hj => by have := a2.2.1 j hj; rw [upd_row (by decide), upd_row (by decide)] at this; exact this, a2.2.2⟩
    -- 'not' gives back what it opened
    have go : ∀ V3 : am_U, (∀ r j, ¬ (r = 86 ∧ j = 47) → V3 r j = V2 r j) → V3 86 47 = ((o + nNot S2 : Nat) : Int) → ∃ V', EvK N X (M_joins_s0 (d + 1) least V3) (rV V') ∧ hst V' q0 S1 ∧ emR V V' b cl (c :: S2) ∧ V' 86 47 = (o : Nat) ∧ (∀ r j, r ≠ 111 → r ≠ 112 → ¬ (r = 86 ∧ (j = 39 ∨ j = 47 ∨ j = 49)) → V' r j = V r j) := fun V3 g g47 => by
      have nn := nNot_cons c S2
      obtain ⟨V', k1, k2, k3, k4, k5⟩ := ih V3 (cl + 1) o (fun x hx => hr x (List.mem_cons_of_mem _ hx)) (hst_tail hs (by rw [← w118]; exact funext fun j => g 118 j (by omega)) (by rw [g 86 49 (by omega)]; exact w49)) (by omega) (by rw [g 86 40 (by omega), wj 40 (by decide) (by decide)]; exact v40) (by rw [g 86 39 (by omega)]; exact a2.1) (by omega) (by rw [g 86 46 (by omega), wj 46 (by decide) (by decide)]; exact v46) (by rw [g 117 f (by omega), a3 117 f (by decide) (by decide) (by omega), upd_row (by decide)]; exact v117) g47 (by omega)
      have em2 : emR V2 V' b (cl + [c].length) S2 := ⟨k3.1, fun j hj => by have := k3.2.1 j hj; rw [g 111 j (by omega), g 112 j (by omega)] at this; exact this, k3.2.2⟩
      refine ⟨V', k1, k2, emR_app em1 em2 (by simp; omega), k4, fun r j q1 q2 q3 => ?_⟩
      rw [k5 r j q1 q2 q3, g r j (fun z => q3 ⟨z.1, Or.inr (Or.inl z.2)⟩), a3 r j q1 q2 (fun z => q3 ⟨z.1, Or.inl z.2⟩)]
      by_cases z : r = 86
      · subst z; rw [upd_ne (fun e => q3 ⟨rfl, Or.inr (Or.inr e)⟩)]
      · rw [upd_row z]
    have st : ∀ {R}, (((srt c) ≠ 22) → EvK N X (M_joins_s0 (d + 1) least V2) R) ∧ (((srt c) = 22) → EvK N X (M_joins_s0 (d + 1) least (am_upd V2 86 47 (w32 ((V2 86 47) - 1)))) R) → EvK N X (M_joins_s0 (d + 1) least V) R := fun {R} y => by
      refine M_joins_r0 ?_
      rw [v46, w32_eq (x := ((f + 1 : Nat) : Int) - 1) (by omega) (by omega), show ((f + 1 : Nat) : Int) - 1 = ((f : Nat) : Int) by omega, Int.toNat_natCast, v117, e49, w32_eq (x := ((q0 + ((S2 ++ S1).length + 1) : Nat) : Int) - 1) (by omega) (by omega), show ((q0 + ((S2 ++ S1).length + 1) : Nat) : Int) - 1 = ((q0 + (S2 ++ S1).length : Nat) : Int) by omega, Int.toNat_natCast, tp]
      refine ⟨by omega, fun z => absurd z (by omega), fun _ => ⟨by omega, _, V, ct_rank1 op, fun z => absurd z (by omega), fun _ => ?_⟩⟩
      rw [e49, w32_eq (x := ((q0 + ((S2 ++ S1).length + 1) : Nat) : Int) - 1) (by omega) (by omega), show ((q0 + ((S2 ++ S1).length + 1) : Nat) : Int) - 1 = ((q0 + (S2 ++ S1).length : Nat) : Int) by omega, Int.toNat_natCast, tp]
      refine ⟨by omega, V2, a1, ?_⟩
      rw [w49, Int.toNat_natCast, w118, tp]
      exact ⟨by omega, y⟩
    have nn := nNot_cons c S2
    by_cases z : c = -22
    · rw [if_pos z] at nn
      obtain ⟨V', k1, k2⟩ := go (am_upd V2 86 47 ((o + nNot S2 : Nat) : Int)) (fun r j q => by
        by_cases y : r = 86
        · subst y; rw [upd_ne (fun e => q ⟨rfl, e⟩)]
        · rw [upd_row y]) (upd_at _ _ _ _)
      refine ⟨V', st ⟨fun y => absurd ((srt_22 op).mpr z) y, fun _ => ?_⟩, k2⟩
      rw [wj 47 (by decide) (by decide), v47, nn, w32_eq (by omega) (by omega), show ((o + (1 + nNot S2) : Nat) : Int) - 1 = ((o + nNot S2 : Nat) : Int) by omega]
      exact k1
    · rw [if_neg z, Nat.zero_add] at nn
      obtain ⟨V', k1, k2⟩ := go V2 (fun _ _ _ => rfl) (by rw [wj 47 (by decide) (by decide), v47, nn])
      exact ⟨V', st ⟨fun _ => k1, fun y => absurd ((srt_22 op).mp y) z⟩, k2⟩
