/-! the class's judge: a test asked -/
/-- the stack of the judge -/
def jst (U : am_U) (s : List Int) : Prop := U 45 3 = (s.length : Nat) ∧ ∀ i v, s[i]? = some v → U 46 (s.length - 1 - i) = v
/-- what the judge may write -/
def jk (U U' : am_U) : Prop := ∀ r j, r ≠ 46 → (r = 45 → j ≠ 3) → U' r j = U r j
theorem jk_refl (U : am_U) : jk U U := fun _ _ _ _ => rfl
theorem jk_trans {U U1 U2 : am_U} (h1 : jk U U1) (h2 : jk U1 U2) : jk U U2 := fun r j a b => by rw [h2 r j a b, h1 r j a b]
theorem jk_row {U U' : am_U} (h : jk U U') {r : Nat} (h1 : r ≠ 46) (h2 : r ≠ 45) : U' r = U r := funext fun j => h r j h1 (fun e => absurd e h2)
theorem ct_push {N : Nat} {X : Nat → Int} {d : Nat} {U : am_U} {s : List Int} (x : Int) (hs : jst U s) (hl : s.length < 64) : ∃ U', EvK N X (Jg_push_s0 d x U) (rV U') ∧ jst U' (x :: s) ∧ jk U U' := by
  refine ⟨_, Jg_push_r0 ⟨fun h => absurd h (by rw [hs.1]; omega), fun _ => ⟨by rw [hs.1]; omega, rfl⟩⟩, ⟨?_, ?_⟩, ?_⟩
  · rw [upd_at, hs.1, w32_succ (by omega)]; rfl
  · intro i v hv
    rw [upd_row (by decide), hs.1, Int.toNat_natCast]
    rw [upd_if]
    cases i with
    | zero =>
      simp only [List.getElem?_cons_zero, Option.some.injEq] at hv
      simp [hv]
    | succ i =>
      simp only [List.getElem?_cons_succ] at hv
      have hi := (List.getElem?_eq_some_iff.mp hv).1
      simp only [List.length_cons]
      rw [if_neg (by omega), show s.length + 1 - 1 - (i + 1) = s.length - 1 - i from by omega]
      exact hs.2 i v hv
  · intro r j h1 h2
    by_cases e : r = 45
    · subst e; rw [upd_ne (h2 rfl), upd_row (by decide)]
    · rw [upd_row e, upd_row h1]
theorem ct_pop {N : Nat} {X : Nat → Int} {d : Nat} {U : am_U} {s : List Int} {x : Int} (hs : jst U (x :: s)) (hl : s.length < 64) : ∃ U', EvK N X (Jg_pop_s0 d U) (rI x U') ∧ jst U' s ∧ jk U U' := by
  have h0 : U 45 3 = ((s.length + 1 : Nat) : Int) := hs.1
  have e : w32 (((s.length + 1 : Nat) : Int) - 1) = (s.length : Nat) := by rw [w32_eq (by omega) (by omega)]; omega
  have hx : U 46 s.length = x := by
    have := hs.2 0 x (by simp)
    simpa using this
  refine ⟨am_upd U 45 3 (s.length : Nat), Jg_pop_r0 ⟨fun _ => ?_, fun h => absurd h (by rw [h0]; omega)⟩, ⟨upd_at _ _ _ _, fun i v hv => ?_⟩, fun r j h1 h2 => ?_⟩
  · rw [h0, e, Int.toNat_natCast, hx]
    exact ⟨by omega, rfl⟩
  · rw [upd_row (by decide)]
    have hi := (List.getElem?_eq_some_iff.mp hv).1
    have := hs.2 (i + 1) v (by simpa using hv)
    rw [List.length_cons, show s.length + 1 - 1 - (i + 1) = s.length - 1 - i from by omega] at this
    exact this
  · by_cases e : r = 45
    · subst e; rw [upd_ne (h2 rfl)]
    · rw [upd_row e]
theorem ct_pop0 {N : Nat} {X : Nat → Int} {d : Nat} {U : am_U} (hs : jst U []) : EvK N X (Jg_pop_s0 d U) (rI 0 U) :=
  Jg_pop_r0 ⟨fun h => absurd h (by rw [hs.1]; simp), fun _ => rfl⟩
/-- what one who is asked is, as the class tells it -/
def envD (U : am_U) (me : Nat) (ot : Int) (c : Int) : Int :=
  if c = -15 then U 17 me else if c = -16 then ot
  else if 0 ≤ U 18 me ∧ U 18 me < U 3 1 then (if c = -4 then U 8 (U 18 me).toNat else if c = -17 then ((fb_ct (tb (U 19 (U 18 me).toNat)) 32 : Nat) : Int) else if c = -1 then U 6 (U 18 me).toNat else U 18 me)
  else (if c = -4 then 0 else if c = -17 then 0 else -1)
theorem ct_ask {N : Nat} {X : Nat → Int} {d : Nat} {U : am_U} {me : Nat} {ot c : Int} (hm : me < 16) (hh : U 3 1 ≤ 12) (hc : isAsk c) : EvK N X (Jg_ask_s0 (d + 1) (-1 - c) (me : Nat) ot U) (rI (envD U me ot c) U) := by
  refine Jg_ask_r0 ⟨by omega, ?_⟩
  rw [Int.toNat_natCast]
  have past : ¬ (0 ≤ U 18 me ∧ U 18 me < U 3 1) → EvK N X (Jg_ask_s28 (d + 1) (-1 - c) (me : Nat) ot (U 18 me) U) (rI (envD U me ot c) U) := by
    intro h
    refine Jg_ask_r28 ?_
    rw [Int.toNat_natCast]
    unfold envD
    rw [if_neg h]
    refine ⟨fun e => ?_, fun e => ?_, fun e => ⟨by omega, ?_⟩, fun e => ?_, fun e => ?_, fun e => ?_⟩
    · rw [if_neg (by omega), if_neg (by omega), if_neg (by omega), if_neg (by omega)]
    · rw [if_neg (by omega), if_neg (by omega), if_pos (by omega)]
    · rw [if_pos (by omega)]
    · rw [if_neg (by omega), if_pos (by omega)]
    · rw [if_neg (by omega), if_neg (by omega), if_neg (by omega), if_pos (by omega)]
    · rw [if_neg (by omega), if_neg (by omega), if_neg (by omega), if_neg (by omega)]
  refine ⟨fun h => past (by omega), fun h0 => ⟨fun h1 => ?_, fun h => past (by omega)⟩⟩
  have hp : 0 ≤ U 18 me ∧ U 18 me < U 3 1 := ⟨h0, h1⟩
  unfold envD
  rw [if_pos hp]
  refine ⟨fun e => ⟨by omega, ?_⟩, fun e => ⟨by omega, ?_⟩, fun e => ?_, fun e => ?_, fun e => ⟨by omega, _, _, ct_bitCount _, ?_⟩, fun e => ?_⟩
  · rw [if_neg (by omega), if_neg (by omega), if_neg (by omega), if_neg (by omega), if_pos (by omega)]
  · rw [if_neg (by omega), if_neg (by omega), if_pos (by omega)]
  · rw [if_pos (by omega)]
  · rw [if_neg (by omega), if_pos (by omega)]
  · rw [if_neg (by omega), if_neg (by omega), if_neg (by omega), if_pos (by omega)]
  · unfold isAsk at hc
    rw [if_neg (by omega), if_neg (by omega), if_neg (by omega), if_neg (by omega), if_neg (by omega)]
theorem clp_if (x : Int) : w32 (if (if x < 1000000000 then x else 1000000000) < (-1000000000) then (-1000000000) else (if x < 1000000000 then x else 1000000000)) = clp x := by
  have h : (if (if x < 1000000000 then x else 1000000000) < (-1000000000) then (-1000000000) else (if x < 1000000000 then x else 1000000000)) = clp x := by
    unfold clp
    (repeat' split) <;> omega
  rw [h]
  have := clp_in x
  exact w32_eq (by omega) (by omega)
theorem mul_v {a b : Int} (ha : vOk false a) (hb : vOk false b) : -1000000000000000000 ≤ a * b ∧ a * b ≤ 1000000000000000000 := by
  have ha' : -1000000000 ≤ a ∧ a ≤ 1000000000 := ha
  have hb' : -1000000000 ≤ b ∧ b ≤ 1000000000 := hb
  have h1 : a.natAbs * b.natAbs ≤ 1000000000 * 1000000000 := Nat.mul_le_mul (by omega) (by omega)
  rw [← Int.natAbs_mul] at h1
  omega
theorem fdiv_v {a b : Int} (ha : vOk false a) : -1000000000 ≤ Int.fdiv a b ∧ Int.fdiv a b ≤ 1000000000 := by
  have ha' : -1000000000 ≤ a ∧ a ≤ 1000000000 := ha
  have := Int.natAbs_fdiv_le_natAbs a b
  omega
def isBin (c : Int) : Prop := c = -143 ∨ c = -145 ∨ c = -142 ∨ c = -147 ∨ c = -137 ∨ c = -160 ∨ c = -161 ∨ c = -162
set_option maxHeartbeats 2000000 in
theorem ct_combine {N : Nat} {X : Nat → Int} {d : Nat} {U : am_U} {c a b : Int} (hc : isBin c) (ha : vOk false a) (hb : vOk false b) : EvK N X (Jg_combine_s0 (d + 1) (-100 - c) a b U) (rI (op2 c a b) U) := by
  have ha' : -1000000000 ≤ a ∧ a ≤ 1000000000 := ha
  have hb' : -1000000000 ≤ b ∧ b ≤ 1000000000 := hb
  have hm := mul_v ha hb
  have hf := fdiv_v (b := b) ha
  rcases hc with rfl | rfl | rfl | rfl | rfl | rfl | rfl | rfl
  · refine Jg_combine_r0 ?_
    (repeat' (first | apply And.intro | intro _)) <;> first | (exfalso; omega) | (rw [clp_if, w64_eq (by omega) (by omega)]; simp [op2, cmb]; done)
  · refine Jg_combine_r0 ?_
    (repeat' (first | apply And.intro | intro _)) <;> first | (exfalso; omega) | (rw [clp_if, w64_eq (by omega) (by omega)]; simp [op2, cmb]; done)
  · refine Jg_combine_r0 ?_
    (repeat' (first | apply And.intro | intro _)) <;> first | (exfalso; omega) | (rw [clp_if, w64_eq (by omega) (by omega)]; simp [op2, cmb]; done)
  · refine Jg_combine_r0 ?_
    (repeat' (first | apply And.intro | intro _)) <;> first | (exfalso; omega) | (rw [clp_if, w32_eq (by omega) (by omega)]; rename_i h0; simp [op2, cmb, h0]; done) | (rename_i h0; subst h0; simp [op2, cmb, w32]; done)
  · refine Jg_combine_r0 ?_
    (repeat' (first | apply And.intro | intro _)) <;> first | (exfalso; omega) | (rw [clp_if]; rename_i h0 _; simp [op2, cmb, h0]; done) | (rw [clp_if]; rename_i h0; simp [op2, cmb, h0]; done) | (rename_i h0 _; subst h0; simp [op2, cmb, w32]; done) | (rename_i h0; subst h0; simp [op2, cmb, w32]; done)
  · refine Jg_combine_r0 ?_
    (repeat' (first | apply And.intro | intro _)) <;> first | (exfalso; omega) | (simp [op2, cmb]; first | (rw [b2i_t (by omega)]; done) | (rw [b2i_f (by omega)]; done))
  · refine Jg_combine_r0 ?_
    (repeat' (first | apply And.intro | intro _)) <;> first | (exfalso; omega) | (simp [op2, cmb]; first | (rw [b2i_t (by omega)]; done) | (rw [b2i_f (by omega)]; done))
  · refine Jg_combine_r0 ?_
    (repeat' (first | apply And.intro | intro _)) <;> first | (exfalso; omega) | (simp [op2, cmb]; first | (rw [b2i_t (by omega)]; done) | (rw [b2i_f (by omega)]; done))
theorem jst_len {U : am_U} {s : List Int} (h : jst U s) : U 45 3 = (s.length : Nat) := h.1
/-- words that look at what is on the stack -/
theorem ct_doWord {N : Nat} {X : Nat → Int} {d : Nat} {U : am_U} {e : Int → Int} {c : Int} {t t' : List Bool} {s : List Int} (hs : jst U s) (hv : vsOk t s) (hl : s.length ≤ 60) (ht : tyc c t = some t') (hc : -100 < c ∧ c < -17) : ∃ U', EvK N X (Jg_doWord_s0 (d + 2) (-1 - c) U) (rV U') ∧ jst U' (stp e c s) ∧ jk U U' := by
  rcases tyc_cases ht with ⟨h1, h2, rfl⟩ | ⟨h1, rfl⟩ | ⟨rfl, rfl⟩ | ⟨rfl, t1, rfl, rfl⟩ | ⟨h1, t1, rfl, rfl⟩ | ⟨h1, t1, rfl, rfl⟩ | ⟨h1, t1, rfl, rfl⟩ | ⟨h1, t1, rfl, rfl⟩
  · omega
  · unfold isAsk at h1; omega
  · obtain ⟨U', f1, f2, f3⟩ := ct_push (N := N) (X := X) (d := d + 1) 1 hs (by omega)
    refine ⟨U', Jg_doWord_r0 ⟨fun h => by simp at h, fun h => by simp at h, fun h => by simp at h, fun h => by simp at h, fun h => by simp at h, fun _ => ⟨_, f1, rfl⟩, fun h => by simp at h, fun h => by simp at h, fun h => by simp at h, fun h => by simp at h⟩, ?_, f3⟩
    simpa [stp] using f2
  · match s, hv with
    | x :: s1, hv =>
      simp only [List.length_cons] at hl
      obtain ⟨U1, f1, f2, f3⟩ := ct_pop (N := N) (X := X) (d := d + 1) hs (by omega)
      have hx : x = 0 ∨ x = 1 := hv.1
      obtain ⟨U2, g1, g2, g3⟩ := ct_push (N := N) (X := X) (d := d + 1) (w32 (1 - x)) f2 (by omega)
      refine ⟨U2, Jg_doWord_r0 ⟨fun h => by simp at h, fun h => by simp at h, fun h => by simp at h, fun h => by simp at h, fun _ => ⟨_, _, f1, _, g1, rfl⟩, fun h => by simp at h, fun h => by simp at h, fun h => by simp at h, fun h => by simp at h, fun h => by simp at h⟩, ?_, jk_trans f3 g3⟩
      rw [w32_eq (by omega) (by omega)] at g2
      simpa [stp, op1] using g2
  · match s, hv with
    | x :: s1, hv =>
      simp only [List.length_cons] at hl
      obtain ⟨U1, f1, f2, f3⟩ := ct_pop (N := N) (X := X) (d := d + 1) hs (by omega)
      have hx : -1000000000 ≤ x ∧ x ≤ 1000000000 := hv.1
      rcases h1 with rfl | rfl
      · obtain ⟨U2, g1, g2, g3⟩ := ct_push (N := N) (X := X) (d := d + 1) (cb (isSq x)) f2 (by omega)
        have q := ct_isSquare (N := N) (X := X) (d := d + 1) (U := U1) x (by omega)
        refine ⟨U2, Jg_doWord_r0 ⟨fun _ => ⟨_, _, f1, _, _, q, fun z => ⟨_, by rw [z] at g1; exact g1, rfl⟩, fun z => ⟨_, by rw [cb_t (cb_ne.mp z)] at g1; exact g1, rfl⟩⟩, fun h => by simp at h, fun h => by simp at h, fun h => by simp at h, fun h => by simp at h, fun h => by simp at h, fun h => by simp at h, fun h => by simp at h, fun h => by simp at h, fun h => by simp at h⟩, ?_, jk_trans f3 g3⟩
        simpa [stp, op1] using g2
      · obtain ⟨U2, g1, g2, g3⟩ := ct_push (N := N) (X := X) (d := d + 1) (cb (Pr x.toNat)) f2 (by omega)
        have q := ct_isPrime (N := N) (X := X) (d := d + 1) (U := U1) x (by omega)
        refine ⟨U2, Jg_doWord_r0 ⟨fun h => by simp at h, fun _ => ⟨_, _, f1, _, _, q, fun z => ⟨_, by rw [z] at g1; exact g1, rfl⟩, fun z => ⟨_, by rw [cb_t (cb_ne.mp z)] at g1; exact g1, rfl⟩⟩, fun h => by simp at h, fun h => by simp at h, fun h => by simp at h, fun h => by simp at h, fun h => by simp at h, fun h => by simp at h, fun h => by simp at h, fun h => by simp at h⟩, ?_, jk_trans f3 g3⟩
        simpa [stp, op1] using g2
  · match s, hv with
    | x :: y :: s1, hv =>
      simp only [List.length_cons] at hl
      obtain ⟨U1, f1, f2, f3⟩ := ct_pop (N := N) (X := X) (d := d + 1) hs (by simp only [List.length_cons]; omega)
      obtain ⟨U2, k1, k2, k3⟩ := ct_pop (N := N) (X := X) (d := d + 1) f2 (by omega)
      rcases h1 with rfl | rfl
      · obtain ⟨U3, g1, g2, g3⟩ := ct_push (N := N) (X := X) (d := d + 1) (if x < y then y else x) k2 (by omega)
        refine ⟨U3, Jg_doWord_r0 ⟨fun h => by simp at h, fun h => by simp at h, fun _ => ⟨_, _, f1, _, _, k1, _, g1, rfl⟩, fun h => by simp at h, fun h => by simp at h, fun h => by simp at h, fun h => by simp at h, fun h => by simp at h, fun h => by simp at h, fun h => by simp at h⟩, ?_, jk_trans (jk_trans f3 k3) g3⟩
        have e : stp e (-20) (x :: y :: s1) = (if x < y then y else x) :: s1 := by
          simp [stp, op2]; (repeat' split) <;> omega
        rw [e]; exact g2
      · obtain ⟨U3, g1, g2, g3⟩ := ct_push (N := N) (X := X) (d := d + 1) (if y < x then y else x) k2 (by omega)
        refine ⟨U3, Jg_doWord_r0 ⟨fun h => by simp at h, fun h => by simp at h, fun h => by simp at h, fun _ => ⟨_, _, f1, _, _, k1, _, g1, rfl⟩, fun h => by simp at h, fun h => by simp at h, fun h => by simp at h, fun h => by simp at h, fun h => by simp at h, fun h => by simp at h⟩, ?_, jk_trans (jk_trans f3 k3) g3⟩
        have e : stp e (-21) (x :: y :: s1) = (if y < x then y else x) :: s1 := by
          simp [stp, op2]; (repeat' split) <;> omega
        rw [e]; exact g2
  · match s, hv with
    | x :: y :: s1, hv =>
      simp only [List.length_cons] at hl
      obtain ⟨U1, f1, f2, f3⟩ := ct_pop (N := N) (X := X) (d := d + 1) hs (by simp only [List.length_cons]; omega)
      obtain ⟨U2, k1, k2, k3⟩ := ct_pop (N := N) (X := X) (d := d + 1) f2 (by omega)
      rcases h1 with rfl | rfl | rfl | h1
      · obtain ⟨U3, g1, g2, g3⟩ := ct_push (N := N) (X := X) (d := d + 1) (if y < x then y else x) k2 (by omega)
        refine ⟨U3, Jg_doWord_r0 ⟨fun h => by simp at h, fun h => by simp at h, fun h => by simp at h, fun h => by simp at h, fun h => by simp at h, fun h => by simp at h, fun _ => ⟨_, _, f1, _, _, k1, _, g1, rfl⟩, fun h => by simp at h, fun h => by simp at h, fun h => by simp at h⟩, ?_, jk_trans (jk_trans f3 k3) g3⟩
        have e : stp e (-24) (x :: y :: s1) = (if y < x then y else x) :: s1 := by
          simp [stp, op2]; (repeat' split) <;> omega
        rw [e]; exact g2
      · obtain ⟨U3, g1, g2, g3⟩ := ct_push (N := N) (X := X) (d := d + 1) (if x < y then y else x) k2 (by omega)
        refine ⟨U3, Jg_doWord_r0 ⟨fun h => by simp at h, fun h => by simp at h, fun h => by simp at h, fun h => by simp at h, fun h => by simp at h, fun h => by simp at h, fun h => by simp at h, fun _ => ⟨_, _, f1, _, _, k1, _, g1, rfl⟩, fun h => by simp at h, fun h => by simp at h⟩, ?_, jk_trans (jk_trans f3 k3) g3⟩
        have e : stp e (-25) (x :: y :: s1) = (if x < y then y else x) :: s1 := by
          simp [stp, op2]; (repeat' split) <;> omega
        rw [e]; exact g2
      · obtain ⟨U3, g1, g2, g3⟩ := ct_push (N := N) (X := X) (d := d + 1) ((Nat.gcd x.natAbs y.natAbs : Nat) : Int) k2 (by omega)
        have hx : -1000000000 ≤ x ∧ x ≤ 1000000000 := hv.1
        have hy : -1000000000 ≤ y ∧ y ≤ 1000000000 := hv.2.1
        have q := ct_commonFactor (N := N) (X := X) (d := d + 1) (U := U2) x y (by omega) (by omega)
        refine ⟨U3, Jg_doWord_r0 ⟨fun h => by simp at h, fun h => by simp at h, fun h => by simp at h, fun h => by simp at h, fun h => by simp at h, fun h => by simp at h, fun h => by simp at h, fun h => by simp at h, fun _ => ⟨_, _, f1, _, _, k1, _, _, q, _, g1, rfl⟩, fun h => by simp at h⟩, ?_, jk_trans (jk_trans f3 k3) g3⟩
        rw [Nat.gcd_comm] at g2
        simpa [stp, op2] using g2
      · omega
  · omega
/-- one step of a test -/
theorem isTrue_step {N : Nat} {X : Nat → Int} {d : Nat} {U : am_U} {law ot to : Int} {me i : Nat} {t t' : List Bool} {s : List Int} (hs : jst U s) (ht : tyc (U 15 i) t = some t') (hv : vsOk t s) (hl : t.length ≤ 60) (hi : (i : Int) < to) (hi2 : i < 1600) (hm : me < 16) (hh : U 3 1 ≤ 12) :
    ∃ U', jst U' (stp (envD U me ot) (U 15 i) s) ∧ jk U U' ∧ ∀ R, EvK N X (Jg_isTrue_s50 (d + 3) law (me : Nat) ot to ((i + 1 : Nat) : Int) U') R → EvK N X (Jg_isTrue_s50 (d + 3) law (me : Nat) ot to (i : Nat) U) R := by
  have hl' : s.length ≤ 60 := by rw [vsOk_len hv]; exact hl
  have key := tyc_cases ht
  have start : ∀ R, (((U 15 i) < 0) → (((-100) < (U 15 i)) → ((16 < (w32 ((-1) - (U 15 i)))) → ∃ U2 : am_U, EvK N X (Jg_doWord_s0 (d + 2) (w32 ((-1) - (U 15 i))) U) (rV U2) ∧ EvK N X (Jg_isTrue_s50 (d + 3) law (me : Nat) ot to ((i + 1 : Nat) : Int) U2) R) ∧ (((w32 ((-1) - (U 15 i))) ≤ 16) → ∃ (r3 : Int) (U3 : am_U), EvK N X (Jg_ask_s0 (d + 2) (w32 ((-1) - (U 15 i))) (me : Nat) ot U) (rI r3 U3) ∧ ∃ U4 : am_U, EvK N X (Jg_push_s0 (d + 2) r3 U3) (rV U4) ∧ EvK N X (Jg_isTrue_s50 (d + 3) law (me : Nat) ot to ((i + 1 : Nat) : Int) U4) R)) ∧ (((U 15 i) ≤ (-100)) → ∃ (r5 : Int) (U5 : am_U), EvK N X (Jg_pop_s0 (d + 2) U) (rI r5 U5) ∧ ∃ (r6 : Int) (U6 : am_U), EvK N X (Jg_pop_s0 (d + 2) U5) (rI r6 U6) ∧ ∃ (r7 : Int) (U7 : am_U), EvK N X (Jg_combine_s0 (d + 2) (w32 ((-100) - (U 15 i))) r6 r5 U6) (rI r7 U7) ∧ ∃ U8 : am_U, EvK N X (Jg_push_s0 (d + 2) r7 U7) (rV U8) ∧ EvK N X (Jg_isTrue_s50 (d + 3) law (me : Nat) ot to ((i + 1 : Nat) : Int) U8) R)) ∧ ((0 ≤ (U 15 i)) → ∃ U9 : am_U, EvK N X (Jg_push_s0 (d + 2) (U 15 i) U) (rV U9) ∧ EvK N X (Jg_isTrue_s50 (d + 3) law (me : Nat) ot to ((i + 1 : Nat) : Int) U9) R) → EvK N X (Jg_isTrue_s50 (d + 3) law (me : Nat) ot to (i : Nat) U) R := by
    intro R h
    refine Jg_isTrue_r50 ⟨fun h => absurd h (by omega), fun _ => ⟨by omega, ?_⟩⟩
    rw [Int.toNat_natCast, w32_succ (by omega)]
    exact h
  generalize hc : U 15 i = c at *
  rcases (by omega : 0 ≤ c ∨ c ≤ -100 ∨ (c < 0 ∧ -100 < c)) with c0 | c0 | ⟨c0, c1⟩
  · obtain ⟨U', f1, f2, f3⟩ := ct_push (N := N) (X := X) (d := d + 2) c hs (by omega)
    refine ⟨U', ?_, f3, fun R hR => start R ⟨fun h => absurd h (by omega), fun _ => ⟨U', f1, hR⟩⟩⟩
    have e : stp (envD U me ot) c s = c :: s := by unfold stp; rw [if_pos c0]
    rw [e]; exact f2
  · have hb : isBin c ∧ ∃ t1, t = false :: false :: t1 := by
      rcases key with ⟨h1, h2, -⟩ | ⟨h1, -⟩ | ⟨h1, -⟩ | ⟨h1, -⟩ | ⟨h1, -⟩ | ⟨h1, -⟩ | ⟨h1, t1, e1, -⟩ | ⟨h1, t1, e1, -⟩
      · omega
      · unfold isAsk at h1; omega
      · omega
      · omega
      · omega
      · omega
      · exact ⟨by unfold isBin; omega, t1, e1⟩
      · exact ⟨by unfold isBin; omega, t1, e1⟩
    obtain ⟨hb, t1, rfl⟩ := hb
    match s, hv with
    | x :: y :: s1, hv =>
      simp only [List.length_cons] at hl'
      obtain ⟨U1, f1, f2, f3⟩ := ct_pop (N := N) (X := X) (d := d + 2) hs (by simp only [List.length_cons]; omega)
      obtain ⟨U2, k1, k2, k3⟩ := ct_pop (N := N) (X := X) (d := d + 2) f2 (by omega)
      obtain ⟨U3, g1, g2, g3⟩ := ct_push (N := N) (X := X) (d := d + 2) (op2 c y x) k2 (by omega)
      have ec : w32 (-100 - c) = -100 - c := by unfold isBin at hb; exact w32_eq (by omega) (by omega)
      refine ⟨U3, ?_, jk_trans (jk_trans f3 k3) g3, fun R hR => start R ⟨fun _ => ⟨fun h => absurd h (by omega), fun _ => ⟨_, _, f1, _, _, k1, _, _, by rw [ec]; exact ct_combine hb hv.2.1 hv.1, _, g1, hR⟩⟩, fun h => absurd h (by omega)⟩⟩
      have e : stp (envD U me ot) c (x :: y :: s1) = op2 c y x :: s1 := by
        unfold stp isBin at *
        rw [if_neg (by omega), if_neg (by omega), if_neg (by omega)]
        simp only
        rw [if_neg (by omega)]
      rw [e]; exact g2
  · have ew : w32 (-1 - c) = -1 - c := w32_eq (by omega) (by omega)
    rcases (by omega : c < -17 ∨ -17 ≤ c) with c2 | c2
    · obtain ⟨U', f1, f2, f3⟩ := ct_doWord (N := N) (X := X) (d := d) (e := envD U me ot) hs hv hl' ht ⟨c1, c2⟩
      refine ⟨U', f2, f3, fun R hR => start R ⟨fun _ => ⟨fun _ => ⟨fun _ => ⟨U', by rw [ew]; exact f1, hR⟩, fun h => absurd h (by rw [ew]; omega)⟩, fun h => absurd h (by omega)⟩, fun h => absurd h (by omega)⟩⟩
    · have ha : isAsk c := by
        rcases key with ⟨h1, h2, -⟩ | ⟨h1, -⟩ | ⟨h1, -⟩ | ⟨h1, -⟩ | ⟨h1, -⟩ | ⟨h1, -⟩ | ⟨h1, -⟩ | ⟨h1, -⟩ <;> first | exact h1 | omega
      obtain ⟨U', f1, f2, f3⟩ := ct_push (N := N) (X := X) (d := d + 2) (envD U me ot c) hs (by omega)
      refine ⟨U', ?_, f3, fun R hR => start R ⟨fun _ => ⟨fun _ => ⟨fun h => absurd h (by rw [ew]; omega), fun _ => ⟨_, _, by rw [ew]; exact ct_ask hm hh ha, U', f1, hR⟩⟩, fun h => absurd h (by omega)⟩, fun h => absurd h (by omega)⟩⟩
      have e : stp (envD U me ot) c s = envD U me ot c :: s := by unfold stp; rw [if_neg (by omega), if_pos (by omega)]
      rw [e]; exact f2
theorem envD_jk {U U' : am_U} (h : jk U U') (me : Nat) (ot : Int) : envD U' me ot = envD U me ot := by
  funext c
  unfold envD
  rw [jk_row h (r := 17) (by decide) (by decide), jk_row h (r := 18) (by decide) (by decide), jk_row h (r := 19) (by decide) (by decide), jk_row h (r := 3) (by decide) (by decide), jk_row h (r := 6) (by decide) (by decide), jk_row h (r := 8) (by decide) (by decide)]
theorem ct_isTrue_l {N : Nat} {X : Nat → Int} {d : Nat} {U0 : am_U} {law ot : Int} {me f l : Nat} (hw : wfT (U0 15) f l) (he : ∀ c, isAsk c → vOk false (envD U0 me ot c)) (hf : f + l ≤ 1600) (hm : me < 16) (hh : U0 3 1 ≤ 12) : ∀ m k, k + m = l → ∀ (U : am_U) t, jk U0 U → jst U (run (envD U0 me ot) (U0 15) f k) → tyr (U0 15) f k = some t → ∃ U', EvK N X (Jg_isTrue_s50 (d + 3) law (me : Nat) ot ((f + l : Nat) : Int) ((f + k : Nat) : Int) U) (rI (holdsT (envD U0 me ot) (U0 15) f l) U') ∧ jk U0 U' := by
  intro m
  induction m with
  | zero =>
    intro k hk U t h1 h2 h3
    obtain rfl : k = l := by omega
    rcases wf_end he hw with q | q
    · rw [q] at h2
      obtain ⟨U', f1, f2, f3⟩ := ct_pop (N := N) (X := X) (d := d + 2) h2 (by simp)
      refine ⟨U', Jg_isTrue_r50 ⟨fun _ => ⟨_, _, f1, fun _ => ?_, fun h => absurd rfl h⟩, fun h => absurd h (by omega)⟩, jk_trans h1 f3⟩
      unfold holdsT
      rw [cb_f (by rw [q]; simp)]
    · rw [q] at h2
      obtain ⟨U', f1, f2, f3⟩ := ct_pop (N := N) (X := X) (d := d + 2) h2 (by simp)
      refine ⟨U', Jg_isTrue_r50 ⟨fun _ => ⟨_, _, f1, fun h => by simp at h, fun _ => ?_⟩, fun h => absurd h (by omega)⟩, jk_trans h1 f3⟩
      unfold holdsT
      rw [cb_t q]
  | succ m ih =>
    intro k hk U t h1 h2 h3
    obtain ⟨t2, e2⟩ := tyr_le hw (k + 1) (by omega)
    obtain ⟨t1, e3, e4, e5⟩ := tyr_succ e2
    rw [h3] at e3
    cases e3
    have r15 : U 15 = U0 15 := jk_row h1 (by decide) (by decide)
    have r3 : U 3 = U0 3 := jk_row h1 (by decide) (by decide)
    obtain ⟨U1, q1, q2, q3⟩ := isTrue_step (N := N) (X := X) (d := d) (law := law) (ot := ot) (to := ((f + l : Nat) : Int)) h2 (by rw [r15]; exact e4) (run_ok he h3) (tyr_len h3) (by omega) (by omega) hm (by rw [r3]; exact hh)
    rw [envD_jk h1, r15] at q1
    obtain ⟨U2, q4, q5⟩ := ih (k + 1) (by omega) U1 t2 (jk_trans h1 q2) q1 e2
    exact ⟨U2, q3 _ q4, q5⟩
/-- the class asks a test -/
theorem ct_isTrue {N : Nat} {X : Nat → Int} {d : Nat} {U : am_U} {law me f l : Nat} {ot : Int} (hw : wfT (U 15) f l) (he : ∀ c, isAsk c → vOk false (envD U me ot c)) (hf : f + l ≤ 1600) (hm : me < 16) (hh : U 3 1 ≤ 12) (hlaw : law ≤ 8) (h13 : U 13 law = (f : Nat)) (h14 : U 14 law = ((f + l : Nat) : Int)) : ∃ U', EvK N X (Jg_isTrue_s0 (d + 3) (law : Nat) (me : Nat) ot U) (rI (holdsT (envD U me ot) (U 15) f l) U') ∧ jk U U' := by
  have h1 : jk U (am_upd U 45 3 0) := fun r j a b => by
    by_cases e : r = 45
    · subst e; rw [upd_ne (b rfl)]
    · rw [upd_row e]
  obtain ⟨U', g1, g2⟩ := ct_isTrue_l (N := N) (X := X) (d := d) (law := (law : Nat)) (ot := ot) hw he hf hm hh l 0 (by omega) (am_upd U 45 3 0) [] h1 ⟨upd_at _ _ _ _, fun i v hv => by simp [run] at hv⟩ rfl
  refine ⟨U', Jg_isTrue_r0 ⟨fun h => absurd h (by omega), fun _ => ⟨fun _ => ⟨by omega, ?_⟩, fun h => absurd h (by omega)⟩⟩, g2⟩
  rw [Int.toNat_natCast, h13, h14, if_neg (by omega)]
  exact g1
/-- a test that isn't there -/
theorem ct_isTrue0 {N : Nat} {X : Nat → Int} {d : Nat} {U : am_U} {law me : Nat} {ot : Int} {f : Nat} (hlaw : law ≤ 8) (h13 : U 13 law = (f : Nat)) (h14 : U 14 law = (f : Nat)) (hf : f ≤ 1600) : ∃ U', EvK N X (Jg_isTrue_s0 (d + 1) (law : Nat) (me : Nat) ot U) (rI 0 U') ∧ jk U U' := by
  have h1 : jk U (am_upd U 45 3 0) := fun r j a b => by
    by_cases e : r = 45
    · subst e; rw [upd_ne (b rfl)]
    · rw [upd_row e]
  refine ⟨_, Jg_isTrue_r0 ⟨fun h => absurd h (by omega), fun _ => ⟨fun _ => ⟨by omega, ?_⟩, fun h => absurd h (by omega)⟩⟩, h1⟩
  rw [Int.toNat_natCast, h13, h14, if_neg (by omega)]
  exact Jg_isTrue_r50 ⟨fun _ => ⟨_, _, ct_pop0 ⟨upd_at _ _ _ _, fun i v hv => by simp at hv⟩, fun _ => rfl, fun h => absurd rfl h⟩, fun h => absurd h (by omega)⟩
