/-! breaches told by homes alone -/
def envS (U : am_U) (n : Nat) (hm : Nat → Int) (me : Nat) (ot : Int) (c : Int) : Int :=
  if c = -15 then U 17 me else if c = -16 then ot
  else if 0 ≤ hm me then (if c = -4 then U 8 (hm me).toNat else if c = -17 then ((fb_ct (fun p => hm p == hm me) n : Nat) : Int) else if c = -1 then U 6 (hm me).toNat else hm me)
  else (if c = -4 then 0 else if c = -17 then 0 else -1)
def hTS (U : am_U) (n : Nat) (hm : Nat → Int) (l me : Nat) (ot : Int) : Prop := run (envS U n hm me ot) (U 15) (U 13 l).toNat (U 14 l - U 13 l).toNat = [1]
def metS (U : am_U) (b nl n : Nat) (hm : Nat → Int) (kind : Int) (me i : Nat) : Prop := i < n ∧ 0 ≤ hm me ∧ ((kind = 10 ∧ i ≠ me ∧ hm i = hm me) ∨ (kind ≠ 10 ∧ 0 ≤ hm i ∧ nbU U b nl (hm me).toNat (hm i).toNat))
def brS (U : am_U) (b nl n : Nat) (hm : Nat → Int) (l me i : Nat) : Prop := (U 12 l = 8 ∧ i = 16 ∧ 0 ≤ hm me ∧ ¬ hTS U n hm l me 0) ∨ (U 12 l ≠ 8 ∧ metS U b nl n hm (U 12 l) me i ∧ ¬ hTS U n hm l me (U 17 i))
def inBS (U : am_U) (b nl nw n : Nat) (hm : Nat → Int) (p : Nat) : Prop := ∃ l, l < nw ∧ ((∃ i, i < 32 ∧ brS U b nl n hm l p i) ∨ ∃ me, me < n ∧ brS U b nl n hm l me p)
/-- what a test may look at, homes aside -/
def stq (U U' : am_U) : Prop := U' 17 = U 17 ∧ U' 8 = U 8 ∧ U' 6 = U 6 ∧ U' 12 = U 12 ∧ U' 13 = U 13 ∧ U' 14 = U 14 ∧ U' 15 = U 15 ∧ U' 95 = U 95 ∧ U' 96 = U 96
theorem envS_cg {U U' : am_U} (h : stq U U') (n : Nat) (hm : Nat → Int) (me : Nat) (ot : Int) : envS U' n hm me ot = envS U n hm me ot := by
  obtain ⟨h17, h8, h6, h12, h13, h14, h15, h95, h96⟩ := h
  funext c; unfold envS; rw [h17, h8, h6]
theorem hTS_cg {U U' : am_U} (h : stq U U') (n : Nat) (hm : Nat → Int) (l me : Nat) (ot : Int) : hTS U' n hm l me ot ↔ hTS U n hm l me ot := by
  have e := envS_cg h n hm me ot
  obtain ⟨h17, h8, h6, h12, h13, h14, h15, h95, h96⟩ := h
  unfold hTS; rw [e, h15, h13, h14]
theorem brS_cg {U U' : am_U} (h : stq U U') (b nl n : Nat) (hm : Nat → Int) (l me i : Nat) : brS U' b nl n hm l me i ↔ brS U b nl n hm l me i := by
  have e := hTS_cg h n hm l me
  obtain ⟨h17, h8, h6, h12, h13, h14, h15, h95, h96⟩ := h
  unfold brS metS nbU; rw [e, e, h12, h6, h95, h96, h17]
theorem inBS_cg {U U' : am_U} (h : stq U U') (b nl nw n : Nat) (hm : Nat → Int) (p : Nat) : inBS U' b nl nw n hm p ↔ inBS U b nl nw n hm p := by
  unfold inBS
  simp only [brS_cg h]
theorem stq_jk {U U' : am_U} (h : jk U U') : stq U U' := ⟨jk_row h (by decide) (by decide), jk_row h (by decide) (by decide), jk_row h (by decide) (by decide), jk_row h (by decide) (by decide), jk_row h (by decide) (by decide), jk_row h (by decide) (by decide), jk_row h (by decide) (by decide), jk_row h (by decide) (by decide), jk_row h (by decide) (by decide)⟩
theorem envD_S {U : am_U} {b ns nh nl nw nd cl n me : Nat} {ot : Int} (hc : jCtx U b ns nh nl nw nd cl n) (hm : me < n) : envD U me ot = envS U n (U 18) me ot := by
  obtain ⟨ht, h2, h3, h4, h5⟩ := hc
  obtain ⟨q1, q2, q3, q4⟩ := h4.1 me hm
  have hh := ht.2.2.1
  funext c
  unfold envD envS
  rw [hh.1]
  by_cases c0 : 0 ≤ U 18 me
  · rw [if_pos (c := 0 ≤ U 18 me ∧ U 18 me < (nh : Nat)) ⟨c0, q4⟩, if_pos c0]
    have e := dw_ct h5 h3 (h := (U 18 me).toNat) (by have := hh.2.2.1; omega)
    rw [e, show (((U 18 me).toNat : Nat) : Int) = U 18 me from by omega]
  · rw [if_neg (c := 0 ≤ U 18 me ∧ U 18 me < (nh : Nat)) (fun q => c0 q.1), if_neg c0]
theorem hT_S {U : am_U} {b ns nh nl nw nd cl n me : Nat} (hc : jCtx U b ns nh nl nw nd cl n) (hm : me < n) (l : Nat) (ot : Int) : hT U l me ot ↔ hTS U n (U 18) l me ot := by
  unfold hT hTS; rw [envD_S hc hm]
theorem brP_S {U : am_U} {b ns nh nl nw nd cl n me : Nat} (hc : jCtx U b ns nh nl nw nd cl n) (hm : me < n) (l i : Nat) : brP U b nl n l me i ↔ brS U b nl n (U 18) l me i := by
  unfold brP brS
  rw [hT_S hc hm, hT_S hc hm]
  rfl
theorem inB_S {U : am_U} {b ns nh nl nw nd cl n p : Nat} (hc : jCtx U b ns nh nl nw nd cl n) (hp : p < n) : inB U b nl nw n p ↔ inBS U b nl nw n (U 18) p := by
  unfold inB inBS
  constructor
  · rintro ⟨l, hl, h⟩
    refine ⟨l, hl, ?_⟩
    rcases h with ⟨i, a, q⟩ | ⟨me, a, q⟩
    · left; exact ⟨i, a, (brP_S hc hp l i).mp q⟩
    · right; exact ⟨me, a, (brP_S hc a l p).mp q⟩
  · rintro ⟨l, hl, h⟩
    refine ⟨l, hl, ?_⟩
    rcases h with ⟨i, a, q⟩ | ⟨me, a, q⟩
    · left; exact ⟨i, a, (brP_S hc hp l i).mpr q⟩
    · right; exact ⟨me, a, (brP_S hc a l p).mpr q⟩
/-- counts when one moves -/
theorem ct_move {hm : Nat → Int} {n p : Nat} (hp : p < n) (g x : Int) : (fb_ct (fun q => s1 hm p g q == x) n : Int) = fb_ct (fun q => hm q == x) n - (if hm p = x then 1 else 0) + (if g = x then 1 else 0) := by
  have h := fb_ct_upd (fun q => hm q == x) (g == x) hp
  have e : fb_ct (fun q => s1 hm p g q == x) n = fb_ct (fun k => if k = p then (g == x) else (hm k == x)) n := fb_ct_cong (fun k hk => by
    unfold s1
    by_cases c : k = p <;> simp [c])
  rw [e]
  simp only [beq_iff_eq] at h
  split at h <;> split at h <;> simp_all <;> omega
/-- the people with one moved: rooms are kept where there was one -/
theorem ppl_move {num hm rm : Nat → Int} {n nh p g : Nat} (hp : p < n) (hg : g < nh) (h : pplOk num hm rm n nh) (hr : ((fb_ct (fun q => hm q == (g : Nat)) n : Nat) : Int) < rm g) : pplOk num (s1 hm p (g : Nat)) rm n nh := by
  obtain ⟨h1, h2, h3⟩ := h
  refine ⟨fun q hq => ?_, h2, fun x hx => ?_⟩
  · obtain ⟨a1, a2, a3, a4⟩ := h1 q hq
    refine ⟨a1, a2, ?_⟩
    unfold s1
    split <;> omega
  · have := ct_move (hm := hm) hp (g : Nat) (x : Nat)
    have q := h3 x hx
    by_cases c : (g : Int) = (x : Nat)
    · have e : g = x := by omega
      subst e
      rw [if_pos rfl] at this
      split at this <;> omega
    · rw [if_neg c] at this
      split at this <;> omega
theorem ppl_out {num hm rm : Nat → Int} {n nh p : Nat} (hp : p < n) (h : pplOk num hm rm n nh) : pplOk num (s1 hm p (-1)) rm n nh := by
  obtain ⟨h1, h2, h3⟩ := h
  refine ⟨fun q hq => ?_, h2, fun x hx => ?_⟩
  · obtain ⟨a1, a2, a3, a4⟩ := h1 q hq
    refine ⟨a1, a2, ?_⟩
    unfold s1
    split <;> omega
  · have := ct_move (hm := hm) hp (-1) (x : Nat)
    have q := h3 x hx
    rw [if_neg (show ¬ (-1 : Int) = ((x : Nat) : Int) by omega)] at this
    split at this <;> omega
/-- rows the town stands on are those of before -/
theorem iTown_rows {U U' : am_U} {b ns nh nl nw nd cl : Nat} (h : ∀ r, r ≠ 18 → r ≠ 19 → U' r = U r) (hi : iTown U b ns nh nl nw nd cl) : iTown U' b ns nh nl nw nd cl := by
  unfold iTown cdOk at hi ⊢
  simp only [h 86 (by decide) (by decide), h 3 (by decide) (by decide), h 88 (by decide) (by decide), h 4 (by decide) (by decide), h 89 (by decide) (by decide), h 90 (by decide) (by decide), h 5 (by decide) (by decide), h 91 (by decide) (by decide), h 92 (by decide) (by decide), h 6 (by decide) (by decide), h 93 (by decide) (by decide), h 8 (by decide) (by decide), h 7 (by decide) (by decide), h 9 (by decide) (by decide), h 95 (by decide) (by decide), h 96 (by decide) (by decide), h 94 (by decide) (by decide), h 106 (by decide) (by decide), h 109 (by decide) (by decide), h 107 (by decide) (by decide), h 108 (by decide) (by decide), h 10 (by decide) (by decide), h 110 (by decide) (by decide), h 100 (by decide) (by decide), h 15 (by decide) (by decide), h 111 (by decide) (by decide), h 112 (by decide) (by decide), h 12 (by decide) (by decide), h 101 (by decide) (by decide), h 13 (by decide) (by decide), h 14 (by decide) (by decide), h 102 (by decide) (by decide), h 103 (by decide) (by decide), h 104 (by decide) (by decide), h 105 (by decide) (by decide)]
  exact hi
theorem stq_rows {U U' : am_U} (h : ∀ r, r ≠ 18 → r ≠ 19 → U' r = U r) : stq U U' := ⟨h _ (by decide) (by decide), h _ (by decide) (by decide), h _ (by decide) (by decide), h _ (by decide) (by decide), h _ (by decide) (by decide), h _ (by decide) (by decide), h _ (by decide) (by decide), h _ (by decide) (by decide), h _ (by decide) (by decide)⟩
/-- one may live in a house -/
def mayP (U : am_U) (b nl nw n : Nat) (hm : Nat → Int) (p g : Nat) : Prop := hm p ≠ (g : Nat) ∧ ((fb_ct (fun q => hm q == (g : Nat)) n : Nat) : Int) < U 8 g ∧ ¬ inBS U b nl nw n (s1 hm p (g : Nat)) p
theorem ct_mayLive {N : Nat} {X : Nat → Int} {d : Nat} {U : am_U} {b ns nh nl nw nd cl n p g : Nat} (hc : jCtx U b ns nh nl nw nd cl n) (hp : p < n) (hg : g < nh) : ∃ U', EvK N X (Jg_mayLive_s0 (d + 6) (p : Nat) (g : Nat) U) (rI (cb (mayP U b nl nw n (U 18) p g)) U') ∧ jk U U' := by
  have hc0 := hc
  obtain ⟨ht, h2, h3, h4, h5⟩ := hc
  obtain ⟨q1, q2, q3, q4⟩ := h4.1 p hp
  have hnh := ht.2.2.1.2.2.1
  have liv := dw_ct h5 h3 (h := g) (by omega)
  by_cases c0 : U 18 p = (g : Nat)
  · refine ⟨U, Jg_mayLive_r0 ⟨by omega, fun _ => ?_, fun h => absurd (by rw [Int.toNat_natCast]; exact c0) h⟩, jk_refl _⟩
    rw [cb_f (fun q => q.1 c0)]
  · by_cases c1 : ((fb_ct (fun q => U 18 q == (g : Nat)) n : Nat) : Int) < U 8 g
    · obtain ⟨U1, a1, a2, a3, a4, a5⟩ := ct_settle_16 (N := N) (X := X) (d := d + 5) (U := U) (n := n) (p := p) (hs := (g : Nat)) hp h3 (by omega) (by omega)
      have hc1 : jCtx U1 b ns nh nl nw nd cl n := by
        refine ⟨iTown_rows a5 ht, ?_, h3, ?_, a3 h5⟩
        · rw [a5 16 (by decide) (by decide)]; exact h2
        · rw [a5 17 (by decide) (by decide), a5 8 (by decide) (by decide), a2]
          exact ppl_move hp hg h4 c1
      obtain ⟨U2, b1, b2⟩ := ct_isInBreach (N := N) (X := X) (d := d) hc1 hp
      have hc2 := jCtx_jk b2 hc1
      have e18 : U2 18 = s1 (U 18) p (g : Nat) := by rw [jk_row b2 (r := 18) (by decide) (by decide)]; exact a2
      obtain ⟨U3, d1, d2, d3, d4, d5⟩ := ct_settle_16 (N := N) (X := X) (d := d + 5) (U := U2) (n := n) (p := p) (hs := U 18 p) hp h3 (by omega) (by rw [e18, s1_at]; omega)
      have f18 : U3 18 = U 18 := by rw [d2, e18, s1_twice, s1_same rfl]
      have f19 : U3 19 = U 19 := by
        funext j
        rcases Nat.lt_or_ge j 12 with q | q
        · have := d3 hc2.2.2.2.2
          rw [f18] at this
          exact dw_one this h5 q
        · rw [d4 j q, jk_row b2 (r := 19) (by decide) (by decide), a4 j q]
      have hj : jk U U3 := by
        intro r j e1 e2
        by_cases r18 : r = 18
        · rw [r18, f18]
        · by_cases r19 : r = 19
          · rw [r19, f19]
          · rw [d5 r r18 r19, b2 r j e1 e2, a5 r r18 r19]
      have key : inB U1 b nl nw n p ↔ inBS U b nl nw n (s1 (U 18) p (g : Nat)) p := by
        rw [inB_S hc1 hp, a2, inBS_cg (stq_rows a5)]
      refine ⟨U3, Jg_mayLive_r0 ⟨by omega, fun h => absurd (by rw [Int.toNat_natCast] at h; exact h) c0, fun _ => ⟨_, _, ct_Fk_living_16 g (by omega), by omega, fun _ => ⟨U1, a1, _, U2, b1, U3, ?_, ?_⟩, fun h => absurd h ?_⟩⟩, hj⟩
      · rw [Int.toNat_natCast]; exact d1
      · by_cases z : inB U1 b nl nw n p
        · refine ⟨fun _ => ?_, fun h => absurd z (cb_eq.mp h)⟩
          rw [cb_f (fun q => q.2.2 (key.mp z))]
        · refine ⟨fun h => absurd (cb_ne.mp h) z, fun _ => ?_⟩
          rw [cb_t ⟨c0, c1, fun q => z (key.mpr q)⟩]
      · rw [Int.toNat_natCast, liv]; omega
    · refine ⟨U, Jg_mayLive_r0 ⟨by omega, fun h => absurd (by rw [Int.toNat_natCast] at h; exact h) c0, fun _ => ⟨_, _, ct_Fk_living_16 g (by omega), by omega, fun h => absurd h ?_, fun _ => ?_⟩⟩, jk_refl _⟩
      · rw [Int.toNat_natCast, liv]; omega
      · rw [cb_f (fun q => c1 q.2.1)]
