/-! people told: what is counted -/
/-- one person more -/
def ppW (W : am_U) (b n : Nat) (v hm : Int) : am_U := am_upd (am_upd (am_upd (am_upd (am_upd (am_upd W 17 n v) 18 n hm) 16 0 ((n + 1 : Nat) : Int)) 98 (16 * b + n) v) 99 (16 * b + n) hm) 97 b ((n + 1 : Nat) : Int)
def lvg (W : am_U) (n h : Nat) : Nat := fb_ct (fun p => W 18 p == (h : Nat)) n
theorem upd_2 (U : am_U) (r j : Nat) (x y : Int) : am_upd (am_upd U r j x) r j y = am_upd U r j y := by
  funext q i
  unfold am_upd
  by_cases c : q = r ∧ i = j
  · rw [if_pos c, if_pos c]
  · rw [if_neg c, if_neg c, if_neg c]
section PPL
variable {N : Nat} {X : Nat → Int} {T : Nat → Int} {L K : Nat} {kk vv : Nat → Int} {bp : Int} {i d b ns nh nl nw nd cl n : Nat} {U V W : am_U}
theorem tk_nu9 (hk : tkS T L K kk vv bp) (hi : i ≤ K) (h3 : kk i = 3) : 0 ≤ vv i ∧ vv i ≤ 999999999 := by
  rcases hk.2.2.2.1 i hi with ⟨_, c⟩ | ⟨c1, c2, len, c3, c4, c5, c6⟩ | ⟨c1, c2, len, c3, c4, c5, c6⟩ | ⟨c1, c2, c3, c4⟩
  · omega
  · rcases c6 with ⟨y1, _⟩ | ⟨_, _, y3⟩
    · omega
    · rcases y3 with ⟨x1, _⟩ | ⟨x1, _⟩ <;> omega
  · rcases c6 with ⟨y1, _⟩ | ⟨_, y2, _, y4⟩
    · omega
    · have vl := v10_lt c5
      have vl2 : v10 T (tkA T L (enS T L i)) len < 1000000000 := Nat.lt_of_lt_of_le vl (Nat.le_trans (Nat.pow_le_pow_right (by decide) y2) (by decide))
      omega
  · rcases c4 with ⟨y1, _⟩ | ⟨y1, _⟩ <;> omega
theorem pp_n (h : cW U W) (hP : gPp W b nh n) : U 21 0 = (n : Nat) ∧ DwOk n (U 23) (U 24) := by
  obtain ⟨h1, h2, ⟨h3, h4, h5⟩, n0, h6, h7⟩ := h
  have e : n0 = n := by have := hP.1; omega
  rw [e] at h7
  exact ⟨by rw [h3]; exact hP.1, h7⟩
theorem ct_fullHouses (hU : cW U W) (hH : gHs W b ns nh nl) (hP : gPp W b nh n) : ∃ m, EvK N X (Rd_fullHouses_s0 (d + 2) U) (rI m U) ∧ ∀ h, h < 32 → tb m h = decide (h < nh ∧ W 8 h ≤ (lvg W n h : Nat)) := by
  obtain ⟨p1, p2⟩ := pp_n hU hP
  have e31 : U 31 1 = (nh : Nat) := by rw [hU.1 31 (by decide) (by decide) (by decide)]; exact hH.1
  have hnh := hH.2.2.1
  have liv : ∀ h, h < 12 → EvK N X (Fk_living_21_s0 (d + 1) (h : Nat) U) (rI ((lvg W n h : Nat) : Int) U) := fun h hh => by
    have := ct_Fk_living_21 (N := N) (X := X) (d := d) (U := U) h hh
    rw [dw_ct p2 hP.2.2.1 hh, hU.2.2.1.2.2] at this; exact this
  have goA : ∀ t q : Nat, q + t = nh → ∀ m0 : Int, (∀ h, h < 32 → tb m0 h = decide (h < q ∧ W 8 h ≤ (lvg W n h : Nat))) → ∃ m, EvK N X (Rd_fullHouses_s4 (d + 2) m0 (q : Nat) U) (rI m U) ∧ ∀ h, h < 32 → tb m h = decide (h < nh ∧ W 8 h ≤ (lvg W n h : Nat)) := by
    intro t
    induction t with
    | zero =>
      intro q hq m0 hm
      obtain rfl : q = nh := by omega
      refine ⟨m0, Rd_fullHouses_r4 ?_, hm⟩
      rw [e31]
      exact ⟨fun _ => rfl, fun z => absurd z (by omega)⟩
    | succ t ih =>
      intro q hq m0 hm
      have e36 : U 36 q = W 8 q := by rw [hU.1 36 (by decide) (by decide) (by decide)]
      by_cases c : W 8 q ≤ (lvg W n q : Nat)
      · obtain ⟨m, k1, k2⟩ := ih (q + 1) (by omega) (am_or m0 (am_shl 1 ((q : Nat) : Int))) (fun h hh => by
          rw [tb_or, hm h hh, tb_bit (by omega) hh]
          by_cases e : h = q
          · rw [e]; simp [c]
          · simp only [e, decide_false, Bool.or_false]
            apply decide_eq_decide.mpr
            omega)
        refine ⟨m, Rd_fullHouses_r4 ?_, k2⟩
        rw [e31]
        refine ⟨fun z => absurd z (by omega), fun _ => ⟨_, U, liv q (by omega), by omega, ?_⟩⟩
        rw [Int.toNat_natCast, e36, w32_succ (i := q) (by omega)]
        exact ⟨fun z => absurd z (by omega), fun _ => k1⟩
      · obtain ⟨m, k1, k2⟩ := ih (q + 1) (by omega) m0 (fun h hh => by
          rw [hm h hh]
          apply decide_eq_decide.mpr
          constructor
          · rintro ⟨z1, z2⟩; exact ⟨by omega, z2⟩
          · rintro ⟨z1, z2⟩
            refine ⟨?_, z2⟩
            by_cases e : h = q
            · rw [e] at z2; exact absurd z2 c
            · omega)
        refine ⟨m, Rd_fullHouses_r4 ?_, k2⟩
        rw [e31]
        refine ⟨fun z => absurd z (by omega), fun _ => ⟨_, U, liv q (by omega), by omega, ?_⟩⟩
        rw [Int.toNat_natCast, e36, w32_succ (i := q) (by omega)]
        exact ⟨fun _ => k1, fun z => absurd z c⟩
  obtain ⟨m, k1, k2⟩ := goA nh 0 (by omega) 0 (fun h hh => by rw [tb_0, decide_eq_false (by omega)])
  exact ⟨m, Rd_fullHouses_r0 k1, k2⟩
theorem ct_livingTold (h40 : V 86 40 = (b : Nat)) (hb : b < 2) (h97 : V 97 b = (n : Nat)) (hn : n ≤ 16) (h : Int) : EvK N X (M_livingTold_s0 d h V) (rI ((fb_ct (fun p => V 99 (16 * b + p) == h) n : Nat) : Int) V) := by
  have goA : ∀ m q : Nat, q + m = n → EvK N X (M_livingTold_s4 d h ((fb_ct (fun p => V 99 (16 * b + p) == h) q : Nat) : Int) (q : Nat) V) (rI ((fb_ct (fun p => V 99 (16 * b + p) == h) n : Nat) : Int) V) := by
    intro m
    induction m with
    | zero =>
      intro q hq
      obtain rfl : q = n := by omega
      refine M_livingTold_r4 ?_
      rw [h40, Int.toNat_natCast, h97]
      exact ⟨by omega, fun _ => rfl, fun z => absurd z (by omega)⟩
    | succ m ih =>
      intro q hq
      have le := fb_ct_le (fun p => V 99 (16 * b + p) == h) q
      have sc := fb_ct_succ (fun p => V 99 (16 * b + p) == h) q
      have k1 := ih (q + 1) (by omega)
      have x0 : eqI (w32 (w32 (16 * ((b : Nat) : Int)) + ((q : Nat) : Int))) ((16 * b + q : Nat) : Int) := by show _ = _; rw [w32_eq (x := 16 * ((b : Nat) : Int)) (by omega) (by omega), w32_eq (by omega) (by omega)]; omega
      refine M_livingTold_r4 ?_
      rw [h40, Int.toNat_natCast, h97, eqI_o x0, Int.toNat_natCast, w32_succ (i := q) (by omega)]
      refine ⟨by omega, fun z => absurd z (by omega), fun _ => ⟨by omega, fun z => ?_, fun z => ?_⟩⟩
      · rw [if_neg (by simpa using z)] at sc
        rw [sc] at k1
        rw [w32_0 (by omega) (by omega)]; exact k1
      · rw [if_pos (by simpa using z)] at sc
        rw [sc] at k1
        rw [w32_succ (by omega)]; exact k1
  exact M_livingTold_r0 (goA n 0 (by omega))
/-- whether a number can be told -/
def goodN (W : am_U) (n : Nat) (v : Int) : Prop := v ≠ 0 ∧ ∀ j, j < n → W 17 j ≠ v
theorem s153_go {x1 x2 x3 v : Int} (h40 : V 86 40 = (b : Nat)) (hb : b < 2) (h97 : V 97 b = (n : Nat)) (hn : n ≤ 16) : ∀ m q : Nat, q + m = n → ∀ f : Int, (f = 0 ∨ f = 1) → (f = 0 ↔ (v ≠ 0 ∧ ∀ j, j < q → V 98 (16 * b + j) ≠ v)) → ∃ F : Int, (F = 0 ∨ F = 1) ∧ (F = 0 ↔ (v ≠ 0 ∧ ∀ j, j < n → V 98 (16 * b + j) ≠ v)) ∧ ∀ R, EvK N X (M_numbering_s153 (d + 1) x1 x2 x3 v F (n : Nat) V) R → EvK N X (M_numbering_s153 (d + 1) x1 x2 x3 v f (q : Nat) V) R := by
  intro m
  induction m with
  | zero =>
    intro q hq f hf hg
    obtain rfl : q = n := by omega
    exact ⟨f, hf, hg, fun R hR => hR⟩
  | succ m ih =>
    intro q hq f hf hg
    have x0 : eqI (w32 (w32 (16 * ((b : Nat) : Int)) + ((q : Nat) : Int))) ((16 * b + q : Nat) : Int) := by show _ = _; rw [w32_eq (x := 16 * ((b : Nat) : Int)) (by omega) (by omega), w32_eq (by omega) (by omega)]; omega
    by_cases c : f = 0
    · have g := hg.mp c
      by_cases e : V 98 (16 * b + q) = v
      · obtain ⟨F, a1, a2, a3⟩ := ih (q + 1) (by omega) 1 (Or.inr rfl) ⟨fun z => absurd z (by decide), fun z => absurd e (z.2 q (by omega))⟩
        refine ⟨F, a1, a2, fun R hR => M_numbering_r153 ?_⟩
        rw [h40, Int.toNat_natCast, h97, eqI_o x0, Int.toNat_natCast, w32_succ (i := q) (by omega)]
        exact ⟨by omega, fun z => absurd z (by omega), fun _ => ⟨fun z => absurd c z, fun _ => ⟨by omega, fun z => absurd e z, fun _ => a3 R hR⟩⟩⟩
      · obtain ⟨F, a1, a2, a3⟩ := ih (q + 1) (by omega) 0 (Or.inl rfl) ⟨fun _ => ⟨g.1, fun j hj => by
          by_cases z : j = q
          · rw [z]; exact e
          · exact g.2 j (by omega)⟩, fun _ => rfl⟩
        refine ⟨F, a1, a2, fun R hR => M_numbering_r153 ?_⟩
        rw [h40, Int.toNat_natCast, h97, eqI_o x0, Int.toNat_natCast, w32_succ (i := q) (by omega)]
        exact ⟨by omega, fun z => absurd z (by omega), fun _ => ⟨fun z => absurd c z, fun _ => ⟨by omega, fun _ => a3 R hR, fun z => absurd z e⟩⟩⟩
    · obtain ⟨F, a1, a2, a3⟩ := ih (q + 1) (by omega) 1 (Or.inr rfl) ⟨fun z => absurd z (by decide), fun z => absurd (hg.mpr ⟨z.1, fun j hj => z.2 j (by omega)⟩) c⟩
      refine ⟨F, a1, a2, fun R hR => M_numbering_r153 ?_⟩
      rw [h40, Int.toNat_natCast, h97, w32_succ (i := q) (by omega)]
      exact ⟨by omega, fun z => absurd z (by omega), fun _ => ⟨fun _ => a3 R hR, fun z => absurd z c⟩⟩
/-- the class keeps one more -/
theorem ct_add21W {v hm : Int} (hU : cW U W) (hP : gPp W b nh n) (hn : n < 16) (hh : -1 ≤ hm ∧ hm < 12) : ∃ U', EvK N X (Fk_add_21_s0 (d + 1) v hm U) (rV U') ∧ cW U' (ppW W b n v hm) ∧ ∀ r, ¬ (21 ≤ r ∧ r ≤ 25) → U' r = U r := by
  obtain ⟨p1, p2⟩ := pp_n hU hP
  obtain ⟨U', k1, k2, k3, k4, k5, -, k6⟩ := ct_add_21 (N := N) (X := X) (d := d) (U := U) (v := v) (hs := hm) p1 hn hh
  have kr : ∀ r, ¬ (21 ≤ r ∧ r ≤ 25) → U' r = U r := fun r hr => k6 r (by omega) (by omega) (by omega) (by omega) (by omega)
  obtain ⟨h1, h2, ⟨h3, h4, h5⟩, -⟩ := hU
  have wr : ∀ r, ¬ (16 ≤ r ∧ r ≤ 18) → ¬ (97 ≤ r ∧ r ≤ 99) → ppW W b n v hm r = W r := fun r q1 q2 => by
    unfold ppW
    rw [upd_row (by omega), upd_row (by omega), upd_row (by omega), upd_row (by omega), upd_row (by omega), upd_row (by omega)]
  have w16 : ppW W b n v hm 16 = s1 (W 16) 0 ((n + 1 : Nat) : Int) := by
    unfold ppW
    rw [upd_row (by decide), upd_row (by decide), upd_row (by decide), upd_s1, upd_row (by decide), upd_row (by decide)]
  have w17 : ppW W b n v hm 17 = s1 (W 17) n v := by
    unfold ppW
    rw [upd_row (by decide), upd_row (by decide), upd_row (by decide), upd_row (by decide), upd_row (by decide), upd_s1]
  have w18 : ppW W b n v hm 18 = s1 (W 18) n hm := by
    unfold ppW
    rw [upd_row (by decide), upd_row (by decide), upd_row (by decide), upd_row (by decide), upd_s1, upd_row (by decide)]
  refine ⟨U', k1, ⟨fun r a1 a2 a3 => by rw [kr r (by omega), wr (r - 28) (by omega) (by omega)]; exact h1 r a1 a2 a3, ?_, ⟨?_, ?_, ?_⟩, n + 1, ?_, k5 p2⟩, kr⟩
  · rw [wr 3 (by omega) (by omega), wr 15 (by omega) (by omega), kr 43 (by omega)]; exact h2
  · rw [k2, w16, h3]
  · rw [k3, w17, h4]
  · rw [k4, w18, h5]
  · rw [w16, s1_at]
theorem ppW_row {v hm : Int} {r : Nat} (q1 : ¬ (16 ≤ r ∧ r ≤ 18)) (q2 : ¬ (97 ≤ r ∧ r ≤ 99)) : ppW W b n v hm r = W r := by
  unfold ppW
  rw [upd_row (by omega), upd_row (by omega), upd_row (by omega), upd_row (by omega), upd_row (by omega), upd_row (by omega)]
theorem gIn_pp {v hm : Int} (hG : gIn W b ns nh nl nw nd cl n) (hn : n < 16) (hg : goodN W n v) (hv : -999999999 ≤ v ∧ v ≤ 999999999) (hh : -1 ≤ hm ∧ hm < (nh : Nat)) (hl : ∀ h : Nat, hm = (h : Nat) → ((lvg W n h : Nat) : Int) < W 8 h) : gIn (ppW W b n v hm) b ns nh nl nw nd cl (n + 1) := by
  obtain ⟨hb, h18, hS, hH, hL, hD, hF, hLw, hWd, hP⟩ := hG
  have wr : ∀ r, ¬ (16 ≤ r ∧ r ≤ 18) → ¬ (97 ≤ r ∧ r ≤ 99) → ppW W b n v hm r = W r := fun r q1 q2 => ppW_row q1 q2
  have w3 : ppW W b n v hm 3 = W 3 := wr 3 (by omega) (by omega)
  refine ⟨hb, by rw [w3]; exact h18, gSt_k hS (by rw [w3]) (fun r hr => wr r (by omega) (by omega)), gHs_k hH (Nat.le_refl _) (by rw [w3]) (fun r hr => wr r (by omega) (by omega)), gLn_k hL (Nat.le_refl _) (by rw [w3]) (fun r hr => wr r (by omega) (by omega)), gDb_k hD (by rw [w3]) (fun r hr => wr r (by omega) (by omega)), gFr_k hF (by rw [w3]) (wr 110 (by omega) (by omega)), gLw_k hLw (by rw [w3]) (fun r hr => wr r (by omega) (by omega)), gWd_k hWd (fun r hr => wr r (by omega) (by omega)), ?_⟩
  have w16 : ppW W b n v hm 16 = s1 (W 16) 0 ((n + 1 : Nat) : Int) := by
    unfold ppW
    rw [upd_row (by decide), upd_row (by decide), upd_row (by decide), upd_s1, upd_row (by decide), upd_row (by decide)]
  have w17 : ppW W b n v hm 17 = s1 (W 17) n v := by
    unfold ppW
    rw [upd_row (by decide), upd_row (by decide), upd_row (by decide), upd_row (by decide), upd_row (by decide), upd_s1]
  have w18 : ppW W b n v hm 18 = s1 (W 18) n hm := by
    unfold ppW
    rw [upd_row (by decide), upd_row (by decide), upd_row (by decide), upd_row (by decide), upd_s1, upd_row (by decide)]
  have w98 : ∀ p, ppW W b n v hm 98 (16 * b + p) = if p = n then v else W 98 (16 * b + p) := fun p => by
    unfold ppW
    rw [upd_row (by decide), upd_row (by decide), upd_if, upd_row (by decide), upd_row (by decide), upd_row (by decide)]
    by_cases c : p = n
    · rw [if_pos c, if_pos (by omega)]
    · rw [if_neg c, if_neg (by omega)]
  have w99 : ∀ p, ppW W b n v hm 99 (16 * b + p) = if p = n then hm else W 99 (16 * b + p) := fun p => by
    unfold ppW
    rw [upd_row (by decide), upd_if, upd_row (by decide), upd_row (by decide), upd_row (by decide), upd_row (by decide)]
    by_cases c : p = n
    · rw [if_pos c, if_pos (by omega)]
    · rw [if_neg c, if_neg (by omega)]
  have w97 : ppW W b n v hm 97 b = ((n + 1 : Nat) : Int) := by unfold ppW; exact upd_at _ _ _ _
  obtain ⟨a1, a2, a3, a4, a5, a6, a7⟩ := hP
  refine ⟨by rw [w16, s1_at], w97, by omega, fun p hp => ?_, ?_, by rw [w16, s1_ne (by decide)]; exact a6, by rw [w16, s1_ne (by decide)]; exact a7⟩
  · rw [w98, w99, w17, w18]
    by_cases c : p = n
    · rw [if_pos c, if_pos c, c, s1_at, s1_at]; exact ⟨rfl, rfl⟩
    · rw [if_neg c, if_neg c, s1_ne c, s1_ne c]; exact a4 p (by omega)
  · rw [w17, w18, wr 8 (by omega) (by omega)]
    have cg : pplOk (s1 (W 17) n v) (s1 (W 18) n hm) (W 8) n nh := pplOk_cg (fun p hp => by rw [s1_ne (by omega), s1_ne (by omega)]; exact ⟨rfl, rfl⟩) rfl a5
    obtain ⟨c1, c2, c3⟩ := cg
    refine ⟨fun p hp => ?_, fun p q hpq hq => ?_, fun h hh' => ?_⟩
    · by_cases c : p = n
      · rw [c, s1_at, s1_at]; exact ⟨hg.1, hv, hh⟩
      · exact c1 p (by omega)
    · by_cases c : q = n
      · rw [c, s1_at, s1_ne (by omega)]; exact hg.2 p (by omega)
      · exact c2 p q hpq (by omega)
    · rw [fb_ct_succ]
      have := c3 h hh'
      by_cases c : hm = (h : Nat)
      · rw [if_pos (by rw [s1_at]; simpa using c)]
        have q := hl h c
        have e : fb_ct (fun p => s1 (W 18) n hm p == ((h : Nat) : Int)) n = lvg W n h := fb_ct_cong (fun p hp => by rw [s1_ne (by omega)])
        rw [e]; omega
      · rw [if_neg (by rw [s1_at]; simpa using c)]; exact this
end PPL
