/-! the row of words, numbers and signs: both sides read it -/
def tkS (T : Nat → Int) (L K : Nat) (kk vv : Nat → Int) (bp : Int) : Prop := L ≤ 1600 ∧ K ≤ L ∧ (∀ j, j < L → 0 ≤ T j ∧ T j ≤ 255) ∧ (∀ j, j ≤ K → cTok T L (enS T L j) (kk j) (vv j) bp) ∧ (∀ j, j < K → 1 ≤ kk j ∧ kk j ≤ 4 ∧ plS1 T L j < L) ∧ (kk K = 0 ∨ kk K = 5)
/-- where a fault of the i-th is told -/
def fpl (T : Nat → Int) (L : Nat) (kk : Nat → Int) (bp : Int) (i : Nat) : Int := if kk i = 5 then bp else (plS1 T L i : Nat)
/-- the class stands at the i-th -/
def cS (U : am_U) (T : Nat → Int) (L K : Nat) (kk vv : Nat → Int) (bp : Int) (i : Nat) : Prop := (∀ j, j ≤ K → tK U j = kk j ∧ tV U j = vv j ∧ tP U j = (plS1 T L j : Nat) ∧ tokB U j) ∧ U 27 2 = bp ∧ (((K + 1 : Nat) : Int) ≤ U 27 1 ∧ U 27 1 ≤ 1601 ∧ U 26 4 = 0 ∧ U 26 5 = -1) ∧ i ≤ K ∧ U 26 6 = (i : Nat) ∧ U 26 7 = kk i ∧ U 26 8 = vv i ∧ U 26 9 = (plS1 T L i : Nat)
/-- what reading a test may change in the class -/
def fE (U U' : am_U) : Prop := ∀ r j, ¬ (r = 26 ∧ 4 ≤ j ∧ j ≤ 9) → r ≠ 43 → ¬ (r = 31 ∧ j = 18) → U' r j = U r j
theorem fE_refl (U : am_U) : fE U U := fun _ _ _ _ _ => rfl
theorem fE_trans {U U1 U2 : am_U} (h1 : fE U U1) (h2 : fE U1 U2) : fE U U2 := fun r j a b c => by rw [h2 r j a b c, h1 r j a b c]
theorem fE_row {U U' : am_U} (h : fE U U') {r : Nat} (h1 : r ≠ 26) (h2 : r ≠ 43) (h3 : r ≠ 31) : U' r = U r := funext fun j => h r j (fun z => h1 z.1) h2 (fun z => h3 z.1)
def fN (U U' : am_U) : Prop := ∀ r j, ¬ (r = 26 ∧ 4 ≤ j ∧ j ≤ 9) → U' r j = U r j
theorem fE_fN {U U' : am_U} (h : fN U U') : fE U U' := fun r j a _ _ => h r j a
theorem fN_upd {U V : am_U} {j : Nat} {x : Int} (hj : 4 ≤ j ∧ j ≤ 9) (h : fN U V) : fN U (am_upd V 26 j x) := fun r i q => by
  by_cases c : r = 26
  · subst c
    rw [upd_ne (fun e => q ⟨rfl, by omega⟩)]; exact h 26 i q
  · rw [upd_row c]; exact h r i q
section TOK
variable {N : Nat} {X : Nat → Int} {d L K i : Nat} {T kk vv : Nat → Int} {bp : Int} {U V : am_U}
theorem ct_next1 {n : Nat} (hn : w32 (U 26 6 + 1) = (n : Nat)) (h : ((n : Nat) : Int) < U 27 1) (hn2 : n < 1601) (hb : tokB U n) : EvK N X (Rd_next_s0 (d + 1) U) (rV (am_upd (am_upd (am_upd (am_upd U 26 6 (n : Nat)) 26 7 (tK U n)) 26 8 (tV U n)) 26 9 (tP U n))) := by
  obtain ⟨a1, a2, a3, a4⟩ := t_cg (U := U) (U' := am_upd U 26 6 (n : Nat)) (upd_row (by decide))
  obtain ⟨b1, b2, b3, b4⟩ := t_cg (U := U) (U' := am_upd (am_upd U 26 6 (n : Nat)) 26 7 (tK U n)) (by rw [upd_row (by decide), upd_row (by decide)])
  obtain ⟨c1, c2, c3, c4⟩ := t_cg (U := U) (U' := am_upd (am_upd (am_upd U 26 6 (n : Nat)) 26 7 (tK U n)) 26 8 (tV U n)) (by rw [upd_row (by decide), upd_row (by decide), upd_row (by decide)])
  have k1 := ct_kindOf (N := N) (X := X) (d := d) (i := n) (U := am_upd U 26 6 (n : Nat)) hn2 (by rw [upd_row (by decide)]; exact h) (by rw [a4]; exact hb)
  have k2 := ct_valueOf (N := N) (X := X) (d := d) (i := n) (U := am_upd (am_upd U 26 6 (n : Nat)) 26 7 (tK U n)) hn2 (by rw [upd_row (by decide), upd_row (by decide)]; exact h) (by rw [b4]; exact hb)
  have k3 := ct_placeOf (N := N) (X := X) (d := d) (i := n) (U := am_upd (am_upd (am_upd U 26 6 (n : Nat)) 26 7 (tK U n)) 26 8 (tV U n)) hn2 (by rw [upd_row (by decide), upd_row (by decide), upd_row (by decide)]; exact h) (by rw [c4]; exact hb)
  rw [a1] at k1
  rw [b2] at k2
  rw [c3] at k3
  have e1 : am_upd U 26 6 (n : Nat) 26 6 = (n : Nat) := upd_at _ _ _ _
  have e2 : am_upd (am_upd U 26 6 (n : Nat)) 26 7 (tK U n) 26 6 = (n : Nat) := by rw [upd_ne (by decide), upd_at]
  refine Rd_next_r0 ?_
  rw [hn]
  refine ⟨fun z => absurd z (by omega), fun _ => ⟨_, _, k1, ?_⟩⟩
  rw [e1]
  refine ⟨_, _, k2, ?_⟩
  rw [e2]
  exact ⟨_, _, k3, rfl⟩
theorem ct_Rd_next (hd : 1 ≤ d) (hK : K ≤ 1600) (hc : cS U T L K kk vv bp i) (hi : i < K) : ∃ U', EvK N X (Rd_next_s0 d U) (rV U') ∧ fN U U' ∧ cS U' T L K kk vv bp (i + 1) := by
  obtain ⟨d, rfl⟩ : ∃ d', d = d' + 1 := ⟨d - 1, by omega⟩
  obtain ⟨c1, c2, c3, c4, c5, c6, c7, c8⟩ := hc
  have f : fN U (am_upd (am_upd (am_upd (am_upd U 26 6 ((i + 1 : Nat) : Int)) 26 7 (kk (i + 1))) 26 8 (vv (i + 1))) 26 9 (plS1 T L (i + 1) : Nat)) := fN_upd (by omega) (fN_upd (by omega) (fN_upd (by omega) (fN_upd (by omega) (fun _ _ _ => rfl))))
  obtain ⟨g1, g2, g3, g4⟩ := c1 (i + 1) (by omega)
  have n1 := ct_next1 (N := N) (X := X) (d := d) (U := U) (n := i + 1) (by rw [c5, w32_succ (i := i) (by omega)]) (by omega) (by omega) g4
  rw [g1, g2, g3] at n1
  obtain ⟨t1, t2, t3, t4⟩ := t_cg (funext fun j => f 28 j (by omega))
  refine ⟨_, n1, f, fun j hj => ?_, ?_, ?_, by omega, ?_, ?_, ?_, upd_at _ _ _ _⟩
  · rw [t1, t2, t3, t4]; exact c1 j hj
  · rw [f 27 2 (by omega)]; exact c2
  · rw [f 27 1 (by omega), upd_ne (show (4 : Nat) ≠ 9 by decide), upd_ne (show (4 : Nat) ≠ 8 by decide), upd_ne (show (4 : Nat) ≠ 7 by decide), upd_ne (show (4 : Nat) ≠ 6 by decide), upd_ne (show (5 : Nat) ≠ 9 by decide), upd_ne (show (5 : Nat) ≠ 8 by decide), upd_ne (show (5 : Nat) ≠ 7 by decide), upd_ne (show (5 : Nat) ≠ 6 by decide)]; exact c3
  · rw [upd_ne (by decide), upd_ne (by decide), upd_ne (by decide), upd_at]
  · rw [upd_ne (by decide), upd_ne (by decide), upd_at]
  · rw [upd_ne (by decide), upd_at]
theorem ct_Rd_isOwn (hc : cS U T L K kk vv bp i) (w : Int) : EvK N X (Rd_isOwn_s0 d w U) (rI (b2i (kk i = 1 ∧ vv i = w)) U) := by
  refine Rd_isOwn_r0 ?_
  rw [hc.2.2.2.2.2.1, hc.2.2.2.2.2.2.1]
  refine ⟨fun z => by rw [b2i_f (fun y => z y.1)], fun z => ⟨fun y => by rw [b2i_f (fun x => y x.2)], fun y => by rw [b2i_t ⟨z, y⟩]⟩⟩
theorem ct_Rd_isSign (hc : cS U T L K kk vv bp i) (c : Int) : EvK N X (Rd_isSign_s0 d c U) (rI (b2i (kk i = 4 ∧ vv i = c)) U) := by
  refine Rd_isSign_r0 ?_
  rw [hc.2.2.2.2.2.1, hc.2.2.2.2.2.2.1]
  refine ⟨fun z => by rw [b2i_f (fun y => z y.1)], fun z => ⟨fun y => by rw [b2i_f (fun x => y x.2)], fun y => by rw [b2i_t ⟨z, y⟩]⟩⟩
theorem ct_refuseHere (hc : cS U T L K kk vv bp i) : ∃ U', EvK N X (Rd_refuseHere_s0 d U) (rI 0 U') ∧ fN U U' ∧ U' 26 4 = 1 ∧ U' 26 5 = fpl T L kk bp i := by
  refine ⟨am_upd (am_upd U 26 4 1) 26 5 (fpl T L kk bp i), Rd_refuseHere_r0 ?_, fN_upd (by omega) (fN_upd (by omega) (fun _ _ _ => rfl)), by rw [upd_ne (by decide), upd_at], upd_at _ _ _ _⟩
  rw [hc.2.2.2.2.2.1, hc.2.1, hc.2.2.2.2.2.2.2]
  unfold fpl
  exact ⟨fun z => by rw [if_neg z], fun z => by rw [if_pos z]⟩
theorem ct_refuseFor (k p : Int) : ∃ U', EvK N X (Rd_refuseFor_s0 d k p U) (rI 0 U') ∧ fN U U' ∧ U' 26 4 = k ∧ U' 26 5 = p :=
  ⟨_, Rd_refuseFor_r0 rfl, fN_upd (by omega) (fN_upd (by omega) (fun _ _ _ => rfl)), by rw [upd_ne (by decide), upd_at], upd_at _ _ _ _⟩
/-- so many codes more -/
def emW (U U' : am_U) (cl : Nat) (ds : List Int) : Prop := U' 31 18 = ((cl + ds.length : Nat) : Int) ∧ (∀ j, j < cl → U' 43 j = U 43 j) ∧ ∀ k c, ds[k]? = some c → U' 43 (cl + k) = c
theorem emW_nil {cl : Nat} (h : U 31 18 = (cl : Nat)) : emW U U cl [] := ⟨by rw [h]; rfl, fun _ _ => rfl, fun k c h => by simp at h⟩
theorem emW_fN {U' : am_U} {cl : Nat} (h : U 31 18 = (cl : Nat)) (f : fN U U') : emW U U' cl [] := by
  refine ⟨by rw [f 31 18 (by omega), h]; rfl, fun j _ => f 43 j (by omega), fun k c h => by simp at h⟩
theorem emW_app {U1 U2 : am_U} {cl : Nat} {d1 d2 : List Int} (h1 : emW U U1 cl d1) (h2 : emW U1 U2 (cl + d1.length) d2) : emW U U2 cl (d1 ++ d2) := by
  obtain ⟨a1, a2, a3⟩ := h1
  obtain ⟨b1, b2, b3⟩ := h2
  refine ⟨by rw [b1, List.length_append, Nat.add_assoc], fun j hj => by rw [b2 j (by omega), a2 j hj], fun k c hk => ?_⟩
  by_cases q : k < d1.length
  · rw [List.getElem?_append_left q] at hk
    rw [b2 (cl + k) (by omega)]; exact a3 k c hk
  · rw [List.getElem?_append_right (by omega)] at hk
    have := b3 _ c hk
    rw [show cl + d1.length + (k - d1.length) = cl + k by omega] at this; exact this
theorem emW_end {U' : am_U} {cl : Nat} {ds : List Int} (h : emW U U' cl ds) : U' 31 18 = ((cl + ds.length : Nat) : Int) := h.1
theorem ct_emit {cl : Nat} (h : U 31 18 = (cl : Nat)) (hcl : cl < 1600) (c : Int) : ∃ U', EvK N X (Tw_emit_s0 d c U) (rI 1 U') ∧ fE U U' ∧ (∀ j, U' 26 j = U 26 j) ∧ emW U U' cl [c] := by
  refine ⟨am_upd (am_upd U 43 cl c) 31 18 ((cl + 1 : Nat) : Int), Tw_emit_r0 ?_, fun r j _ q2 q3 => ?_, fun j => by rw [upd_row (by decide), upd_row (by decide)], upd_at _ _ _ _, fun j hj => ?_, fun k c' hk => ?_⟩
  · rw [h, Int.toNat_natCast, w32_succ (i := cl) (by omega)]
    exact ⟨fun z => absurd z (by omega), fun _ => ⟨by omega, rfl⟩⟩
  · by_cases z : r = 31
    · subst z; rw [upd_ne (fun e => q3 ⟨rfl, e⟩), upd_row (by decide)]
    · rw [upd_row z, upd_row q2]
  · rw [upd_row (by decide), upd_ne (by omega)]
  · cases k with
    | zero =>
      obtain rfl : c = c' := by simpa using hk
      rw [upd_row (by decide), Nat.add_zero, upd_at]
    | succ k => simp at hk
theorem cS_fE {U' : am_U} (f : fE U U') (h26 : ∀ j, U' 26 j = U 26 j) (hc : cS U T L K kk vv bp i) : cS U' T L K kk vv bp i := by
  obtain ⟨c1, c2, c3, c4, c5, c6, c7, c8⟩ := hc
  refine ⟨fun j hj => ?_, ?_, ?_, c4, by rw [h26]; exact c5, by rw [h26]; exact c6, by rw [h26]; exact c7, by rw [h26]; exact c8⟩
  · obtain ⟨t1, t2, t3, t4⟩ := t_cg (funext fun j => f 28 j (by omega) (by decide) (by omega))
    rw [t1, t2, t3, t4]; exact c1 j hj
  · rw [f 27 2 (by omega) (by decide) (by omega)]; exact c2
  · rw [f 27 1 (by omega) (by decide) (by omega), h26 4, h26 5]; exact c3
theorem ct_emitWord {cl : Nat} (h : U 31 18 = (cl : Nat)) (hcl : cl < 1600) (hc : cS U T L K kk vv bp i) (w : Int) (hw : 0 ≤ w ∧ w < 100) : ∃ U', EvK N X (Tw_emitWord_s0 (d + 1) w U) (rI 1 U') ∧ fE U U' ∧ cS U' T L K kk vv bp i ∧ emW U U' cl [-1 - w] := by
  obtain ⟨U', k1, k2, k3, k4⟩ := ct_emit (N := N) (X := X) (d := d) h hcl (-1 - w)
  refine ⟨U', Tw_emitWord_r0 ⟨1, U', ?_, Or.inr rfl, rfl⟩, k2, cS_fE k2 k3 hc, k4⟩
  rw [w32_eq (by omega) (by omega)]; exact k1
theorem ct_emitSign {cl : Nat} (h : U 31 18 = (cl : Nat)) (hcl : cl < 1600) (hc : cS U T L K kk vv bp i) (w : Int) (hw : 0 ≤ w ∧ w < 256) : ∃ U', EvK N X (Tw_emitSign_s0 (d + 1) w U) (rI 1 U') ∧ fE U U' ∧ cS U' T L K kk vv bp i ∧ emW U U' cl [-100 - w] := by
  obtain ⟨U', k1, k2, k3, k4⟩ := ct_emit (N := N) (X := X) (d := d) h hcl (-100 - w)
  refine ⟨U', Tw_emitSign_r0 ⟨1, U', ?_, Or.inr rfl, rfl⟩, k2, cS_fE k2 k3 hc, k4⟩
  rw [w32_eq (by omega) (by omega)]; exact k1
/-! the reference at the i-th -/
def rT (V : am_U) (T : Nat → Int) (L i : Nat) : Prop := tpL V T L ∧ rTok V T L (enS T L i) ∧ V 86 8 = 0
theorem rT_R (hk : tkS T L K kk vv bp) (hr : rT V T L i) (hi : i ≤ K) : tokR (kk i) (vv i) bp (plS1 T L i : Nat) (V 86 3) (V 86 6) (V 86 7) (V 86 12) := tok_R (hk.2.2.2.1 i hi) hr.2.1
theorem rT_pl (hr : rT V T L i) : V 86 4 = (plS1 T L i : Nat) := hr.2.1.1
theorem rT_cg {V' : am_U} (hr : rT V T L i) (h87 : V' 87 = V 87) (h : ∀ j, j < 13 → j ≠ 13 → V' 86 j = V 86 j) : rT V' T L i := by
  obtain ⟨⟨t1, t2, t3⟩, r2, r3⟩ := hr
  refine ⟨⟨⟨t1.1, by rw [h 9 (by omega) (by omega)]; exact t1.2⟩, by rw [h 2 (by omega) (by omega)]; exact t2, fun j hj => by rw [h87]; exact t3 j hj⟩, ?_, by rw [h 8 (by omega) (by omega)]; exact r3⟩
  unfold rTok at r2 ⊢
  rw [h 3 (by omega) (by omega), h 4 (by omega) (by omega), h 5 (by omega) (by omega), h 6 (by omega) (by omega), h 7 (by omega) (by omega), h 12 (by omega) (by omega)]
  exact r2
theorem fpl_pl (hk : tkS T L K kk vv bp) (hr : rT V T L i) (hi : i ≤ K) (hx : V 86 12 = -1) : fpl T L kk bp i = (plS1 T L i : Nat) := by
  unfold fpl
  by_cases c : kk i = 5
  · rw [if_pos c]
    rcases rT_R hk hr hi with z | ⟨_, z⟩ | z | z | z | z
    · omega
    · rcases z with ⟨y1, y2⟩ | ⟨_, y, _⟩
      · omega
      · exact y
    · omega
    · omega
    · omega
    · omega
  · rw [if_neg c]
theorem rT_bad (hk : tkS T L K kk vv bp) (hr : rT V T L i) (hi : i ≤ K) (hx : V 86 12 ≠ -1) : kk i = 5 ∧ V 86 12 = fpl T L kk bp i := by
  rcases rT_R hk hr hi with z | ⟨z1, z⟩ | z | z | z | z
  · exact absurd z.2.2 hx
  · refine ⟨z1, ?_⟩
    unfold fpl
    rw [if_pos z1]
    rcases z with ⟨y1, y2⟩ | ⟨y, _⟩
    · exact y1
    · exact absurd y hx
  · exact absurd z.2.1 hx
  · exact absurd z.2.1 hx
  · exact absurd z.2.1 hx
  · exact absurd z.2.1 hx
theorem ct_lex1 (hx : V 86 12 = -1) : EvK N X (M_lex_s0 (d + 1) V) (rV V) := M_lex_r0 ⟨fun _ => rfl, fun z => absurd hx z⟩
theorem ct_blame1 (h8 : V 86 8 = 0) (k p : Int) : EvK N X (M_blame_s0 d k p V) (rV (am_upd (am_upd V 86 8 k) 86 9 p)) := M_blame_r0 ⟨fun _ => rfl, fun z => absurd z (by omega)⟩
theorem ct_lexB (h8 : V 86 8 = 0) (hx : V 86 12 ≠ -1) : EvK N X (M_lex_s0 (d + 1) V) (rV (am_upd (am_upd V 86 8 1) 86 9 (V 86 12))) := M_lex_r0 ⟨fun z => absurd z hx, fun _ => ⟨_, ct_blame1 h8 _ _, rfl⟩⟩
theorem ct_isSign1 (hk : tkS T L K kk vv bp) (hr : rT V T L i) (hi : i ≤ K) (hx : V 86 12 = -1) (c : Int) (hg : isG c = true) : EvK N X (M_isSign_s0 d c V) (rI (b2i (kk i = 4 ∧ vv i = c)) V) := by
  have key : (V 86 3 = 3 ∧ V 86 6 = c) ↔ (kk i = 4 ∧ vv i = c) := by
    rcases rT_R hk hr hi with ⟨z1, z2, _⟩ | ⟨z1, z⟩ | ⟨z1, _, z2, z3, _⟩ | ⟨z1, _, z2, _⟩ | ⟨z1, _, z2, _⟩ | ⟨z1, _, z2, _⟩
    · constructor
      · intro y; omega
      · intro y; omega
    · rcases z with ⟨y1, y2⟩ | ⟨_, _, y2, y3⟩
      · omega
      · constructor
        · intro y
          rw [y.2, hg] at y3; exact absurd y3 (by decide)
        · intro y; omega
    · constructor
      · intro y; exact ⟨z1, by omega⟩
      · intro y; exact ⟨z2, by omega⟩
    · constructor
      · intro y; omega
      · intro y; omega
    · constructor
      · intro y; omega
      · intro y; omega
    · constructor
      · intro y; omega
      · intro y; omega
  rw [show b2i (kk i = 4 ∧ vv i = c) = b2i (V 86 3 = 3 ∧ V 86 6 = c) from b2i_cg key.symm]
  exact M_isSign_r0 ⟨fun z => by rw [b2i_f (fun y => z y.1)], fun z => ⟨fun y => by rw [b2i_f (fun x => y x.2)], fun y => by rw [b2i_t ⟨z, y⟩]⟩⟩
theorem ow8_inj : ∀ w, w < 26 → ∀ w', w' < 26 → ow8 w = ow8 w' → w = w' := by decide +kernel
theorem ct_isWord1 (hk : tkS T L K kk vv bp) (hr : rT V T L i) (hi : i ≤ K) (hx : V 86 12 = -1) (w : Nat) (hw : w < 26) : EvK N X (M_isWord_s0 d (ow8 w) V) (rI (b2i (kk i = 1 ∧ vv i = (w : Nat))) V) := by
  have key : (V 86 3 = 1 ∧ V 86 7 = ow8 w) ↔ (kk i = 1 ∧ vv i = (w : Nat)) := by
    rcases rT_R hk hr hi with ⟨z1, z2, _⟩ | ⟨z1, z⟩ | ⟨z1, _, z2, z3, _⟩ | ⟨z1, _, z2, _⟩ | ⟨z1, _, z2, w', z3, z4, z5⟩ | ⟨z1, _, z2, _, z3⟩
    · constructor
      · intro y; omega
      · intro y; omega
    · rcases z with ⟨y1, y2⟩ | ⟨_, _, y2, y3⟩
      · omega
      · constructor
        · intro y; omega
        · intro y; omega
    · constructor
      · intro y; omega
      · intro y; omega
    · constructor
      · intro y; omega
      · intro y; omega
    · constructor
      · intro y
        have e : w' = w := ow8_inj w' z3 w hw (by rw [← z5]; exact y.2)
        rw [e] at z4
        exact ⟨z1, z4⟩
      · intro y
        have e : w' = w := by omega
        rw [e] at z5
        exact ⟨z2, z5⟩
    · constructor
      · intro y; exact absurd y.2 (z3 w hw)
      · intro y; omega
  rw [show b2i (kk i = 1 ∧ vv i = (w : Nat)) = b2i (V 86 3 = 1 ∧ V 86 7 = ow8 w) from b2i_cg key.symm]
  exact M_isWord_r0 ⟨fun z => by rw [b2i_f (fun y => z y.1)], fun z => ⟨fun y => by rw [b2i_f (fun x => y x.2)], fun y => by rw [b2i_t ⟨z, y⟩]⟩⟩
theorem rT_num (hk : tkS T L K kk vv bp) (hr : rT V T L i) (hi : i ≤ K) (hx : V 86 12 = -1) : (V 86 3 = 2 ↔ kk i = 3) ∧ (kk i = 3 → V 86 6 = vv i ∧ 0 ≤ vv i ∧ vv i ≤ 999999999) := by
  rcases rT_R hk hr hi with ⟨z1, z2, _⟩ | ⟨z1, z⟩ | ⟨z1, _, z2, z3, _⟩ | ⟨z1, _, z2, z3, z4, z5⟩ | ⟨z1, _, z2, _⟩ | ⟨z1, _, z2, _⟩
  · constructor
    · constructor <;> intro y <;> omega
    · intro y; omega
  · constructor
    · rcases z with ⟨y1, y2⟩ | ⟨_, _, y2, y3⟩
      · omega
      · constructor <;> intro y <;> omega
    · intro y; omega
  · constructor
    · constructor <;> intro y <;> omega
    · intro y; omega
  · exact ⟨⟨fun _ => z1, fun _ => z2⟩, fun _ => ⟨z3, z4, z5⟩⟩
  · constructor
    · constructor <;> intro y <;> omega
    · intro y; omega
  · constructor
    · constructor <;> intro y <;> omega
    · intro y; omega
theorem ct_ahead1 (hk : tkS T L K kk vv bp) (hr : rT V T L i) : ∃ V', EvK N X (M_ahead_s0 (d + 1) V) (rV V') ∧ fA6 V V' ∧ rT V' T L (i + 1) := by
  obtain ⟨V', k1, k2, k3⟩ := ct_ahead (N := N) (X := X) (d := d) hr.1 (show V 86 5 = (enS T L (i + 1) : Nat) from hr.2.1.2.1) (enS_le T L (i + 1))
  exact ⟨V', k1, k2, tpL_fA6 k2 hr.1, k3, by rw [k2 86 8 (by decide)]; exact hr.2.2⟩
end TOK
