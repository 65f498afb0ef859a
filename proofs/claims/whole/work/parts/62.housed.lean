/-! housed -/
def fstB (P : Nat → Bool) (i : Nat) : Nat → Int
  | 0 => -1
  | m + 1 => bif P i then ((i : Nat) : Int) else fstB P (i + 1) m
theorem fstB_r (P : Nat → Bool) : ∀ m i : Nat, fstB P i m = -1 ∨ ∃ h : Nat, fstB P i m = (h : Nat) ∧ i ≤ h ∧ h < i + m ∧ P h = true := by
  intro m
  induction m with
  | zero => intro i; exact Or.inl rfl
  | succ m ih =>
    intro i
    cases e : P i with
    | true => exact Or.inr ⟨i, by unfold fstB; rw [e]; rfl, by omega, by omega, e⟩
    | false =>
      have : fstB P i (m + 1) = fstB P (i + 1) m := by rw [fstB, e]; rfl
      rw [this]
      rcases ih (i + 1) with h | ⟨h, h1, h2, h3, h4⟩
      · exact Or.inl h
      · exact Or.inr ⟨h, h1, by omega, by omega, h4⟩
theorem mayP_cg {U U' : am_U} (h : stq U U') {b nl nw n : Nat} {hm : Nat → Int} {p g : Nat} : mayP U' b nl nw n hm p g = mayP U b nl nw n hm p g := by
  unfold mayP; rw [inBS_cg h, h.2.1]
def elg (V : am_U) (hm : Nat → Int) (p : Nat) : Prop := hm p = -1 ∧ (0 < V 17 p ∨ V 16 2 ≠ 0)
noncomputable def hPick (V : am_U) (b nl nw n nh : Nat) (hm : Nat → Int) (p : Nat) : Int := fstB (fun h => pd (mayP V b nl nw n hm p h)) 0 nh
noncomputable def hSt (V : am_U) (b nl nw n nh : Nat) (s : (Nat → Int) × Nat) (p : Nat) : (Nat → Int) × Nat := bif pd (elg V s.1 p) then (s1 s.1 p (hPick V b nl nw n nh s.1 p), if hPick V b nl nw n nh s.1 p = -1 then s.2 else s.2 + 1) else s
noncomputable def hGo (V : am_U) (b nl nw n nh : Nat) (p : Nat) : Nat → (Nat → Int) × Nat → (Nat → Int) × Nat
  | 0, s => s
  | m + 1, s => hGo V b nl nw n nh (p + 1) m (hSt V b nl nw n nh s p)
theorem s1_id {f : Nat → Int} {p : Nat} {x : Int} (h : f p = x) : s1 f p x = f := by
  funext j; unfold s1
  by_cases c : j = p
  · rw [if_pos c, c, h]
  · rw [if_neg c]
/-- people moved, scratch written, nothing else (class) -/
def kH (U U' : am_U) : Prop := ∀ r j, r ≠ 18 → r ≠ 19 → scr r j = false → U' r j = U r j
theorem kH_refl (U : am_U) : kH U U := fun _ _ _ _ _ => rfl
theorem kH_trans {U U1 U2 : am_U} (h1 : kH U U1) (h2 : kH U1 U2) : kH U U2 := fun r j a b c => by rw [h2 r j a b c, h1 r j a b c]
theorem kH_row {U U' : am_U} (h : kH U U') {r : Nat} (h1 : r ≠ 18) (h2 : r ≠ 19) (q : ∀ j, scr r j = false) : U' r = U r := funext fun j => h r j h1 h2 (q j)
theorem stq_kH {U U' : am_U} (h : kH U U') : stq U U' := ⟨kH_row h (by decide) (by decide) (fun _ => rfl), kH_row h (by decide) (by decide) (fun _ => rfl), kH_row h (by decide) (by decide) (fun _ => rfl), kH_row h (by decide) (by decide) (fun _ => rfl), kH_row h (by decide) (by decide) (fun _ => rfl), kH_row h (by decide) (by decide) (fun _ => rfl), kH_row h (by decide) (by decide) (fun _ => rfl), kH_row h (by decide) (by decide) (fun _ => rfl), kH_row h (by decide) (by decide) (fun _ => rfl)⟩
theorem iTown_kH {U U' : am_U} {b ns nh nl nw nd cl : Nat} (h : kH U U') (hi : iTown U b ns nh nl nw nd cl) : iTown U' b ns nh nl nw nd cl := by
  refine iTown_agrA (fun r j e => ?_) hi
  have es : scr r j = false := by
    unfold scrA at e
    cases q : scr r j with
    | false => rfl
    | true => rw [q] at e; simp at e
  have er : ¬ ((16 ≤ r ∧ r ≤ 20) ∨ r = 45 ∨ r = 48 ∨ r = 52 ∨ r = 56 ∨ (58 ≤ r ∧ r ≤ 77) ∨ r = 85 ∨ (119 ≤ r ∧ r ≤ 124)) := by
    intro z
    unfold scrA at e
    rw [decide_eq_true z] at e; simp at e
  exact h r j (by omega) (by omega) es
theorem D_h70 {N : Nat} {X : Nat → Int} {d : Nat} {V : am_U} {b ns nh nl nw nd cl n p c : Nat} (hp : p < n) (hc2 : c ≤ 16) : ∀ m i : Nat, i + m = nh → ∀ U, kH V U → jCtx U b ns nh nl nw nd cl n → ∃ U', kH V U' ∧ jCtx U' b ns nh nl nw nd cl n ∧ U' 18 = (if fstB (fun h => pd (mayP V b nl nw n (U 18) p h)) i m = -1 then U 18 else s1 (U 18) p (fstB (fun h => pd (mayP V b nl nw n (U 18) p h)) i m)) ∧ ∀ R, EvK N X (D_housed_s15 (d + 7) ((if fstB (fun h => pd (mayP V b nl nw n (U 18) p h)) i m = -1 then c else c + 1 : Nat) : Int) ((p + 1 : Nat) : Int) U') R → EvK N X (D_housed_s70 (d + 7) (c : Nat) (p : Nat) 1 (i : Nat) U) R := by
  intro m
  induction m with
  | zero =>
    intro i hi U hk hc
    refine ⟨U, hk, hc, by rw [fstB, if_pos rfl], fun R h => D_housed_r70 ⟨fun _ => ?_, fun z => absurd z (by rw [hc.1.2.2.1.1]; omega)⟩⟩
    have hn := hc.2.2.1
    rw [w32_succ (i := p) (by omega)]
    rw [fstB, if_pos rfl] at h
    exact h
  | succ m ih =>
    intro i hi U hk hc
    have hn := hc.2.2.1
    have t12 := hc.1.2.2.1.2.2.1
    obtain ⟨U1, f1, f2⟩ := ct_mayLive (N := N) (X := X) (d := d) (p := p) (g := i) hc hp (by omega)
    rw [mayP_cg (stq_kH hk)] at f1
    have k1 : kH U U1 := fun r j _ _ e => agr_jk f2 r j e
    have j1 : U1 18 = U 18 := jk_row f2 (by decide) (by decide)
    have j2 : U1 19 = U 19 := jk_row f2 (by decide) (by decide)
    have hc1 : jCtx U1 b ns nh nl nw nd cl n := by
      obtain ⟨a1, a2, a3, a4, a5⟩ := hc
      refine ⟨iTown_kH k1 a1, ?_, a3, ?_, ?_⟩
      · rw [kH_row k1 (r := 16) (by decide) (by decide) (fun _ => rfl)]; exact a2
      · rw [j1, kH_row k1 (r := 17) (by decide) (by decide) (fun _ => rfl), kH_row k1 (r := 8) (by decide) (by decide) (fun _ => rfl)]; exact a4
      · rw [j1, j2]; exact a5
    have e31 := hc.1.2.2.1.1
    by_cases c1 : mayP V b nl nw n (U 18) p i
    · have eP : fstB (fun h => pd (mayP V b nl nw n (U 18) p h)) i (m + 1) = ((i : Nat) : Int) := by rw [fstB, pd_t c1]; rfl
      rw [eP, if_neg (by omega), if_neg (by omega)]
      have hhp := hc.2.2.2.1.1 p hp
      obtain ⟨U2, s1', s2, s3, s4, s5⟩ := ct_settle_16 (N := N) (X := X) (d := d + 6) (U := U1) (hs := ((i : Nat) : Int)) hp hn (by omega) (by rw [j1]; omega)
      rw [j1] at s2
      have k2 : kH U U2 := fun r j q1 q2 e => by rw [s5 r q1 q2]; exact k1 r j q1 q2 e
      have hc2' : jCtx U2 b ns nh nl nw nd cl n := by
        obtain ⟨a1, a2, a3, a4, a5⟩ := hc1
        refine ⟨iTown_kH (kH_trans hk k2) (iTown_kH (U := U) (U' := V) (fun r j q1 q2 e => (hk r j q1 q2 e).symm) hc.1), ?_, a3, ?_, ?_⟩
        · rw [s5 16 (by decide) (by decide)]; exact a2
        · rw [s2, s5 17 (by decide) (by decide), s5 8 (by decide) (by decide)]
          rw [j1] at a4
          have := c1.2.1
          refine ppl_move hp (by omega) a4 ?_
          rw [(stq_kH (kH_trans hk k1)).2.1]
          exact this
        · exact s3 a5
      refine ⟨U2, kH_trans hk k2, hc2', s2, fun R h => D_housed_r70 ⟨fun z => absurd z (by rw [e31]; omega), fun _ => ⟨fun z => absurd z (by decide), fun _ => ⟨_, _, f1, fun z => absurd z (by rw [cb_t c1]; decide), fun _ => ⟨U2, s1', ?_⟩⟩⟩⟩⟩
      have e31' : U2 3 1 = (nh : Nat) := hc2'.1.2.2.1.1
      rw [w32_succ (i := c) (by omega), w32_succ (i := i) (by omega)]
      have nx : EvK N X (D_housed_s15 (d + 6 + 1) ((c + 1 : Nat) : Int) (w32 (((p : Nat) : Int) + 1)) U2) R := by rw [w32_succ (i := p) (by omega)]; exact h
      exact D_housed_r70 ⟨fun _ => nx, fun _ => ⟨fun _ => nx, fun z => absurd rfl z⟩⟩
    · have eP : fstB (fun h => pd (mayP V b nl nw n (U 18) p h)) i (m + 1) = fstB (fun h => pd (mayP V b nl nw n (U 18) p h)) (i + 1) m := by rw [fstB, pd_f c1]; rfl
      rw [eP]
      obtain ⟨U', q1, q2, q3, q4⟩ := ih (i + 1) (by omega) U1 (kH_trans hk k1) hc1
      rw [j1] at q3 q4
      refine ⟨U', q1, q2, q3, fun R h => D_housed_r70 ⟨fun z => absurd z (by rw [e31]; omega), fun _ => ⟨fun z => absurd z (by decide), fun _ => ⟨_, _, f1, fun _ => ?_, fun z => absurd (cb_f c1) z⟩⟩⟩⟩
      rw [w32_succ (i := i) (by omega)]
      exact q4 R h
theorem hSt_t {V : am_U} {b nl nw n nh : Nat} {s : (Nat → Int) × Nat} {p : Nat} (h : elg V s.1 p) : hSt V b nl nw n nh s p = (s1 s.1 p (hPick V b nl nw n nh s.1 p), if hPick V b nl nw n nh s.1 p = -1 then s.2 else s.2 + 1) := by unfold hSt; rw [pd_t h]; rfl
theorem hSt_f {V : am_U} {b nl nw n nh : Nat} {s : (Nat → Int) × Nat} {p : Nat} (h : ¬ elg V s.1 p) : hSt V b nl nw n nh s p = s := by unfold hSt; rw [pd_f h]; rfl
theorem D_h15 {N : Nat} {X : Nat → Int} {d : Nat} {V : am_U} {b ns nh nl nw nd cl n : Nat} : ∀ m p : Nat, p + m = n → ∀ U (c : Nat), c ≤ p → kH V U → jCtx U b ns nh nl nw nd cl n → ∃ U', EvK N X (D_housed_s15 (d + 7) (c : Nat) (p : Nat) U) (rI (((hGo V b nl nw n nh p m (U 18, c)).2 : Nat) : Int) (am_upd (am_upd (am_upd U' 45 5 0) 48 9 0) 52 8 0)) ∧ kH V U' ∧ jCtx U' b ns nh nl nw nd cl n ∧ U' 18 = (hGo V b nl nw n nh p m (U 18, c)).1 := by
  intro m
  induction m with
  | zero =>
    intro p hpm U c hcp hk hc
    exact ⟨U, D_housed_r15 ⟨fun _ => ⟨_, ct_forget U, rfl⟩, fun z => absurd z (by rw [hc.2.1]; omega)⟩, hk, hc, rfl⟩
  | succ m ih =>
    intro p hpm U c hcp hk hc
    have hn := hc.2.2.1
    have e17 : U 17 = V 17 := kH_row hk (by decide) (by decide) (fun _ => rfl)
    have e16 : U 16 = V 16 := kH_row hk (by decide) (by decide) (fun _ => rfl)
    by_cases c1 : elg V (U 18) p
    · obtain ⟨U1, a1, a2, a3, a4⟩ := D_h70 (N := N) (X := X) (d := d) (V := V) (c := c) (show p < n by omega) (by omega) nh 0 (by omega) U hk hc
      have a3' : U1 18 = s1 (U 18) p (hPick V b nl nw n nh (U 18) p) := by
        unfold hPick
        rw [a3]
        by_cases z : fstB (fun h => pd (mayP V b nl nw n (U 18) p h)) 0 nh = -1
        · rw [if_pos z, z, s1_id c1.1]
        · rw [if_neg z]
      obtain ⟨U', b1, b2, b3, b4⟩ := ih (p + 1) (by omega) U1 (if hPick V b nl nw n nh (U 18) p = -1 then c else c + 1) (by split <;> omega) a1 a2
      rw [a3', show (s1 (U 18) p (hPick V b nl nw n nh (U 18) p), if hPick V b nl nw n nh (U 18) p = -1 then c else c + 1) = hSt V b nl nw n nh (U 18, c) p from (hSt_t (V := V) (s := (U 18, c)) (p := p) c1).symm] at b1 b4
      have st := a4 _ b1
      refine ⟨U', D_housed_r15 ⟨fun z => absurd z (by rw [hc.2.1]; omega), fun _ => ⟨by omega, ?_⟩⟩, b2, b3, b4⟩
      rw [Int.toNat_natCast, e17, e16]
      exact ⟨fun z => absurd c1.1 z, fun _ => ⟨fun _ => st, fun y => ⟨fun z => absurd c1.2 (by omega), fun _ => st⟩⟩⟩
    · obtain ⟨U', b1, b2, b3, b4⟩ := ih (p + 1) (by omega) U c (by omega) hk hc
      have eS : hSt V b nl nw n nh (U 18, c) p = (U 18, c) := hSt_f (V := V) (s := (U 18, c)) (p := p) c1
      have st : EvK N X (D_housed_s70 (d + 6 + 1) (c : Nat) (p : Nat) 0 0 U) (rI (((hGo V b nl nw n nh p (m + 1) (U 18, c)).2 : Nat) : Int) (am_upd (am_upd (am_upd U' 45 5 0) 48 9 0) 52 8 0)) := by
        have nx : EvK N X (D_housed_s15 (d + 6 + 1) (c : Nat) (w32 (((p : Nat) : Int) + 1)) U) (rI (((hGo V b nl nw n nh p (m + 1) (U 18, c)).2 : Nat) : Int) (am_upd (am_upd (am_upd U' 45 5 0) 48 9 0) 52 8 0)) := by
          rw [w32_succ (i := p) (by omega), hGo, eS]; exact b1
        exact D_housed_r70 ⟨fun _ => nx, fun _ => ⟨fun _ => nx, fun z => absurd rfl z⟩⟩
      refine ⟨U', D_housed_r15 ⟨fun z => absurd z (by rw [hc.2.1]; omega), fun _ => ⟨by omega, ?_⟩⟩, b2, b3, by rw [hGo, eS]; exact b4⟩
      rw [Int.toNat_natCast, e17, e16]
      exact ⟨fun _ => st, fun y => ⟨fun z => absurd ⟨y, Or.inl z⟩ c1, fun _ => ⟨fun _ => st, fun z => absurd ⟨y, Or.inr z⟩ c1⟩⟩⟩
/-! the reference's side -/
def kM (U U' : am_U) : Prop := ∀ r j, scr r j = false → ¬ (r = 124 ∧ j < 16) → U' r j = U r j
theorem kM_refl (U : am_U) : kM U U := fun _ _ _ _ => rfl
theorem kM_trans {U U1 U2 : am_U} (h1 : kM U U1) (h2 : kM U1 U2) : kM U U2 := fun r j a b => by rw [h2 r j a b, h1 r j a b]
theorem kM_row {U U' : am_U} (h : kM U U') {r : Nat} (h1 : r ≠ 124) (q : ∀ j, scr r j = false) : U' r = U r := funext fun j => h r j (q j) (fun z => h1 z.1)
theorem stq_kM {U U' : am_U} (h : kM U U') : stq U U' := ⟨kM_row h (by decide) (fun _ => rfl), kM_row h (by decide) (fun _ => rfl), kM_row h (by decide) (fun _ => rfl), kM_row h (by decide) (fun _ => rfl), kM_row h (by decide) (fun _ => rfl), kM_row h (by decide) (fun _ => rfl), kM_row h (by decide) (fun _ => rfl), kM_row h (by decide) (fun _ => rfl), kM_row h (by decide) (fun _ => rfl)⟩
theorem stq_trans {U U1 U2 : am_U} (h1 : stq U U1) (h2 : stq U1 U2) : stq U U2 := by
  obtain ⟨a1, a2, a3, a4, a5, a6, a7, a8, a9⟩ := h1
  obtain ⟨b1, b2, b3, b4, b5, b6, b7, b8, b9⟩ := h2
  exact ⟨b1.trans a1, b2.trans a2, b3.trans a3, b4.trans a4, b5.trans a5, b6.trans a6, b7.trans a7, b8.trans a8, b9.trans a9⟩
theorem iTown_kM {U U' : am_U} {b ns nh nl nw nd cl : Nat} (h : kM U U') (hi : iTown U b ns nh nl nw nd cl) : iTown U' b ns nh nl nw nd cl := by
  refine iTown_agrA (fun r j e => ?_) hi
  have es : scr r j = false := by
    unfold scrA at e
    cases q : scr r j with
    | false => rfl
    | true => rw [q] at e; simp at e
  have er : ¬ ((16 ≤ r ∧ r ≤ 20) ∨ r = 45 ∨ r = 48 ∨ r = 52 ∨ r = 56 ∨ (58 ≤ r ∧ r ≤ 77) ∨ r = 85 ∨ (119 ≤ r ∧ r ≤ 124)) := by
    intro z
    unfold scrA at e
    rw [decide_eq_true z] at e; simp at e
  exact h r j es (by omega)
theorem upd_if2 {U : am_U} {r r' j j' : Nat} {x : Int} (h : ¬ (r' = r ∧ j' = j)) : am_upd U r j x r' j' = U r' j' := by
  by_cases c : r' = r
  · subst c; exact upd_ne (fun z => h ⟨rfl, z⟩)
  · rw [upd_row c]
theorem mCtx_124 {U : am_U} {b ns nh nl nw nd cl n p : Nat} {hm : Nat → Int} {x : Int} (hc : mCtx U b ns nh nl nw nd cl 0 n hm) (hp : p < n) (hx : -1 ≤ x ∧ x < (nh : Nat)) : mCtx (am_upd U 124 p x) b ns nh nl nw nd cl 0 n (s1 hm p x) := by
  obtain ⟨a1, a2, a3, a4, a5⟩ := hc
  refine ⟨iTown_kM (fun r j _ q => by rw [upd_if2 (by omega)]) a1, a2, by rw [upd_row (by decide)]; exact a3, a4, fun q hq => ?_⟩
  obtain ⟨c1, c2, c3, c4⟩ := a5 q hq
  rw [upd_row (show 123 ≠ 124 by decide), upd_row (show 17 ≠ 124 by decide), upd_if]
  unfold s1
  refine ⟨c1, ?_, ?_, c4⟩
  · by_cases e : q = p
    · rw [if_pos e, if_pos (by omega)]
    · rw [if_neg e, if_neg (by omega)]; exact c2
  · by_cases e : q = p
    · rw [if_pos e]; exact hx
    · rw [if_neg e]; exact c3
theorem kM_124 {U : am_U} {p : Nat} {x : Int} (hp : p < 16) : kM U (am_upd U 124 p x) := fun r j _ q => by rw [upd_if2 (by omega)]
theorem M_h54 {N : Nat} {X : Nat → Int} {d : Nat} {B V : am_U} {b ns nh nl nw nd cl n p c : Nat} {hm : Nat → Int} (hB : stq B V) (hp : p < n) (hc2 : c ≤ 16) : ∀ m i : Nat, i + m = nh → ∀ U, kM V U → mCtx U b ns nh nl nw nd cl 0 n hm → ∃ U', kM V U' ∧ mCtx U' b ns nh nl nw nd cl 0 n hm ∧ ∀ R, EvK N X (M_housed_s8 (d + 8) ((if fstB (fun h => pd (mayP B b nl nw n hm p h)) i m = -1 then c else c + 1 : Nat) : Int) ((p + 1 : Nat) : Int) (am_upd U' 124 p (fstB (fun h => pd (mayP B b nl nw n hm p h)) i m))) R → EvK N X (M_housed_s54 (d + 8) (c : Nat) (p : Nat) (-1) (i : Nat) U) R := by
  intro m
  induction m with
  | zero =>
    intro i hi U hk hc
    have hn := hc.2.2.2.1
    refine ⟨U, hk, hc, fun R h => M_housed_r54 ?_⟩
    rw [fstB, if_pos rfl] at h
    rw [hc.1.1.1, Int.toNat_natCast, hc.1.2.2.1.2.1]
    have hb2 := hc.1.1.2
    refine ⟨by omega, fun _ => ⟨by omega, fun z => absurd rfl z, fun _ => ?_⟩, fun z => absurd z (by omega)⟩
    rw [Int.add_zero, w32_eq (x := ((c : Nat) : Int)) (by omega) (by omega), w32_succ (i := p) (by omega), Int.toNat_natCast]
    exact h
  | succ m ih =>
    intro i hi U hk hc
    have hn := hc.2.2.2.1
    have hb2 := hc.1.1.2
    have t12 := hc.1.2.2.1.2.2.1
    obtain ⟨U1, f1, f2⟩ := ct_M_mayLive (N := N) (X := X) (d := d) (p := p) (g := i) hc hp (by omega)
    rw [mayP_cg (stq_trans hB (stq_kM hk))] at f1
    have k1 : kM U U1 := fun r j e _ => agr_sk f2 r j e
    have hc1 : mCtx U1 b ns nh nl nw nd cl 0 n hm := by
      obtain ⟨a1, a2, a3, a4, a5⟩ := hc
      refine ⟨iTown_kM k1 a1, a2, by rw [sk_row f2 (by decide) (by decide)]; exact a3, a4, fun q hq => ?_⟩
      rw [sk_row f2 (r := 123) (by decide) (by decide), sk_row f2 (r := 124) (by decide) (by decide), sk_row f2 (r := 17) (by decide) (by decide)]
      exact a5 q hq
    have go : ∀ {R}, EvK N X (M_housed_s54 (d + 7 + 1) (c : Nat) (p : Nat) (if pd (mayP B b nl nw n hm p i) = true then ((i : Nat) : Int) else -1) ((i + 1 : Nat) : Int) U1) R → EvK N X (M_housed_s54 (d + 8) (c : Nat) (p : Nat) (-1) (i : Nat) U) R := fun {R} h => by
      refine M_housed_r54 ?_
      rw [hc.1.1.1, Int.toNat_natCast, hc.1.2.2.1.2.1, w32_succ (i := i) (by omega)]
      refine ⟨by omega, fun z => absurd z (by omega), fun _ => ⟨fun z => absurd rfl z, fun _ => ⟨_, _, f1, fun z => ?_, fun z => ?_⟩⟩⟩
      · rw [if_neg (fun q => cb_eq.mp z (pd_iff.mp q))] at h; exact h
      · rw [if_pos (pd_t (cb_ne.mp z))] at h; exact h
    by_cases c1 : mayP B b nl nw n hm p i
    · have eP : fstB (fun h => pd (mayP B b nl nw n hm p h)) i (m + 1) = ((i : Nat) : Int) := by rw [fstB, pd_t c1]; rfl
      rw [eP, if_neg (by omega)]
      refine ⟨U1, kM_trans hk k1, hc1, fun R h => go (R := R) ?_⟩
      rw [if_pos (pd_t c1)]
      refine M_housed_r54 ?_
      rw [hc1.1.1.1, Int.toNat_natCast, hc1.1.2.2.1.2.1, Int.toNat_natCast, w32_succ (i := c) (by omega), w32_succ (i := p) (by omega)]
      exact ⟨by omega, fun _ => ⟨by omega, fun _ => h, fun z => absurd z (by omega)⟩, fun _ => ⟨fun _ => ⟨by omega, h⟩, fun z => absurd z (by omega)⟩⟩
    · have eP : fstB (fun h => pd (mayP B b nl nw n hm p h)) i (m + 1) = fstB (fun h => pd (mayP B b nl nw n hm p h)) (i + 1) m := by rw [fstB, pd_f c1]; rfl
      rw [eP]
      obtain ⟨U', q1, q2, q3⟩ := ih (i + 1) (by omega) U1 (kM_trans hk k1) hc1
      refine ⟨U', q1, q2, fun R h => go (R := R) ?_⟩
      rw [if_neg (fun q => c1 (pd_iff.mp q))]
      exact q3 R h
theorem M_h8 {N : Nat} {X : Nat → Int} {d : Nat} {B V : am_U} {b ns nh nl nw nd cl n : Nat} (hB : stq B V) (hB2 : V 121 0 = B 16 2) (hne : ∀ p, p < n → B 17 p ≠ 0) : ∀ m p : Nat, p + m = n → ∀ U (c : Nat) (hm : Nat → Int), c ≤ p → kM V U → mCtx U b ns nh nl nw nd cl 0 n hm → ∃ U', EvK N X (M_housed_s8 (d + 8) (c : Nat) (p : Nat) U) (rI (((hGo B b nl nw n nh p m (hm, c)).2 : Nat) : Int) U') ∧ kM V U' ∧ mCtx U' b ns nh nl nw nd cl 0 n (hGo B b nl nw n nh p m (hm, c)).1 := by
  intro m
  induction m with
  | zero =>
    intro p hpm U c hm hcp hk hc
    exact ⟨U, M_housed_r8 ⟨fun _ => rfl, fun z => absurd z (by rw [hc.2.2.1]; omega)⟩, hk, hc⟩
  | succ m ih =>
    intro p hpm U c hm hcp hk hc
    have hn := hc.2.2.2.1
    have e17 : U 17 = B 17 := (stq_trans hB (stq_kM hk)).1
    have e121 : U 121 0 = B 16 2 := by rw [hk 121 0 rfl (by decide)]; exact hB2
    obtain ⟨q1, q2, q3, q4⟩ := hc.2.2.2.2 p (by omega)
    rw [Nat.mul_zero, Nat.zero_add] at q1 q2
    have hnp := hne p (by omega)
    by_cases c1 : elg B hm p
    · obtain ⟨U1, a1, a2, a3⟩ := M_h54 (N := N) (X := X) (d := d) (B := B) (V := V) (c := c) (hm := hm) hB (show p < n by omega) (by omega) nh 0 (by omega) U hk hc
      have pk : -1 ≤ hPick B b nl nw n nh hm p ∧ hPick B b nl nw n nh hm p < (nh : Nat) := by
        unfold hPick
        rcases fstB_r (fun h => pd (mayP B b nl nw n hm p h)) nh 0 with z | ⟨h, z, z1, z2, z3⟩
        · rw [z]; omega
        · rw [z]; omega
      obtain ⟨U', b1, b2, b3⟩ := ih (p + 1) (by omega) (am_upd U1 124 p (hPick B b nl nw n nh hm p)) (if hPick B b nl nw n nh hm p = -1 then c else c + 1) (s1 hm p (hPick B b nl nw n nh hm p)) (by split <;> omega) (kM_trans a1 (kM_124 (by omega))) (mCtx_124 a2 (by omega) pk)
      rw [show (s1 hm p (hPick B b nl nw n nh hm p), if hPick B b nl nw n nh hm p = -1 then c else c + 1) = hSt B b nl nw n nh (hm, c) p from (hSt_t (V := B) (s := (hm, c)) (p := p) c1).symm] at b1 b3
      have st := a3 _ b1
      refine ⟨U', M_housed_r8 ⟨fun z => absurd z (by rw [hc.2.2.1]; omega), fun _ => ⟨by omega, ?_⟩⟩, b2, b3⟩
      rw [Int.toNat_natCast, q1, q2, e17, e121]
      exact ⟨fun z => absurd c1.1 z, fun _ => ⟨fun _ => st, fun y => ⟨fun _ => st, fun z => absurd c1.2 (by omega)⟩⟩⟩
    · obtain ⟨U', b1, b2, b3⟩ := ih (p + 1) (by omega) U c hm (by omega) hk hc
      have eS : hSt B b nl nw n nh (hm, c) p = (hm, c) := hSt_f (V := B) (s := (hm, c)) (p := p) c1
      refine ⟨U', M_housed_r8 ⟨fun z => absurd z (by rw [hc.2.2.1]; omega), fun _ => ⟨by omega, ?_⟩⟩, b2, by rw [hGo, eS]; exact b3⟩
      rw [Int.toNat_natCast, q1, q2, e17, e121, w32_succ (i := p) (by omega), hGo, eS]
      refine ⟨fun _ => b1, fun y => ⟨fun z => absurd ⟨y, Or.inl (by omega)⟩ c1, fun _ => ⟨fun z => absurd ⟨y, Or.inr z⟩ c1, fun _ => b1⟩⟩⟩
theorem pair_housed {N : Nat} {X : Nat → Int} {d : Nat} {U : am_U} {b ns nh nl nw nd cl n k w g : Nat} (ht : iTown U b ns nh nl nw nd cl) (hf : iFolk U n nh) (hs : iRS U) (hh : iHist U nh k w g) (hp : iPrt U) : act2 N X (D_housed_s0 (d + 8)) (M_housed_s0 (d + 8)) U nh n := by
  obtain ⟨Uk, k1, k2, k3⟩ := act_done (N := N) (X := X) (d := d + 6) hf hs hh
  have htk : iTown Uk b ns nh nl nw nd cl := iTown_agrA (fun r j e => by
    have er : ¬ ((16 ≤ r ∧ r ≤ 20) ∨ r = 45 ∨ r = 48 ∨ r = 52 ∨ r = 56 ∨ (58 ≤ r ∧ r ≤ 77) ∨ r = 85 ∨ (119 ≤ r ∧ r ≤ 124)) := by
      intro z
      unfold scrA at e
      rw [decide_eq_true z] at e; simp at e
    rw [k2 r (by omega) (by omega)]) ht
  have kr : ∀ r, r ≤ 55 → Uk r = U r := fun r q => k2 r (by omega) (by omega)
  have kr' : ∀ r, 78 ≤ r → Uk r = U r := fun r q => k2 r (by omega) (by omega)
  have jc : jCtx Uk b ns nh nl nw nd cl n := by
    refine ⟨htk, ?_, hf.1.2.2, ?_, ?_⟩
    · rw [kr 16 (by decide)]; exact hf.1.1
    · rw [kr 17 (by decide), kr 18 (by decide), kr 8 (by decide)]; exact hf.2.2.2.2.1
    · rw [kr 18 (by decide), kr 19 (by decide)]; exact hf.2.2.2.2.2
  obtain ⟨U2, d1, d2, d3, d4⟩ := D_h15 (N := N) (X := X) (d := d + 1) (V := Uk) n 0 (by omega) Uk 0 (by omega) (kH_refl _) jc
  rw [kr 18 (by decide)] at d1 d4
  generalize hU1 : am_upd (am_upd (am_upd U2 45 5 0) 48 9 0) 52 8 0 = U1 at d1
  have u1 : ∀ r, r ≠ 45 → r ≠ 48 → r ≠ 52 → U1 r = U2 r := fun r q3 q4 q5 => by rw [← hU1, upd_row q5, upd_row q4, upd_row q3]
  have u1j : ∀ r j, r ≠ 18 → r ≠ 19 → r ≠ 45 → r ≠ 48 → r ≠ 52 → scr r j = false → U1 r j = Uk r j := fun r j a b c e f q => by rw [u1 r c e f, d2 r j a b q]
  have z45 : U1 45 5 = 0 := by rw [← hU1, upd_row (by decide), upd_row (by decide), upd_at]
  have z48 : U1 48 9 = 0 := by rw [← hU1, upd_row (by decide), upd_at]
  have z52 : U1 52 8 = 0 := by rw [← hU1, upd_at]
  obtain ⟨Um, m1, m2, m3, m4, m5, m6⟩ := k3 U1 (fun r j q1 q2 q3 q4 q5 q6 => u1j r j (by omega) (by omega) q2 q3 q4 q6)
  have rw1 : ∀ r, r ≠ 18 → r ≠ 19 → r ≠ 45 → r ≠ 48 → r ≠ 52 → (∀ j, scr r j = false) → U1 r = Uk r := fun r a b c e f q => funext fun j => u1j r j a b c e f (q j)
  have stm : stq Uk Um := by
    refine ⟨?_, ?_, ?_, ?_, ?_, ?_, ?_, ?_, ?_⟩ <;> exact (m2 _ (by decide) (by decide)).trans (rw1 _ (by decide) (by decide) (by decide) (by decide) (by decide) (fun _ => rfl))
  have l120 : Um 120 0 = U 120 0 := by rw [(m4 0 (by decide)).1, u1j 120 0 (by decide) (by decide) (by decide) (by decide) (by decide) rfl, kr' 120 (by decide)]
  have l121 : Um 121 0 = U 121 0 := by rw [(m4 0 (by decide)).2.1, u1j 121 0 (by decide) (by decide) (by decide) (by decide) (by decide) rfl, kr' 121 (by decide)]
  have l122 : Um 122 0 = U 122 0 := by rw [(m4 0 (by decide)).2.2, u1j 122 0 (by decide) (by decide) (by decide) (by decide) (by decide) rfl, kr' 122 (by decide)]
  have l123 : ∀ j, j < 16 → Um 123 j = U 123 j ∧ Um 124 j = U 124 j := fun j hj => by rw [(m5 j (by omega)).1, (m5 j (by omega)).2, u1j 123 j (by decide) (by decide) (by decide) (by decide) (by decide) (by simp [scr]; omega), u1j 124 j (by decide) (by decide) (by decide) (by decide) (by decide) (by simp [scr]; omega), kr' 123 (by decide), kr' 124 (by decide)]; exact ⟨rfl, rfl⟩
  have htm : iTown Um b ns nh nl nw nd cl := iTown_agrA (fun r j e => by
    have es : scr r j = false := by
      unfold scrA at e
      cases q : scr r j with
      | false => rfl
      | true => rw [q] at e; simp at e
    have er : ¬ ((16 ≤ r ∧ r ≤ 20) ∨ r = 45 ∨ r = 48 ∨ r = 52 ∨ r = 56 ∨ (58 ≤ r ∧ r ≤ 77) ∨ r = 85 ∨ (119 ≤ r ∧ r ≤ 124)) := by
      intro z
      unfold scrA at e
      rw [decide_eq_true z] at e; simp at e
    have e86 : ¬ (r = 86 ∧ (j = 57 ∨ j = 58 ∨ j = 59)) := by
      rintro ⟨rfl, z⟩
      rcases z with rfl | rfl | rfl <;> exact absurd e (by decide)
    have f1 : U1 r j = U r j := by rw [u1j r j (by omega) (by omega) (by omega) (by omega) (by omega) es, k2 r (by omega) (by omega)]
    by_cases c : r = 86
    · subst c; rw [m3 j (by omega) (by omega), f1]
    · rw [m2 r c (by omega), f1]) ht
  have v17m : Um 17 = U 17 := stm.1.trans (kr 17 (by decide))
  have mc : mCtx Um b ns nh nl nw nd cl 0 n (U 18) := by
    refine ⟨htm, by decide, by rw [l122]; exact hf.1.2.1, hf.1.2.2, fun p hp' => ?_⟩
    have z := hf.2.2.2.1 p hp'
    have z2 := hf.2.2.2.2.1.1 p hp'
    have z3 := hf.1.2.2
    rw [Nat.mul_zero, Nat.zero_add, (l123 p (by omega)).1, (l123 p (by omega)).2, z.1, z.2, v17m]
    exact ⟨rfl, rfl, by omega, by omega⟩
  obtain ⟨V, e1, e2, e3⟩ := M_h8 (N := N) (X := X) (d := d) (B := Uk) (V := Um) stm (by rw [l121, hf.2.2.1.1, kr 16 (by decide)]) (fun p hp' => by rw [kr 17 (by decide)]; exact (hf.2.2.2.2.1.1 p hp').1) n 0 (by omega) Um 0 (U 18) (by omega) (kM_refl _) mc
  obtain ⟨g1, g2, g3, g4⟩ := m6 V (fun r j q1 q2 q3 => e2 r j q3 (by omega)) (fun j hj => by
    have s3 : scr 120 j = false ∧ scr 121 j = false ∧ scr 122 j = false := by simp [scr]; omega
    exact ⟨e2 120 j s3.1 (by omega), e2 121 j s3.2.1 (by omega), e2 122 j s3.2.2 (by omega)⟩) (fun j hj => by
    have s32 : scr 123 j = false ∧ scr 124 j = false := by simp [scr]; omega
    exact ⟨e2 123 j s32.1 (by omega), e2 124 j s32.2 (by omega)⟩)
  have vr : ∀ r, r ≠ 86 → ¬ (120 ≤ r ∧ r ≤ 124) → (∀ j, scr r j = false) → V r = U1 r := fun r q1 q2 q3 => (kM_row e2 (by omega) q3).trans (m2 r q1 q2)
  have v16 : V 16 = U 16 := (vr 16 (by decide) (by decide) (fun _ => rfl)).trans ((rw1 16 (by decide) (by decide) (by decide) (by decide) (by decide) (fun _ => rfl)).trans (kr 16 (by decide)))
  have v17 : V 17 = U 17 := (vr 17 (by decide) (by decide) (fun _ => rfl)).trans ((rw1 17 (by decide) (by decide) (by decide) (by decide) (by decide) (fun _ => rfl)).trans (kr 17 (by decide)))
  have v20 : V 20 = U 20 := (vr 20 (by decide) (by decide) (fun _ => rfl)).trans ((rw1 20 (by decide) (by decide) (by decide) (by decide) (by decide) (fun _ => rfl)).trans (kr 20 (by decide)))
  have v8 : V 8 = U2 8 := (vr 8 (by decide) (by decide) (fun _ => rfl)).trans (u1 8 (by decide) (by decide) (by decide))
  have v18 : V 18 = U2 18 := (vr 18 (by decide) (by decide) (fun _ => rfl)).trans (u1 18 (by decide) (by decide) (by decide))
  have v19 : V 19 = U2 19 := (vr 19 (by decide) (by decide) (fun _ => rfl)).trans (u1 19 (by decide) (by decide) (by decide))
  have w17 : U2 17 = U 17 := (kH_row d2 (by decide) (by decide) (fun _ => rfl)).trans (kr 17 (by decide))
  refine ⟨_, U1, V, n, D_housed_r0 ⟨_, k1, d1⟩, M_housed_r0 ⟨_, m1, e1⟩, g1, ?_, ⟨g2, ?_⟩, g3, ?_, Or.inl ⟨?_, ?_, ?_⟩⟩
  · obtain ⟨⟨q1, q2, q3⟩, ⟨q4, q5⟩, ⟨q6, q7⟩, q8, q9, q10⟩ := hf
    unfold iFolk
    rw [v16, v17, v18, v19, v8, e2 120 0 rfl (by decide), e2 121 0 rfl (by decide), l120, l121]
    refine ⟨⟨q1, e3.2.2.1, q3⟩, ⟨q4, q5⟩, ⟨q6, q7⟩, fun p hp' => ?_, ?_, d3.2.2.2.2⟩
    · have z := e3.2.2.2.2 p hp'
      rw [Nat.mul_zero, Nat.zero_add, v17] at z
      exact ⟨z.1, by rw [z.2.1, d4]⟩
    · have := d3.2.2.2.1
      rw [w17] at this; exact this
  · rw [e2 86 59 rfl (by decide), e2 1 18 rfl (by decide), m3 59 (by decide) (by decide), m2 1 (by decide) (by decide), u1j 86 59 (by decide) (by decide) (by decide) (by decide) (by decide) rfl, u1j 1 18 (by decide) (by decide) (by decide) (by decide) (by decide) rfl, kr' 86 (by decide), kr 1 (by decide)]
    exact hs.2
  · unfold iPrt; rw [v20, v17]; exact hp
  · rw [e2 45 5 rfl (by decide), m2 45 (by decide) (by decide)]; exact z45
  · rw [e2 48 9 rfl (by decide), m2 48 (by decide) (by decide)]; exact z48
  · rw [e2 52 8 rfl (by decide), m2 52 (by decide) (by decide)]; exact z52
