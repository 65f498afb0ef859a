/-! housed -/
def fstB (P : Nat → Bool) (i : Nat) : Nat → Int
  | 0 => -1
  | m + 1 => bif P i then ((i : Nat) : Int) else fstB P (i + 1) m
theorem fstB_r (P : Nat → Bool) : ∀ m i : Nat, fstB P i m = -1 ∨ ∃ h : Nat, fstB P i m = (h : Nat) ∧ i ≤ h ∧ h < i + m ∧ P h = true := by
  intro m
  induction m with
  | zero => intro i; exact Or.inl rfl
  | succ m ih =>
    intro i
    cases e : P i with
    | true => exact Or.inr ⟨i, by unfold fstB; rw [e]; rfl, by omega, by omega, e⟩
    | false =>
      have : fstB P i (m + 1) = fstB P (i + 1) m := by rw [fstB, e]; rfl
      rw [this]
      rcases ih (i + 1) with h | ⟨h, h1, h2, h3, h4⟩
      · exact Or.inl h
      · exact Or.inr ⟨h, h1, by omega, by omega, h4⟩
theorem mayP_cg {U U' : am_U} (h : stq U U') {b nl nw n : Nat} {hm : Nat → Int} {p g : Nat} : mayP U' b nl nw n hm p g = mayP U b nl nw n hm p g := by
  unfold mayP; rw [inBS_cg h, h.2.1]
def elg (V : am_U) (hm : Nat → Int) (p : Nat) : Prop := hm p = -1 ∧ (0 < V 17 p ∨ V 16 2 ≠ 0)
noncomputable def hPick (V : am_U) (b nl nw n nh : Nat) (hm : Nat → Int) (p : Nat) : Int := fstB (fun h => pd (mayP V b nl nw n hm p h)) 0 nh
noncomputable def hSt (V : am_U) (b nl nw n nh : Nat) (s : (Nat → Int) × Nat) (p : Nat) : (Nat → Int) × Nat := bif pd (elg V s.1 p) then (s1 s.1 p (hPick V b nl nw n nh s.1 p), if hPick V b nl nw n nh s.1 p = -1 then s.2 else s.2 + 1) else s
noncomputable def hGo (V : am_U) (b nl nw n nh : Nat) (p : Nat) : Nat → (Nat → Int) × Nat → (Nat → Int) × Nat
  | 0, s => s
  | m + 1, s => hGo V b nl nw n nh (p + 1) m (hSt V b nl nw n nh s p)
theorem s1_id {f : Nat → Int} {p : Nat} {x : Int} (h : f p = x) : s1 f p x = f := by
  funext j; unfold s1
  by_cases c : j = p
  · rw [if_pos c, c, h]
  · rw [if_neg c]
/-- people moved, scratch written, nothing else (class) -/
def kH (U U' : am_U) : Prop := ∀ r j, r ≠ 18 → r ≠ 19 → scr r j = false → U' r j = U r j
theorem kH_refl (U : am_U) : kH U U := fun _ _ _ _ _ => rfl
theorem kH_trans {U U1 U2 : am_U} (h1 : kH U U1) (h2 : kH U1 U2) : kH U U2 := fun r j a b c => by rw [h2 r j a b c, h1 r j a b c]
theorem kH_row {U U' : am_U} (h : kH U U') {r : Nat} (h1 : r ≠ 18) (h2 : r ≠ 19) (q : ∀ j, scr r j = false) : U' r = U r := funext fun j => h r j h1 h2 (q j)
theorem stq_kH {U U' : am_U} (h : kH U U') : stq U U' := ⟨kH_row h (by decide) (by decide) (fun _ => rfl), kH_row h (by decide) (by decide) (fun _ => rfl), kH_row h (by decide) (by decide) (fun _ => rfl), kH_row h (by decide) (by decide) (fun _ => rfl), kH_row h (by decide) (by decide) (fun _ => rfl), kH_row h (by decide) (by decide) (fun _ => rfl), kH_row h (by decide) (by decide) (fun _ => rfl), kH_row h (by decide) (by decide) (fun _ => rfl), kH_row h (by decide) (by decide) (fun _ => rfl)⟩
theorem iTown_kH {U U' : am_U} {b ns nh nl nw nd cl : Nat} (h : kH U U') (hi : iTown U b ns nh nl nw nd cl) : iTown U' b ns nh nl nw nd cl := by
  refine iTown_agrA (fun r j e => ?_) hi
  have es : scr r j = false := by
    unfold scrA at e
    cases q : scr r j with
    | false => rfl
    | true => rw [q] at e; simp at e
  have er : ¬ ((16 ≤ r ∧ r ≤ 20) ∨ r = 45 ∨ r = 48 ∨ r = 52 ∨ r = 56 ∨ (58 ≤ r ∧ r ≤ 77) ∨ r = 85 ∨ (119 ≤ r ∧ r ≤ 124)) := by
    intro z
    unfold scrA at e
    rw [decide_eq_true z] at e; simp at e
  exact h r j (by omega) (by omega) es
theorem D_h70 {N : Nat} {X : Nat → Int} {d : Nat} {V : am_U} {b ns nh nl nw nd cl n p c : Nat} (hp : p < n) (hc2 : c ≤ 16) : ∀ m i : Nat, i + m = nh → ∀ U, kH V U → jCtx U b ns nh nl nw nd cl n → ∃ U', kH V U' ∧ jCtx U' b ns nh nl nw nd cl n ∧ U' 18 = (if fstB (fun h => pd (mayP V b nl nw n (U 18) p h)) i m = -1 then U 18 else s1 (U 18) p (fstB (fun h => pd (mayP V b nl nw n (U 18) p h)) i m)) ∧ ∀ R, EvK N X (D_housed_s15 (d + 7) ((if fstB (fun h => pd (mayP V b nl nw n (U 18) p h)) i m = -1 then c else c + 1 : Nat) : Int) ((p + 1 : Nat) : Int) U') R → EvK N X (D_housed_s70 (d + 7) (c : Nat) (p : Nat) 1 (i : Nat) U) R := by
  intro m
  induction m with
  | zero =>
    intro i hi U hk hc
    refine ⟨U, hk, hc, by rw [fstB, if_pos rfl], fun R h => D_housed_r70 ⟨fun _ => ?_, fun z => absurd z (by rw [hc.1.2.2.1.1]; omega)⟩⟩
    have hn := hc.2.2.1
    rw [w32_succ (i := p) (by omega)]
    rw [fstB, if_pos rfl] at h
    exact h
  | succ m ih =>
    intro i hi U hk hc
    have hn := hc.2.2.1
    have t12 := hc.1.2.2.1.2.2.1
    obtain ⟨U1, f1, f2⟩ := ct_mayLive (N := N) (X := X) (d := d) (p := p) (g := i) hc hp (by omega)
    rw [mayP_cg (stq_kH hk)] at f1
    have k1 : kH U U1 := fun r j _ _ e => agr_jk f2 r j e
    have j1 : U1 18 = U 18 := jk_row f2 (by decide) (by decide)
    have j2 : U1 19 = U 19 := jk_row f2 (by decide) (by decide)
    have hc1 : jCtx U1 b ns nh nl nw nd cl n := by
      obtain ⟨a1, a2, a3, a4, a5⟩ := hc
      refine ⟨iTown_kH k1 a1, ?_, a3, ?_, ?_⟩
      · rw [kH_row k1 (r := 16) (by decide) (by decide) (fun _ => rfl)]; exact a2
      · rw [j1, kH_row k1 (r := 17) (by decide) (by decide) (fun _ => rfl), kH_row k1 (r := 8) (by decide) (by decide) (fun _ => rfl)]; exact a4
      · rw [j1, j2]; exact a5
    have e31 := hc.1.2.2.1.1
    by_cases c1 : mayP V b nl nw n (U 18) p i
    · have eP : fstB (fun h => pd (mayP V b nl nw n (U 18) p h)) i (m + 1) = ((i : Nat) : Int) := by rw [fstB, pd_t c1]; rfl
      rw [eP, if_neg (by omega), if_neg (by omega)]
      have hhp := hc.2.2.2.1.1 p hp
      obtain ⟨U2, s1', s2, s3, s4, s5⟩ := ct_settle_16 (N := N) (X := X) (d := d + 6) (U := U1) (hs := ((i : Nat) : Int)) hp hn (by omega) (by rw [j1]; omega)
      rw [j1] at s2
      have k2 : kH U U2 := fun r j q1 q2 e => by rw [s5 r q1 q2]; exact k1 r j q1 q2 e
      have hc2' : jCtx U2 b ns nh nl nw nd cl n := by
        obtain ⟨a1, a2, a3, a4, a5⟩ := hc1
        refine ⟨iTown_kH (kH_trans hk k2) (iTown_kH (U := U) (U' := V) (fun r j q1 q2 e => (hk r j q1 q2 e).symm) hc.1), ?_, a3, ?_, ?_⟩
        · rw [s5 16 (by decide) (by decide)]; exact a2
        · rw [s2, s5 17 (by decide) (by decide), s5 8 (by decide) (by decide)]
          rw [j1] at a4
          have := c1.2.1
          refine ppl_move hp (by omega) a4 ?_
          rw [(stq_kH (kH_trans hk k1)).2.1]
          exact this
        · exact s3 a5
      refine ⟨U2, kH_trans hk k2, hc2', s2, fun R h => D_housed_r70 ⟨fun z => absurd z (by rw [e31]; omega), fun _ => ⟨fun z => absurd z (by decide), fun _ => ⟨_, _, f1, fun z => absurd z (by rw [cb_t c1]; decide), fun _ => ⟨U2, s1', ?_⟩⟩⟩⟩⟩
      have e31' : U2 3 1 = (nh : Nat) := hc2'.1.2.2.1.1
      rw [w32_succ (i := c) (by omega), w32_succ (i := i) (by omega)]
      have nx : EvK N X (D_housed_s15 (d + 6 + 1) ((c + 1 : Nat) : Int) (w32 (((p : Nat) : Int) + 1)) U2) R := by rw [w32_succ (i := p) (by omega)]; exact h
      exact D_housed_r70 ⟨fun _ => nx, fun _ => ⟨fun _ => nx, fun z => absurd rfl z⟩⟩
    · have eP : fstB (fun h => pd (mayP V b nl nw n (U 18) p h)) i (m + 1) = fstB (fun h => pd (mayP V b nl nw n (U 18) p h)) (i + 1) m := by rw [fstB, pd_f c1]; rfl
      rw [eP]
      obtain ⟨U', q1, q2, q3, q4⟩ := ih (i + 1) (by omega) U1 (kH_trans hk k1) hc1
      rw [j1] at q3 q4
      refine ⟨U', q1, q2, q3, fun R h => D_housed_r70 ⟨fun z => absurd z (by rw [e31]; omega), fun _ => ⟨fun z => absurd z (by decide), fun _ => ⟨_, _, f1, fun _ => ?_, fun z => absurd (cb_f c1) z⟩⟩⟩⟩
      rw [w32_succ (i := i) (by omega)]
      exact q4 R h
