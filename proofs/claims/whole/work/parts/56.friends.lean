/-! friends; persons -/
def frB (U : am_U) (a o : Nat) : Bool := decide ((U 17 a).natAbs ≠ (U 17 o).natAbs ∧ prt (U 17 a).natAbs = (U 17 o).natAbs ∧ prt (U 17 o).natAbs = (U 17 a).natAbs)
theorem ct_areFriends {N : Nat} {X : Nat → Int} {d : Nat} {U : am_U} {a o : Nat} (ha : a < 16) (ho : o < 16) (b1 : -999999999 ≤ U 17 a ∧ U 17 a ≤ 999999999) (b2 : -999999999 ≤ U 17 o ∧ U 17 o ≤ 999999999) (hk : iPrt U) : ∃ U', EvK N X (D_areFriends_s0 (d + 3) (a : Nat) (o : Nat) U) (rI (if frB U a o then 1 else 0) U') ∧ ptk U U' ∧ iPrt U' := by
  obtain ⟨U1, f1, f2, f3⟩ := ct_partsFor (N := N) (X := X) (d := d) (U := U) (p := a) ha b1 hk
  have e17 : U1 17 = U 17 := f2 17 (by decide)
  obtain ⟨U2, g1, g2, g3⟩ := ct_partsFor (N := N) (X := X) (d := d) (U := U1) (p := o) ho (by rw [e17]; exact b2) f3
  rw [e17] at g1
  have start : ∀ U' , ((((U 17 a).natAbs : Nat) : Int) = (((U 17 o).natAbs : Nat) : Int) → rI (if frB U a o then 1 else 0) U' = rI 0 U) → ((((U 17 a).natAbs : Nat) : Int) ≠ (((U 17 o).natAbs : Nat) : Int) → ((((prt (U 17 a).natAbs : Nat) : Int) ≠ (((U 17 o).natAbs : Nat) : Int) → rI (if frB U a o then 1 else 0) U' = rI 0 U1) ∧ (((prt (U 17 a).natAbs : Nat) : Int) = (((U 17 o).natAbs : Nat) : Int) → ((((prt (U 17 o).natAbs : Nat) : Int) ≠ (((U 17 a).natAbs : Nat) : Int) → rI (if frB U a o then 1 else 0) U' = rI 0 U2) ∧ (((prt (U 17 o).natAbs : Nat) : Int) = (((U 17 a).natAbs : Nat) : Int) → rI (if frB U a o then 1 else 0) U' = rI 1 U2))))) → EvK N X (D_areFriends_s0 (d + 3) (a : Nat) (o : Nat) U) (rI (if frB U a o then 1 else 0) U') := by
    intro U' h0 h1
    refine D_areFriends_r0 ?_
    rw [Int.toNat_natCast, Int.toNat_natCast, abs_nat b1, abs_nat b2]
    exact ⟨by omega, by omega, h0, fun z => ⟨_, _, f1, (h1 z).1, fun z2 => ⟨_, _, g1, ((h1 z).2 z2).1, ((h1 z).2 z2).2⟩⟩⟩
  by_cases c1 : (U 17 a).natAbs = (U 17 o).natAbs
  · refine ⟨U, start U (fun _ => ?_) (fun z => absurd (by rw [c1]) z), fun _ _ => rfl, hk⟩
    have : frB U a o = false := by unfold frB; simp [c1]
    rw [this]; rfl
  · by_cases c2 : prt (U 17 a).natAbs = (U 17 o).natAbs
    · by_cases c3 : prt (U 17 o).natAbs = (U 17 a).natAbs
      · refine ⟨U2, start U2 (fun z => by omega) (fun _ => ⟨fun z => by omega, fun _ => ⟨fun z => by omega, fun _ => ?_⟩⟩), fun r h => by rw [g2 r h, f2 r h], g3⟩
        have : frB U a o = true := by unfold frB; simp [c1, c2, c3]
        rw [this]; rfl
      · refine ⟨U2, start U2 (fun z => by omega) (fun _ => ⟨fun z => by omega, fun _ => ⟨fun _ => ?_, fun z => by omega⟩⟩), fun r h => by rw [g2 r h, f2 r h], g3⟩
        have : frB U a o = false := by unfold frB; simp [c1, c2, c3]
        rw [this]; rfl
    · refine ⟨U1, start U1 (fun z => by omega) (fun _ => ⟨fun _ => ?_, fun z => by omega⟩), f2, f3⟩
      have : frB U a o = false := by unfold frB; simp [c1, c2]
      rw [this]; rfl
theorem ct_M_areFriends {N : Nat} {X : Nat → Int} {d : Nat} {U : am_U} {n nh a o : Nat} (hf : iFolk U n nh) (ha : a < n) (ho : o < n) : EvK N X (M_areFriends_s0 (d + 2) (a : Nat) (o : Nat) U) (rI (if frB U a o then 1 else 0) U) := by
  have b1 := (hf.2.2.2.2.1.1 a ha).2.1
  have b2 := (hf.2.2.2.2.1.1 o ho).2.1
  have s1 := ct_sizeOf (N := N) (X := X) (d := d) hf ha
  have s2 := ct_sizeOf (N := N) (X := X) (d := d) hf ho
  have p1 := ct_M_partsOf (N := N) (X := X) (d := d + 1) (U := U) (U 17 a).natAbs (by omega)
  have p2 := ct_M_partsOf (N := N) (X := X) (d := d + 1) (U := U) (U 17 o).natAbs (by omega)
  refine M_areFriends_r0 ⟨_, _, s1, _, _, s2, fun z => ?_, fun z => ⟨_, _, s1, _, _, p1, _, _, s2, fun z2 => ?_, fun z2 => ⟨_, _, s2, _, _, p2, _, _, s1, fun z3 => ?_, fun z3 => ?_⟩⟩⟩
  · have : frB U a o = false := by unfold frB; simp; intro h; omega
    rw [this]; rfl
  · have : frB U a o = false := by unfold frB; simp; intro h h2; omega
    rw [this]; rfl
  · have : frB U a o = false := by unfold frB; simp; intro h h2; omega
    rw [this]; rfl
  · have : frB U a o = true := by unfold frB; simp; omega
    rw [this]; rfl
theorem w32_sub1 (x : Int) : w32 (w32 x + (-1)) = w32 (x - 1) := by unfold w32; omega
theorem w32_z {k c : Int} (hk : in32 k) (hc : 0 ≤ c ∧ c ≤ 1000) : w32 (k - c) = 0 ↔ k = c := by unfold in32 at hk; unfold w32; omega
theorem ct_friends_l {N : Nat} {X : Nat → Int} {d : Nat} {U0 : am_U} {n nh : Nat} {k : Int} (hk : in32 k) (hf : iFolk U0 n nh) : ∀ m a : Nat, a + m = n → (k < 0 ∨ ((fr (prR (frB U0) n) a).length : Int) ≤ k) → ∀ U, ptk U0 U → iPrt U → ∃ U', EvK N X (D_friends_s4 (d + 4) k (w32 (k - ((fr (prR (frB U0) n) a).length : Nat))) (a : Nat) U) (rI (fndP (prL (frB U0) n) k) U') ∧ ptk U0 U' ∧ iPrt U' := by
  have hn := hf.1.2.2
  intro m
  induction m with
  | zero =>
    intro a ha hle U h1 h2
    obtain rfl : a = n := by omega
    refine ⟨U, D_friends_r4 ⟨fun _ => ?_, fun q => absurd q ?_⟩, h1, h2⟩
    · unfold fndP
      split
      · rfl
      · rw [List.getElem?_eq_none (by show (fr (prR (frB U0) a) a).length ≤ _; omega)]
    · rw [h1 16 (by decide), hf.1.1]; omega
  | succ m ih =>
    intro a ha hle U h1 h2
    have inner : ∀ m o : Nat, o + m = n → a < o → (k < 0 ∨ ((prQ (frB U0) n a o).length : Int) ≤ k) → ∀ U, ptk U0 U → iPrt U → ∃ U', EvK N X (D_friends_s20 (d + 4) k (w32 (k - ((prQ (frB U0) n a o).length : Nat))) (a : Nat) (o : Nat) U) (rI (fndP (prL (frB U0) n) k) U') ∧ ptk U0 U' ∧ iPrt U' := by
      intro m'
      induction m' with
      | zero =>
        intro o ho hao hle2 U h1 h2
        obtain rfl : o = n := by omega
        rw [prQ_n] at hle2 ⊢
        obtain ⟨U', k1, k2, k3⟩ := ih (a + 1) (by omega) hle2 U h1 h2
        refine ⟨U', D_friends_r20 ⟨fun _ => ?_, fun q => absurd q ?_⟩, k2, k3⟩
        · rw [w32_succ (i := a) (by omega)]; exact k1
        · rw [h1 16 (by decide), hf.1.1]; omega
      | succ m' ih' =>
        intro o ho hao hle2 U h1 h2
        have hl := prQ_len (P := frB U0) (n := n) (a := a) (o := o) hn (by omega) (by omega)
        have e17 : U 17 = U0 17 := h1 17 (by decide)
        obtain ⟨U1, g1, g2, g3⟩ := ct_areFriends (N := N) (X := X) (d := d) (U := U) (a := a) (o := o) (by omega) (by omega) (by rw [e17]; exact (hf.2.2.2.2.1.1 a (by omega)).2.1) (by rw [e17]; exact (hf.2.2.2.2.1.1 o (by omega)).2.1) h2
        have efr : frB U a o = frB U0 a o := by unfold frB; rw [e17]
        rw [efr] at g1
        have h1' : ptk U0 U1 := fun r h => by rw [g2 r h, h1 r h]
        have nq : ¬ (U 16 0 ≤ ((o : Nat) : Int)) := by rw [h1 16 (by decide), hf.1.1]; omega
        cases hp : frB U0 a o with
        | false =>
          rw [hp] at g1
          obtain ⟨U', k1, k2, k3⟩ := ih' (o + 1) (by omega) (by omega) (by rw [prQ_no hp]; exact hle2) U1 h1' g3
          rw [prQ_no hp] at k1
          refine ⟨U', D_friends_r20 ⟨fun q => absurd q nq, fun _ => ⟨_, _, g1, fun _ => ?_, fun q => absurd rfl q⟩⟩, k2, k3⟩
          rw [w32_succ (i := o) (by omega)]; exact k1
        | true =>
          rw [hp] at g1
          have hy := prQ_yes (n := n) hao hp
          have hlen : (prQ (frB U0) n a (o + 1)).length = (prQ (frB U0) n a o).length + 1 := by rw [hy, List.length_append]; rfl
          have hz := w32_z (k := k) (c := ((prQ (frB U0) n a o).length : Nat)) hk (by omega)
          by_cases c : k = ((prQ (frB U0) n a o).length : Nat)
          · refine ⟨U1, D_friends_r20 ⟨fun q => absurd q nq, fun _ => ⟨_, _, g1, fun q => absurd q (by decide), fun _ => ⟨fun q => absurd (hz.mpr c) q, fun _ => ?_⟩⟩⟩, h1', g3⟩
            have e := prQ_at (P := frB U0) hao (show o < n by omega) hp
            unfold fndP
            clear hz
            rw [if_neg (by omega), show k.toNat = (prQ (frB U0) n a o).length from by omega, e]
            simp only
            rw [w32_eq (x := 100 * ((a : Nat) : Int)) (by omega) (by omega), w32_eq (by omega) (by omega)]
            congr 1
          · obtain ⟨U', k1, k2, k3⟩ := ih' (o + 1) (by clear hz; omega) (by clear hz; omega) (by clear hz; omega) U1 h1' g3
            refine ⟨U', D_friends_r20 ⟨fun q => absurd q nq, fun _ => ⟨_, _, g1, fun q => absurd q (by decide), fun _ => ⟨fun _ => ?_, fun q => absurd (hz.mp q) c⟩⟩⟩, k2, k3⟩
            clear hz
            rw [w32_succ (i := o) (by omega), w32_sub1]
            rw [hlen] at k1
            rw [show k - (((prQ (frB U0) n a o).length : Nat) : Int) - 1 = k - (((prQ (frB U0) n a o).length + 1 : Nat) : Int) from by omega]
            exact k1
    obtain ⟨U', k1, k2, k3⟩ := inner (n - (a + 1)) (a + 1) (by omega) (by omega) (by rw [prQ_0]; exact hle) U h1 h2
    rw [prQ_0] at k1
    refine ⟨U', D_friends_r4 ⟨fun q => absurd q ?_, fun _ => ?_⟩, k2, k3⟩
    · rw [h1 16 (by decide), hf.1.1]; omega
    · rw [w32_succ (i := a) (by omega)]; exact k1
theorem pair_friends {N : Nat} {X : Nat → Int} {d : Nat} {U : am_U} {n nh : Nat} (hf : iFolk U n nh) (hk : iPrt U) (x : Int) (hx : in32 x) : ask3 N X (kP U) (D_friends_s0 (d + 4) x) (M_friends_s0 (d + 4) x) U := by
  obtain ⟨U1, f1, f2, f3⟩ := ct_friends_l (N := N) (X := X) (d := d) (k := x) hx hf n 0 (by omega) (by simp [fr]; omega) U (fun _ _ => rfl) hk
  have hf1 := iFolk_agrC (agrC_ptk f2) hf
  have a2 := ct_pairAt (N := N) (X := X) (d := d + 2) (U := U1) (k := x) (fr0 := 1) (P := frB U1) hx.2 hf1.1.2.1 hf1.1.2.2 (fun a o ha ho => ⟨fun h => absurd h (by decide), fun _ => ct_M_areFriends hf1 ha ho⟩) n 0 (by omega) (by simp [fr]; omega)
  have efr : frB U1 = frB U := by funext a o; unfold frB; rw [f2 17 (by decide)]
  rw [efr] at a2
  have a1 : EvK N X (D_friends_s0 (d + 4) x U) (rI (fndP (prL (frB U) n) x) U1) := D_friends_r0 (by
    have := f1
    rw [show w32 (x - (((fr (prR (frB U) n) 0).length : Nat) : Int)) = x from by simp [fr]; exact w32_id hx] at this
    exact this)
  refine ⟨_, U1, a1, agrC_ptk f2, ⟨fun r j a e => by rw [f2 r a], f3⟩, U1, M_friends_r0 ⟨_, _, M_pairAt_r0 (by simpa [fr] using a2), rfl⟩, agr_refl _⟩
/-! persons -/
theorem brCs_len {U : am_U} {b nl n : Nat} {hm : Nat → Int} {l me p : Nat} (hn : n ≤ 16) (hp : p < n) (hme : me < n) : (brC U b nl n hm (p : Nat) l me).length = (if me = p then fb_ct (fun i => pd (brS U b nl n hm l p i)) 32 else 0) + (if pd (brS U b nl n hm l me p) then 1 else 0) := by
  have e : (brC U b nl n hm (p : Nat) l me).length = fb_ct (brB U b nl n hm (p : Nat) l me) 17 := by unfold brC; rw [List.length_map, fl_len]
  rw [e]
  by_cases c : me = p
  · subst c
    have self : pd (brS U b nl n hm l me me) = false := pd_f (by
      rintro (⟨-, z, -⟩ | ⟨-, ⟨-, -, ⟨-, z, -⟩ | ⟨-, -, z⟩⟩, -⟩)
      · omega
      · exact z rfl
      · exact z.1 rfl)
    rw [if_pos rfl, self]
    simp only [Bool.false_eq_true, if_false, Nat.add_zero]
    rw [ct_cut (m := 17) (n := 32) (by decide) (fun i a _ => pd_f (fun q => by have := brS_17 hn q; omega))]
    exact fb_ct_cong (fun i _ => pd_cg ⟨fun q => q.1, fun q => ⟨q, Or.inr (Or.inl rfl)⟩⟩)
  · rw [if_neg c]
    have hb : ∀ j, brB U b nl n hm (p : Nat) l me j = (decide (j = p) && pd (brS U b nl n hm l me p)) := fun j => by
      by_cases e2 : j = p
      · subst e2
        simp only [decide_true, Bool.true_and]
        exact pd_cg ⟨fun q => q.1, fun q => ⟨q, Or.inr (Or.inr rfl)⟩⟩
      · simp only [e2, decide_false, Bool.false_and]
        exact pd_f (fun q => by rcases q.2 with z | z | z <;> omega)
    rw [fb_ct_cong (fun j _ => hb j)]
    cases pd (brS U b nl n hm l me p) with
    | false =>
      have : fb_ct (fun j => decide (j = p) && false) 17 = 0 := fb_ct_zero.mpr (fun j _ => by simp)
      rw [this]; rfl
    | true =>
      have h1 := fb_ct_upd (fun _ => false) true (i := p) (n := 17) (by omega)
      have h2 : fb_ct (fun _ : Nat => false) 17 = 0 := fb_ct_zero.mpr (fun j _ => rfl)
      have h3 : fb_ct (fun j => decide (j = p) && true) 17 = fb_ct (fun k => if k = p then true else false) 17 := fb_ct_cong (fun j _ => by by_cases z : j = p <;> simp [z])
      rw [h3]
      simp [h2] at h1 ⊢
      omega
theorem fr_len {α : Type} (f : Nat → List α) : ∀ n, (fr f n).length = fb_sm (fun i => (f i).length) n
  | 0 => rfl
  | n + 1 => by rw [fr_succ, List.length_append, fr_len f n]; rfl
theorem sm_one {n p c : Nat} (hp : p < n) : fb_sm (fun i => if i = p then c else 0) n = c := by
  have h := fb_sm_upd (fun _ => 0) c hp
  have h2 : fb_sm (fun _ => 0) n = 0 := by rw [fb_sm_const]; omega
  simpa [h2] using h
theorem sm_ct (p : Nat → Bool) : ∀ n, fb_sm (fun i => if p i then 1 else 0) n = fb_ct p n
  | 0 => rfl
  | n + 1 => by rw [fb_sm_succ, fb_ct_succ, sm_ct p n]
/-- breaches of one: by laws -/
noncomputable def brO (U : am_U) (b nl n : Nat) (hm : Nat → Int) (p l : Nat) : Nat := fb_ct (fun i => pd (brS U b nl n hm l p i)) 32 + fb_ct (fun me => pd (brS U b nl n hm l me p)) n
theorem brA_one {U : am_U} {b nl nw n p : Nat} {hm : Nat → Int} (hn : n ≤ 16) (hp : p < n) : (brA U b nl nw n hm (p : Nat)).length = fb_sm (brO U b nl n hm p) nw := by
  unfold brA
  rw [fr_len]
  refine fb_sm_cong (fun l _ => ?_)
  rw [fr_len, fb_sm_cong (fun me hme => brCs_len hn hp hme), fb_sm_add, sm_one hp, sm_ct]
  rfl
