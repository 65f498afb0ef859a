/-! quarrels; pairs found by their number -/
def qrP (U : am_U) (b nl n p q : Nat) : Prop := (metS U b nl n (U 18) 10 p q ∨ metS U b nl n (U 18) 9 p q) ∧ 1 < Nat.gcd (U 17 p).natAbs (U 17 q).natAbs
theorem ct_qrl_l {N : Nat} {X : Nat → Int} {d : Nat} {U : am_U} {b ns nh nl nw nd cl n p : Nat} {M : Int} (hc : jCtx U b ns nh nl nw nd cl n) (hp : p < n) (hM : ∀ i, i < 32 → tb M i = pd (metS U b nl n (U 18) 10 p i ∨ metS U b nl n (U 18) 9 p i)) : ∀ m i : Nat, i + m = n → ∀ r, in32 r → (∀ j, j < 32 → tb r j = pd (j < i ∧ qrP U b nl n p j)) → ∃ r', EvK N X (D_quarrelling_s23 (d + 1) (p : Nat) M r (i : Nat) U) (rI r' U) ∧ in32 r' ∧ ∀ j, j < 32 → tb r' j = pd (j < n ∧ qrP U b nl n p j) := by
  have e16 := hc.2.1
  have hn := hc.2.2.1
  intro m
  induction m with
  | zero =>
    intro i hi r h1 h2
    obtain rfl : i = n := by omega
    exact ⟨r, D_quarrelling_r23 ⟨fun _ => rfl, fun q => absurd q (by rw [e16]; omega)⟩, h1, h2⟩
  | succ m ih =>
    intro i hi r h1 h2
    have hb : am_and (am_shr M (i : Nat)) 1 = if tb M i then 1 else 0 := bit_shr (by omega)
    have b1 := (hc.2.2.2.1.1 p hp).2.1
    have b2 := (hc.2.2.2.1.1 i (by omega)).2.1
    have no : ¬ qrP U b nl n p i → ∀ j, j < 32 → tb r j = pd (j < i + 1 ∧ qrP U b nl n p j) := fun hq j hj => by
      rw [h2 j hj]
      refine pd_cg ⟨fun ⟨a, q⟩ => ⟨by omega, q⟩, fun ⟨a, q⟩ => ⟨?_, q⟩⟩
      rcases Nat.lt_or_ge j i with z | z
      · exact z
      · have : j = i := by omega
        subst this; exact absurd q hq
    cases e : tb M i with
    | false =>
      rw [e] at hb
      rw [hM i (by omega)] at e
      obtain ⟨r', k1, k2, k3⟩ := ih (i + 1) (by omega) r h1 (no (fun q => (pd_niff.mp e) q.1))
      refine ⟨r', D_quarrelling_r23 ⟨fun q => absurd q (by rw [e16]; omega), fun _ => ?_⟩, k2, k3⟩
      rw [hb, w32_succ (i := i) (by omega)]
      exact ⟨fun _ => k1, fun h => by simp at h⟩
    | true =>
      rw [e] at hb
      rw [hM i (by omega)] at e
      have cf := ct_commonFactor (N := N) (X := X) (d := d) (U := U) (U 17 p) (U 17 i) (by omega) (by omega)
      by_cases g : 1 < Nat.gcd (U 17 p).natAbs (U 17 i).natAbs
      · have hq : qrP U b nl n p i := ⟨pd_iff.mp e, g⟩
        obtain ⟨r', k1, k2, k3⟩ := ih (i + 1) (by omega) (am_or r (am_shl 1 (i : Nat))) (or_in _ _) (fun j hj => by
          rw [tb_or, h2 j hj, tb_bit (by omega) hj]
          by_cases c : j = i
          · subst c
            have z : pd (j < j + 1 ∧ qrP U b nl n p j) = true := pd_t ⟨by omega, hq⟩
            rw [z]; simp
          · simp only [c, decide_false, Bool.or_false]
            exact pd_cg ⟨fun ⟨a, q⟩ => ⟨by omega, q⟩, fun ⟨a, q⟩ => ⟨by omega, q⟩⟩)
        refine ⟨r', D_quarrelling_r23 ⟨fun q => absurd q (by rw [e16]; omega), fun _ => ?_⟩, k2, k3⟩
        rw [hb, w32_succ (i := i) (by omega), Int.toNat_natCast, Int.toNat_natCast]
        exact ⟨fun h => absurd rfl h, fun _ => ⟨by omega, by omega, _, _, cf, fun h => absurd h (by omega), fun _ => k1⟩⟩
      · obtain ⟨r', k1, k2, k3⟩ := ih (i + 1) (by omega) r h1 (no (fun q => g q.2))
        refine ⟨r', D_quarrelling_r23 ⟨fun q => absurd q (by rw [e16]; omega), fun _ => ?_⟩, k2, k3⟩
        rw [hb, w32_succ (i := i) (by omega), Int.toNat_natCast, Int.toNat_natCast]
        exact ⟨fun h => absurd rfl h, fun _ => ⟨by omega, by omega, _, _, cf, fun _ => k1, fun h => absurd h (by omega)⟩⟩
theorem ct_quarrelling {N : Nat} {X : Nat → Int} {d : Nat} {U : am_U} {b ns nh nl nw nd cl n p : Nat} (hc : jCtx U b ns nh nl nw nd cl n) (hp : p < n) : ∃ r, EvK N X (D_quarrelling_s0 (d + 1) (p : Nat) U) (rI r U) ∧ in32 r ∧ ∀ j, j < 32 → tb r j = pd (j < n ∧ qrP U b nl n p j) := by
  obtain ⟨W, g1, g2, g3⟩ := ct_within (N := N) (X := X) (d := d) hc hp
  obtain ⟨B, k1, k2, k3⟩ := ct_besides (N := N) (X := X) (d := d) (kind := 9) (by decide) hc hp
  obtain ⟨r, q1, q2, q3⟩ := ct_qrl_l (N := N) (X := X) (d := d) (M := am_or W B) hc hp (fun i hi => by
    rw [tb_or, g3 i hi, k3 i hi]
    show (pd (metS U b nl n (U 18) 10 p i) || pd (metS U b nl n (U 18) 9 p i)) = _
    by_cases a : metS U b nl n (U 18) 10 p i
    · rw [pd_t a, pd_t (Or.inl a)]; rfl
    · by_cases e : metS U b nl n (U 18) 9 p i
      · rw [pd_t e, pd_t (Or.inr e)]; simp
      · rw [pd_f a, pd_f e, pd_f (by rintro (q | q) <;> contradiction)]; rfl) n 0 (by omega) 0 (by unfold in32; omega) (fun j hj => by rw [tb_0, pd_f]; rintro ⟨q, -⟩; omega)
  exact ⟨r, D_quarrelling_r0 ⟨_, _, g1, _, _, k1, q1⟩, q2, q3⟩
theorem ct_M_isQuarrel {N : Nat} {X : Nat → Int} {d : Nat} {U : am_U} {b ns nh nl nw nd cl n p q : Nat} (ht : iTown U b ns nh nl nw nd cl) (hf : iFolk U n nh) (hp : p < n) (hq : q < n) : EvK N X (M_isQuarrel_s0 (d + 4) (p : Nat) (q : Nat) U) (rI (cb (qrP U b nl n p q)) U) := by
  have hc := mCtx_of ht hf
  have hn := hf.1.2.2
  have p2 : EvK N X (M_isPair_s0 (d + 2) 0 2 (p : Nat) (q : Nat) U) (rI (cb (metS U b nl n (U 18) 10 p q)) U) := ct_M_isPair (N := N) (X := X) (d := d) (kind := 2) (Or.inr rfl) hc hp hq
  have p1 : EvK N X (M_isPair_s0 (d + 2) 0 1 (p : Nat) (q : Nat) U) (rI (cb (metS U b nl n (U 18) 9 p q)) U) := ct_M_isPair (N := N) (X := X) (d := d) (kind := 1) (Or.inl rfl) hc hp hq
  have near : EvK N X (M_isNear_s0 (d + 3) (p : Nat) (q : Nat) U) (rI (cb (metS U b nl n (U 18) 10 p q ∨ metS U b nl n (U 18) 9 p q)) U) := by
    refine M_isNear_r0 ⟨_, _, p2, fun h => ?_, fun h => ⟨_, _, p1, fun h2 => ?_, fun h2 => ?_⟩⟩
    · rw [cb_t (Or.inl (cb_ne.mp h))]
    · rw [cb_f]; rintro (z | z)
      · exact cb_eq.mp h z
      · exact cb_eq.mp h2 z
    · rw [cb_t (Or.inr (cb_ne.mp h2))]
  have b1 := (hf.2.2.2.2.1.1 p hp).2.1
  have b2 := (hf.2.2.2.2.1.1 q hq).2.1
  have m1 := (hf.2.2.2.1 p hp).1
  have m2 := (hf.2.2.2.1 q hq).1
  have g := ct_M_gcd (N := N) (X := X) (d := d + 2) (U := U) (U 17 p) (U 17 q) (by omega) (by omega)
  refine M_isQuarrel_r0 ⟨_, _, near, fun h => ?_, fun h => ⟨by omega, by omega, _, _, by rw [Int.toNat_natCast, Int.toNat_natCast, m1, m2]; exact g, fun h2 => ?_, fun h2 => ?_⟩⟩
  · rw [cb_f (fun z => cb_eq.mp h z.1)]
  · rw [cb_f (fun z => by have := z.2; omega)]
  · rw [cb_t ⟨cb_ne.mp h, by omega⟩]
/-! pairs in order -/
def prR (P : Nat → Nat → Bool) (n a : Nat) : List (Nat × Nat) := (fl (fun o => decide (a < o) && P a o) n).map (fun o => (a, o))
def prL (P : Nat → Nat → Bool) (n : Nat) : List (Nat × Nat) := fr (prR P n) n
def fndP (L : List (Nat × Nat)) (k : Int) : Int := if k < 0 then -1 else match L[k.toNat]? with
  | some x => ((100 * x.1 + x.2 : Nat) : Int)
  | none => -1
theorem fl_pre (p : Nat → Bool) {o : Nat} : ∀ {n : Nat}, o ≤ n → ∃ t, fl p n = fl p o ++ t
  | 0, h => ⟨[], by rw [show o = 0 from by omega]; simp⟩
  | n + 1, h => by
    by_cases e : o = n + 1
    · exact ⟨[], by rw [e]; simp⟩
    · obtain ⟨t, ht⟩ := fl_pre p (o := o) (n := n) (by omega)
      exact ⟨t ++ (if p n then [n] else []), by rw [fl_succ, ht, List.append_assoc]⟩
theorem fr_pre {α : Type} (f : Nat → List α) {o : Nat} : ∀ {n : Nat}, o ≤ n → ∃ t, fr f n = fr f o ++ t
  | 0, h => ⟨[], by rw [show o = 0 from by omega]; simp⟩
  | n + 1, h => by
    by_cases e : o = n + 1
    · exact ⟨[], by rw [e]; simp⟩
    · obtain ⟨t, ht⟩ := fr_pre f (o := o) (n := n) (by omega)
      exact ⟨t ++ f n, by rw [fr_succ, ht, List.append_assoc]⟩
/-- the list up to (a, o) -/
def prQ (P : Nat → Nat → Bool) (n a o : Nat) : List (Nat × Nat) := fr (prR P n) a ++ (fl (fun o => decide (a < o) && P a o) o).map (fun o => (a, o))
theorem prQ_0 (P : Nat → Nat → Bool) (n a : Nat) : prQ P n a (a + 1) = fr (prR P n) a := by
  unfold prQ
  rw [fl_nil (fun i hi => by simp; omega)]; simp
theorem prQ_n (P : Nat → Nat → Bool) (n a : Nat) : prQ P n a n = fr (prR P n) (a + 1) := by rw [fr_succ]; rfl
theorem prQ_yes {P : Nat → Nat → Bool} {n a o : Nat} (h : a < o) (hp : P a o = true) : prQ P n a (o + 1) = prQ P n a o ++ [(a, o)] := by
  unfold prQ
  rw [fl_succ]
  simp [h, hp]
theorem prQ_no {P : Nat → Nat → Bool} {n a o : Nat} (hp : P a o = false) : prQ P n a (o + 1) = prQ P n a o := by
  unfold prQ
  rw [fl_succ]
  simp [hp]
theorem prQ_at {P : Nat → Nat → Bool} {n a o : Nat} (ha : a < o) (ho : o < n) (hp : P a o = true) : (prL P n)[(prQ P n a o).length]? = some (a, o) := by
  have e1 := prQ_yes (n := n) ha hp
  obtain ⟨t, ht⟩ := fl_pre (fun o => decide (a < o) && P a o) (o := o + 1) (n := n) (by omega)
  obtain ⟨u, hu⟩ := fr_pre (prR P n) (o := a + 1) (n := n) (by omega)
  have : prL P n = prQ P n a (o + 1) ++ (t.map (fun o => (a, o)) ++ u) := by
    unfold prL
    rw [hu, fr_succ]
    show _ ++ (fl _ n).map _ ++ u = _
    rw [ht, List.map_append]
    unfold prQ
    simp [List.append_assoc]
  rw [this, e1, List.append_assoc, List.getElem?_append_right (Nat.le_refl _), Nat.sub_self]
  rfl
theorem prQ_len {P : Nat → Nat → Bool} {n a o : Nat} (hn : n ≤ 16) (ha : a ≤ 16) (ho : o ≤ 16) : (prQ P n a o).length ≤ 300 := by
  have h1 : ∀ i, (fr (prR P n) i).length ≤ 16 * i := by
    intro i
    induction i with
    | zero => simp [fr]
    | succ i ih =>
      have e : (fr (prR P n) (i + 1)).length = (fr (prR P n) i).length + (prR P n i).length := by rw [fr_succ, List.length_append]
      have : (prR P n i).length ≤ 16 := by
        have e2 : (prR P n i).length = fb_ct (fun o => decide (i < o) && P i o) n := by unfold prR; rw [List.length_map, fl_len]
        have := fb_ct_le (fun o => decide (i < o) && P i o) n
        omega
      omega
  have e : (prQ P n a o).length = (fr (prR P n) a).length + fb_ct (fun o => decide (a < o) && P a o) o := by unfold prQ; rw [List.length_append, List.length_map, fl_len]
  have := h1 a
  have := fb_ct_le (fun o => decide (a < o) && P a o) o
  omega
/-- the reference's walk over pairs -/
theorem ct_pairAt {N : Nat} {X : Nat → Int} {d : Nat} {U : am_U} {n : Nat} {k fr0 : Int} {P : Nat → Nat → Bool} (hk : k < 2147483648) (hn : U 122 0 = (n : Nat)) (hn2 : n ≤ 16) (hP : ∀ a o, a < n → o < n → (fr0 = 0 → EvK N X (M_isQuarrel_s0 d (a : Nat) (o : Nat) U) (rI (if P a o then 1 else 0) U)) ∧ (fr0 ≠ 0 → EvK N X (M_areFriends_s0 d (a : Nat) (o : Nat) U) (rI (if P a o then 1 else 0) U))) : ∀ m a : Nat, a + m = n → (k < 0 ∨ ((fr (prR P n) a).length : Int) ≤ k) → EvK N X (M_pairAt_s5 (d + 1) k fr0 ((fr (prR P n) a).length : Nat) (a : Nat) U) (rI (fndP (prL P n) k) U) := by
  intro m
  induction m with
  | zero =>
    intro a ha hle
    obtain rfl : a = n := by omega
    refine M_pairAt_r5 ⟨fun _ => ?_, fun q => absurd q (by rw [hn]; omega)⟩
    unfold fndP
    split
    · rfl
    · rw [List.getElem?_eq_none (by show (fr (prR P a) a).length ≤ _; omega)]
  | succ m ih =>
    intro a ha hle
    have inner : ∀ m o : Nat, o + m = n → a < o → (k < 0 ∨ ((prQ P n a o).length : Int) ≤ k) → EvK N X (M_pairAt_s22 (d + 1) k fr0 ((prQ P n a o).length : Nat) (a : Nat) (o : Nat) U) (rI (fndP (prL P n) k) U) := by
      intro m'
      induction m' with
      | zero =>
        intro o ho hao hle2
        obtain rfl : o = n := by omega
        rw [prQ_n] at hle2 ⊢
        refine M_pairAt_r22 ⟨fun _ => ?_, fun q => absurd q (by rw [hn]; omega)⟩
        rw [w32_succ (i := a) (by omega)]
        exact ih (a + 1) (by omega) hle2
      | succ m' ih' =>
        intro o ho hao hle2
        have hl := prQ_len (P := P) (n := n) (a := a) (o := o) hn2 (by omega) (by omega)
        obtain ⟨h0, h1⟩ := hP a o (by omega) (by omega)
        have go : ∀ c : Int, c = (if P a o then 1 else 0) → (c ≠ 0 → (((prQ P n a o).length : Nat) : Int) ≠ k → EvK N X (M_pairAt_s22 (d + 1) k fr0 (w32 (((prQ P n a o).length : Nat) + 1)) (a : Nat) (w32 ((o : Nat) + 1)) U) (rI (fndP (prL P n) k) U)) ∧ (c ≠ 0 → (((prQ P n a o).length : Nat) : Int) = k → rI (fndP (prL P n) k) U = rI (w32 ((w32 (100 * ((a : Nat) : Int))) + (o : Nat))) U) ∧ (c = 0 → EvK N X (M_pairAt_s22 (d + 1) k fr0 ((prQ P n a o).length : Nat) (a : Nat) (w32 ((o : Nat) + 1)) U) (rI (fndP (prL P n) k) U)) := by
          intro c hc
          rw [w32_succ (i := o) (by omega)]
          cases hp : P a o with
          | false =>
            rw [hp] at hc
            have k1 := ih' (o + 1) (by omega) (by omega) (by rw [prQ_no hp]; exact hle2)
            rw [prQ_no hp] at k1
            exact ⟨fun q => absurd hc q, fun q => absurd hc q, fun _ => k1⟩
          | true =>
            rw [hp] at hc
            have hy := prQ_yes (n := n) hao hp
            have hlen : (prQ P n a (o + 1)).length = (prQ P n a o).length + 1 := by rw [hy, List.length_append]; rfl
            refine ⟨fun _ q => ?_, fun _ q => ?_, fun q => absurd q (by rw [hc]; decide)⟩
            · have k1 := ih' (o + 1) (by omega) (by omega) (by omega)
              rw [hlen] at k1
              rw [w32_succ (by omega)]
              exact k1
            · have e := prQ_at (P := P) hao (show o < n by omega) hp
              unfold fndP
              rw [if_neg (by omega), show k.toNat = (prQ P n a o).length from by omega, e]
              simp only
              rw [w32_eq (x := 100 * ((a : Nat) : Int)) (by omega) (by omega), w32_eq (by omega) (by omega)]
              congr 1
        obtain ⟨g1, g2, g3⟩ := go _ rfl
        exact M_pairAt_r22 ⟨fun q => absurd q (by rw [hn]; omega), fun _ => ⟨fun z => ⟨_, _, h0 z, fun c => ⟨fun q => g1 c q, fun q => g2 c q⟩, fun c => g3 c⟩, fun z => ⟨_, _, h1 z, fun c => ⟨fun q => g1 c q, fun q => g2 c q⟩, fun c => g3 c⟩⟩⟩
    refine M_pairAt_r5 ⟨fun q => absurd q (by rw [hn]; omega), fun _ => ?_⟩
    rw [w32_succ (i := a) (by omega)]
    have k1 := inner (n - (a + 1)) (a + 1) (by omega) (by omega) (by rw [prQ_0]; exact hle)
    rw [prQ_0] at k1
    exact k1
noncomputable def qrB (U : am_U) (b nl n a o : Nat) : Bool := pd (qrP U b nl n a o)
theorem tb_m2shl {a j : Nat} (ha : a < 31) (hj : j < 32) : tb (am_shl (-2) (a : Nat)) j = decide (a < j) := by
  rw [tb_shl (by omega) hj]
  by_cases c : a < j
  · rw [tb_m2 (by omega)]; simp [c]; omega
  · by_cases e : a = j
    · subst e; simp [tb_m2]
    · simp [c]; omega
theorem ct_quarrel_l {N : Nat} {X : Nat → Int} {d : Nat} {U : am_U} {b ns nh nl nw nd cl n k : Nat} {k0 : Int} (hk : k < 2147483648) (hc : jCtx U b ns nh nl nw nd cl n) : ∀ m a : Nat, a + m = n → (fr (prR (qrB U b nl n) n) a).length ≤ k → EvK N X (D_quarrel_s4 (d + 2) k0 (((k - (fr (prR (qrB U b nl n) n) a).length : Nat)) : Int) (a : Nat) U) (rI (fndP (prL (qrB U b nl n) n) (k : Nat)) U) := by
  have e16 := hc.2.1
  have hn := hc.2.2.1
  intro m
  induction m with
  | zero =>
    intro a ha hle
    obtain rfl : a = n := by omega
    refine D_quarrel_r4 ⟨fun _ => ?_, fun q => absurd q (by rw [e16]; omega)⟩
    have hz : (prL (qrB U b nl a) a)[k]? = none := List.getElem?_eq_none hle
    unfold fndP
    rw [if_neg (by omega), Int.toNat_natCast, hz]
  | succ m ih =>
    intro a ha hle
    obtain ⟨r, g1, g2, g3⟩ := ct_quarrelling (N := N) (X := X) (d := d) hc (show a < n by omega)
    have bits : ∀ j, j < 32 → tb (am_and r (am_shl (-2) (a : Nat))) j = (decide (a < j) && (decide (j < n) && qrB U b nl n a j)) := fun j hj => by
      rw [tb_and, g3 j hj, tb_m2shl (by omega) hj]
      by_cases c1 : j < n
      · have : pd (j < n ∧ qrP U b nl n a j) = qrB U b nl n a j := pd_cg ⟨fun h => h.2, fun h => ⟨c1, h⟩⟩
        rw [this]; simp [c1]; cases qrB U b nl n a j <;> simp
      · rw [pd_f (fun h => c1 h.1)]; simp [c1]
    have cut : ∀ j, n ≤ j → j < 32 → tb (am_and r (am_shl (-2) (a : Nat))) j = false := fun j h1 h2 => by rw [bits j h2]; simp; omega
    have e1 : fb_ct (tb (am_and r (am_shl (-2) (a : Nat)))) 32 = (prR (qrB U b nl n) n a).length := by
      rw [ct_cut (m := n) (by omega) cut]
      unfold prR
      rw [List.length_map, fl_len]
      exact fb_ct_cong (fun j hj => by rw [bits j (by omega)]; simp [hj])
    have e : (fr (prR (qrB U b nl n) n) (a + 1)).length = (fr (prR (qrB U b nl n) n) a).length + fb_ct (tb (am_and r (am_shl (-2) (a : Nat)))) 32 := by rw [fr_succ, List.length_append, e1]
    refine D_quarrel_r4 ⟨fun q => absurd q (by rw [e16]; omega), fun _ => ⟨fun h => absurd h (by omega), fun _ => ⟨_, _, g1, _, _, ct_bitCount _, fun h => ?_, fun h => ⟨_, _, ct_bitAt _ _ (by omega), ?_⟩⟩⟩⟩
    · have k1 := ih (a + 1) (by omega) (by omega)
      rw [w32_succ (i := a) (by omega), w32_eq (by omega) (by omega), show (((k - (fr (prR (qrB U b nl n) n) a).length : Nat)) : Int) - ((fb_ct (tb (am_and r (am_shl (-2) (a : Nat)))) 32 : Nat) : Int) = (((k - (fr (prR (qrB U b nl n) n) (a + 1)).length : Nat)) : Int) from by omega]
      exact k1
    · have hlt : k - (fr (prR (qrB U b nl n) n) a).length < (prR (qrB U b nl n) n a).length := by omega
      have e2 : (prL (qrB U b nl n) n)[k]? = (prR (qrB U b nl n) n a)[k - (fr (prR (qrB U b nl n) n) a).length]? := by
        unfold prL
        obtain ⟨t, ht⟩ := fr_pre (prR (qrB U b nl n) n) (o := a + 1) (n := n) (by omega)
        rw [ht, fr_succ, List.append_assoc, List.getElem?_append_right hle, List.getElem?_append_left hlt]
      have e0 : (prR (qrB U b nl n) n a).length = (fl (fun o => decide (a < o) && qrB U b nl n a o) n).length := by unfold prR; rw [List.length_map]
      obtain ⟨z, e3⟩ : ∃ z, (fl (fun o => decide (a < o) && qrB U b nl n a o) n)[k - (fr (prR (qrB U b nl n) n) a).length]? = some z := ⟨_, List.getElem?_eq_getElem (by rw [← e0]; exact hlt)⟩
      obtain ⟨z1, z2, z3⟩ := fl_kth e3
      have e4 : kth (tb (am_and r (am_shl (-2) (a : Nat)))) (((k - (fr (prR (qrB U b nl n) n) a).length : Nat)) : Int) 32 = ((z : Nat) : Int) := by
        rw [← z1, kth_cut (m := n) (by omega) cut]
        exact kth_cong (fun j hj => by rw [bits j (by omega)]; simp [hj])
      have e6 : (prL (qrB U b nl n) n)[k]? = some (a, z) := by
        rw [e2]; unfold prR; rw [List.getElem?_map]
        unfold prR at e3
        rw [e3]; rfl
      rw [e4]
      unfold fndP
      rw [if_neg (by omega), Int.toNat_natCast, e6]
      simp only
      clear e0 e1 e2 e3 e4 e6 e
      rw [w32_eq (x := 100 * ((a : Nat) : Int)) (by omega) (by omega), w32_eq (by omega) (by omega)]
      congr 1
theorem pair_quarrel {N : Nat} {X : Nat → Int} {d : Nat} {U : am_U} {b ns nh nl nw nd cl n : Nat} (ht : iTown U b ns nh nl nw nd cl) (hf : iFolk U n nh) (x : Int) (hx : x < 2147483648) : ask2 N X (D_quarrel_s0 (d + 6) x) (M_quarrel_s0 (d + 6) x) U := by
  have a2 := ct_pairAt (N := N) (X := X) (d := d + 4) (U := U) (k := x) (fr0 := 0) (P := qrB U b nl n) hx hf.1.2.1 hf.1.2.2 (fun a o ha ho => ⟨fun _ => by
    have := ct_M_isQuarrel (N := N) (X := X) (d := d) ht hf ha ho
    rw [cb_pd] at this; exact this, fun h => absurd rfl h⟩) n 0 (by omega) (by simp [fr]; omega)
  refine ask2_of (r := fndP (prL (qrB U b nl n) n) x) (D_quarrel_r0 ?_) (M_quarrel_r0 ⟨_, _, M_pairAt_r0 (by simpa [fr] using a2), rfl⟩)
  by_cases c : x < 0
  · unfold fndP
    rw [if_pos c]
    exact D_quarrel_r4 ⟨fun _ => rfl, fun _ => ⟨fun _ => rfl, fun h => absurd h (by omega)⟩⟩
  · obtain ⟨k, rfl⟩ : ∃ k : Nat, x = k := ⟨x.toNat, by omega⟩
    have := ct_quarrel_l (N := N) (X := X) (d := d + 4) (k := k) (k0 := (k : Nat)) (by omega) (jCtx_of ht hf) n 0 (by omega) (by simp [fr])
    simpa [fr] using this
