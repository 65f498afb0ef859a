/-! the town that is being told: what both sides hold of it -/
/-- what the class holds -/
def cW (U W : am_U) : Prop := (∀ r, 31 ≤ r → r ≤ 42 → r ≠ 39 → U r = W (r - 28)) ∧ (∀ j : Nat, (j : Int) < W 3 18 → U 43 j = W 15 j) ∧ (U 21 = W 16 ∧ U 22 = W 17 ∧ U 23 = W 18) ∧ ∃ n : Nat, W 16 0 = (n : Nat) ∧ DwOk n (U 23) (U 24)
/-- what the reference holds -/
def rW (V W : am_U) (b : Nat) : Prop := V 86 40 = (b : Nat) ∧ (∀ r, 88 ≤ r → r ≤ 110 → V r = W r) ∧ V 86 39 = W 3 18 ∧ ∀ j : Nat, (j : Int) < W 3 18 → V 111 (1600 * b + j) = srt (W 15 j) ∧ (0 ≤ W 15 j → V 112 (1600 * b + j) = W 15 j)
section GHO
variable {U U' V V' W W' : am_U} {b r j : Nat} {x : Int}
theorem cW_row (h : cW U W) (hr : ∀ r, (21 ≤ r ∧ r ≤ 24) ∨ (31 ≤ r ∧ r ≤ 43) → U' r = U r) : cW U' W := by
  obtain ⟨h1, h2, h3, h4⟩ := h
  refine ⟨fun r a1 a2 a3 => by rw [hr r (by omega)]; exact h1 r a1 a2 a3, fun j hj => by rw [hr 43 (by omega)]; exact h2 j hj, ?_, ?_⟩
  · rw [hr 21 (by omega), hr 22 (by omega), hr 23 (by omega)]; exact h3
  · rw [hr 23 (by omega), hr 24 (by omega)]; exact h4
theorem cW_fN (h : cW U W) (f : fN U U') : cW U' W := cW_row h (fun r hr => funext fun j => f r j (by omega))
theorem cW_gh (h : cW U W) (hr : ∀ r, r ≤ 18 → W' r = W r) : cW U W' := by
  obtain ⟨h1, h2, h3, h4⟩ := h
  refine ⟨fun r a1 a2 a3 => by rw [hr (r - 28) (by omega)]; exact h1 r a1 a2 a3, ?_, ?_, ?_⟩
  · rw [hr 3 (by omega), hr 15 (by omega)]; exact h2
  · rw [hr 16 (by omega), hr 17 (by omega), hr 18 (by omega)]; exact h3
  · rw [hr 16 (by omega)]; exact h4
theorem cW_gh1 (h : cW U W) (hr : 18 < r) : cW U (am_upd W r j x) := cW_gh h (fun q hq => upd_row (by omega))
theorem cW_up (h : cW U W) (r : Nat) (hr : 31 ≤ r ∧ r ≤ 42 ∧ r ≠ 39) (h18 : r = 31 → j ≠ 18) : cW (am_upd U r j x) (am_upd W (r - 28) j x) := by
  obtain ⟨h1, h2, h3, h4⟩ := h
  have e318 : am_upd W (r - 28) j x 3 18 = W 3 18 := by
    by_cases e : r = 31
    · subst e; exact upd_ne (fun z => h18 rfl z.symm)
    · rw [upd_row (by omega)]
  refine ⟨fun q a1 a2 a3 => ?_, ?_, ?_, ?_⟩
  · by_cases e : q = r
    · subst e
      funext i
      rw [upd_if, upd_if, h1 q a1 a2 a3]
    · rw [upd_row e, upd_row (by omega)]; exact h1 q a1 a2 a3
  · rw [e318, upd_row (show (43 : Nat) ≠ r by omega), upd_row (show (15 : Nat) ≠ r - 28 by omega)]; exact h2
  · rw [upd_row (show (21 : Nat) ≠ r by omega), upd_row (show (22 : Nat) ≠ r by omega), upd_row (show (23 : Nat) ≠ r by omega), upd_row (show (16 : Nat) ≠ r - 28 by omega), upd_row (show (17 : Nat) ≠ r - 28 by omega), upd_row (show (18 : Nat) ≠ r - 28 by omega)]; exact h3
  · rw [upd_row (show (23 : Nat) ≠ r by omega), upd_row (show (24 : Nat) ≠ r by omega), upd_row (show (16 : Nat) ≠ r - 28 by omega)]; exact h4
theorem rW_A6 (h : rW V W b) (f : fA6 V V') : rW V' W b := by
  obtain ⟨h1, h2, h3, h4⟩ := h
  refine ⟨by rw [f 86 40 (by decide)]; exact h1, fun r a1 a2 => by rw [fA6_row f (by omega)]; exact h2 r a1 a2, by rw [f 86 39 (by decide)]; exact h3, ?_⟩
  rw [fA6_row f (by decide), fA6_row f (by decide)]; exact h4
theorem rW_gh (h : rW V W b) (hr : r ≤ 18) (h3 : ¬ (r = 3 ∧ j = 18)) (h15 : r ≠ 15) : rW V (am_upd W r j x) b := by
  obtain ⟨h1, h2, h4, h5⟩ := h
  have e318 : am_upd W r j x 3 18 = W 3 18 := by
    by_cases e : r = 3
    · subst e; exact upd_ne (fun z => h3 ⟨rfl, z.symm⟩)
    · rw [upd_row (fun z => e z.symm)]
  refine ⟨h1, fun q a1 a2 => by rw [upd_row (by omega)]; exact h2 q a1 a2, by rw [e318]; exact h4, ?_⟩
  rw [e318, upd_row (fun z => h15 z.symm)]; exact h5
theorem rW_up (h : rW V W b) (hr : 88 ≤ r ∧ r ≤ 110) : rW (am_upd V r j x) (am_upd W r j x) b := by
  obtain ⟨h1, h2, h4, h5⟩ := h
  refine ⟨by rw [upd_row (by omega)]; exact h1, fun q a1 a2 => ?_, ?_, ?_⟩
  · by_cases e : q = r
    · subst e
      funext i
      rw [upd_if, upd_if, h2 q a1 a2]
    · rw [upd_row e, upd_row e]; exact h2 q a1 a2
  · rw [upd_row (show (86 : Nat) ≠ r by omega), upd_row (show (3 : Nat) ≠ r by omega)]; exact h4
  · rw [upd_row (show (3 : Nat) ≠ r by omega), upd_row (show (15 : Nat) ≠ r by omega), upd_row (show (111 : Nat) ≠ r by omega), upd_row (show (112 : Nat) ≠ r by omega)]; exact h5
/-! what reading may change in the reference: the one bank, and such places -/
def wdt (r : Nat) : Nat := if r = 89 then 4 else if r = 91 ∨ r = 92 ∨ r = 93 then 12 else if r = 95 ∨ r = 96 then 10 else if r = 98 ∨ r = 99 ∨ r = 107 ∨ r = 108 ∨ r = 109 then 16 else if r = 101 ∨ r = 102 ∨ r = 103 then 8 else if r = 111 ∨ r = 112 then 1600 else 1
def scY (b r j : Nat) : Prop := (r = 86 ∧ (j = 3 ∨ j = 4 ∨ j = 5 ∨ j = 6 ∨ j = 7 ∨ j = 8 ∨ j = 9 ∨ j = 12 ∨ j = 39 ∨ j = 46 ∨ j = 47 ∨ j = 49 ∨ j = 50)) ∨ (113 ≤ r ∧ r ≤ 118) ∨ (88 ≤ r ∧ r ≤ 112 ∧ wdt r * b ≤ j ∧ j < wdt r * b + wdt r)
def fY (b : Nat) (V V' : am_U) : Prop := ∀ r j, ¬ scY b r j → V' r j = V r j
theorem fY_refl (b : Nat) (V : am_U) : fY b V V := fun _ _ _ => rfl
theorem fY_trans {V1 : am_U} (h1 : fY b V V1) (h2 : fY b V1 V') : fY b V V' := fun r j a => by rw [h2 r j a, h1 r j a]
theorem fY_A6 (h : fA6 V V') : fY b V V' := fun r j e => h r j (fun z => e (Or.inl ⟨z.1, by omega⟩))
theorem fY_89 (h : f89 V V') : fY b V V' := fun r j e => h r j (fun z => e (Or.inl ⟨z.1, by omega⟩))
theorem fY_Z (h40 : V 86 40 = (b : Nat)) (h : fZ V V') : fY b V V' := fun r j e => by
  by_cases c : r = 111 ∨ r = 112
  · have q : ¬ (V 86 40 * 1600 ≤ (j : Int) ∧ (j : Int) < V 86 40 * 1600 + 1600) := fun z => e (Or.inr (Or.inr (by
      rw [h40] at z
      rcases c with rfl | rfl
      · show 88 ≤ 111 ∧ 111 ≤ 112 ∧ 1600 * b ≤ j ∧ j < 1600 * b + 1600
        omega
      · show 88 ≤ 112 ∧ 112 ≤ 112 ∧ 1600 * b ≤ j ∧ j < 1600 * b + 1600
        omega)))
    rcases c with rfl | rfl
    · exact (h.2 j q).1
    · exact (h.2 j q).2
  · refine h.1 r j ?_
    cases hs : scZ r j with
    | false => rfl
    | true =>
      exfalso
      unfold scZ at hs
      simp only [Bool.or_eq_true, Bool.and_eq_true, beq_iff_eq, decide_eq_true_eq] at hs
      refine e ?_
      unfold scY
      omega
theorem fY_up (h : fY b V V') (hr : 88 ≤ r ∧ r ≤ 110) (hj : wdt r * b ≤ j ∧ j < wdt r * b + wdt r) : fY b V (am_upd V' r j x) := fun q i e => by
  by_cases c : q = r ∧ i = j
  · obtain ⟨rfl, rfl⟩ := c
    exact absurd (Or.inr (Or.inr ⟨hr.1, by omega, hj⟩)) e
  · have : am_upd V' r j x q i = V' q i := if_neg c
    rw [this]; exact h q i e
/-- what reading may change in the class -/
def fCz (U U' : am_U) : Prop := (∀ r, ¬ (21 ≤ r ∧ r ≤ 43) → U' r = U r) ∧ U' 26 3 = U 26 3
theorem fCz_refl (U : am_U) : fCz U U := ⟨fun _ _ => rfl, rfl⟩
theorem fCz_trans {U1 : am_U} (h1 : fCz U U1) (h2 : fCz U1 U') : fCz U U' := ⟨fun r q => by rw [h2.1 r q, h1.1 r q], by rw [h2.2, h1.2]⟩
theorem fCz_N (h : fN U U') : fCz U U' := ⟨fun r q => funext fun j => h r j (by omega), h 26 3 (by omega)⟩
theorem fCz_E (h : fE U U') : fCz U U' := ⟨fun r q => funext fun j => h r j (by omega) (by omega) (by omega), h 26 3 (by omega) (by omega) (by omega)⟩
theorem fCz_up (h : fCz U U') (hr : 21 ≤ r ∧ r ≤ 43) (h3 : ¬ (r = 26 ∧ j = 3)) : fCz U (am_upd U' r j x) := ⟨fun q hq => by rw [upd_row (by omega)]; exact h.1 q hq, by
  by_cases e : r = 26
  · subst e; rw [upd_ne (fun z => h3 ⟨rfl, z.symm⟩)]; exact h.2
  · rw [upd_row (fun z => e z.symm)]; exact h.2⟩
end GHO
/-! what is true of it -/
def gSt (W : am_U) (b ns : Nat) : Prop := W 3 0 = (ns : Nat) ∧ W 88 b = (ns : Nat) ∧ ns ≤ 4 ∧ ∀ s, s < ns → nmR (W 4 s) (W 89 (4 * b + s))
def gHs (W : am_U) (b ns nh nl : Nat) : Prop := W 3 1 = (nh : Nat) ∧ W 90 b = (nh : Nat) ∧ nh ≤ 12 ∧ ∀ h, h < nh → nmR (W 5 h) (W 91 (12 * b + h)) ∧ (W 92 (12 * b + h) = W 6 h ∧ 0 ≤ W 6 h ∧ W 6 h < (ns : Nat)) ∧ (W 93 (12 * b + h) = W 8 h ∧ 1 ≤ W 8 h ∧ W 8 h ≤ 6) ∧ W 7 h = (plc (W 6) h : Nat) ∧ in32 (W 9 h) ∧ ∀ i, i < 32 → tb (W 9 h) i = pd (i < nh ∧ nbP (W 6) (fun k => W 95 (10 * b + k)) (fun k => W 96 (10 * b + k)) nl h i)
def gLn (W : am_U) (b nh nl : Nat) : Prop := W 3 2 = (nl : Nat) ∧ W 94 b = (nl : Nat) ∧ nl ≤ 10 ∧ ∀ k, k < nl → (0 ≤ W 95 (10 * b + k) ∧ W 95 (10 * b + k) < (nh : Nat)) ∧ 0 ≤ W 96 (10 * b + k) ∧ W 96 (10 * b + k) < (nh : Nat)
def dbF (W : am_U) (b h k : Nat) : Int := (if W 108 (16 * b + k) = (h : Nat) then W 109 (16 * b + k) else 0) - (if W 107 (16 * b + k) = (h : Nat) then W 109 (16 * b + k) else 0)
def gDb (W : am_U) (b nh nd : Nat) : Prop := W 3 3 = (nd : Nat) ∧ W 106 b = (nd : Nat) ∧ nd ≤ 16 ∧ (∀ k, k < nd → (1 ≤ W 109 (16 * b + k) ∧ W 109 (16 * b + k) ≤ 9999) ∧ (0 ≤ W 107 (16 * b + k) ∧ W 107 (16 * b + k) < (nh : Nat)) ∧ 0 ≤ W 108 (16 * b + k) ∧ W 108 (16 * b + k) < (nh : Nat)) ∧ ∀ h, h < nh → W 10 h = fb_si (dbF W b h) nd
def gFr (W : am_U) (b : Nat) : Prop := W 110 b = W 3 5 ∧ 0 ≤ W 3 5 ∧ W 3 5 ≤ 100
def gLw (W : am_U) (b nw cl : Nat) : Prop := W 3 4 = (nw : Nat) ∧ W 100 b = (nw : Nat) ∧ nw ≤ 8 ∧ ∀ l, l < nw → W 12 l = 8 + W 101 (8 * b + l) ∧ (W 101 (8 * b + l) = 0 ∨ W 101 (8 * b + l) = 1 ∨ W 101 (8 * b + l) = 2) ∧ ∃ f m : Nat, W 13 l = (f : Nat) ∧ W 14 l = ((f + m : Nat) : Int) ∧ W 102 (8 * b + l) = (f : Nat) ∧ W 103 (8 * b + l) = ((f + m : Nat) : Int) ∧ f + m ≤ cl ∧ wfT (W 15) f m
def gWd (W : am_U) (b cl : Nat) : Prop := (W 104 b = -1 ∧ W 13 8 = 0 ∧ W 14 8 = 0) ∨ ∃ f m : Nat, W 104 b = (f : Nat) ∧ W 105 b = ((f + m : Nat) : Int) ∧ W 13 8 = (f : Nat) ∧ W 14 8 = ((f + m : Nat) : Int) ∧ 0 < m ∧ f + m ≤ cl ∧ wfT (W 15) f m
def gPp (W : am_U) (b nh n : Nat) : Prop := W 16 0 = (n : Nat) ∧ W 97 b = (n : Nat) ∧ n ≤ 16 ∧ (∀ p, p < n → W 98 (16 * b + p) = W 17 p ∧ W 99 (16 * b + p) = W 18 p) ∧ pplOk (W 17) (W 18) (W 8) n nh ∧ W 16 1 = 0 ∧ W 16 2 = 0
def gIn (W : am_U) (b ns nh nl nw nd cl n : Nat) : Prop := b < 2 ∧ W 3 18 = (cl : Nat) ∧ gSt W b ns ∧ gHs W b ns nh nl ∧ gLn W b nh nl ∧ gDb W b nh nd ∧ gFr W b ∧ gLw W b nw cl ∧ gWd W b cl ∧ gPp W b nh n
section GKP
variable {W W' : am_U} {b ns ns' nh nh' nl nw nd cl n : Nat}
theorem gSt_k (h : gSt W b ns) (h3 : W' 3 0 = W 3 0) (hr : ∀ r, r = 4 ∨ r = 88 ∨ r = 89 → W' r = W r) : gSt W' b ns := by
  unfold gSt at h ⊢
  rw [h3, hr 4 (by omega), hr 88 (by omega), hr 89 (by omega)]; exact h
theorem gHs_k (h : gHs W b ns nh nl) (hn : ns ≤ ns') (h3 : W' 3 1 = W 3 1) (hr : ∀ r, (5 ≤ r ∧ r ≤ 9) ∨ (90 ≤ r ∧ r ≤ 93) ∨ r = 95 ∨ r = 96 → W' r = W r) : gHs W' b ns' nh nl := by
  unfold gHs at h ⊢
  rw [h3, hr 5 (by omega), hr 6 (by omega), hr 7 (by omega), hr 8 (by omega), hr 9 (by omega), hr 90 (by omega), hr 91 (by omega), hr 92 (by omega), hr 93 (by omega), hr 95 (by omega), hr 96 (by omega)]
  refine ⟨h.1, h.2.1, h.2.2.1, fun g hg => ?_⟩
  obtain ⟨a1, ⟨a2, a3, a4⟩, a5⟩ := h.2.2.2 g hg
  exact ⟨a1, ⟨a2, a3, by omega⟩, a5⟩
theorem gLn_k (h : gLn W b nh nl) (hn : nh ≤ nh') (h3 : W' 3 2 = W 3 2) (hr : ∀ r, r = 94 ∨ r = 95 ∨ r = 96 → W' r = W r) : gLn W' b nh' nl := by
  unfold gLn at h ⊢
  rw [h3, hr 94 (by omega), hr 95 (by omega), hr 96 (by omega)]
  refine ⟨h.1, h.2.1, h.2.2.1, fun k hk => ?_⟩
  obtain ⟨⟨a1, a2⟩, a3, a4⟩ := h.2.2.2 k hk
  exact ⟨⟨a1, by omega⟩, a3, by omega⟩
theorem gDb_k (h : gDb W b nh nd) (h3 : W' 3 3 = W 3 3) (hr : ∀ r, r = 10 ∨ (106 ≤ r ∧ r ≤ 109) → W' r = W r) : gDb W' b nh nd := by
  unfold gDb dbF at h ⊢
  rw [h3, hr 10 (by omega), hr 106 (by omega), hr 107 (by omega), hr 108 (by omega), hr 109 (by omega)]; exact h
theorem gFr_k (h : gFr W b) (h3 : W' 3 5 = W 3 5) (hr : W' 110 = W 110) : gFr W' b := by
  unfold gFr at h ⊢
  rw [h3, hr]; exact h
theorem gLw_k (h : gLw W b nw cl) (h3 : W' 3 4 = W 3 4) (hr : ∀ r, (12 ≤ r ∧ r ≤ 15) ∨ (100 ≤ r ∧ r ≤ 103) → W' r = W r) : gLw W' b nw cl := by
  unfold gLw at h ⊢
  rw [h3, hr 12 (by omega), hr 13 (by omega), hr 14 (by omega), hr 15 (by omega), hr 100 (by omega), hr 101 (by omega), hr 102 (by omega), hr 103 (by omega)]; exact h
theorem gWd_k (h : gWd W b cl) (hr : ∀ r, (13 ≤ r ∧ r ≤ 15) ∨ r = 104 ∨ r = 105 → W' r = W r) : gWd W' b cl := by
  unfold gWd at h ⊢
  rw [hr 13 (by omega), hr 14 (by omega), hr 15 (by omega), hr 104 (by omega), hr 105 (by omega)]; exact h
theorem gPp_k (h : gPp W b nh n) (hr : ∀ r, r = 8 ∨ (16 ≤ r ∧ r ≤ 18) ∨ (97 ≤ r ∧ r ≤ 99) → W' r = W r) : gPp W' b nh n := by
  unfold gPp at h ⊢
  rw [hr 8 (by omega), hr 16 (by omega), hr 17 (by omega), hr 18 (by omega), hr 97 (by omega), hr 98 (by omega), hr 99 (by omega)]; exact h
end GKP
/-! one statement behind its word, on both sides -/
section STS
variable (N : Nat) (X : Nat → Int) (T : Nat → Int) (L K : Nat) (kk vv : Nat → Int) (bp : Int)
def clS (F : Nat → am_U → am_S) (dep i : Nat) (W : am_U) (g : Option (Nat × am_U)) (fk fp : Int) : Prop := ∀ (d : Nat) (U : am_U), cS U T L K kk vv bp i → cW U W → ∃ U' r, EvK N X (F (d + dep) U) (rI r U') ∧ fCz U U' ∧ (∀ i' W', g = some (i', W') → r = 1 ∧ cS U' T L K kk vv bp i' ∧ cW U' W') ∧ (g = none → r = 0 ∧ U' 26 4 = fk ∧ U' 26 5 = fp)
def clR (F : Nat → am_U → am_S) (dep i b : Nat) (W : am_U) (g : Option (Nat × am_U)) (fk fp : Int) : Prop := ∀ (d : Nat) (V : am_U), rT V T L i → rW V W b → ∃ V', EvK N X (F (d + dep) V) (rV V') ∧ fY b V V' ∧ (∀ i' W', g = some (i', W') → (rT V' T L i' ∧ rW V' W' b) ∨ (kk i' = 5 ∧ V' 86 8 = 1 ∧ V' 86 9 = fpl T L kk bp i')) ∧ (g = none → V' 86 8 = fk ∧ V' 86 9 = fp)
def StS (FC : Nat → am_U → am_S) (dC : Nat) (FR : Nat → am_U → am_S) (dR i b : Nat) (W : am_U) : Prop := ∃ q : Option (Nat × am_U) × Int × Int, (q.1 = none → 1 ≤ q.2.1) ∧ (∀ i' W', q.1 = some (i', W') → i < i' ∧ i' ≤ K ∧ ∃ ns nh nl nw nd cl n, gIn W' b ns nh nl nw nd cl n ∧ cl ≤ i') ∧ clS N X T L K kk vv bp FC dC i W q.1 q.2.1 q.2.2 ∧ clR N X T L kk bp FR dR i b W q.1 q.2.1 q.2.2
end STS
/-- how it ends: what must hold goes on, else a fault -/
noncomputable def oc (P : Prop) (k p : Int) (rest : Option (Nat × am_U) × Int × Int) : Option (Nat × am_U) × Int × Int := @ite _ P (Classical.propDecidable P) rest (none, k, p)
theorem oc_t {P : Prop} {k p : Int} {rest : Option (Nat × am_U) × Int × Int} (h : P) : oc P k p rest = rest := if_pos h
theorem oc_f {P : Prop} {k p : Int} {rest : Option (Nat × am_U) × Int × Int} (h : ¬ P) : oc P k p rest = (none, k, p) := if_neg h
theorem oc_pos {P : Prop} {k p : Int} {rest : Option (Nat × am_U) × Int × Int} (hk : 1 ≤ k) (hr : rest.1 = none → 1 ≤ rest.2.1) : (oc P k p rest).1 = none → 1 ≤ (oc P k p rest).2.1 := by
  rcases Classical.em P with h | h
  · rw [oc_t h]; exact hr
  · rw [oc_f h]; exact fun _ => hk
theorem oc_some {P : Prop} {k p : Int} {rest : Option (Nat × am_U) × Int × Int} {s : Nat × am_U} (h : (oc P k p rest).1 = some s) : P ∧ rest.1 = some s := by
  rcases Classical.em P with c | c
  · rw [oc_t c] at h; exact ⟨c, h⟩
  · rw [oc_f c] at h; cases h
/-! finding names, by what is held -/
section FN2
variable {N : Nat} {X : Nat → Int} {T : Nat → Int} {L K : Nat} {kk vv : Nat → Int} {bp : Int} {i d b ns nh nl : Nat} {U U' V V' W : am_U} {x w r : Int}
theorem cS_row (h : cS U T L K kk vv bp i) (hr : ∀ r, 26 ≤ r → r ≤ 30 → U' r = U r) : cS U' T L K kk vv bp i := by
  unfold cS at h ⊢
  obtain ⟨t1, t2, t3, t4⟩ := t_cg (hr 28 (by omega) (by omega))
  rw [hr 26 (by omega) (by omega), hr 27 (by omega) (by omega), t1, t2, t3, t4]; exact h
theorem rT_row (h : rT V T L i) (h86 : V' 86 = V 86) (h87 : V' 87 = V 87) : rT V' T L i := rT_cg h h87 (fun j _ _ => by rw [h86])
theorem fdC0 (h : cW U W) (hS : gSt W b ns) (hf : fdR (W 4) x ns r) : EvK N X (Tw_findStreet_s0 d x U) (rI r U) :=
  ct_findStreet (n := ns) (by rw [h.1 31 (by decide) (by decide) (by decide)]; exact hS.1) hS.2.2.1 (by rw [h.1 32 (by decide) (by decide) (by decide)]; exact hf)
theorem fdC1 (h : cW U W) (hH : gHs W b ns nh nl) (hf : fdR (W 5) x nh r) : EvK N X (Tw_findHouse_s0 d x U) (rI r U) :=
  ct_findHouse (n := nh) (by rw [h.1 31 (by decide) (by decide) (by decide)]; exact hH.1) hH.2.2.1 (by rw [h.1 33 (by decide) (by decide) (by decide)]; exact hf)
theorem fdM0 (h : rW V W b) (hb : b < 2) (hS : gSt W b ns) (hw : nmR x w) (hf : fdR (W 4) x ns r) : EvK N X (M_named_s0 (d + 1) 0 w V) (rI r V) :=
  ct_named0 (b := b) (n := ns) h.1 hb (by rw [h.2.1 88 (by decide) (by decide)]; exact hS.2.1) hS.2.2.1 (fdR_nm (fun s hs => by
    show nmR (W 4 s) (V 89 (4 * b + s))
    rw [h.2.1 89 (by decide) (by decide)]; exact hS.2.2.2 s hs) hw hf)
theorem fdM1 (h : rW V W b) (hb : b < 2) (hH : gHs W b ns nh nl) (hw : nmR x w) (hf : fdR (W 5) x nh r) : EvK N X (M_named_s0 (d + 1) 1 w V) (rI r V) :=
  ct_named1 (b := b) (n := nh) h.1 hb (by rw [h.2.1 90 (by decide) (by decide)]; exact hH.2.1) hH.2.2.1 (fdR_nm (fun s hs => by
    show nmR (W 5 s) (V 91 (12 * b + s))
    rw [h.2.1 91 (by decide) (by decide)]; exact (hH.2.2.2 s hs).1) hw hf)
end FN2
