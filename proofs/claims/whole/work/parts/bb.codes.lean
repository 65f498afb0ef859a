/-! a test is told: its codes -/
theorem tyr_ext {code : Nat → Int} {f : Nat} : ∀ (ds : List Int) (k0 : Nat) (t t' : List Bool), tyr code f k0 = some t → (∀ k c, ds[k]? = some c → code (f + k0 + k) = c) → tyl ds t = some t' → tyr code f (k0 + ds.length) = some t'
  | [], k0, t, t', h1, _, h3 => by
    obtain rfl : t = t' := Option.some.inj h3
    exact h1
  | c :: ds, k0, t, t', h1, h2, h3 => by
    have h4 : (match tyc c t with | none => none | some t' => if t'.length ≤ 60 then tyl ds t' else none) = some t' := h3
    cases e : tyc c t with
    | none => rw [e] at h4; cases h4
    | some t1 =>
      rw [e] at h4
      have h5 : (if t1.length ≤ 60 then tyl ds t1 else none) = some t' := h4
      by_cases q : t1.length ≤ 60
      · rw [if_pos q] at h5
        have hc : code (f + k0) = c := h2 0 c rfl
        have s1' : tyr code f (k0 + 1) = some t1 := by
          rw [tyr, h1]
          show (match tyc (code (f + k0)) t with | none => none | some t' => if t'.length ≤ 60 then some t' else none) = some t1
          rw [hc, e]
          show (if t1.length ≤ 60 then some t1 else none) = some t1
          rw [if_pos q]
        have := tyr_ext ds (k0 + 1) t1 t' s1' (fun k c' hk => by
          have := h2 (k + 1) c' (by rw [List.getElem?_cons_succ]; exact hk)
          rw [show f + (k0 + 1) + k = f + k0 + (k + 1) by omega]; exact this) h5
        rw [show k0 + (c :: ds).length = k0 + 1 + ds.length by simp only [List.length_cons]; omega]; exact this
      · rw [if_neg q] at h5; cases h5
theorem tyr_same {code code' : Nat → Int} {f : Nat} : ∀ {k : Nat}, (∀ j, j < k → code' (f + j) = code (f + j)) → tyr code' f k = tyr code f k
  | 0, _ => rfl
  | k + 1, h => by
    rw [tyr, tyr, tyr_same (fun j hj => h j (by omega)), h k (by omega)]
theorem wfT_same {code code' : Nat → Int} {f m : Nat} (h : ∀ j, j < m → code' (f + j) = code (f + j)) (hw : wfT code f m) : wfT code' f m := by
  unfold wfT at hw ⊢
  rw [tyr_same h]; exact hw
def cdW (W : am_U) (cl : Nat) (ds : List Int) : am_U := fun r j => if r = 15 ∧ cl ≤ j ∧ j < cl + ds.length then ds.getD (j - cl) 0 else if r = 3 ∧ j = 18 then ((cl + ds.length : Nat) : Int) else W r j
section CDS
variable {W : am_U} {cl : Nat} {ds : List Int}
theorem cdW_row {r : Nat} (h1 : r ≠ 15) (h2 : r ≠ 3) : cdW W cl ds r = W r := by
  funext j
  unfold cdW
  rw [if_neg (fun z => h1 z.1), if_neg (fun z => h2 z.1)]
theorem cdW_3 {j : Nat} (h : j ≠ 18) : cdW W cl ds 3 j = W 3 j := by
  unfold cdW
  rw [if_neg (by omega), if_neg (fun z => h z.2)]
theorem cdW_18 : cdW W cl ds 3 18 = ((cl + ds.length : Nat) : Int) := by
  unfold cdW
  rw [if_neg (by omega), if_pos ⟨rfl, rfl⟩]
theorem cdW_lo {j : Nat} (h : j < cl) : cdW W cl ds 15 j = W 15 j := by
  unfold cdW
  rw [if_neg (by omega), if_neg (by omega)]
theorem cdW_hi {k : Nat} {c : Int} (h : ds[k]? = some c) : cdW W cl ds 15 (cl + k) = c := by
  have lt : k < ds.length := by
    rcases Nat.lt_or_ge k ds.length with z | z
    · exact z
    · rw [List.getElem?_eq_none z] at h; cases h
  unfold cdW
  rw [if_pos ⟨rfl, by omega, by omega⟩, show cl + k - cl = k by omega, List.getD_eq_getElem?_getD, h]; rfl
theorem cdW_15 {W1 W2 : am_U} (h : W1 15 = W2 15) : cdW W1 cl ds 15 = cdW W2 cl ds 15 := by
  funext q
  unfold cdW
  have n3 : ¬ ((15 : Nat) = 3 ∧ q = 18) := by omega
  by_cases z : cl ≤ q ∧ q < cl + ds.length
  · have z1 : (15 : Nat) = 15 ∧ cl ≤ q ∧ q < cl + ds.length := ⟨rfl, z⟩
    rw [if_pos z1, if_pos z1]
  · have z1 : ¬ ((15 : Nat) = 15 ∧ cl ≤ q ∧ q < cl + ds.length) := fun y => z y.2
    rw [if_neg z1, if_neg z1, if_neg n3, if_neg n3, h]
theorem cW_em {U U' : am_U} (hU : cW U W) (hcl : W 3 18 = (cl : Nat)) (f : fE U U') (e : emW U U' cl ds) : cW U' (cdW W cl ds) := by
  obtain ⟨h1, h2, h3, h4⟩ := hU
  obtain ⟨e1, e2, e3⟩ := e
  refine ⟨fun r a1 a2 a3 => ?_, fun j hj => ?_, ?_, ?_⟩
  · by_cases c : r = 31
    · subst c
      funext j
      by_cases c2 : j = 18
      · subst c2
        rw [e1]
        show _ = cdW W cl ds 3 18
        rw [cdW_18]
      · rw [f 31 j (by omega) (by decide) (by omega)]
        show U 31 j = cdW W cl ds 3 j
        rw [cdW_3 c2, h1 31 (by decide) (by decide) (by decide)]
    · rw [cdW_row (by omega) (by omega), fE_row f (by omega) (by omega) c]; exact h1 r a1 a2 a3
  · rw [cdW_18] at hj
    by_cases c : j < cl
    · rw [e2 j c, cdW_lo c]; exact h2 j (by rw [hcl]; omega)
    · obtain ⟨k, hk⟩ : ∃ k, j = cl + k := ⟨j - cl, by omega⟩
      subst hk
      have lt : k < ds.length := by omega
      have g : ds[k]? = some ds[k] := List.getElem?_eq_getElem lt
      rw [e3 k _ g, cdW_hi g]
  · rw [cdW_row (by decide) (by decide), cdW_row (by decide) (by decide), cdW_row (by decide) (by decide), fE_row f (by decide) (by decide) (by decide), fE_row f (by decide) (by decide) (by decide), fE_row f (by decide) (by decide) (by decide)]; exact h3
  · rw [cdW_row (by decide) (by decide), fE_row f (by decide) (by decide) (by decide), fE_row f (by decide) (by decide) (by decide)]; exact h4
theorem rW_em {V V' : am_U} {b : Nat} (hV : rW V W b) (hb : b < 2) (hcl : W 3 18 = (cl : Nat)) (hl : cl + ds.length ≤ 1600) (f : fZ V V') (e : emR V V' b cl ds) : rW V' (cdW W cl ds) b := by
  obtain ⟨h1, h2, h3, h4⟩ := hV
  obtain ⟨e1, e2, e3⟩ := e
  refine ⟨by rw [f.1 86 40 rfl]; exact h1, fun r a1 a2 => ?_, by rw [cdW_18]; exact e1, fun j hj => ?_⟩
  · rw [cdW_row (by omega) (by omega), ← h2 r a1 a2]
    funext j
    refine f.1 r j ?_
    unfold scZ
    have x1 : (r == 86) = false := by simp; omega
    have x2 : decide (111 ≤ r) = false := decide_eq_false (by omega)
    rw [x1, x2]; rfl
  · rw [cdW_18] at hj
    by_cases c : j < cl
    · obtain ⟨y1, y2⟩ := e2 (1600 * b + j) (by omega)
      rw [y1, y2, cdW_lo c]
      exact h4 j (by rw [hcl]; omega)
    · obtain ⟨k, hk⟩ : ∃ k, j = cl + k := ⟨j - cl, by omega⟩
      subst hk
      have lt : k < ds.length := by omega
      have g : ds[k]? = some ds[k] := List.getElem?_eq_getElem lt
      have := e3 k _ g
      rw [cdW_hi g, show 1600 * b + (cl + k) = 1600 * b + cl + k by omega]
      exact this
theorem wfT_new (ht : ∀ t : List Bool, t.length + 48 ≤ 60 → tyl ds t = some (true :: t)) : wfT (cdW W cl ds 15) cl ds.length ∧ 0 < ds.length := by
  have h0 := ht [] (by simp)
  refine ⟨?_, ?_⟩
  · have := tyr_ext (code := cdW W cl ds 15) (f := cl) ds 0 [] [true] rfl (fun k c hk => by rw [Nat.add_zero]; exact cdW_hi hk) h0
    rw [Nat.zero_add] at this; exact this
  · cases ds with
    | nil => cases h0
    | cons c ds => simp
theorem wfT_old {f m : Nat} (h : f + m ≤ cl) (hw : wfT (W 15) f m) : wfT (cdW W cl ds 15) f m := wfT_same (fun j hj => cdW_lo (by omega)) hw
theorem gLw_em {W' : am_U} {b nw : Nat} (h : gLw W b nw cl) (h34 : W' 3 4 = W 3 4) (h15 : W' 15 = cdW W cl ds 15) (hr : ∀ l, l < nw → W' 12 l = W 12 l ∧ W' 13 l = W 13 l ∧ W' 14 l = W 14 l) (hq : ∀ r, 100 ≤ r → r ≤ 103 → W' r = W r) : gLw W' b nw (cl + ds.length) := by
  obtain ⟨a1, a2, a3, a4⟩ := h
  unfold gLw
  rw [h34, h15, hq 100 (by omega) (by omega), hq 101 (by omega) (by omega), hq 102 (by omega) (by omega), hq 103 (by omega) (by omega)]
  refine ⟨a1, a2, a3, fun l hl => ?_⟩
  obtain ⟨b1, b2, f, m, b3, b4, b5, b6, b7, b8⟩ := a4 l hl
  obtain ⟨c1, c2, c3⟩ := hr l hl
  exact ⟨by rw [c1]; exact b1, b2, f, m, by rw [c2]; exact b3, by rw [c3]; exact b4, b5, b6, by omega, wfT_old b7 b8⟩
theorem gWd_em {W' : am_U} {b : Nat} (h : gWd W b cl) (h15 : W' 15 = cdW W cl ds 15) (h13 : W' 13 8 = W 13 8) (h14 : W' 14 8 = W 14 8) (hq : ∀ r, r = 104 ∨ r = 105 → W' r = W r) : gWd W' b (cl + ds.length) := by
  unfold gWd at h ⊢
  rw [h15, h13, h14, hq 104 (by omega), hq 105 (by omega)]
  rcases h with h | ⟨f, m, b1, b2, b3, b4, b5, b6, b7⟩
  · exact Or.inl h
  · exact Or.inr ⟨f, m, b1, b2, b3, b4, b5, by omega, wfT_old b6 b7⟩
end CDS
section STQ
variable (N : Nat) (X : Nat → Int) (T : Nat → Int) (L K : Nat) (kk vv : Nat → Int) (bp : Int)
def StQ (Q : Nat → am_U → Int → am_U → Prop) (FR : Nat → am_U → am_S) (dR i b : Nat) (W : am_U) : Prop := ∃ q : Option (Nat × am_U) × Int × Int, (q.1 = none → 1 ≤ q.2.1) ∧ (∀ i' W', q.1 = some (i', W') → i < i' ∧ i' ≤ K ∧ ∃ ns nh nl nw nd cl n, gIn W' b ns nh nl nw nd cl n ∧ cl ≤ i') ∧ (∀ (d : Nat) (U : am_U), cS U T L K kk vv bp i → cW U W → ∃ U' r, Q d U r U' ∧ fCz U U' ∧ (∀ i' W', q.1 = some (i', W') → r = 1 ∧ cS U' T L K kk vv bp i' ∧ cW U' W') ∧ (q.1 = none → r = 0 ∧ U' 26 4 = q.2.1 ∧ U' 26 5 = q.2.2)) ∧ clR N X T L kk bp FR dR i b W q.1 q.2.1 q.2.2
end STQ
def tsR (g : Option (Nat × List Int)) (fk fp : Int) (F : List Int → am_U) : Option (Nat × am_U) × Int × Int := match g with
  | none => (none, fk, fp)
  | some p => (some (p.1, F p.2), 0, 0)
