/-! hidden ones: rows as ways; the reference -/
def pix (k a b : Nat) : Nat := a * (2 * k - a - 1) / 2 + b - a - 1
theorem pix_n : ∀ k, k < 5 → ∀ a, a < k → pix k (a + 1) (a + 2) = pix k a k := by decide
theorem pix_6 : ∀ k, k < 5 → ∀ b, b < k → ∀ a, a < b → pix k a b < 6 := by decide
theorem pix_s {k a b : Nat} (h : a < b) : pix k a (b + 1) = pix k a b + 1 := by
  unfold pix
  generalize a * (2 * k - a - 1) / 2 = z
  omega
def dgW (mo k w i : Nat) : Nat := 1 + w / mo ^ (k - 1 - i) % mo
def okP (t : Nat → Int) (k : Nat) (r : Nat → Nat) (m : Nat) : Prop := ∀ a b, a < b → b < m → (1 < Nat.gcd (r a) (r b) ↔ t (pix k a b) = 1)
theorem okP_cg {t : Nat → Int} {k m : Nat} {r r' : Nat → Nat} (h : ∀ i, i < m → r' i = r i) : okP t k r' m ↔ okP t k r m := by
  constructor
  · intro o a b h1 h2; rw [← h a (by omega), ← h b h2]; exact o a b h1 h2
  · intro o a b h1 h2; rw [h a (by omega), h b h2]; exact o a b h1 h2
noncomputable def okW (t : Nat → Int) (k mo w : Nat) : Bool := pd (okP t k (dgW mo k w) k)
/-- what is found up to a way: how many, and the first -/
def rdS (ok : Nat → Bool) (mo k x : Nat) (c : Int) (row : Nat → Int) : Prop := c = (fb_ct ok x : Nat) ∧ (0 < fb_ct ok x → ∃ w, w < x ∧ ok w = true ∧ (∀ v, v < w → ok v = false) ∧ ∀ i, i < k → row i = (dgW mo k w i : Nat))
theorem rdS_one {ok : Nat → Bool} {mo k x : Nat} {c c' : Int} {row row' : Nat → Int} (h : rdS ok mo k x c row) (h' : rdS ok mo k x c' row') : c = c' ∧ (0 < c → ∀ i, i < k → row i = row' i) := by
  obtain ⟨h1, h2⟩ := h
  obtain ⟨g1, g2⟩ := h'
  refine ⟨by rw [h1, g1], fun hc i hi => ?_⟩
  have hp : 0 < fb_ct ok x := by omega
  obtain ⟨w, w1, w2, w3, w4⟩ := h2 hp
  obtain ⟨v, v1, v2, v3, v4⟩ := g2 hp
  have : w = v := by
    rcases Nat.lt_trichotomy w v with q | q | q
    · rw [v3 w q] at w2; exact absurd w2 (by decide)
    · exact q
    · rw [w3 v q] at v2; exact absurd v2 (by decide)
  rw [w4 i hi, v4 i hi, this]
theorem M_isRow_c {N : Nat} {X : Nat → Int} {d k : Nat} {U : am_U} {t : Nat → Int} {r : Nat → Nat} (hk : U 86 82 = (k : Nat)) (hk4 : k < 5) (h136 : ∀ i, i < k → U 136 i = (r i : Nat)) (hr : ∀ i, i < k → r i ≤ 1000) (h135 : ∀ a b, a < b → b < k → U 135 (pix k a b) = t (pix k a b) ∧ (t (pix k a b) = 0 ∨ t (pix k a b) = 1)) : ∃ x, EvK N X (M_isRow_s0 (d + 2) U) (rI x U) ∧ ((x = 1 ∧ okP t k r k) ∨ (x = 0 ∧ ¬ okP t k r k)) := by
  have outer : ∀ m a : Nat, a + m = k → (∀ a' b', a' < a → a' < b' → b' < k → (1 < Nat.gcd (r a') (r b') ↔ t (pix k a' b') = 1)) → ∃ x, EvK N X (M_isRow_s4 (d + 2) ((pix k a (a + 1) : Nat) : Int) (a : Nat) U) (rI x U) ∧ ((x = 1 ∧ okP t k r k) ∨ (x = 0 ∧ ¬ okP t k r k)) := by
    intro m
    induction m with
    | zero =>
      intro a ha h
      obtain rfl : a = k := by omega
      exact ⟨1, M_isRow_r4 ⟨fun _ => rfl, fun z => absurd z (by rw [hk]; omega)⟩, Or.inl ⟨rfl, fun a' b' h1 h2 => h a' b' (by omega) h1 h2⟩⟩
    | succ m ih =>
      intro a ha h
      have inner : ∀ n b : Nat, b + n = k → a < b → (∀ b', a < b' → b' < b → (1 < Nat.gcd (r a) (r b') ↔ t (pix k a b') = 1)) → ∃ x, EvK N X (M_isRow_s16 (d + 2) ((pix k a b : Nat) : Int) (a : Nat) (b : Nat) U) (rI x U) ∧ ((x = 1 ∧ okP t k r k) ∨ (x = 0 ∧ ¬ okP t k r k)) := by
        intro n
        induction n with
        | zero =>
          intro b hb hab h2
          obtain rfl : b = k := by omega
          obtain ⟨x, k1, k2⟩ := ih (a + 1) (by omega) (fun a' b' q1 q2 q3 => by
            by_cases e : a' = a
            · subst e; exact h2 b' q2 q3
            · exact h a' b' (by omega) q2 q3)
          refine ⟨x, M_isRow_r16 ⟨fun _ => ?_, fun z => absurd z (by rw [hk]; omega)⟩, k2⟩
          rw [← pix_n b hk4 a hab, w32_succ (i := a) (by omega)]; exact k1
        | succ n ihn =>
          intro b hb hab h2
          have p6 := pix_6 k hk4 b (by omega) a hab
          obtain ⟨t1, t2⟩ := h135 a b hab (by omega)
          have ra := hr a (by omega)
          have rb := hr b (by omega)
          have g := ct_M_gcd (N := N) (X := X) (d := d) (U := U) (U 136 a) (U 136 b) (by rw [h136 a (by omega)]; omega) (by rw [h136 b (by omega)]; omega)
          have ge : Nat.gcd (U 136 a).natAbs (U 136 b).natAbs = Nat.gcd (r a) (r b) := by rw [h136 a (by omega), h136 b (by omega)]; rfl
          rw [ge] at g
          have bad : ¬ (1 < Nat.gcd (r a) (r b) ↔ t (pix k a b) = 1) → ¬ okP t k r k := fun q o => q (o a b hab (by omega))
          have good : (1 < Nat.gcd (r a) (r b) ↔ t (pix k a b) = 1) → ∃ x, EvK N X (M_isRow_s16 (d + 2) ((pix k a b + 1 : Nat) : Int) (a : Nat) ((b + 1 : Nat) : Int) U) (rI x U) ∧ ((x = 1 ∧ okP t k r k) ∨ (x = 0 ∧ ¬ okP t k r k)) := fun q => by
            have := ihn (b + 1) (by omega) (by omega) (fun b' q1 q2 => by
              by_cases e : b' = b
              · rw [e]; exact q
              · exact h2 b' q1 (by omega))
            rwa [pix_s hab] at this
          have st : ∀ x, ((Nat.gcd (r a) (r b) : Int) ≤ 1 → (0 = t (pix k a b) → EvK N X (M_isRow_s16 (d + 2) ((pix k a b + 1 : Nat) : Int) (a : Nat) ((b + 1 : Nat) : Int) U) (rI x U)) ∧ (0 ≠ t (pix k a b) → (rI x U) = rI 0 U)) → (1 < (Nat.gcd (r a) (r b) : Int) → (1 = t (pix k a b) → EvK N X (M_isRow_s16 (d + 2) ((pix k a b + 1 : Nat) : Int) (a : Nat) ((b + 1 : Nat) : Int) U) (rI x U)) ∧ (1 ≠ t (pix k a b) → (rI x U) = rI 0 U)) → EvK N X (M_isRow_s16 (d + 2) ((pix k a b : Nat) : Int) (a : Nat) (b : Nat) U) (rI x U) := fun x y1 y2 => by
            refine M_isRow_r16 ⟨fun z => absurd z (by rw [hk]; omega), fun _ => ⟨by omega, by omega, _, _, g, fun z => ⟨by omega, ?_⟩, fun z => ⟨by omega, ?_⟩⟩⟩
            · rw [Int.toNat_natCast, t1, w32_succ (i := pix k a b) (by omega), w32_succ (i := b) (by omega)]; exact y1 z
            · rw [Int.toNat_natCast, t1, w32_succ (i := pix k a b) (by omega), w32_succ (i := b) (by omega)]; exact y2 z
          by_cases c : (1 < Nat.gcd (r a) (r b) ↔ t (pix k a b) = 1)
          · obtain ⟨x, k1, k2⟩ := good c
            refine ⟨x, st x (fun z => ⟨fun _ => k1, fun z2 => absurd z2 ?_⟩) (fun z => ⟨fun _ => k1, fun z2 => absurd z2 ?_⟩), k2⟩
            · rcases t2 with q | q
              · exact fun z3 => z3 q.symm
              · have := c.mpr q; omega
            · exact fun z3 => z3 (c.mp (by omega)).symm
          · refine ⟨0, st 0 (fun z => ⟨fun z2 => absurd ?_ c, fun _ => rfl⟩) (fun z => ⟨fun z2 => absurd ?_ c, fun _ => rfl⟩), Or.inr ⟨rfl, bad c⟩⟩
            · constructor
              · intro q; omega
              · intro q; omega
            · constructor
              · intro _; omega
              · intro _; omega
      obtain ⟨x, k1, k2⟩ := inner m (a + 1) (by omega) (by omega) (fun b' q1 q2 => absurd q2 (by omega))
      refine ⟨x, M_isRow_r4 ⟨fun z => absurd z (by rw [hk]; omega), fun _ => ?_⟩, k2⟩
      rw [w32_succ (i := a) (by omega)]; exact k1
  obtain ⟨x, k1, k2⟩ := outer k 0 (by omega) (fun a' b' q => absurd q (Nat.not_lt_zero a'))
  have e : pix k 0 (0 + 1) = 0 := by unfold pix; rw [Nat.zero_mul]
  rw [e] at k1
  exact ⟨x, M_isRow_r0 k1, k2⟩
/-- nothing but the reference's rows of hidden ones has changed -/
def frH (U U' : am_U) : Prop := ∀ r j, r ≠ 136 → r ≠ 137 → ¬ (r = 86 ∧ j = 84) → U' r j = U r j
theorem frH_refl (U : am_U) : frH U U := fun _ _ _ _ _ => rfl
theorem frH_trans {U U1 U2 : am_U} (h1 : frH U U1) (h2 : frH U1 U2) : frH U U2 := fun r j a b c => by rw [h2 r j a b c, h1 r j a b c]
theorem mo_pow {mo k : Nat} (hmo : mo ≤ 24) (hk : k ≤ 4) : mo ^ k ≤ 331776 := Nat.le_trans (Nat.pow_le_pow_left hmo k) (Nat.le_trans (Nat.pow_le_pow_right (by decide) hk : 24 ^ k ≤ 24 ^ 4) (by decide))
theorem M_fin_dg {N : Nat} {X : Nat → Int} {d k mo w : Nat} {x1 : Int} (hmo : 1 ≤ mo ∧ mo ≤ 24) (hw : w < 331776) : ∀ n : Nat, n ≤ k → k < 5 → ∀ U : am_U, U 86 83 = (mo : Nat) → (∀ j, n ≤ j → j < k → U 136 j = (dgW mo k w j : Nat)) → ∃ U' : am_U, (∀ j, j < k → U' 136 j = (dgW mo k w j : Nat)) ∧ (∀ r, r ≠ 136 → U' r = U r) ∧ ∀ R, EvK N X (M_finds_s47 (d + 1) x1 (w : Nat) ((w / mo ^ k : Nat) : Int) (-1) U') R → EvK N X (M_finds_s47 (d + 1) x1 (w : Nat) ((w / mo ^ (k - n) : Nat) : Int) (((n : Nat) : Int) - 1) U) R := by
  intro n
  induction n with
  | zero =>
    intro hn hk U h1 h2
    exact ⟨U, fun j hj => h2 j (Nat.zero_le j) hj, fun _ _ => rfl, fun R h => h⟩
  | succ n ih =>
    intro hn hk U h1 h2
    have hle : w / mo ^ (k - (n + 1)) ≤ w := Nat.div_le_self _ _
    have e2 : w / mo ^ (k - (n + 1)) / mo = w / mo ^ (k - n) := by
      rw [Nat.div_div_eq_div_mul, show mo ^ (k - (n + 1)) * mo = mo ^ (k - n) from by rw [← Nat.pow_succ]; congr 1; omega]
    have e3 : dgW mo k w n = 1 + w / mo ^ (k - (n + 1)) % mo := by
      unfold dgW
      rw [show k - 1 - n = k - (n + 1) from by omega]
    obtain ⟨U', k1, k2, k3⟩ := ih (by omega) hk (am_upd U 136 n ((dgW mo k w n : Nat) : Int)) (by rw [upd_row (by decide)]; exact h1) (fun j q1 q2 => by
      rw [upd_if]
      by_cases c : j = n
      · rw [if_pos c, c]
      · rw [if_neg c]; exact h2 j (by omega) q2)
    refine ⟨U', k1, fun r q => by rw [k2 r q, upd_row q], fun R hR => M_finds_r47 ⟨fun z => absurd z (by omega), fun _ => ?_⟩⟩
    have k4 := k3 R hR
    rw [h1, show (((n + 1 : Nat) : Int) - 1).toNat = n from by omega]
    generalize w / mo ^ (k - (n + 1)) = z at *
    rw [show Int.tdiv ((z : Nat) : Int) ((mo : Nat) : Int) = ((z / mo : Nat) : Int) from tdiv_nat _ _, show Int.tmod ((z : Nat) : Int) ((mo : Nat) : Int) = ((z % mo : Nat) : Int) from tmod_nat _ _, e2]
    have hz : z / mo ≤ z := Nat.div_le_self _ _
    have hm : z % mo < mo := Nat.mod_lt _ (by omega)
    rw [e2] at hz
    generalize w / mo ^ (k - n) = y at *
    rw [w32_eq (x := ((y : Nat) : Int)) (by omega) (by omega), w32_eq (x := 1 + ((z % mo : Nat) : Int)) (by omega) (by omega), w32_eq (x := ((n + 1 : Nat) : Int) - 1 + -1) (by omega) (by omega), show ((n + 1 : Nat) : Int) - 1 + -1 = ((n : Nat) : Int) - 1 from by omega, show (1 : Int) + ((z % mo : Nat) : Int) = ((dgW mo k w n : Nat) : Int) from by rw [e3]; omega]
    exact ⟨by omega, by omega, by omega, k4⟩
