/-! an image comes on: the reference's header; what is kept between calls -/
theorem ct_comesOn {N : Nat} {X : Nat → Int} {d L b nh : Nat} {U : am_U} {T rm : Nat → Int} (hTe : ∀ j, j < 1600 → U 87 j = T j) (hTb : ∀ j, j < 1600 → 0 ≤ T j ∧ T j ≤ 255) (hL : L ≤ 1600) (hb : U 86 13 = (b : Nat)) (hb2 : b < 2) (h90 : U 90 b = (nh : Nat)) (hnh : nh ≤ 12) (hrm : ∀ g, g < nh → U 93 (12 * b + g) = rm g) : ∃ r U', EvK N X (M_comesOn_s0 (d + 3) (L : Nat) U) (rI r U') ∧ frT U U' ∧ ((r = 1 ∧ ∃ n, onOk T L n rm nh ∧ tyR U' T n ∧ U' 122 1 = (n : Nat)) ∨ (r = 0 ∧ ¬ ∃ n, onOk T L n rm nh)) := by
  obtain ⟨n, hn⟩ : ∃ n : Nat, T 3 = n := ⟨(T 3).toNat, by have := hTb 3 (by decide); omega⟩
  have b0 := hTb 0 (by decide)
  have b1 := hTb 1 (by decide)
  have b2 := hTb 2 (by decide)
  have b3 := hTb 3 (by decide)
  have eL : w32 (5 + w32 (5 * ((n : Nat) : Int))) = ((5 + 5 * n : Nat) : Int) := by rw [w32_eq (x := 5 * ((n : Nat) : Int)) (by omega) (by omega), w32_eq (by omega) (by omega)]; omega
  have e0 := hTe 0 (by decide)
  have e1 := hTe 1 (by decide)
  have e2 := hTe 2 (by decide)
  have e3 := hTe 3 (by decide)
  by_cases c : (5 ≤ L ∧ 256 * T 0 + T 1 ≤ 9999 ∧ T 2 ≤ 1) ∧ n ≤ 16 ∧ L = 5 + 5 * n
  · obtain ⟨⟨c1, c2, c3⟩, c4, rfl⟩ := c
    have e4 : ∀ n', onHd T (5 + 5 * n) n' → n' = n := fun n' h => by have := h.2.2.1; clear eL; omega
    have eL1 : w32 (((5 + 5 * n : Nat) : Int) - 1) = ((4 + 5 * n : Nat) : Int) := by clear eL; rw [w32_eq (by omega) (by omega)]; omega
    have loop : ∀ m i : Nat, i + m = 4 + 5 * n → ∃ r U', EvK N X (M_comesOn_s69 (d + 2 + 1) ((5 + 5 * n : Nat) : Int) (ck T i) (i : Nat) U) (rI r U') ∧ frT U U' ∧ ((r = 1 ∧ ∃ n', onOk T (5 + 5 * n) n' rm nh ∧ tyR U' T n' ∧ U' 122 1 = (n' : Nat)) ∨ (r = 0 ∧ ¬ ∃ n', onOk T (5 + 5 * n) n' rm nh)) := by
      intro m
      induction m with
      | zero =>
        intro i hi
        obtain rfl : i = 4 + 5 * n := by clear eL eL1; omega
        by_cases y : T (4 + 5 * n) = ck T (4 + 5 * n)
        · have fr0 : frT U (am_upd U 122 1 ((n : Nat) : Int)) := fun r j a _ => by rw [upd_if2 a]
          obtain ⟨r, U', k1, k2, k3⟩ := ct_comes_l (N := N) (X := X) (d := d) (U0 := U) (T := T) (rm := rm) (x1 := ((5 + 5 * n : Nat) : Int)) (x2 := ck T (4 + 5 * n)) hTe hTb hn c4 hb hb2 h90 hnh hrm n 0 (by clear eL eL1; omega) (am_upd U 122 1 ((n : Nat) : Int)) fr0 (upd_at _ _ _ _) (fun q hq => absurd hq (Nat.not_lt_zero q)) ⟨fun q hq => absurd hq (Nat.not_lt_zero q), fun _ q' _ h2 => absurd h2 (Nat.not_lt_zero q')⟩
          refine ⟨r, U', M_comesOn_r69 ?_, k2, ?_⟩
          · rw [eL1, Int.toNat_natCast, e3, hn, hTe _ (by clear eL eL1; omega)]
            clear eL eL1
            exact ⟨fun _ => ⟨by omega, fun _ => k1, fun z => absurd y z⟩, fun z => absurd z (by omega)⟩
          · rcases k3 with ⟨q1, q2, q3, q4⟩ | ⟨q1, q2⟩
            · exact Or.inl ⟨q1, n, ⟨⟨hn, c4, rfl, c2, c3, y⟩, q2⟩, q3, q4⟩
            · refine Or.inr ⟨q1, fun ⟨n', o1, o2⟩ => q2 ?_⟩
              rw [e4 n' o1] at o2; exact o2
        · refine ⟨0, U, M_comesOn_r69 ?_, fun _ _ _ _ => rfl, Or.inr ⟨rfl, fun ⟨n', o1, o2⟩ => y ?_⟩⟩
          · rw [eL1, Int.toNat_natCast, hTe _ (by clear eL eL1; omega)]
            clear eL eL1
            exact ⟨fun _ => ⟨by omega, fun z => absurd z y, fun _ => rfl⟩, fun z => absurd z (by omega)⟩
          · have := o1.2.2.2.2.2
            rw [e4 n' o1] at this; exact this
      | succ m ih =>
        intro i hi
        obtain ⟨r, U', k1, k2⟩ := ih (i + 1) (by clear eL eL1; omega)
        refine ⟨r, U', M_comesOn_r69 ?_, k2⟩
        rw [eL1]
        clear eL eL1
        have bk := ck_in (B := T) i (fun j hj => hTb j (by omega))
        have bi := hTb i (by omega)
        refine ⟨fun z => absurd z (by omega), fun _ => ⟨by omega, ?_⟩⟩
        rw [Int.toNat_natCast, hTe i (by omega), w32_eq (x := 5 * ck T i) (by omega) (by omega), w32_eq (x := 5 * ck T i + T i) (by omega) (by omega), w32_succ (i := i) (by omega)]
        exact k1
    obtain ⟨r, U', k1, k2⟩ := loop (4 + 5 * n) 0 (by clear eL eL1; omega)
    refine ⟨r, U', M_comesOn_r0 ?_, k2⟩
    rw [e0, e1, e2, e3, or_byte b0 b1, hn, eL]
    clear eL eL1
    exact ⟨fun z => absurd z (by omega), fun _ => ⟨fun z => absurd z (by omega), fun _ => ⟨fun z => absurd z (by omega), fun _ => ⟨fun z => absurd z (by omega), fun _ => ⟨fun _ => k1, fun z => absurd rfl z⟩⟩⟩⟩⟩
  · refine ⟨0, U, M_comesOn_r0 ?_, fun _ _ _ _ => rfl, Or.inr ⟨rfl, fun ⟨n', o1, o2⟩ => c ?_⟩⟩
    · rw [e0, e1, e2, e3, or_byte b0 b1, hn, eL]
      clear eL
      exact ⟨fun _ => rfl, fun z1 => ⟨fun _ => rfl, fun z2 => ⟨fun _ => rfl, fun z3 => ⟨fun _ => rfl, fun z4 => ⟨fun z5 => absurd c (by omega), fun _ => rfl⟩⟩⟩⟩⟩
    · obtain ⟨p1, p2, p3, p4, p5, -⟩ := o1
      clear eL
      omega
/-! the spare people become the people -/
theorem ct_copyFrom_l {N : Nat} {X : Nat → Int} {d m : Nat} {U0 : am_U} (h0 : U0 21 0 = (m : Nat)) (hm2 : m ≤ 16) (hhm : ∀ p, p < m → -1 ≤ U0 23 p ∧ U0 23 p < 12) : ∀ t i : Nat, i + t = m → ∀ U : am_U, (∀ r, ¬ (16 ≤ r ∧ r ≤ 20) → U r = U0 r) → U 16 0 = (i : Nat) → (U 16 1 = U0 21 1 ∧ U 16 2 = U0 21 2) → (∀ p, p < i → U 17 p = U0 22 p ∧ U 18 p = U0 23 p) → DwOk i (U 18) (U 19) → iPrt U → ∃ U', EvK N X (Fk_copyFrom_s22 (d + 2) (i : Nat) U) (rV U') ∧ (∀ r, ¬ (16 ≤ r ∧ r ≤ 20) → U' r = U0 r) ∧ U' 16 0 = (m : Nat) ∧ (U' 16 1 = U0 21 1 ∧ U' 16 2 = U0 21 2) ∧ (∀ p, p < m → U' 17 p = U0 22 p ∧ U' 18 p = U0 23 p) ∧ DwOk m (U' 18) (U' 19) ∧ iPrt U' := by
  intro t
  induction t with
  | zero =>
    intro i hi U h1 h2 h3 h4 h5 h6
    obtain rfl : i = m := by omega
    exact ⟨U, Fk_copyFrom_r22 ⟨fun _ => rfl, fun h => absurd h (by rw [h1 21 (by decide), h0]; omega)⟩, h1, h2, h3, h4, h5, h6⟩
  | succ t ih =>
    intro i hi U h1 h2 h3 h4 h5 h6
    obtain ⟨U1, f1, f2, f3, f4, f5, f6, f7⟩ := ct_add_16 (N := N) (X := X) (d := d) (U := U) (v := U0 22 i) (hs := U0 23 i) h2 (by omega) (hhm i (by omega))
    obtain ⟨U', k1, k2⟩ := ih (i + 1) (by omega) U1 (fun r q => by rw [f7 r (by omega) (by omega) (by omega) (by omega) (by omega)]; exact h1 r q) (by rw [f2, s1_at]) (by rw [f2, s1_ne (by decide), s1_ne (by decide)]; exact h3) (fun p hp => by
      rw [f3, f4]
      by_cases c : p = i
      · rw [c, s1_at, s1_at]; exact ⟨rfl, rfl⟩
      · rw [s1_ne c, s1_ne c]; exact h4 p (by omega)) (f5 h5) (iPrt_add h6 f3 f6)
    refine ⟨U', Fk_copyFrom_r22 ⟨fun h => absurd h (by rw [h1 21 (by decide), h0]; omega), fun _ => ?_⟩, k2⟩
    rw [w32_succ (i := i) (by omega), Int.toNat_natCast, h1 22 (by decide), h1 23 (by decide)]
    exact ⟨by omega, U1, f1, k1⟩
theorem ct_copyFrom {N : Nat} {X : Nat → Int} {d m : Nat} {U : am_U} (h0 : U 21 0 = (m : Nat)) (hm2 : m ≤ 16) (hni : U 21 2 = 0 ∨ U 21 2 = 1) (hhm : ∀ p, p < m → -1 ≤ U 23 p ∧ U 23 p < 12) (hp : iPrt U) : ∃ U', EvK N X (Fk_copyFrom_s0 (d + 2) U) (rV U') ∧ (∀ r, ¬ (16 ≤ r ∧ r ≤ 20) → U' r = U r) ∧ U' 16 0 = (m : Nat) ∧ (U' 16 1 = U 21 1 ∧ U' 16 2 = U 21 2) ∧ (∀ p, p < m → U' 17 p = U 22 p ∧ U' 18 p = U 23 p) ∧ DwOk m (U' 18) (U' 19) ∧ iPrt U' := by
  obtain ⟨U1, c1, c2, c3, c4, c5, c6⟩ := ct_clear_16 (N := N) (X := X) (d := d) (U := U)
  have r21 : U1 21 = U 21 := c6 21 (by decide) (by decide)
  obtain ⟨U', k1, k2⟩ := ct_copyFrom_l (N := N) (X := X) (d := d) (U0 := U) h0 hm2 hhm m 0 (by omega) (am_upd (am_upd U1 16 1 (U 21 1)) 16 2 (U 21 2)) (fun r q => by rw [upd_row (by omega), upd_row (by omega)]; exact c6 r (by omega) (by omega)) (by rw [upd_ne (by decide), upd_ne (by decide)]; exact c2) ⟨by rw [upd_ne (by decide), upd_at], upd_at _ _ _ _⟩ (fun p h => absurd h (Nat.not_lt_zero p)) (by rw [upd_row (by decide), upd_row (by decide), upd_row (by decide), upd_row (by decide)]; exact c5) (by
    unfold iPrt; rw [upd_row (by decide), upd_row (by decide), upd_row (by decide), upd_row (by decide), c6 20 (by decide) (by decide), c6 17 (by decide) (by decide)]; exact hp)
  refine ⟨U', Fk_copyFrom_r0 ⟨U1, c1, ?_⟩, k2⟩
  rw [r21]
  exact ⟨hni, k1⟩
/-! the tape's length and such places aside: what is kept -/
def scrB (r j : Nat) : Bool := scr r j || (r == 1 && j == 1) || (r == 86 && j == 1)
def mskB (U : am_U) : am_U := fun r j => bif scrB r j then 0 else U r j
def agrB (U U' : am_U) : Prop := ∀ r j, scrB r j = false → U' r j = U r j
theorem agrB_refl (U : am_U) : agrB U U := fun _ _ _ => rfl
theorem agrB_trans {U U1 U2 : am_U} (h1 : agrB U U1) (h2 : agrB U1 U2) : agrB U U2 := fun r j h => by rw [h2 r j h, h1 r j h]
theorem agrB_of {U U' : am_U} (h : agr U U') : agrB U U' := fun r j e => h r j (by unfold scrB at e; cases q : scr r j with | false => rfl | true => rw [q] at e; simp at e)
theorem agrB_tape (U : am_U) (x y : Int) : agrB U (am_upd (am_upd U 1 1 x) 86 1 y) := fun r j e => by
  rw [upd_if2 (by rintro ⟨rfl, rfl⟩; exact absurd e (by decide)), upd_if2 (by rintro ⟨rfl, rfl⟩; exact absurd e (by decide))]
theorem agrB_msk {U U' : am_U} (h : agrB U U') : mskB U' = mskB U := by
  funext r j
  unfold mskB
  cases e : scrB r j with
  | true => rfl
  | false => exact h r j e
theorem agrB_row {U U' : am_U} (h : agrB U U') {r : Nat} (q : ∀ j, scrB r j = false) : U' r = U r := funext fun j => h r j (q j)
theorem iTown_mskB {U : am_U} {b ns nh nl nw nd cl : Nat} : iTown (mskB U) b ns nh nl nw nd cl ↔ iTown U b ns nh nl nw nd cl := Iff.rfl
theorem iTown_agrB {U U' : am_U} {b ns nh nl nw nd cl : Nat} (h : agrB U U') (hi : iTown U b ns nh nl nw nd cl) : iTown U' b ns nh nl nw nd cl := by
  rw [← iTown_mskB] at hi ⊢
  rw [agrB_msk h]; exact hi
theorem iFolk_agrB {U U' : am_U} {n nh : Nat} (h : agrB U U') (hi : iFolk U n nh) : iFolk U' n nh := by
  unfold iFolk at hi ⊢
  rw [agrB_row h (r := 17) (fun _ => rfl), agrB_row h (r := 18) (fun _ => rfl), agrB_row h (r := 8) (fun _ => rfl), agrB_row h (r := 19) (fun _ => rfl), agrB_row h (r := 16) (fun _ => rfl), h 122 0 rfl, h 120 0 rfl, h 121 0 rfl]
  refine ⟨hi.1, hi.2.1, hi.2.2.1, fun p hp => ?_, hi.2.2.2.2⟩
  have : p < 16 := by have := hi.1.2.2; omega
  rw [h 123 p (by simp [scrB, scr]; omega), h 124 p (by simp [scrB, scr]; omega)]
  exact hi.2.2.2.1 p hp
theorem iPrt_agrB {U U' : am_U} (h : agrB U U') (hi : iPrt U) : iPrt U' := by
  unfold iPrt; rw [agrB_row h (r := 20) (fun _ => rfl), agrB_row h (r := 17) (fun _ => rfl)]; exact hi
theorem iRS_agrB {U U' : am_U} (h : agrB U U') (hi : iRS U) : iRS U' := by
  unfold iRS; rw [agrB_row h (r := 119) (fun _ => rfl), agrB_row h (r := 85) (fun _ => rfl), h 86 59 rfl, h 1 18 rfl]; exact hi
theorem scr_hist {r : Nat} (h : 58 ≤ r ∧ r < 78) (j : Nat) : scr r j = false := by
  unfold scr
  rw [if_neg (by omega), if_neg (by omega), if_neg (by omega), if_neg (by omega), if_neg (by omega), if_neg (by omega)]
theorem iHist_agrB {U U' : am_U} {nh k w g : Nat} (h : agrB U U') (hi : iHist U nh k w g) : iHist U' nh k w g := by
  obtain ⟨a1, a2, a3, a4⟩ := hi
  refine ⟨by rw [h 56 2 rfl, h 86 58 rfl]; exact a1, by rw [h 56 1 rfl]; exact a2, by rw [h 86 57 rfl]; exact a3, fun i hi => ?_⟩
  have b1 : (w + 20 - i) % 20 < 20 := Nat.mod_lt _ (by decide)
  have b2 : (g + (k - 1 - i)) % 20 < 20 := Nat.mod_lt _ (by decide)
  have h4 := a4 i hi
  generalize (w + 20 - i) % 20 = y at b1 h4
  generalize (g + (k - 1 - i)) % 20 = z at b2 h4
  refine hRow_cg (agrB_row h (r := 8) (fun _ => rfl)) (agrB_row h (r := 58 + y) (fun j => ?_)) (h 120 (2 + z) ?_) (h 121 (2 + z) ?_) (h 122 (2 + z) ?_) (fun p hp => ⟨h 123 _ ?_, h 124 _ ?_⟩) h4
  · unfold scrB
    rw [scr_hist (by omega)]
    simp; omega
  · simp [scrB, scr]; omega
  · simp [scrB, scr]; omega
  · simp [scrB, scr]; omega
  · simp [scrB, scr]; omega
  · simp [scrB, scr]; omega
theorem iKept_agrB {U V V' : am_U} {n n' : Nat} (h : agrB V V') (hi : iKept U V n n') : iKept U V' n n' := by
  rcases hi with ⟨a, b, c⟩ | ⟨a0, a1, a2, a3, a4, a5, a6, a7, a8⟩
  · exact Or.inl ⟨by rw [h 45 5 rfl]; exact a, by rw [h 48 9 rfl]; exact b, by rw [h 52 8 rfl]; exact c⟩
  · refine Or.inr ⟨a0, by rw [h 16 0 rfl]; exact a1, by rw [agrB_row h (r := 17) (fun _ => rfl)]; exact a2, by rw [agrB_row h (r := 18) (fun _ => rfl)]; exact a3, by rw [agrB_row h (r := 19) (fun _ => rfl)]; exact a4, by rw [agrB_row h (r := 20) (fun _ => rfl)]; exact a5, fun j hj => ?_, by rw [agrB_row h (r := 48) (fun _ => rfl)]; exact a7, by rw [agrB_row h (r := 52) (fun _ => rfl)]; exact a8⟩
    rw [h 45 j (by simp [scrB, scr]; omega)]; exact a6 j hj
theorem actOk_agr {U V V' : am_U} {nh n n' : Nat} (h : agr V V') (hi : actOk U V nh n n') : actOk U V' nh n n' := by
  obtain ⟨a1, a2, a3, ⟨k, w, g, a4⟩, a5, a6⟩ := hi
  have hB := agrB_of h
  exact ⟨agrA_trans a1 (agrA_of h), iFolk_agrB hB a2, iRS_agrB hB a3, ⟨k, w, g, iHist_agrB hB a4⟩, iPrt_agrB hB a5, iKept_agrB hB a6⟩
