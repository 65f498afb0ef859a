/-! hidden ones: the reference finds -/
theorem rdS_ext {ok : Nat → Bool} {mo k x y : Nat} {c c' : Int} {row row' : Nat → Int} (hxy : x ≤ y) (h : rdS ok mo k x c row) (hc : c' = (fb_ct ok y : Nat)) (hrow : 0 < fb_ct ok x → ∀ i, i < k → row' i = row i) (hnew : fb_ct ok x = 0 → 0 < fb_ct ok y → ∃ w, x ≤ w ∧ w < y ∧ ok w = true ∧ (∀ v, x ≤ v → v < w → ok v = false) ∧ ∀ i, i < k → row' i = (dgW mo k w i : Nat)) : rdS ok mo k y c' row' := by
  refine ⟨hc, fun hp => ?_⟩
  by_cases z : fb_ct ok x = 0
  · obtain ⟨w, w1, w2, w3, w4, w5⟩ := hnew z hp
    refine ⟨w, w2, w3, fun v hv => ?_, w5⟩
    by_cases q : v < x
    · exact fb_ct_zero.mp z v q
    · exact w4 v (by omega) hv
  · obtain ⟨w, w1, w2, w3, w4⟩ := h.2 (by omega)
    exact ⟨w, by omega, w2, w3, fun i hi => by rw [hrow (by omega) i hi]; exact w4 i hi⟩
theorem rdS_no {ok : Nat → Bool} {mo k x : Nat} {c : Int} {row : Nat → Int} (h : rdS ok mo k x c row) (hn : ok x = false) : rdS ok mo k (x + 1) c row := by
  have e : fb_ct ok (x + 1) = fb_ct ok x := by rw [fb_ct_succ, hn]; rfl
  exact rdS_ext (by omega) h (by rw [e]; exact h.1) (fun _ _ _ => rfl) (fun z1 z2 => absurd z2 (by omega))
theorem M_fin_way {N : Nat} {X : Nat → Int} {d k mo : Nat} {t : Nat → Int} {U0 : am_U} (hk : 2 ≤ k ∧ k ≤ 4) (hmo : 1 ≤ mo ∧ mo ≤ 24) (h82 : U0 86 82 = (k : Nat)) (h83 : U0 86 83 = (mo : Nat)) (h135 : ∀ a b, a < b → b < k → U0 135 (pix k a b) = t (pix k a b) ∧ (t (pix k a b) = 0 ∨ t (pix k a b) = 1)) : ∀ m w : Nat, w + m = mo ^ k → ∀ U, frH U0 U → rdS (okW t k mo) mo k w (U 86 84) (U 137) → ∃ U', EvK N X (M_finds_s32 (d + 3) ((mo ^ k : Nat) : Int) (w : Nat) U) (rV U') ∧ frH U0 U' ∧ rdS (okW t k mo) mo k (mo ^ k) (U' 86 84) (U' 137) := by
  have hall := mo_pow hmo.2 hk.2
  intro m
  induction m with
  | zero =>
    intro w hw U h1 h2
    obtain rfl : w = mo ^ k := by omega
    exact ⟨U, M_finds_r32 ⟨fun _ => rfl, fun z => absurd z (by omega)⟩, h1, h2⟩
  | succ m ih =>
    intro w hw U h1 h2
    have u82 : U 86 82 = (k : Nat) := by rw [h1 86 82 (by decide) (by decide) (by decide)]; exact h82
    have u83 : U 86 83 = (mo : Nat) := by rw [h1 86 83 (by decide) (by decide) (by decide)]; exact h83
    obtain ⟨U1, a1, a2, a3⟩ := M_fin_dg (N := N) (X := X) (d := d + 2) (k := k) (w := w) (x1 := ((mo ^ k : Nat) : Int)) hmo (by omega) k (Nat.le_refl k) (by omega) U u83 (fun j q1 q2 => absurd q2 (by omega))
    rw [Nat.sub_self, Nat.pow_zero, Nat.div_one] at a3
    have fr1 : frH U0 U1 := frH_trans h1 (fun r j q1 _ _ => by rw [a2 r q1])
    have v82 : U1 86 82 = (k : Nat) := by rw [a2 86 (by decide)]; exact u82
    have v84 : U1 86 84 = U 86 84 := by rw [a2 86 (by decide)]
    have v137 : U1 137 = U 137 := a2 137 (by decide)
    have dg25 : ∀ i, i < k → dgW mo k w i ≤ 1000 := fun i _ => by
      unfold dgW
      have : w / mo ^ (k - 1 - i) % mo < mo := Nat.mod_lt _ (by omega)
      omega
    obtain ⟨x, b1, b2⟩ := M_isRow_c (N := N) (X := X) (d := d) (k := k) (U := U1) (t := t) (r := dgW mo k w) v82 (by omega) a1 dg25 (fun a b q1 q2 => by rw [fr1 135 _ (by decide) (by decide) (by omega)]; exact h135 a b q1 q2)
    have fin : ∀ {R}, EvK N X (M_finds_s47 (d + 3) ((mo ^ k : Nat) : Int) (w : Nat) ((w / mo ^ k : Nat) : Int) (-1) U1) R → EvK N X (M_finds_s32 (d + 3) ((mo ^ k : Nat) : Int) (w : Nat) U) R := fun {R} h => by
      refine M_finds_r32 ⟨fun z => absurd z (by omega), fun _ => ?_⟩
      rw [u82, w32_eq (x := ((k : Nat) : Int) - 1) (by omega) (by omega)]
      exact a3 R h
    rcases b2 with ⟨rfl, b3⟩ | ⟨rfl, b3⟩
    · have okw : okW t k mo w = true := pd_t b3
      have ec : fb_ct (okW t k mo) (w + 1) = fb_ct (okW t k mo) w + 1 := by rw [fb_ct_succ, okw]; rfl
      have cl : fb_ct (okW t k mo) w ≤ w := fb_ct_le _ w
      have c84 : U1 86 84 = ((fb_ct (okW t k mo) w : Nat) : Int) := by rw [v84]; exact h2.1
      by_cases z : fb_ct (okW t k mo) w = 0
      · -- the first one: it is kept
        have c0 : U1 86 84 = 0 := by rw [c84, z]; rfl
        have copy : ∀ n i : Nat, i + n = k → ∀ V : am_U, frH U0 V → V 86 84 = 0 → (∀ j, j < k → V 136 j = (dgW mo k w j : Nat)) → (∀ j, j < i → V 137 j = (dgW mo k w j : Nat)) → ∃ U', EvK N X (M_finds_s93 (d + 3) ((mo ^ k : Nat) : Int) (w : Nat) ((w / mo ^ k : Nat) : Int) (i : Nat) V) (rV U') ∧ frH U0 U' ∧ rdS (okW t k mo) mo k (mo ^ k) (U' 86 84) (U' 137) := by
          intro n
          induction n with
          | zero =>
            intro i hi V g1 g2 g3 g4
            obtain rfl : i = k := by omega
            have w82 : V 86 82 = (i : Nat) := by rw [g1 86 82 (by decide) (by decide) (by decide)]; exact h82
            obtain ⟨U', k1, k2⟩ := ih (w + 1) (by omega) (am_upd V 86 84 1) (frH_trans g1 (fun r j _ _ q => upd_if2 q)) (by
              rw [upd_at, upd_row (by decide)]
              refine rdS_ext (Nat.le_succ w) h2 (by rw [ec, z]; rfl) (fun q => absurd q (by omega)) (fun _ _ => ⟨w, Nat.le_refl w, Nat.lt_succ_self w, okw, fun v q1 q2 => absurd q1 (by omega), g4⟩))
            refine ⟨U', M_finds_r93 ⟨fun _ => ?_, fun q => absurd q (by rw [w82]; omega)⟩, k2⟩
            rw [g2, w32_succ (i := w) (by omega)]
            exact k1
          | succ n ihn =>
            intro i hi V g1 g2 g3 g4
            have w82 : V 86 82 = (k : Nat) := by rw [g1 86 82 (by decide) (by decide) (by decide)]; exact h82
            obtain ⟨U', k1, k2⟩ := ihn (i + 1) (by omega) (am_upd V 137 i (V 136 i)) (frH_trans g1 (fun r j _ q _ => by rw [upd_row q])) (by rw [upd_row (by decide)]; exact g2) (fun j hj => by rw [upd_row (by decide)]; exact g3 j hj) (fun j hj => by
              rw [upd_if]
              by_cases c : j = i
              · rw [if_pos c, c]; exact g3 i (by omega)
              · rw [if_neg c]; exact g4 j (by omega))
            refine ⟨U', M_finds_r93 ⟨fun q => absurd q (by rw [w82]; omega), fun _ => ⟨fun q => absurd g2 q, fun _ => ⟨by omega, ?_⟩⟩⟩, k2⟩
            rw [Int.toNat_natCast, w32_succ (i := i) (by omega)]
            exact k1
        obtain ⟨U', k1, k2⟩ := copy k 0 (by omega) U1 fr1 c0 a1 (fun j hj => absurd hj (Nat.not_lt_zero j))
        exact ⟨U', fin (M_finds_r47 ⟨fun _ => ⟨1, U1, b1, fun _ => k1, fun q => absurd q (by decide)⟩, fun q => absurd q (by decide)⟩), k2⟩
      · obtain ⟨U', k1, k2⟩ := ih (w + 1) (by omega) (am_upd U1 86 84 ((fb_ct (okW t k mo) w + 1 : Nat) : Int)) (frH_trans fr1 (fun r j _ _ q => upd_if2 q)) (by
          rw [upd_at, upd_row (by decide), v137]
          exact rdS_ext (Nat.le_succ w) h2 (by rw [ec]) (fun _ _ _ => rfl) (fun q => absurd q z))
        refine ⟨U', fin (M_finds_r47 ⟨fun _ => ⟨1, U1, b1, fun _ => M_finds_r93 ⟨fun q => absurd q (by rw [v82]; omega), fun _ => ⟨fun _ => ?_, fun q => absurd q (by rw [c84]; omega)⟩⟩, fun q => absurd q (by decide)⟩, fun q => absurd q (by decide)⟩), k2⟩
        rw [c84, w32_succ (i := fb_ct (okW t k mo) w) (by omega), w32_succ (i := w) (by omega)]
        exact k1
    · have okw : okW t k mo w = false := pd_f b3
      obtain ⟨U', k1, k2⟩ := ih (w + 1) (by omega) U1 fr1 (by rw [v84, v137]; exact rdS_no h2 okw)
      refine ⟨U', fin (M_finds_r47 ⟨fun _ => ⟨0, U1, b1, fun q => absurd rfl q, fun _ => ?_⟩, fun q => absurd q (by decide)⟩), k2⟩
      rw [w32_succ (i := w) (by omega)]; exact k1
theorem M_fin_c {N : Nat} {X : Nat → Int} {d k mo : Nat} {t : Nat → Int} {U : am_U} (hk : 2 ≤ k ∧ k ≤ 4) (hmo : 1 ≤ mo ∧ mo ≤ 24) (h82 : U 86 82 = (k : Nat)) (h83 : U 86 83 = (mo : Nat)) (h135 : ∀ a b, a < b → b < k → U 135 (pix k a b) = t (pix k a b) ∧ (t (pix k a b) = 0 ∨ t (pix k a b) = 1)) : ∃ U', EvK N X (M_finds_s0 (d + 3) U) (rV U') ∧ frH U U' ∧ rdS (okW t k mo) mo k (mo ^ k) (U' 86 84) (U' 137) := by
  have fr0 : frH U (am_upd U 86 84 0) := fun r j _ _ q => upd_if2 q
  obtain ⟨U', k1, k2, k3⟩ := M_fin_way (N := N) (X := X) (d := d) (U0 := U) hk hmo h82 h83 h135 (mo ^ k) 0 (by omega) (am_upd U 86 84 0) fr0 ⟨by rw [upd_at]; rfl, fun q => absurd q (Nat.lt_irrefl 0)⟩
  have loop : ∀ m i : Nat, i + m = k → EvK N X (M_finds_s9 (d + 3) ((mo ^ i : Nat) : Int) (i : Nat) (am_upd U 86 84 0)) (rV U') := by
    intro m
    induction m with
    | zero =>
      intro i hi
      obtain rfl : i = k := by omega
      refine M_finds_r9 ⟨fun _ => k1, fun q => absurd q (by rw [upd_ne (by decide), h82]; omega)⟩
    | succ m ih =>
      intro i hi
      have := ih (i + 1) (by omega)
      have b := mo_pow hmo.2 (show i + 1 ≤ 4 by omega)
      refine M_finds_r9 ⟨fun q => absurd q (by rw [upd_ne (by decide), h82]; omega), fun _ => ?_⟩
      rw [upd_ne (by decide), h83, ← Int.natCast_mul, ← Nat.pow_succ, w32_eq (x := ((mo ^ (i + 1) : Nat) : Int)) (by omega) (by omega), w32_succ (i := i) (by omega)]
      exact this
  exact ⟨U', M_finds_r0 (loop k 0 (by omega)), k2, k3⟩
