/-! the class and the reference take words, names and numbers -/
def wn (T : Nat → Int) (L i : Nat) : Int := (w8 T (plS1 T L i) (enS T L (i + 1) - plS1 T L i) : Nat)
/-- a fault alone -/
def f89 (V V' : am_U) : Prop := ∀ r j, ¬ (r = 86 ∧ (j = 8 ∨ j = 9)) → V' r j = V r j
theorem f89_blame (V : am_U) (k p : Int) : f89 V (am_upd (am_upd V 86 8 k) 86 9 p) := fun r j q => by
  by_cases c : r = 86
  · subst c; rw [upd_ne (fun e => q ⟨rfl, Or.inr e⟩), upd_ne (fun e => q ⟨rfl, Or.inl e⟩)]
  · rw [upd_row c, upd_row c]
section TAK
variable {N : Nat} {X : Nat → Int} {T : Nat → Int} {L K : Nat} {kk vv : Nat → Int} {bp : Int} {i d : Nat} {U V : am_U}
theorem wn_ok (hk : tkS T L K kk vv bp) (hi : i ≤ K) (h2 : kk i = 2) : nmR (vv i) (wn T L i) := by
  rcases hk.2.2.2.1 i hi with ⟨_, c⟩ | ⟨c1, c2, len, c3, c4, c5, c6⟩ | ⟨c1, c2, len, c3, c4, c5, c6⟩ | ⟨c1, c2, c3, c4⟩
  · omega
  · rcases c6 with ⟨y1, _⟩ | ⟨y1, y2, y3⟩
    · omega
    · rcases y3 with ⟨x1, _⟩ | ⟨x1, x2, x3⟩
      · omega
      · have e : enS T L (i + 1) - plS1 T L i = len := by
          show tkE T L (enS T L i) - tkA T L (enS T L i) = len
          omega
        unfold wn
        rw [x2, e]
        exact nmR_T c4 y2 c5
  · rcases c6 with ⟨y1, _⟩ | ⟨_, _, y1, _⟩ <;> omega
  · rcases c4 with ⟨y1, _⟩ | ⟨y1, _⟩ <;> omega
theorem wn_V (hk : tkS T L K kk vv bp) (hr : rT V T L i) (hi : i ≤ K) (h2 : kk i = 2) : V 86 7 = wn T L i ∧ V 86 3 = 1 ∧ V 86 12 = -1 ∧ ∀ w, w < 26 → V 86 7 ≠ ow8 w := by
  rcases rT_R hk hr hi with ⟨z1, _⟩ | ⟨z1, _⟩ | ⟨z1, _⟩ | ⟨z1, _⟩ | ⟨z1, _⟩ | ⟨z1, z2, z3, z4, z5⟩
  · omega
  · omega
  · omega
  · omega
  · omega
  · exact ⟨(nmR_eq z4 (wn_ok hk hi h2)).mp rfl, z3, z2, z5⟩
/-- not a name: no word, or an own one -/
theorem noNm (hk : tkS T L K kk vv bp) (hr : rT V T L i) (hi : i ≤ K) (hx : V 86 12 = -1) (h2 : kk i ≠ 2) : V 86 3 ≠ 1 ∨ ∃ w : Nat, w < 26 ∧ V 86 7 = ow8 w := by
  rcases rT_R hk hr hi with ⟨z1, z2, _⟩ | ⟨z1, z⟩ | ⟨z1, _, z2, _⟩ | ⟨z1, _, z2, _⟩ | ⟨z1, _, z2, w, z3, z4, z5⟩ | ⟨z1, _⟩
  · left; omega
  · rcases z with ⟨y1, y2⟩ | ⟨_, _, y2, _⟩
    · omega
    · left; omega
  · left; omega
  · left; omega
  · right; exact ⟨w, z3, z5⟩
  · omega
theorem blame_at (hk : tkS T L K kk vv bp) (hr : rT V T L i) (hi : i ≤ K) (hx : V 86 12 = -1) (k : Int) : ∃ V', EvK N X (M_blame_s0 d k (V 86 4) V) (rV V') ∧ f89 V V' ∧ V' 86 8 = k ∧ V' 86 9 = fpl T L kk bp i :=
  ⟨_, ct_blame1 hr.2.2 k _, f89_blame _ _ _, by rw [upd_ne (by decide), upd_at], by rw [upd_at, rT_pl hr, fpl_pl hk hr hi hx]⟩
theorem lexB_at (hk : tkS T L K kk vv bp) (hr : rT V T L i) (hi : i ≤ K) (hx : V 86 12 ≠ -1) : ∃ V', EvK N X (M_lex_s0 (d + 1) V) (rV V') ∧ f89 V V' ∧ V' 86 8 = 1 ∧ V' 86 9 = fpl T L kk bp i :=
  ⟨_, ct_lexB hr.2.2 hx, f89_blame _ _ _, by rw [upd_ne (by decide), upd_at], by rw [upd_at]; exact (rT_bad hk hr hi hx).2⟩
/-! with a fault told nothing goes on -/
theorem lex_F (h : 0 < V 86 8) : EvK N X (M_lex_s0 (d + 1) V) (rV V) := M_lex_r0 ⟨fun _ => rfl, fun _ => ⟨V, M_blame_r0 ⟨fun z => absurd z (by omega), fun _ => rfl⟩, rfl⟩⟩
theorem mustJ_F (h : 0 < V 86 8) (w : Int) : EvK N X (M_must_J_s0 (d + 2) w V) (rV V) := M_must_J_r0 ⟨V, lex_F h, fun z => absurd z (by omega), fun _ => rfl⟩
theorem blame_F (h : 0 < V 86 8) (k p : Int) : EvK N X (M_blame_s0 d k p V) (rV V) := M_blame_r0 ⟨fun z => absurd z (by omega), fun _ => rfl⟩
theorem looked_F (h : 0 < V 86 8) (k : Int) : EvK N X (M_looked_s0 (d + 2) k V) (rI 0 V) := M_looked_r0 ⟨V, lex_F h, fun z => absurd z (by omega), fun _ => rfl⟩
theorem asked_F (h : 0 < V 86 8) (k : Int) : EvK N X (M_asked_s0 (d + 3) k V) (rI 0 V) := M_asked_r0 ⟨0, V, looked_F h k, fun _ => ⟨fun z => absurd z (by omega), fun _ => rfl⟩, fun z => absurd z (by omega)⟩
theorem numeral_F (h : 0 < V 86 8) (a c : Int) : EvK N X (M_numeral_s0 (d + 2) a c V) (rI 0 V) := M_numeral_r0 ⟨V, lex_F h, fun z => absurd z (by omega), fun _ => rfl⟩
/-! the reference -/
theorem ct_mustJ (hk : tkS T L K kk vv bp) (hi : i ≤ K) (hr : rT V T L i) (w : Nat) (hw : w < 26) : ((kk i = 1 ∧ vv i = (w : Nat)) → ∃ V', EvK N X (M_must_J_s0 (d + 2) (ow8 w) V) (rV V') ∧ fA6 V V' ∧ rT V' T L (i + 1)) ∧ (¬ (kk i = 1 ∧ vv i = (w : Nat)) → ∃ V', EvK N X (M_must_J_s0 (d + 2) (ow8 w) V) (rV V') ∧ f89 V V' ∧ V' 86 8 = 1 ∧ V' 86 9 = fpl T L kk bp i) := by
  refine ⟨fun h => ?_, fun h => ?_⟩
  · have hx : V 86 12 = -1 := by
      rcases Int.decEq (V 86 12) (-1) with z | z
      · have := (rT_bad hk hr hi z).1; omega
      · exact z
    have sg := ct_isWord1 (N := N) (X := X) (d := d + 1) hk hr hi hx w hw
    rw [b2i_t h] at sg
    obtain ⟨V', k1, k2, k3⟩ := ct_ahead1 (N := N) (X := X) (d := d) hk hr
    exact ⟨V', M_must_J_r0 ⟨V, ct_lex1 hx, fun _ => ⟨1, V, sg, fun _ => ⟨fun z => absurd hr.2.2 z, fun _ => ⟨V', k1, rfl⟩⟩, fun z => absurd z (by decide)⟩, fun z => absurd z (by rw [hr.2.2]; decide)⟩, k2, k3⟩
  · rcases Int.decEq (V 86 12) (-1) with hx | hx
    · obtain ⟨V', k1, k2, k3, k4⟩ := lexB_at (N := N) (X := X) (d := d) hk hr hi hx
      exact ⟨V', M_must_J_r0 ⟨V', k1, fun z => absurd z (by rw [k3]; decide), fun _ => rfl⟩, k2, k3, k4⟩
    · have sg := ct_isWord1 (N := N) (X := X) (d := d + 1) hk hr hi hx w hw
      rw [b2i_f h] at sg
      obtain ⟨V', k1, k2, k3, k4⟩ := blame_at (N := N) (X := X) (d := d + 1) hk hr hi hx 1
      exact ⟨V', M_must_J_r0 ⟨V, ct_lex1 hx, fun _ => ⟨0, V, sg, fun z => absurd rfl z, fun _ => ⟨V', k1, fun _ => rfl, fun z => absurd z (by rw [k3]; decide)⟩⟩, fun z => absurd z (by rw [hr.2.2]; decide)⟩, k2, k3, k4⟩
theorem ct_mustI (hk : tkS T L K kk vv bp) (hi : i ≤ K) (hr : rT V T L i) (hx : V 86 12 = -1) (c : Int) (hg : isG c = true) : ((kk i = 4 ∧ vv i = c) → ∃ V', EvK N X (M_must_I_s0 (d + 2) c V) (rV V') ∧ fA6 V V' ∧ rT V' T L (i + 1)) ∧ (¬ (kk i = 4 ∧ vv i = c) → ∃ V', EvK N X (M_must_I_s0 (d + 2) c V) (rV V') ∧ f89 V V' ∧ V' 86 8 = 1 ∧ V' 86 9 = fpl T L kk bp i) := by
  have sg := ct_isSign1 (N := N) (X := X) (d := d + 1) hk hr hi hx c hg
  refine ⟨fun h => ?_, fun h => ?_⟩
  · rw [b2i_t h] at sg
    obtain ⟨V', k1, k2, k3⟩ := ct_ahead1 (N := N) (X := X) (d := d) hk hr
    exact ⟨V', M_must_I_r0 ⟨V, ct_lex1 hx, 1, V, sg, fun _ => ⟨fun z => absurd hr.2.2 z, fun _ => ⟨V', k1, rfl⟩⟩, fun z => absurd z (by decide)⟩, k2, k3⟩
  · rw [b2i_f h] at sg
    obtain ⟨V', k1, k2, k3, k4⟩ := blame_at (N := N) (X := X) (d := d + 1) hk hr hi hx 1
    exact ⟨V', M_must_I_r0 ⟨V, ct_lex1 hx, 0, V, sg, fun z => absurd rfl z, fun _ => ⟨V', k1, fun _ => rfl, fun z => absurd z (by rw [k3]; decide)⟩⟩, k2, k3, k4⟩
theorem ct_is (x a c : Int) : EvK N X (M_is_s0 d x a c V) (rI (b2i (a ≤ x ∧ x ≤ c)) V) := by
  refine M_is_r0 ⟨fun z => by rw [b2i_f (fun y => by omega)], fun z => ⟨fun y => by rw [b2i_f (fun y => by omega)], fun y => by rw [b2i_t ⟨z, y⟩]⟩⟩
/-- a number within bounds -/
def nuOk (kk vv : Nat → Int) (i : Nat) (a c : Int) : Prop := kk i = 3 ∧ a ≤ vv i ∧ vv i ≤ c
theorem ct_numeral (hk : tkS T L K kk vv bp) (hi : i ≤ K) (hr : rT V T L i) (a c : Int) : (nuOk kk vv i a c → ∃ V', EvK N X (M_numeral_s0 (d + 2) a c V) (rI (vv i) V') ∧ fA6 V V' ∧ rT V' T L (i + 1)) ∧ (¬ nuOk kk vv i a c → ∃ r V', EvK N X (M_numeral_s0 (d + 2) a c V) (rI r V') ∧ f89 V V' ∧ V' 86 8 = (if kk i = 3 then 4 else 1) ∧ V' 86 9 = fpl T L kk bp i) := by
  refine ⟨fun h => ?_, fun h => ?_⟩
  · have hx : V 86 12 = -1 := by
      rcases Int.decEq (V 86 12) (-1) with z | z
      · have := (rT_bad hk hr hi z).1
        have := h.1; omega
      · exact z
    have nn := rT_num hk hr hi hx
    obtain ⟨n1, n2, n3⟩ := nn.2 h.1
    have si := ct_is (N := N) (X := X) (d := d + 1) (V := V) (V 86 6) a c
    rw [b2i_t (by rw [n1]; exact h.2)] at si
    obtain ⟨V', k1, k2, k3⟩ := ct_ahead1 (N := N) (X := X) (d := d) hk hr
    refine ⟨V', M_numeral_r0 ⟨V, ct_lex1 hx, fun _ => ⟨fun _ => ⟨fun z => absurd hr.2.2 z, fun _ => ⟨1, V, si, fun _ => ⟨fun z => absurd hr.2.2 z, fun _ => ⟨V', k1, by rw [n1]⟩⟩, fun z => absurd z (by decide)⟩⟩, fun z => absurd (nn.1.mpr h.1) z⟩, fun z => absurd z (by rw [hr.2.2]; decide)⟩, k2, k3⟩
  · rcases Int.decEq (V 86 12) (-1) with hx | hx
    · have k5 := (rT_bad hk hr hi hx).1
      obtain ⟨V', k1, k2, k3, k4⟩ := lexB_at (N := N) (X := X) (d := d) hk hr hi hx
      exact ⟨0, V', M_numeral_r0 ⟨V', k1, fun z => absurd z (by rw [k3]; decide), fun _ => rfl⟩, k2, by rw [if_neg (by omega)]; exact k3, k4⟩
    · have nn := rT_num hk hr hi hx
      by_cases k3 : kk i = 3
      · obtain ⟨n1, n2, n3⟩ := nn.2 k3
        have si := ct_is (N := N) (X := X) (d := d + 1) (V := V) (V 86 6) a c
        rw [b2i_f (by rw [n1]; exact fun z => h ⟨k3, z⟩)] at si
        obtain ⟨V', k1, k2, k4, k5⟩ := blame_at (N := N) (X := X) (d := d + 1) hk hr hi hx 4
        exact ⟨_, V', M_numeral_r0 ⟨V, ct_lex1 hx, fun _ => ⟨fun _ => ⟨fun z => absurd hr.2.2 z, fun _ => ⟨0, V, si, fun z => absurd rfl z, fun _ => ⟨V', k1, fun _ => rfl, fun z => absurd z (by rw [k4]; decide)⟩⟩⟩, fun z => absurd (nn.1.mpr k3) z⟩, fun z => absurd z (by rw [hr.2.2]; decide)⟩, k2, by rw [if_pos k3]; exact k4, k5⟩
      · obtain ⟨V', k1, k2, k4, k5⟩ := blame_at (N := N) (X := X) (d := d + 1) hk hr hi hx 1
        exact ⟨_, V', M_numeral_r0 ⟨V, ct_lex1 hx, fun _ => ⟨fun z => absurd (nn.1.mp z) k3, fun _ => ⟨V', k1, fun _ => rfl, fun z => absurd z (by rw [k4]; decide)⟩⟩, fun z => absurd z (by rw [hr.2.2]; decide)⟩, k2, by rw [if_neg k3]; exact k4, k5⟩
/-- one of a kind by its name -/
theorem ct_looked (hk : tkS T L K kk vv bp) (hi : i ≤ K) (hr : rT V T L i) {q r : Int} (hN : kk i = 2 → ∀ V2 : am_U, V2 = V → EvK N X (M_named_s0 (d + 1) q (wn T L i) V2) (rI r V2)) : ((kk i = 2 ∧ r ≠ -1) → EvK N X (M_looked_s0 (d + 2) q V) (rI r V)) ∧ (¬ (kk i = 2 ∧ r ≠ -1) → ∃ V', EvK N X (M_looked_s0 (d + 2) q V) (rI 0 V') ∧ f89 V V' ∧ V' 86 8 = (if kk i = 2 then 3 else 1) ∧ V' 86 9 = fpl T L kk bp i) := by
  have z8 := hr.2.2
  refine ⟨fun h => ?_, fun h => ?_⟩
  · obtain ⟨w1, w2, w3, w4⟩ := wn_V hk hr hi h.1
    exact M_looked_r0 ⟨V, ct_lex1 w3, fun _ => ⟨fun z => absurd w2 z, fun _ => ⟨0, V, ct_isOwnN w4, fun _ => ⟨fun _ => ⟨r, V, by rw [w1]; exact hN h.1 V rfl, fun z => absurd z8 z, fun _ => ⟨fun _ => M_looked_r83 ⟨fun _ => rfl, fun z => absurd z (by omega)⟩, fun z => absurd z h.2⟩⟩, fun z => absurd z (by omega)⟩, fun z => absurd rfl z⟩⟩, fun z => absurd z (by omega)⟩
  · rcases Int.decEq (V 86 12) (-1) with hx | hx
    · have k5 := (rT_bad hk hr hi hx).1
      obtain ⟨V', k1, k2, k3, k4⟩ := lexB_at (N := N) (X := X) (d := d) hk hr hi hx
      exact ⟨V', M_looked_r0 ⟨V', k1, fun z => absurd z (by rw [k3]; decide), fun _ => rfl⟩, k2, by rw [if_neg (by omega)]; exact k3, k4⟩
    · by_cases k2 : kk i = 2
      · obtain ⟨w1, w2, w3, w4⟩ := wn_V hk hr hi k2
        have hr1 : r = -1 := by
          rcases Int.decEq r (-1) with z | z
          · exact absurd ⟨k2, z⟩ h
          · exact z
        obtain ⟨V', b1, b2, b3, b4⟩ := blame_at (N := N) (X := X) (d := d + 1) hk hr hi hx 3
        exact ⟨V', M_looked_r0 ⟨V, ct_lex1 w3, fun _ => ⟨fun z => absurd w2 z, fun _ => ⟨0, V, ct_isOwnN w4, fun _ => ⟨fun _ => ⟨r, V, by rw [w1]; exact hN k2 V rfl, fun z => absurd z8 z, fun _ => ⟨fun z => absurd hr1 z, fun _ => ⟨V', b1, M_looked_r83 ⟨fun z => absurd z (by rw [b3]; decide), fun _ => rfl⟩⟩⟩⟩, fun z => absurd z (by omega)⟩, fun z => absurd rfl z⟩⟩, fun z => absurd z (by omega)⟩, b2, by rw [if_pos k2]; exact b3, b4⟩
      · obtain ⟨V', b1, b2, b3, b4⟩ := blame_at (N := N) (X := X) (d := d + 1) hk hr hi hx 1
        have fin : ∀ x, EvK N X (M_looked_s83 (d + 2) q x V') (rI 0 V') := fun x => M_looked_r83 ⟨fun z => absurd z (by rw [b3]; decide), fun _ => rfl⟩
        refine ⟨V', M_looked_r0 ⟨V, ct_lex1 hx, fun _ => ⟨fun _ => ⟨V', b1, fun z => absurd z (by rw [b3]; decide), fun _ => ⟨fun _ => fin 0, fun z => absurd z (by rw [b3]; decide)⟩⟩, fun n1 => ?_⟩, fun z => absurd z (by omega)⟩, b2, by rw [if_neg k2]; exact b3, b4⟩
        rcases noNm hk hr hi hx k2 with z | ⟨w, z1, z2⟩
        · exact absurd n1 z
        · exact ⟨1, V, by rw [z2]; exact ct_isOwnW w z1, fun z => absurd z (by decide), fun _ => ⟨V', b1, fun z => absurd z (by rw [b3]; decide), fun _ => ⟨fun _ => fin 0, fun z => absurd z (by rw [b3]; decide)⟩⟩⟩
theorem ct_asked (hk : tkS T L K kk vv bp) (hi : i ≤ K) (hr : rT V T L i) {q r : Int} (hN : kk i = 2 → ∀ V2 : am_U, V2 = V → EvK N X (M_named_s0 (d + 1) q (wn T L i) V2) (rI r V2)) : ((kk i = 2 ∧ r ≠ -1) → ∃ V', EvK N X (M_asked_s0 (d + 3) q V) (rI r V') ∧ fA6 V V' ∧ rT V' T L (i + 1)) ∧ (¬ (kk i = 2 ∧ r ≠ -1) → ∃ V', EvK N X (M_asked_s0 (d + 3) q V) (rI 0 V') ∧ f89 V V' ∧ V' 86 8 = (if kk i = 2 then 3 else 1) ∧ V' 86 9 = fpl T L kk bp i) := by
  obtain ⟨h1, h2⟩ := ct_looked (N := N) (X := X) (d := d) hk hi hr hN
  refine ⟨fun h => ?_, fun h => ?_⟩
  · obtain ⟨V', k1, k2, k3⟩ := ct_ahead1 (N := N) (X := X) (d := d + 1) hk hr
    exact ⟨V', M_asked_r0 ⟨r, V, h1 h, fun z => absurd hr.2.2 z, fun _ => ⟨V', k1, fun _ => rfl, fun z => absurd z (by rw [k3.2.2]; decide)⟩⟩, k2, k3⟩
  · obtain ⟨V', k1, k2, k3, k4⟩ := h2 h
    have p : 0 < V' 86 8 := by rw [k3]; split <;> decide
    exact ⟨V', M_asked_r0 ⟨0, V', k1, fun _ => ⟨fun z => absurd z (by omega), fun _ => rfl⟩, fun z => absurd z (by omega)⟩, k2, k3, k4⟩
/-- a name to be given -/
theorem ct_fresh (hk : tkS T L K kk vv bp) (hi : i ≤ K) (hr : rT V T L i) {r0 r1 : Int} (hN0 : kk i = 2 → EvK N X (M_named_s0 (d + 1) 0 (wn T L i) V) (rI r0 V)) (hN1 : kk i = 2 → EvK N X (M_named_s0 (d + 1) 1 (wn T L i) V) (rI r1 V)) : ((kk i = 2 ∧ r0 = -1 ∧ r1 = -1) → ∃ V', EvK N X (M_fresh_s0 (d + 2) V) (rJ (wn T L i) V') ∧ fA6 V V' ∧ rT V' T L (i + 1)) ∧ (¬ (kk i = 2 ∧ r0 = -1 ∧ r1 = -1) → ∃ r V', EvK N X (M_fresh_s0 (d + 2) V) (rJ r V') ∧ f89 V V' ∧ V' 86 8 = (if kk i = 2 then 2 else 1) ∧ V' 86 9 = fpl T L kk bp i) := by
  have z8 := hr.2.2
  have w01 : w32 ((0 : Int) + 1) = 1 := by decide
  have w12 : w32 ((1 : Int) + 1) = 2 := by decide
  refine ⟨fun h => ?_, fun h => ?_⟩
  · obtain ⟨w1, w2, w3, w4⟩ := wn_V hk hr hi h.1
    obtain ⟨V', k1, k2, k3⟩ := ct_ahead1 (N := N) (X := X) (d := d) hk hr
    have s2 : EvK N X (M_fresh_s43 (d + 2) 2 V) (rJ (wn T L i) V') := M_fresh_r43 ⟨fun _ => ⟨fun z => absurd z8 z, fun _ => ⟨V', k1, by rw [w1]⟩⟩, fun z => absurd z (by decide)⟩
    have s1 : EvK N X (M_fresh_s43 (d + 2) 1 V) (rJ (wn T L i) V') := M_fresh_r43 ⟨fun z => absurd z (by decide), fun _ => ⟨fun z => absurd z8 z, fun _ => ⟨r1, V, by rw [w1]; exact hN1 h.1, fun _ => by rw [w12]; exact s2, fun z => absurd h.2.2 z⟩⟩⟩
    have s0 : EvK N X (M_fresh_s43 (d + 2) 0 V) (rJ (wn T L i) V') := M_fresh_r43 ⟨fun z => absurd z (by decide), fun _ => ⟨fun z => absurd z8 z, fun _ => ⟨r0, V, by rw [w1]; exact hN0 h.1, fun _ => by rw [w01]; exact s1, fun z => absurd h.2.1 z⟩⟩⟩
    exact ⟨V', M_fresh_r0 ⟨V, ct_lex1 w3, fun _ => ⟨fun z => absurd w2 z, fun _ => ⟨0, V, ct_isOwnN w4, fun _ => s0, fun z => absurd rfl z⟩⟩, fun z => absurd z (by omega)⟩, k2, k3⟩
  · have told : ∀ (x : Int) (V' : am_U), V' 86 8 ≠ 0 → EvK N X (M_fresh_s43 (d + 2) x V') (rJ (V' 86 7) V') := fun x V' h8 => M_fresh_r43 ⟨fun _ => ⟨fun _ => rfl, fun z => absurd z h8⟩, fun _ => ⟨fun _ => rfl, fun z => absurd z h8⟩⟩
    rcases Int.decEq (V 86 12) (-1) with hx | hx
    · have k5 := (rT_bad hk hr hi hx).1
      obtain ⟨V', k1, k2, k3, k4⟩ := lexB_at (N := N) (X := X) (d := d) hk hr hi hx
      exact ⟨0, V', M_fresh_r0 ⟨V', k1, fun z => absurd z (by rw [k3]; decide), fun _ => rfl⟩, k2, by rw [if_neg (by omega)]; exact k3, k4⟩
    · by_cases k2 : kk i = 2
      · obtain ⟨w1, w2, w3, w4⟩ := wn_V hk hr hi k2
        obtain ⟨V', b1, b2, b3, b4⟩ := blame_at (N := N) (X := X) (d := d + 1) hk hr hi hx 2
        have n8 : V' 86 8 ≠ 0 := by rw [b3]; decide
        refine ⟨V' 86 7, V', M_fresh_r0 ⟨V, ct_lex1 w3, fun _ => ⟨fun z => absurd w2 z, fun _ => ⟨0, V, ct_isOwnN w4, fun _ => ?_, fun z => absurd rfl z⟩⟩, fun z => absurd z (by omega)⟩, b2, by rw [if_pos k2]; exact b3, b4⟩
        by_cases c0 : r0 = -1
        · have c1 : r1 ≠ -1 := fun z => h ⟨k2, c0, z⟩
          have s1 : EvK N X (M_fresh_s43 (d + 2) 1 V) (rJ (V' 86 7) V') := M_fresh_r43 ⟨fun z => absurd z (by decide), fun _ => ⟨fun z => absurd z8 z, fun _ => ⟨r1, V, by rw [w1]; exact hN1 k2, fun z => absurd z c1, fun _ => ⟨V', b1, told _ V' n8⟩⟩⟩⟩
          exact M_fresh_r43 ⟨fun z => absurd z (by decide), fun _ => ⟨fun z => absurd z8 z, fun _ => ⟨r0, V, by rw [w1]; exact hN0 k2, fun _ => by rw [w01]; exact s1, fun z => absurd c0 z⟩⟩⟩
        · exact M_fresh_r43 ⟨fun z => absurd z (by decide), fun _ => ⟨fun z => absurd z8 z, fun _ => ⟨r0, V, by rw [w1]; exact hN0 k2, fun z => absurd z c0, fun _ => ⟨V', b1, told _ V' n8⟩⟩⟩⟩
      · obtain ⟨V', b1, b2, b3, b4⟩ := blame_at (N := N) (X := X) (d := d + 1) hk hr hi hx 1
        have n8 : V' 86 8 ≠ 0 := by rw [b3]; decide
        refine ⟨V' 86 7, V', M_fresh_r0 ⟨V, ct_lex1 hx, fun _ => ⟨fun _ => ⟨V', b1, told _ V' n8⟩, fun n1 => ?_⟩, fun z => absurd z (by omega)⟩, b2, by rw [if_neg k2]; exact b3, b4⟩
        rcases noNm hk hr hi hx k2 with z | ⟨w, z1, z2⟩
        · exact absurd n1 z
        · exact ⟨1, V, by rw [z2]; exact ct_isOwnW w z1, fun z => absurd z (by decide), fun _ => ⟨V', b1, told _ V' n8⟩⟩
/-- a statement is told: full, or its word is passed -/
theorem ct_counts0 (hk : tkS T L K kk vv bp) (hr : rT V T L i) : ∃ V', EvK N X (M_counts_s0 (d + 2) 0 V) (rI 1 V') ∧ fA6 V V' ∧ rT V' T L (i + 1) := by
  obtain ⟨V', k1, k2, k3⟩ := ct_ahead1 (N := N) (X := X) (d := d) hk hr
  exact ⟨V', M_counts_r0 ⟨fun z => absurd hr.2.2 z, fun _ => ⟨fun _ => ⟨V', k1, fun z => absurd k3.2.2 z, fun _ => rfl⟩, fun z => absurd rfl z⟩⟩, k2, k3⟩
theorem ct_counts1 (hr : rT V T L i) : ∃ V', EvK N X (M_counts_s0 (d + 2) 1 V) (rI 0 V') ∧ f89 V V' ∧ V' 86 8 = 6 ∧ V' 86 9 = (plS1 T L i : Nat) := by
  refine ⟨am_upd (am_upd V 86 8 6) 86 9 (V 86 4), M_counts_r0 ⟨fun z => absurd hr.2.2 z, fun _ => ⟨fun z => absurd z (by decide), fun _ => ⟨_, ct_blame1 hr.2.2 6 _, fun _ => rfl, fun z => absurd z (by rw [upd_ne (by decide), upd_at]; decide)⟩⟩⟩, f89_blame _ _ _, by rw [upd_ne (by decide), upd_at], by rw [upd_at]; exact rT_pl hr⟩
/-! the class -/
theorem ct_takeWord (hd : 1 ≤ d) (hk : tkS T L K kk vv bp) (hc : cS U T L K kk vv bp i) (w : Int) : ((kk i = 1 ∧ vv i = w) → ∃ U', EvK N X (Rd_takeWord_s0 (d + 1) w U) (rI 1 U') ∧ fN U U' ∧ cS U' T L K kk vv bp (i + 1)) ∧ (¬ (kk i = 1 ∧ vv i = w) → ∃ U', EvK N X (Rd_takeWord_s0 (d + 1) w U) (rI 0 U') ∧ fN U U' ∧ U' 26 4 = 1 ∧ U' 26 5 = fpl T L kk bp i) := by
  have hK : K ≤ 1600 := Nat.le_trans hk.2.1 hk.1
  have io := ct_Rd_isOwn (N := N) (X := X) (d := d) hc w
  refine ⟨fun h => ?_, fun h => ?_⟩
  · rw [b2i_t h] at io
    obtain ⟨U', k1, k2, k3⟩ := ct_Rd_next (N := N) (X := X) (d := d) (by omega) hK hc (tk_lt hk hc.2.2.2.1 (by omega))
    exact ⟨U', Rd_takeWord_r0 ⟨1, U, io, fun _ => ⟨U', k1, rfl⟩, fun z => absurd z (by decide)⟩, k2, k3⟩
  · rw [b2i_f h] at io
    obtain ⟨U', k1, k2, k3, k4⟩ := ct_refuseHere (N := N) (X := X) (d := d) hc
    exact ⟨U', Rd_takeWord_r0 ⟨0, U, io, fun z => absurd rfl z, fun _ => ⟨0, U', k1, Or.inl rfl, rfl⟩⟩, k2, k3, k4⟩
theorem fpl_n5 (h : kk i ≠ 5) : fpl T L kk bp i = (plS1 T L i : Nat) := by unfold fpl; rw [if_neg h]
theorem ct_takeNumber (hd : 1 ≤ d) (hk : tkS T L K kk vv bp) (hc : cS U T L K kk vv bp i) (a c : Int) : (nuOk kk vv i a c → ∃ U', EvK N X (Rd_takeNumber_s0 (d + 1) a c U) (rI (vv i) U') ∧ fN U U' ∧ cS U' T L K kk vv bp (i + 1)) ∧ (¬ nuOk kk vv i a c → ∃ U', EvK N X (Rd_takeNumber_s0 (d + 1) a c U) (rI (-1) U') ∧ fN U U' ∧ U' 26 4 = (if kk i = 3 then 4 else 1) ∧ U' 26 5 = fpl T L kk bp i) := by
  have hK : K ≤ 1600 := Nat.le_trans hk.2.1 hk.1
  have e7 : U 26 7 = kk i := hc.2.2.2.2.2.1
  have e8' : U 26 8 = vv i := hc.2.2.2.2.2.2.1
  have e9 : U 26 9 = (plS1 T L i : Nat) := hc.2.2.2.2.2.2.2
  refine ⟨fun h => ?_, fun h => ?_⟩
  · obtain ⟨h1, h2, h3⟩ := h
    obtain ⟨U', k1, k2, k3⟩ := ct_Rd_next (N := N) (X := X) (d := d) (by omega) hK hc (tk_lt hk hc.2.2.2.1 (by omega))
    refine ⟨U', Rd_takeNumber_r0 ?_, k2, k3⟩
    rw [e7, e8', e9]
    exact ⟨fun _ => ⟨fun z => absurd z (by omega), fun _ => ⟨fun _ => ⟨U', k1, rfl⟩, fun z => absurd z (by omega)⟩⟩, fun z => absurd h1 z⟩
  · by_cases k3 : kk i = 3
    · obtain ⟨U', k1, k2, k4, k5⟩ := ct_refuseFor (N := N) (X := X) (d := d) (U := U) 4 ((plS1 T L i : Nat) : Int)
      refine ⟨U', Rd_takeNumber_r0 ?_, k2, by rw [if_pos k3]; exact k4, by rw [fpl_n5 (by omega)]; exact k5⟩
      rw [e7, e8', e9]
      refine ⟨fun _ => ⟨fun _ => ⟨0, U', k1, rfl⟩, fun z => ⟨fun y => absurd ⟨k3, z, y⟩ h, fun _ => ⟨0, U', k1, rfl⟩⟩⟩, fun z => absurd k3 z⟩
    · obtain ⟨U', k1, k2, k4, k5⟩ := ct_refuseHere (N := N) (X := X) (d := d) hc
      refine ⟨U', Rd_takeNumber_r0 ?_, k2, by rw [if_neg k3]; exact k4, k5⟩
      rw [e7]
      exact ⟨fun z => absurd z k3, fun _ => ⟨0, U', k1, rfl⟩⟩
theorem ct_takeNewName (hd : 1 ≤ d) (hk : tkS T L K kk vv bp) (hc : cS U T L K kk vv bp i) {r0 r1 : Int} (g0 : EvK N X (Tw_findStreet_s0 d (vv i) U) (rI r0 U)) (g1 : EvK N X (Tw_findHouse_s0 d (vv i) U) (rI r1 U)) (b0 : r0 ≠ -1 → 0 ≤ r0) (b1 : r1 ≠ -1 → 0 ≤ r1) : ((kk i = 2 ∧ r0 = -1 ∧ r1 = -1) → ∃ U', EvK N X (Rd_takeNewName_s0 (d + 1) U) (rI 1 U') ∧ fN U U' ∧ cS U' T L K kk vv bp (i + 1)) ∧ (¬ (kk i = 2 ∧ r0 = -1 ∧ r1 = -1) → ∃ U', EvK N X (Rd_takeNewName_s0 (d + 1) U) (rI 0 U') ∧ fN U U' ∧ U' 26 4 = (if kk i = 2 then 2 else 1) ∧ U' 26 5 = fpl T L kk bp i) := by
  have hK : K ≤ 1600 := Nat.le_trans hk.2.1 hk.1
  have e7 : U 26 7 = kk i := hc.2.2.2.2.2.1
  have e8' : U 26 8 = vv i := hc.2.2.2.2.2.2.1
  have e9 : U 26 9 = (plS1 T L i : Nat) := hc.2.2.2.2.2.2.2
  refine ⟨fun h => ?_, fun h => ?_⟩
  · obtain ⟨h1, h2, h3⟩ := h
    obtain ⟨U', k1, k2, k3⟩ := ct_Rd_next (N := N) (X := X) (d := d) (by omega) hK hc (tk_lt hk hc.2.2.2.1 (by omega))
    refine ⟨U', Rd_takeNewName_r0 ?_, k2, k3⟩
    rw [e7, e8']
    refine ⟨fun _ => ⟨r0, U, g0, fun z => absurd z (by omega), fun _ => ⟨r1, U, ?_, fun _ => ⟨U', k1, rfl⟩, fun z => absurd z (by omega)⟩⟩, fun z => absurd h1 z⟩
    rw [e8']; exact g1
  · by_cases k3 : kk i = 2
    · obtain ⟨U', k1, k2, k4, k5⟩ := ct_refuseFor (N := N) (X := X) (d := d) (U := U) 2 ((plS1 T L i : Nat) : Int)
      refine ⟨U', Rd_takeNewName_r0 ?_, k2, by rw [if_pos k3]; exact k4, by rw [fpl_n5 (by omega)]; exact k5⟩
      rw [e7, e8']
      have q0 : r0 < 0 → r0 = -1 := fun z => by
        rcases Int.decEq r0 (-1) with q | q
        · have := b0 q; omega
        · exact q
      have q1 : r1 < 0 → r1 = -1 := fun z => by
        rcases Int.decEq r1 (-1) with q | q
        · have := b1 q; omega
        · exact q
      have k1' : EvK N X (Rd_refuseFor_s0 d 2 (U 26 9) U) (rI 0 U') := by rw [e9]; exact k1
      have g1' : EvK N X (Tw_findHouse_s0 d (U 26 8) U) (rI r1 U) := by rw [e8']; exact g1
      exact ⟨fun _ => ⟨r0, U, g0, fun _ => ⟨0, U', k1', Or.inl rfl, rfl⟩, fun z => ⟨r1, U, g1', fun y => absurd ⟨k3, q0 z, q1 y⟩ h, fun _ => ⟨0, U', k1', Or.inl rfl, rfl⟩⟩⟩, fun z => absurd k3 z⟩
    · obtain ⟨U', k1, k2, k4, k5⟩ := ct_refuseHere (N := N) (X := X) (d := d) hc
      refine ⟨U', Rd_takeNewName_r0 ?_, k2, by rw [if_neg k3]; exact k4, k5⟩
      rw [e7]
      exact ⟨fun z => absurd z k3, fun _ => ⟨0, U', k1, Or.inl rfl, rfl⟩⟩
theorem ct_takeStreet (hd : 1 ≤ d) (hk : tkS T L K kk vv bp) (hc : cS U T L K kk vv bp i) {r : Int} (g0 : EvK N X (Tw_findStreet_s0 d (vv i) U) (rI r U)) (b0 : r ≠ -1 → 0 ≤ r) : ((kk i = 2 ∧ r ≠ -1) → ∃ U', EvK N X (Rd_takeStreet_s0 (d + 1) U) (rI r U') ∧ fN U U' ∧ cS U' T L K kk vv bp (i + 1)) ∧ (¬ (kk i = 2 ∧ r ≠ -1) → ∃ U', EvK N X (Rd_takeStreet_s0 (d + 1) U) (rI (-1) U') ∧ fN U U' ∧ U' 26 4 = (if kk i = 2 then 3 else 1) ∧ U' 26 5 = fpl T L kk bp i) := by
  have hK : K ≤ 1600 := Nat.le_trans hk.2.1 hk.1
  have e7 : U 26 7 = kk i := hc.2.2.2.2.2.1
  have e8' : U 26 8 = vv i := hc.2.2.2.2.2.2.1
  have e9 : U 26 9 = (plS1 T L i : Nat) := hc.2.2.2.2.2.2.2
  refine ⟨fun h => ?_, fun h => ?_⟩
  · obtain ⟨h1, h2⟩ := h
    obtain ⟨U', k1, k2, k3⟩ := ct_Rd_next (N := N) (X := X) (d := d) (by omega) hK hc (tk_lt hk hc.2.2.2.1 (by omega))
    refine ⟨U', Rd_takeStreet_r0 ?_, k2, k3⟩
    rw [e7, e8']
    exact ⟨fun _ => ⟨r, U, g0, fun _ => ⟨U', k1, rfl⟩, fun z => absurd z (by have := b0 h2; omega)⟩, fun z => absurd h1 z⟩
  · by_cases k3 : kk i = 2
    · obtain ⟨U', k1, k2, k4, k5⟩ := ct_refuseFor (N := N) (X := X) (d := d) (U := U) 3 ((plS1 T L i : Nat) : Int)
      have hr1 : r = -1 := by
        rcases Int.decEq r (-1) with z | z
        · exact absurd ⟨k3, z⟩ h
        · exact z
      refine ⟨U', Rd_takeStreet_r0 ?_, k2, by rw [if_pos k3]; exact k4, by rw [fpl_n5 (by omega)]; exact k5⟩
      rw [e7, e8']
      exact ⟨fun _ => ⟨r, U, g0, fun z => absurd z (by omega), fun _ => ⟨0, U', by rw [e9]; exact k1, rfl⟩⟩, fun z => absurd k3 z⟩
    · obtain ⟨U', k1, k2, k4, k5⟩ := ct_refuseHere (N := N) (X := X) (d := d) hc
      refine ⟨U', Rd_takeStreet_r0 ?_, k2, by rw [if_neg k3]; exact k4, k5⟩
      rw [e7]
      exact ⟨fun z => absurd z k3, fun _ => ⟨0, U', k1, rfl⟩⟩
/-- a house by its name, none of those that are barred -/
def hsOk (kk : Nat → Int) (i : Nat) (r m : Int) : Prop := kk i = 2 ∧ r ≠ -1 ∧ tb m r.toNat = false
theorem ct_takeHouse (hd : 1 ≤ d) (hk : tkS T L K kk vv bp) (hc : cS U T L K kk vv bp i) {r m : Int} (g0 : EvK N X (Tw_findHouse_s0 d (vv i) U) (rI r U)) (b0 : r ≠ -1 → 0 ≤ r) (b1 : r < 12) : (hsOk kk i r m → ∃ U', EvK N X (Rd_takeHouse_s0 (d + 1) m U) (rI r U') ∧ fN U U' ∧ cS U' T L K kk vv bp (i + 1)) ∧ (¬ hsOk kk i r m → ∃ U', EvK N X (Rd_takeHouse_s0 (d + 1) m U) (rI (-1) U') ∧ fN U U' ∧ U' 26 4 = (if kk i = 2 then 3 else 1) ∧ U' 26 5 = fpl T L kk bp i) := by
  have hK : K ≤ 1600 := Nat.le_trans hk.2.1 hk.1
  have e7 : U 26 7 = kk i := hc.2.2.2.2.2.1
  have e8' : U 26 8 = vv i := hc.2.2.2.2.2.2.1
  have e9 : U 26 9 = (plS1 T L i : Nat) := hc.2.2.2.2.2.2.2
  have bit : 0 ≤ r → (am_and (am_shr m r) 1 = 1 ↔ tb m r.toNat = true) := fun h => by
    have e := bit_shr (x := m) (n := r.toNat) (by omega)
    rw [show ((r.toNat : Nat) : Int) = r by omega] at e
    rw [e]
    cases tb m r.toNat <;> simp
  refine ⟨fun h => ?_, fun h => ?_⟩
  · obtain ⟨h1, h2, h3⟩ := h
    have p := b0 h2
    obtain ⟨U', k1, k2, k3⟩ := ct_Rd_next (N := N) (X := X) (d := d) (by omega) hK hc (tk_lt hk hc.2.2.2.1 (by omega))
    refine ⟨U', Rd_takeHouse_r0 ?_, k2, k3⟩
    rw [e7, e8']
    exact ⟨fun _ => ⟨r, U, g0, fun z => absurd z (by omega), fun _ => ⟨fun _ => ⟨U', k1, rfl⟩, fun z => absurd ((bit p).mp z) (by rw [h3]; decide)⟩⟩, fun z => absurd h1 z⟩
  · by_cases k3 : kk i = 2
    · obtain ⟨U', k1, k2, k4, k5⟩ := ct_refuseFor (N := N) (X := X) (d := d) (U := U) 3 ((plS1 T L i : Nat) : Int)
      refine ⟨U', Rd_takeHouse_r0 ?_, k2, by rw [if_pos k3]; exact k4, by rw [fpl_n5 (by omega)]; exact k5⟩
      rw [e7, e8']
      refine ⟨fun _ => ⟨r, U, g0, fun _ => ⟨0, U', by rw [e9]; exact k1, rfl⟩, fun p => ⟨fun z => absurd ⟨k3, by omega, ?_⟩ h, fun _ => ⟨0, U', by rw [e9]; exact k1, rfl⟩⟩⟩, fun z => absurd k3 z⟩
      exact Bool.eq_false_iff.mpr (fun y => z ((bit p).mpr y))
    · obtain ⟨U', k1, k2, k4, k5⟩ := ct_refuseHere (N := N) (X := X) (d := d) hc
      refine ⟨U', Rd_takeHouse_r0 ?_, k2, by rw [if_neg k3]; exact k4, k5⟩
      rw [e7]
      exact ⟨fun z => absurd z k3, fun _ => ⟨0, U', k1, rfl⟩⟩
end TAK
