/-! an image comes on: what the tape tells -/
def nbT (T : Nat → Int) (k : Nat) : Int := am_or (am_or (am_or (am_shl (T k) 24) (am_shl (T (k + 1)) 16)) (am_shl (T (k + 2)) 8)) (T (k + 3))
def onN (T : Nat → Int) (p : Nat) : Int := nbT T (4 + 5 * p)
def onH (T : Nat → Int) (p : Nat) : Int := T (8 + 5 * p) - 1
def onHd (T : Nat → Int) (L n : Nat) : Prop := T 3 = (n : Nat) ∧ n ≤ 16 ∧ L = 5 + 5 * n ∧ 256 * T 0 + T 1 ≤ 9999 ∧ T 2 ≤ 1 ∧ T (4 + 5 * n) = ck T (4 + 5 * n)
theorem or_byte {a b : Int} (ha : 0 ≤ a ∧ a ≤ 255) (hb : 0 ≤ b ∧ b ≤ 255) : am_or (am_shl a 8) b = 256 * a + b := by
  have ua : u32 a = a.toNat := by unfold u32; omega
  have ub : u32 b = b.toNat := by unfold u32; omega
  have e : u32 (am_or (am_shl a 8) b) = 2 ^ 8 * a.toNat + b.toNat := by
    refine u32_ext (by omega) (fun i hi => ?_)
    rw [tb_or, show (8 : Int) = ((8 : Nat) : Int) from rfl, tb_shl (by decide) hi, tb_u32 b hi, ub, Nat.testBit_two_pow_mul_add _ (show b.toNat < 2 ^ 8 by omega)]
    by_cases c : i < 8
    · rw [if_pos c, decide_eq_false (by omega), Bool.false_and, Bool.false_or]
    · rw [if_neg c, decide_eq_true (by omega), Bool.true_and, tb_u32 a (by omega), ua, Nat.testBit_lt_two_pow (show b.toNat < 2 ^ i from Nat.lt_of_lt_of_le (show b.toNat < 2 ^ 8 by omega) (Nat.pow_le_pow_right (by decide) (by omega))), Bool.or_false]
  have := u32_inv (or_in _ _) e (by omega)
  rw [this]; omega
theorem pplOk_mono {num hm rm : Nat → Int} {n p nh : Nat} (h : pplOk num hm rm n nh) (hp : p ≤ n) : pplOk num hm rm p nh := by
  obtain ⟨a, b, c⟩ := h
  refine ⟨fun q hq => a q (by omega), fun q q' h1 h2 => b q q' h1 (by omega), fun g hg => ?_⟩
  have h1 := c g hg
  have h2 := fb_ct_mono (fun p => hm p == ((g : Nat) : Int)) hp
  omega
theorem pplOk_0 {num hm rm : Nat → Int} {nh : Nat} (h : ∀ g, g < nh → 0 ≤ rm g) : pplOk num hm rm 0 nh := ⟨fun q hq => absurd hq (Nat.not_lt_zero q), fun q q' _ h2 => absurd h2 (Nat.not_lt_zero q'), fun g hg => h g hg⟩
theorem pplOk_step {num hm rm : Nat → Int} {p nh : Nat} (h : pplOk num hm rm p nh) (h1 : num p ≠ 0 ∧ (-999999999 ≤ num p ∧ num p ≤ 999999999) ∧ -1 ≤ hm p ∧ hm p < (nh : Nat)) (h2 : ∀ q, q < p → num q ≠ num p) (h3 : ∀ g, g < nh → hm p = (g : Nat) → ((fb_ct (fun p => hm p == ((g : Nat) : Int)) p : Nat) : Int) < rm g) : pplOk num hm rm (p + 1) nh := by
  obtain ⟨a, b, c⟩ := h
  refine ⟨fun q hq => ?_, fun q q' k1 k2 => ?_, fun g hg => ?_⟩
  · by_cases e : q = p
    · subst e; exact h1
    · exact a q (by omega)
  · by_cases e : q' = p
    · subst e; exact h2 q k1
    · exact b q q' k1 (by omega)
  · rw [fb_ct_succ]
    by_cases e : hm p = (g : Nat)
    · rw [if_pos (by rw [e]; exact beq_self_eq_true _)]
      have := h3 g hg e
      omega
    · rw [if_neg (by rw [beq_iff_eq]; exact e)]
      have := c g hg
      omega
theorem pplOk_full {num hm rm : Nat → Int} {p g nh : Nat} (h : pplOk num hm rm (p + 1) nh) (hg : g < nh) (e : hm p = (g : Nat)) : ((fb_ct (fun p => hm p == ((g : Nat) : Int)) p : Nat) : Int) < rm g := by
  have := h.2.2 g hg
  rw [fb_ct_succ, if_pos (by rw [e]; exact beq_self_eq_true _)] at this
  omega
/-! the class reads it into the spare people -/
def spR (U : am_U) (T : Nat → Int) (p : Nat) : Prop := U 21 0 = (p : Nat) ∧ (U 21 1 = 256 * T 0 + T 1 ∧ U 21 2 = T 2) ∧ (∀ q, q < p → U 22 q = onN T q ∧ U 23 q = onH T q) ∧ DwOk p (U 23) (U 24)
def fr21 (U U' : am_U) : Prop := ∀ r, ¬ (21 ≤ r ∧ r ≤ 25) → U' r = U r
theorem agr_21 {U U' : am_U} (h : fr21 U U') : agr U U' := fun r j e => by
  rw [h r (fun q => ?_)]
  unfold scr at e
  rw [if_pos (by omega)] at e
  exact absurd e (by decide)
theorem ct_read_l {N : Nat} {X : Nat → Int} {d n nh : Nat} {U0 : am_U} {T : Nat → Int} (hT : U0 2 = T) (hTb : ∀ j, j < 1600 → 0 ≤ T j ∧ T j ≤ 255) (h31 : U0 3 1 = (nh : Nat)) (hnh : nh ≤ 12) (hn : n ≤ 16) : ∀ m p : Nat, p + m = n → ∀ U, fr21 U0 U → spR U T p → pplOk (onN T) (onH T) (U0 8) p nh → ∃ r U', EvK N X (Fk_readFrom_s104 (d + 3) ((5 + 5 * n : Nat) : Int) ((4 + 5 * p : Nat) : Int) U) (rI r U') ∧ fr21 U0 U' ∧ ((r = 1 ∧ pplOk (onN T) (onH T) (U0 8) n nh ∧ spR U' T n) ∨ (r = 0 ∧ ¬ pplOk (onN T) (onH T) (U0 8) n nh)) := by
  intro m
  induction m with
  | zero =>
    intro p hp U h1 h2 h3
    obtain rfl : p = n := by omega
    refine ⟨1, U, Fk_readFrom_r104 ?_, h1, Or.inl ⟨rfl, h3, h2⟩⟩
    rw [w32_eq (x := ((4 + 5 * p : Nat) : Int) + 5) (by omega) (by omega)]
    exact ⟨fun _ => rfl, fun q => absurd q (by omega)⟩
  | succ m ih =>
    intro p hp U h1 h2 h3
    obtain ⟨s1', s2', s3', s4'⟩ := h2
    have u2 : U 2 = T := by rw [h1 2 (by decide)]; exact hT
    have u31 : U 3 1 = (nh : Nat) := by rw [h1 3 (by decide)]; exact h31
    have u8 : U 8 = U0 8 := h1 8 (by decide)
    have tb8 := hTb (8 + 5 * p) (by omega)
    -- the one that is read
    have one : ∃ r U1, EvK N X (Fk_readOne_s0 (d + 2) (onN T p) (onH T p) U) (rI r U1) ∧ ((r = 1 ∧ fr21 U0 U1 ∧ spR U1 T (p + 1) ∧ pplOk (onN T) (onH T) (U0 8) (p + 1) nh) ∨ (r = 0 ∧ fr21 U0 U1 ∧ ¬ pplOk (onN T) (onH T) (U0 8) (p + 1) nh)) := by
      have hh1 : -1 ≤ onH T p := by unfold onH; omega
      by_cases k1 : onN T p ≠ 0 ∧ (-999999999 ≤ onN T p ∧ onN T p ≤ 999999999)
      · obtain ⟨rf, f1, f2⟩ := ct_find_21 (N := N) (X := X) (d := d + 1) (U := U) (onN T p) s1' (by omega)
        rcases f2 with ⟨rfl, f3⟩ | ⟨j, rfl, f3, f4⟩
        · have f5 : ∀ q, q < p → onN T q ≠ onN T p := fun q hq => by rw [← (s3' q hq).1]; exact f3 q hq
          by_cases k2 : onH T p < (nh : Nat)
          · obtain ⟨U1, a1, a2, a3, a4, a5, -, a7⟩ := ct_add_21 (N := N) (X := X) (d := d) (U := U) (v := onN T p) (hs := onH T p) s1' (by omega) (by omega)
            have fr1 : fr21 U0 U1 := fun r q => by rw [a7 r (by omega) (by omega) (by omega) (by omega) (by omega)]; exact h1 r q
            have sp1 : spR U1 T (p + 1) := by
              refine ⟨by rw [a2, s1_at], by rw [a2, s1_ne (by decide), s1_ne (by decide)]; exact s2', fun q hq => ?_, a5 s4'⟩
              rw [a3, a4]
              by_cases c : q = p
              · rw [c, s1_at, s1_at]; exact ⟨rfl, rfl⟩
              · rw [s1_ne c, s1_ne c]; exact s3' q (by omega)
            by_cases k3 : onH T p < 0
            · refine ⟨1, U1, Fk_readOne_r0 ⟨fun q => absurd q k1.1, fun _ => ⟨fun q => absurd q (by omega), fun _ => ⟨fun q => absurd q (by omega), fun _ => ⟨_, _, f1, fun _ => ⟨fun q => absurd q (by rw [u31]; omega), fun _ => ⟨fun _ => ⟨U1, a1, rfl⟩, fun q => absurd q (by omega)⟩⟩, fun q => absurd q (by decide)⟩⟩⟩⟩, Or.inl ⟨rfl, fr1, sp1, pplOk_step h3 ⟨k1.1, k1.2, hh1, k2⟩ f5 (fun g hg e => absurd e (by omega))⟩⟩
            · obtain ⟨g, hg⟩ : ∃ g : Nat, onH T p = g := ⟨(onH T p).toNat, by omega⟩
              have hg12 : g < nh := by omega
              have lv := ct_Fk_living_21 (N := N) (X := X) (d := d) (U := U) g (by omega)
              rw [dw_ct s4' (by omega) (show g < 12 by omega), fb_ct_cong (q := fun q => onH T q == ((g : Nat) : Int)) (fun q hq => by rw [(s3' q hq).2])] at lv
              by_cases k4 : ((fb_ct (fun q => onH T q == ((g : Nat) : Int)) p : Nat) : Int) < U0 8 g
              · refine ⟨1, U1, Fk_readOne_r0 ⟨fun q => absurd q k1.1, fun _ => ⟨fun q => absurd q (by omega), fun _ => ⟨fun q => absurd q (by omega), fun _ => ⟨_, _, f1, fun _ => ⟨fun q => absurd q (by rw [u31]; omega), fun _ => ⟨fun q => absurd q k3, fun _ => ⟨_, U, by rw [hg]; exact lv, by omega, fun _ => ⟨U1, a1, rfl⟩, fun q => absurd q ?_⟩⟩⟩, fun q => absurd q (by decide)⟩⟩⟩⟩, Or.inl ⟨rfl, fr1, sp1, pplOk_step h3 ⟨k1.1, k1.2, hh1, k2⟩ f5 (fun g' hg' e => ?_)⟩⟩
                · rw [hg, Int.toNat_natCast, u8]; omega
                · obtain rfl : g' = g := by omega
                  exact k4
              · refine ⟨0, U, Fk_readOne_r0 ⟨fun q => absurd q k1.1, fun _ => ⟨fun q => absurd q (by omega), fun _ => ⟨fun q => absurd q (by omega), fun _ => ⟨_, _, f1, fun _ => ⟨fun q => absurd q (by rw [u31]; omega), fun _ => ⟨fun q => absurd q k3, fun _ => ⟨_, U, by rw [hg]; exact lv, by omega, fun q => absurd q ?_, fun _ => rfl⟩⟩⟩, fun q => absurd q (by decide)⟩⟩⟩⟩, Or.inr ⟨rfl, h1, fun o => k4 (pplOk_full o hg12 hg)⟩⟩
                rw [hg, Int.toNat_natCast, u8]; omega
          · refine ⟨0, U, Fk_readOne_r0 ⟨fun q => absurd q k1.1, fun _ => ⟨fun q => absurd q (by omega), fun _ => ⟨fun q => absurd q (by omega), fun _ => ⟨_, _, f1, fun _ => ⟨fun _ => rfl, fun q => absurd q (by rw [u31]; omega)⟩, fun q => absurd q (by decide)⟩⟩⟩⟩, Or.inr ⟨rfl, h1, fun o => ?_⟩⟩
            have := (o.1 p (by omega)).2.2.2
            omega
        · refine ⟨0, U, Fk_readOne_r0 ⟨fun q => absurd q k1.1, fun _ => ⟨fun q => absurd q (by omega), fun _ => ⟨fun q => absurd q (by omega), fun _ => ⟨_, _, f1, fun q => absurd q (by omega), fun _ => rfl⟩⟩⟩⟩, Or.inr ⟨rfl, h1, fun o => o.2.1 j p f3 (by omega) ?_⟩⟩
          rw [← (s3' j f3).1]; exact f4
      · refine ⟨0, U, Fk_readOne_r0 ⟨fun _ => rfl, fun z1 => ⟨fun _ => rfl, fun z2 => ⟨fun _ => rfl, fun z3 => absurd ⟨z1, z3, z2⟩ k1⟩⟩⟩, Or.inr ⟨rfl, h1, fun o => k1 ⟨(o.1 p (by omega)).1, (o.1 p (by omega)).2.1⟩⟩⟩
    obtain ⟨r, U1, o1, o2⟩ := one
    have e5 : w32 (((4 + 5 * p : Nat) : Int) + 5) = ((4 + 5 * (p + 1) : Nat) : Int) := by rw [w32_eq (by omega) (by omega)]; omega
    have args : EvK N X (Fk_readOne_s0 (d + 2) (am_or (am_or (am_or (am_shl (U 2 ((4 + 5 * p : Nat) : Int).toNat) 24) (am_shl (U 2 ((w32 (((4 + 5 * p : Nat) : Int) + 1)).toNat)) 16)) (am_shl (U 2 ((w32 (((4 + 5 * p : Nat) : Int) + 2)).toNat)) 8)) (U 2 ((w32 (((4 + 5 * p : Nat) : Int) + 3)).toNat))) (w32 ((U 2 ((w32 (((4 + 5 * p : Nat) : Int) + 4)).toNat)) - 1)) U) (rI r U1) := by
      rw [u2, w32_eq (x := ((4 + 5 * p : Nat) : Int) + 1) (by omega) (by omega), w32_eq (x := ((4 + 5 * p : Nat) : Int) + 2) (by omega) (by omega), w32_eq (x := ((4 + 5 * p : Nat) : Int) + 3) (by omega) (by omega), w32_eq (x := ((4 + 5 * p : Nat) : Int) + 4) (by omega) (by omega), show (((4 + 5 * p : Nat) : Int) + 1).toNat = 4 + 5 * p + 1 from by omega, show (((4 + 5 * p : Nat) : Int) + 2).toNat = 4 + 5 * p + 2 from by omega, show (((4 + 5 * p : Nat) : Int) + 3).toNat = 4 + 5 * p + 3 from by omega, show (((4 + 5 * p : Nat) : Int) + 4).toNat = 8 + 5 * p from by omega, Int.toNat_natCast, w32_eq (x := T (8 + 5 * p) - 1) (by omega) (by omega)]
      exact o1
    have bnds : (0 ≤ ((4 + 5 * p : Nat) : Int) ∧ ((4 + 5 * p : Nat) : Int) < 1600) ∧ (0 ≤ (w32 (((4 + 5 * p : Nat) : Int) + 1)) ∧ (w32 (((4 + 5 * p : Nat) : Int) + 1)) < 1600) ∧ (0 ≤ (w32 (((4 + 5 * p : Nat) : Int) + 2)) ∧ (w32 (((4 + 5 * p : Nat) : Int) + 2)) < 1600) ∧ (0 ≤ (w32 (((4 + 5 * p : Nat) : Int) + 3)) ∧ (w32 (((4 + 5 * p : Nat) : Int) + 3)) < 1600) ∧ (0 ≤ (w32 (((4 + 5 * p : Nat) : Int) + 4)) ∧ (w32 (((4 + 5 * p : Nat) : Int) + 4)) < 1600) := by
      clear e5 args o1
      rw [w32_eq (x := ((4 + 5 * p : Nat) : Int) + 1) (by omega) (by omega), w32_eq (x := ((4 + 5 * p : Nat) : Int) + 2) (by omega) (by omega), w32_eq (x := ((4 + 5 * p : Nat) : Int) + 3) (by omega) (by omega), w32_eq (x := ((4 + 5 * p : Nat) : Int) + 4) (by omega) (by omega)]
      omega
    have lt5 : w32 (((4 + 5 * p : Nat) : Int) + 5) < ((5 + 5 * n : Nat) : Int) := by
      rw [e5]; clear e5 args bnds o1; omega
    rcases o2 with ⟨rfl, q1, q2, q3⟩ | ⟨rfl, q1, q2⟩
    · obtain ⟨r', U', k1, k2⟩ := ih (p + 1) (by clear e5 args bnds lt5 o1; omega) U1 q1 q2 q3
      refine ⟨r', U', Fk_readFrom_r104 ⟨fun z => absurd z (Int.not_le.mpr lt5), fun _ => ⟨bnds.1, bnds.2.1, bnds.2.2.1, bnds.2.2.2.1, bnds.2.2.2.2, _, _, args, fun _ => ?_, fun z => absurd z (by decide)⟩⟩, k2⟩
      rw [e5]; exact k1
    · exact ⟨0, U1, Fk_readFrom_r104 ⟨fun z => absurd z (Int.not_le.mpr lt5), fun _ => ⟨bnds.1, bnds.2.1, bnds.2.2.1, bnds.2.2.2.1, bnds.2.2.2.2, _, _, args, fun z => absurd rfl z, fun _ => rfl⟩⟩, q1, Or.inr ⟨rfl, fun o => q2 (pplOk_mono o (by clear e5 args bnds lt5 o1; omega))⟩⟩
