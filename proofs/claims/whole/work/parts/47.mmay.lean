/-! may one live in a house: the reference -/
theorem mem_fl {p : Nat → Bool} {n i : Nat} : i ∈ fl p n ↔ i < n ∧ p i = true := by
  unfold fl; rw [List.mem_filter, List.mem_range]
theorem mem_fr {α : Type} {f : Nat → List α} {n : Nat} {x : α} : x ∈ fr f n ↔ ∃ i, i < n ∧ x ∈ f i := by
  unfold fr; rw [List.mem_flatMap]
  constructor
  · rintro ⟨i, a, q⟩; exact ⟨i, List.mem_range.mp a, q⟩
  · rintro ⟨i, a, q⟩; exact ⟨i, List.mem_range.mpr a, q⟩
theorem mem_brA {U : am_U} {b nl nw n : Nat} {hm : Nat → Int} {w : Int} {l me j : Nat} : (l, me, j) ∈ brA U b nl nw n hm w ↔ l < nw ∧ me < n ∧ j < 17 ∧ brS U b nl n hm l me j ∧ (w = -1 ∨ w = (me : Nat) ∨ w = (j : Nat)) := by
  unfold brA
  rw [mem_fr]
  constructor
  · rintro ⟨i, hi, h⟩
    rw [mem_fr] at h
    obtain ⟨k, hk, h⟩ := h
    unfold brC at h
    rw [List.mem_map] at h
    obtain ⟨z, h1, h2⟩ := h
    cases h2
    rw [mem_fl] at h1
    exact ⟨hi, hk, h1.1, pd_iff.mp h1.2⟩
  · rintro ⟨h1, h2, h3, h4⟩
    refine ⟨l, h1, ?_⟩
    rw [mem_fr]
    refine ⟨me, h2, ?_⟩
    unfold brC
    rw [List.mem_map]
    exact ⟨j, mem_fl.mpr ⟨h3, pd_t h4⟩, rfl⟩
theorem brA_nil {U : am_U} {b nl nw n p : Nat} {hm : Nat → Int} (hp : p < n) (hn : n ≤ 16) : (brA U b nl nw n hm (p : Nat)).length = 0 ↔ ¬ inBS U b nl nw n hm p := by
  rw [List.length_eq_zero_iff]
  constructor
  · rintro h ⟨l, hl, q⟩
    have no : ∀ me j, ¬ ((l, me, j) ∈ brA U b nl nw n hm (p : Nat)) := fun me j q => by rw [h] at q; exact absurd q List.not_mem_nil
    rcases q with ⟨i, hi, q⟩ | ⟨me, hme, q⟩
    · refine no p i (mem_brA.mpr ⟨hl, hp, ?_, q, Or.inr (Or.inl rfl)⟩)
      rcases q with ⟨-, z, -⟩ | ⟨-, ⟨z, -⟩, -⟩ <;> omega
    · exact no me p (mem_brA.mpr ⟨hl, hme, by omega, q, Or.inr (Or.inr rfl)⟩)
  · intro h
    refine List.eq_nil_iff_forall_not_mem.mpr ?_
    rintro ⟨l, me, j⟩ q
    obtain ⟨h1, h2, h3, h4, h5⟩ := mem_brA.mp q
    refine h ⟨l, h1, ?_⟩
    rcases h5 with z | z | z
    · omega
    · have : p = me := by omega
      subst this
      left; exact ⟨j, by omega, h4⟩
    · have : p = j := by omega
      subst this
      right; exact ⟨me, h2, h4⟩
theorem iTown_124 {U : am_U} {b ns nh nl nw nd cl j : Nat} {x : Int} : iTown (am_upd U 124 j x) b ns nh nl nw nd cl ↔ iTown U b ns nh nl nw nd cl := Iff.rfl
theorem stq_124 (U : am_U) (j : Nat) (x : Int) : stq U (am_upd U 124 j x) := ⟨upd_row (by decide), upd_row (by decide), upd_row (by decide), upd_row (by decide), upd_row (by decide), upd_row (by decide), upd_row (by decide), upd_row (by decide), upd_row (by decide)⟩
theorem ct_M_mayLive {N : Nat} {X : Nat → Int} {d : Nat} {U : am_U} {b ns nh nl nw nd cl v n p g : Nat} {hm : Nat → Int} (hc : mCtx U b ns nh nl nw nd cl v n hm) (hp : p < n) (hg : g < nh) : ∃ U', EvK N X (M_mayLive_s0 (d + 7) (v : Nat) (p : Nat) (g : Nat) U) (rI (cb (mayP U b nl nw n hm p g)) U') ∧ sk U U' := by
  have hc0 := hc
  obtain ⟨ht, h2, h3, h4, h5⟩ := hc
  obtain ⟨z1, z2, z3, z4⟩ := h5 p hp
  have hnh := ht.2.2.1.2.2.1
  have ho := ct_M_homeOf (N := N) (X := X) (d := d + 6) (U := U) v p h2 (by omega)
  rw [z2] at ho
  have li := ct_M_living (N := N) (X := X) (d := d + 5) (U := U) v (g : Nat) h2 h3 h4
  have el : fb_ct (fun q => U 124 (16 * v + q) == (g : Nat)) n = fb_ct (fun q => hm q == (g : Nat)) n := fb_ct_cong (fun q hq => by rw [(h5 q hq).2.1])
  rw [el] at li
  have ro := ct_M_roomsOf (N := N) (X := X) (d := d + 6) (U := U) g ht.1.1 ht.1.2 (by omega)
  rw [(ht.2.2.1.2.2.2 g hg).2.2.1.1] at ro
  by_cases c0 : hm p = (g : Nat)
  · refine ⟨U, M_mayLive_r0 ⟨_, _, ho, fun _ => ?_, fun q => absurd c0 q⟩, sk_refl _⟩
    rw [cb_f (fun q => q.1 c0)]
  · by_cases c1 : ((fb_ct (fun q => hm q == (g : Nat)) n : Nat) : Int) < U 8 g
    · have hc1 : mCtx (am_upd U 124 (16 * v + p) (g : Nat)) b ns nh nl nw nd cl v n (s1 hm p (g : Nat)) := by
        refine ⟨iTown_124.mpr ht, h2, ?_, h4, fun q hq => ?_⟩
        · rw [upd_row (by decide)]; exact h3
        · obtain ⟨y1, y2, y3, y4⟩ := h5 q hq
          rw [upd_row (show 123 ≠ 124 by decide), upd_row (show 17 ≠ 124 by decide), upd_if]
          unfold s1
          by_cases e : q = p
          · subst e; rw [if_pos rfl, if_pos rfl]; exact ⟨y1, rfl, by omega, y4⟩
          · rw [if_neg (by omega), if_neg e]; exact ⟨y1, y2, y3, y4⟩
      obtain ⟨U1, f1, f2, f3⟩ := ct_scans (N := N) (X := X) (d := d) (w := (p : Nat)) (k := -1) (by omega) hc1
      have key := brA_nil (U := am_upd U 124 (16 * v + p) (g : Nat)) (b := b) (nl := nl) (nw := nw) (hm := s1 hm p (g : Nat)) hp h4
      rw [inBS_cg (stq_124 U _ _)] at key
      refine ⟨am_upd U1 124 (16 * v + p) (hm p), M_mayLive_r0 ⟨_, _, ho, fun q => absurd q c0, fun _ => ⟨_, _, li, _, _, ro, fun _ => ?_, fun q => absurd q (by omega)⟩⟩, fun r j a e => ?_⟩
      · rw [ix_eq (k := 16 * v + p) (by omega) (by omega) (by omega) (by omega), Int.toNat_natCast]
        refine ⟨by omega, _, _, f1, fun q => ?_, fun q => ?_⟩
        · rw [cb_f]
          intro z
          exact q (by have := key.mpr z.2.2; omega)
        · rw [cb_t]
          exact ⟨c0, c1, key.mp (by omega)⟩
      · by_cases r1 : r = 124
        · subst r1
          rw [upd_if]
          by_cases e2 : j = 16 * v + p
          · rw [if_pos e2, e2, z2]
          · rw [if_neg e2, f2 124 j (by decide) (fun z => absurd z (by decide)), upd_ne e2]
        · rw [upd_row r1, f2 r j a e, upd_row r1]
    · refine ⟨U, M_mayLive_r0 ⟨_, _, ho, fun q => absurd q c0, fun _ => ⟨_, _, li, _, _, ro, fun q => absurd q (by omega), fun _ => ?_⟩⟩, sk_refl _⟩
      rw [cb_f (fun q => c1 q.2.1)]
/-- both sides of a town between calls -/
theorem mCtx_of {U : am_U} {b ns nh nl nw nd cl n : Nat} (ht : iTown U b ns nh nl nw nd cl) (hf : iFolk U n nh) : mCtx U b ns nh nl nw nd cl 0 n (U 18) := by
  obtain ⟨⟨f1, f2, f3⟩, -, -, f4, f5, f6⟩ := hf
  refine ⟨ht, by decide, f2, f3, fun p hp => ?_⟩
  rw [show 16 * 0 + p = p from by omega]
  obtain ⟨a1, a2⟩ := f4 p hp
  obtain ⟨b1, b2, b3, b4⟩ := f5.1 p hp
  exact ⟨a1, a2, ⟨b3, b4⟩, b2⟩
theorem jCtx_of {U : am_U} {b ns nh nl nw nd cl n : Nat} (ht : iTown U b ns nh nl nw nd cl) (hf : iFolk U n nh) : jCtx U b ns nh nl nw nd cl n := ⟨ht, hf.1.1, hf.1.2.2, hf.2.2.2.2.1, hf.2.2.2.2.2⟩
theorem D_p1 {N : Nat} {X : Nat → Int} {d : Nat} {U : am_U} {x : Int} (h : 0 ≤ x ∧ x < U 16 0) : EvK N X (D_isPerson_s0 d x U) (rI 1 U) := by
  have := ct_D_isPerson (N := N) (X := X) (d := d) (U := U) x
  rwa [b2i_t h] at this
theorem D_p0 {N : Nat} {X : Nat → Int} {d : Nat} {U : am_U} {x : Int} (h : ¬ (0 ≤ x ∧ x < U 16 0)) : EvK N X (D_isPerson_s0 d x U) (rI 0 U) := by
  have := ct_D_isPerson (N := N) (X := X) (d := d) (U := U) x
  rwa [b2i_f h] at this
theorem D_h1 {N : Nat} {X : Nat → Int} {d : Nat} {U : am_U} {x : Int} (h : 0 ≤ x ∧ x < U 3 1) : EvK N X (D_isHouse_s0 d x U) (rI 1 U) := by
  have := ct_D_isHouse (N := N) (X := X) (d := d) (U := U) x
  rwa [b2i_t h] at this
theorem D_h0 {N : Nat} {X : Nat → Int} {d : Nat} {U : am_U} {x : Int} (h : ¬ (0 ≤ x ∧ x < U 3 1)) : EvK N X (D_isHouse_s0 d x U) (rI 0 U) := by
  have := ct_D_isHouse (N := N) (X := X) (d := d) (U := U) x
  rwa [b2i_f h] at this
theorem M_p1 {N : Nat} {X : Nat → Int} {d : Nat} {U : am_U} {x : Int} (h : 0 ≤ x ∧ x < U 122 0) : EvK N X (M_isPerson_s0 d x U) (rI 1 U) := by
  have := ct_M_isPerson (N := N) (X := X) (d := d) (U := U) x
  rwa [b2i_t h] at this
theorem M_p0 {N : Nat} {X : Nat → Int} {d : Nat} {U : am_U} {x : Int} (h : ¬ (0 ≤ x ∧ x < U 122 0)) : EvK N X (M_isPerson_s0 d x U) (rI 0 U) := by
  have := ct_M_isPerson (N := N) (X := X) (d := d) (U := U) x
  rwa [b2i_f h] at this
theorem M_h1 {N : Nat} {X : Nat → Int} {d : Nat} {U : am_U} {x : Int} {b : Nat} (hb : U 86 13 = (b : Nat)) (hb2 : b < 2) (h : 0 ≤ x ∧ x < U 90 b) : EvK N X (M_isHouse_s0 d x U) (rI 1 U) := by
  have := ct_M_isHouse (N := N) (X := X) (d := d) (U := U) x hb hb2
  rwa [b2i_t h] at this
theorem M_h0 {N : Nat} {X : Nat → Int} {d : Nat} {U : am_U} {x : Int} {b : Nat} (hb : U 86 13 = (b : Nat)) (hb2 : b < 2) (h : ¬ (0 ≤ x ∧ x < U 90 b)) : EvK N X (M_isHouse_s0 d x U) (rI 0 U) := by
  have := ct_M_isHouse (N := N) (X := X) (d := d) (U := U) x hb hb2
  rwa [b2i_f h] at this
/-- a question: both answer alike, and nothing that lasts has changed -/
def ask2 (N : Nat) (X : Nat → Int) (sD sM : am_U → am_S) (U : am_U) : Prop := ∃ r U1, EvK N X (sD U) (rI r U1) ∧ agr U U1 ∧ ∃ U2, EvK N X (sM U1) (rI r U2) ∧ agr U1 U2
/-- may: both answer alike -/
theorem pair_may {N : Nat} {X : Nat → Int} {d : Nat} {U : am_U} {b ns nh nl nw nd cl n : Nat} (ht : iTown U b ns nh nl nw nd cl) (hf : iFolk U n nh) (x y : Int) : ask2 N X (D_may_s0 (d + 8) x y) (M_may_s0 (d + 8) x y) U := by
  have e16 := hf.1.1
  have e122 := hf.1.2.1
  have e31 := ht.2.2.1.1
  have e90 := ht.2.2.1.2.1
  by_cases c1 : 0 ≤ x ∧ x < (n : Nat)
  · obtain ⟨p, rfl⟩ : ∃ p : Nat, x = p := ⟨x.toNat, by omega⟩
    by_cases c2 : 0 ≤ y ∧ y < (nh : Nat)
    · obtain ⟨g, rfl⟩ : ∃ g : Nat, y = g := ⟨y.toNat, by omega⟩
      obtain ⟨U1, f1, f2⟩ := ct_mayLive (N := N) (X := X) (d := d + 1) (p := p) (g := g) (jCtx_of ht hf) (by omega) (by omega)
      have ht1 := iTown_agr (agr_jk f2) ht
      have hf1 := iFolk_agr (agr_jk f2) hf
      obtain ⟨U2, g1, g2⟩ := ct_M_mayLive (N := N) (X := X) (d := d) (p := p) (g := g) (mCtx_of ht1 hf1) (by omega) (by omega)
      have e : mayP U1 b nl nw n (U1 18) p g ↔ mayP U b nl nw n (U 18) p g := by
        unfold mayP
        rw [inBS_cg (stq_jk f2), jk_row f2 (r := 18) (by decide) (by decide), jk_row f2 (r := 8) (by decide) (by decide)]
      rw [propext e] at g1
      have a1 : EvK N X (D_may_s0 (d + 8) (p : Nat) (g : Nat) U) (rI (cb (mayP U b nl nw n (U 18) p g)) U1) := D_may_r0 ⟨_, _, D_p1 (by rw [e16]; exact c1), fun q => absurd q (by decide), fun _ => ⟨_, _, D_h1 (by rw [e31]; exact c2), fun _ => ⟨_, _, f1, fun q => by rw [q], fun q => by rw [cb_t (cb_ne.mp q)]⟩, fun q => absurd q (by decide)⟩⟩
      have a2 : EvK N X (M_may_s0 (d + 8) (p : Nat) (g : Nat) U1) (rI (cb (mayP U b nl nw n (U 18) p g)) U2) := M_may_r0 ⟨_, _, M_p1 (by rw [hf1.1.2.1]; exact c1), fun q => absurd q (by decide), fun _ => ⟨_, _, M_h1 ht1.1.1 ht1.1.2 (by rw [ht1.2.2.1.2.1]; exact c2), fun _ => ⟨_, _, g1, fun q => by rw [q], fun q => by rw [cb_t (cb_ne.mp q)]⟩, fun q => absurd q (by decide)⟩⟩
      exact ⟨_, U1, a1, agr_jk f2, U2, a2, agr_sk g2⟩
    · have a1 : EvK N X (D_may_s0 (d + 8) (p : Nat) y U) (rI (-1) U) := D_may_r0 ⟨_, _, D_p1 (by rw [e16]; exact c1), fun q => absurd q (by decide), fun _ => ⟨_, _, D_h0 (by rw [e31]; exact c2), fun q => absurd rfl q, fun _ => rfl⟩⟩
      have a2 : EvK N X (M_may_s0 (d + 8) (p : Nat) y U) (rI (-1) U) := M_may_r0 ⟨_, _, M_p1 (by rw [e122]; exact c1), fun q => absurd q (by decide), fun _ => ⟨_, _, M_h0 ht.1.1 ht.1.2 (by rw [e90]; exact c2), fun q => absurd rfl q, fun _ => rfl⟩⟩
      exact ⟨_, U, a1, agr_refl _, U, a2, agr_refl _⟩
  · have a1 : EvK N X (D_may_s0 (d + 8) x y U) (rI (-1) U) := D_may_r0 ⟨_, _, D_p0 (by rw [e16]; exact c1), fun _ => rfl, fun q => absurd rfl q⟩
    have a2 : EvK N X (M_may_s0 (d + 8) x y U) (rI (-1) U) := M_may_r0 ⟨_, _, M_p0 (by rw [e122]; exact c1), fun _ => rfl, fun q => absurd rfl q⟩
    exact ⟨_, U, a1, agr_refl _, U, a2, agr_refl _⟩
