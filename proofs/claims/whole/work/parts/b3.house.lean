/-! a house is told -/
section HSE
variable {N : Nat} {X : Nat → Int} {T : Nat → Int} {L K : Nat} {kk vv : Nat → Int} {bp : Int} {i b ns nh nl nw nd cl n : Nat} {W : am_U}
theorem plc_le (st : Nat → Int) (h : Nat) : plc st h ≤ h := fb_ct_le _ h
/-- all that is true of the town with one house more -/
theorem gHs_new {W' : am_U} {x w r v bf : Int} (hH : gHs W b ns nh nl) (hL : gLn W b nh nl) (hnh : nh < 12) (hb : lsR (W 6) r nh bf) (hr : 0 ≤ r ∧ r < (ns : Nat)) (hv : 1 ≤ v ∧ v ≤ 6) (hx : nmR x w) (q91 : ∀ h, W' 91 (12 * b + h) = if h = nh then w else W 91 (12 * b + h)) (q92 : ∀ h, W' 92 (12 * b + h) = if h = nh then r else W 92 (12 * b + h)) (q93 : ∀ h, W' 93 (12 * b + h) = if h = nh then v else W 93 (12 * b + h)) (q90 : W' 90 b = ((nh + 1 : Nat) : Int)) (q95 : W' 95 = W 95) (q96 : W' 96 = W 96) (p31 : W' 3 1 = ((nh + 1 : Nat) : Int)) (p5 : ∀ h, W' 5 h = (if h = nh then x else W 5 h) ∧ W' 6 h = (if h = nh then r else W 6 h) ∧ W' 8 h = (if h = nh then v else W 8 h) ∧ W' 10 h = (if h = nh then 0 else W 10 h) ∧ W' 7 h = (if h = nh then (if bf < 0 then 0 else W 7 bf.toNat + 1) else W 7 h)) (p9 : ∀ h, h < nh → in32 (W 9 h) → in32 (W' 9 h) ∧ ∀ i, i < 32 → tb (W' 9 h) i = (tb (W 9 h) i || decide (i = nh ∧ bf = (h : Nat)))) (p9n : in32 (W' 9 nh) ∧ ∀ i, i < 32 → tb (W' 9 nh) i = decide (bf = (i : Nat))) : gHs W' b ns (nh + 1) nl := by
  obtain ⟨h1, h2, h3, h4⟩ := hH
  have s6 : ∀ k, k < nh → W' 6 k = W 6 k := fun k hk => by rw [(p5 k).2.1, if_neg (by omega)]
  have s6n : W' 6 nh = r := by rw [(p5 nh).2.1, if_pos rfl]
  obtain ⟨m1, m2, m3⟩ := nb_new (st := W 6) (st' := W' 6) (lf := fun k => W 95 (10 * b + k)) (lt := fun k => W 96 (10 * b + k)) s6 s6n hL.2.2.2 hb
  refine ⟨p31, q90, by omega, fun h hh => ?_⟩
  obtain ⟨a5, a6, a8, a10, a7⟩ := p5 h
  rw [q91, q92, q93, a5, a8, q95, q96]
  by_cases c : h = nh
  · subst c
    rw [if_pos rfl, if_pos rfl, if_pos rfl, if_pos rfl, if_pos rfl]
    refine ⟨hx, ⟨by rw [s6n], by rw [s6n]; exact hr.1, by rw [s6n]; exact hr.2⟩, ⟨rfl, hv⟩, ?_, p9n.1, fun i' hi => ?_⟩
    · rw [a7, if_pos rfl]
      rcases m3 with ⟨z1, z2⟩ | ⟨j, z1, z2, z3⟩
      · rw [if_pos z1, z2]; rfl
      · rw [if_neg (by omega), z3, z1, Int.toNat_natCast, (h4 j z2).2.2.2.1]; rfl
    · rw [p9n.2 i' hi]
      by_cases c2 : i' < h
      · by_cases c3 : bf = (i' : Nat)
        · rw [decide_eq_true c3, pd_t ⟨by omega, nbP_sym ((m2 i' c2).mpr c3)⟩]
        · rw [decide_eq_false c3, pd_f (fun z => c3 ((m2 i' c2).mp (nbP_sym z.2)))]
      · have c3 : ¬ bf = (i' : Nat) := by
          rcases hb with ⟨z, _⟩ | ⟨j, z, z2, _⟩ <;> omega
        rw [decide_eq_false c3, pd_f]
        rintro ⟨z1, z2⟩
        exact z2.1 (by omega)
  · have hlt : h < nh := by omega
    obtain ⟨b1, b2, b3, b4, b5, b6⟩ := h4 h hlt
    rw [if_neg c, if_neg c, if_neg c, if_neg c, if_neg c, s6 h hlt]
    obtain ⟨d1, d2⟩ := p9 h hlt b5
    refine ⟨b1, b2, b3, ?_, d1, fun i' hi => ?_⟩
    · rw [a7, if_neg c, b4, plc_cg s6 hlt]
    · rw [d2 i' hi, b6 i' hi]
      by_cases c2 : i' < nh
      · rw [decide_eq_false (show ¬ (i' = nh ∧ bf = (h : Nat)) by omega), Bool.or_false]
        apply pd_cg
        rw [m1 h i' hlt c2]
        constructor
        · rintro ⟨z1, z2⟩; exact ⟨by omega, z2⟩
        · rintro ⟨z1, z2⟩; exact ⟨c2, z2⟩
      · rw [pd_f (fun z => c2 z.1), Bool.false_or]
        by_cases c3 : i' = nh
        · subst c3
          by_cases c4 : bf = (h : Nat)
          · rw [decide_eq_true ⟨rfl, c4⟩, pd_t ⟨by omega, (m2 h hlt).mpr c4⟩]
          · rw [decide_eq_false (fun z => c4 z.2), pd_f (fun z => c4 ((m2 h hlt).mp z.2))]
        · rw [decide_eq_false (fun z => c3 z.1), pd_f (fun z => by omega)]
theorem gDb_new {W' : am_U} (hD : gDb W b nh nd) (h3 : W' 3 3 = W 3 3) (h10 : ∀ h, W' 10 h = (if h = nh then 0 else W 10 h)) (hr : ∀ r, 106 ≤ r → r ≤ 109 → W' r = W r) : gDb W' b (nh + 1) nd := by
  obtain ⟨a1, a2, a3, a4, a5⟩ := hD
  unfold gDb
  rw [h3, hr 106 (by omega) (by omega), hr 107 (by omega) (by omega), hr 108 (by omega) (by omega), hr 109 (by omega) (by omega)]
  refine ⟨a1, a2, a3, fun k hk => ?_, fun h hh => ?_⟩
  · obtain ⟨b1, ⟨b2, b3⟩, b4, b5⟩ := a4 k hk
    exact ⟨b1, ⟨b2, by omega⟩, b4, by omega⟩
  · have e : dbF W' b h = dbF W b h := by
      unfold dbF
      rw [hr 107 (by omega) (by omega), hr 108 (by omega) (by omega), hr 109 (by omega) (by omega)]
    rw [e, h10]
    by_cases c : h = nh
    · rw [if_pos c]
      have z : ∀ k, k < nd → dbF W b h k = 0 := fun k hk => by
        obtain ⟨b1, ⟨b2, b3⟩, b4, b5⟩ := a4 k hk
        unfold dbF
        rw [if_neg (by omega), if_neg (by omega)]; rfl
      rw [fb_si_cong (g := fun _ => 0) z]
      have zz : ∀ m : Nat, fb_si (fun _ => 0) m = 0 := by
        intro m
        induction m with
        | zero => rfl
        | succ m ih => rw [fb_si_succ, ih]; rfl
      rw [zz]
    · rw [if_neg c]; exact a5 h (by omega)
theorem gPp_new {W' : am_U} {v : Int} (hP : gPp W b nh n) (hv : 1 ≤ v) (h8 : ∀ h, W' 8 h = (if h = nh then v else W 8 h)) (hr : ∀ r, (16 ≤ r ∧ r ≤ 18) ∨ (97 ≤ r ∧ r ≤ 99) → W' r = W r) : gPp W' b (nh + 1) n := by
  unfold gPp at hP ⊢
  rw [hr 16 (by omega), hr 17 (by omega), hr 18 (by omega), hr 97 (by omega), hr 98 (by omega), hr 99 (by omega)]
  obtain ⟨a1, a2, a3, a4, ⟨a5, a6, a7⟩, a8⟩ := hP
  refine ⟨a1, a2, a3, a4, ⟨fun p hp => ?_, a6, fun h hh => ?_⟩, a8⟩
  · obtain ⟨b1, b2, b3, b4⟩ := a5 p hp
    exact ⟨b1, b2, b3, by omega⟩
  · rw [h8]
    by_cases c : h = nh
    · rw [if_pos c, c, fb_ct_zero.mpr (fun p hp => by
        have := a5 p hp
        have q : W 18 p ≠ (nh : Nat) := by omega
        simpa using q)]
      omega
    · rw [if_neg c]; exact a7 h (by omega)
end HSE
